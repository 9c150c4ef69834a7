/-! ===== the class's reader, step by step ===== -/
theorem Ct.ok {l : Launch} {E : Ev} {M : Mt} {κ mc ms : Nat} {as : List Value} {G : Sh} {D : Dm} {Q : Int → Sh → Dm → Prop} (h : okD G D → Ct l E M κ mc ms as G D Q) : Ct l E M κ mc ms as G D Q := by
  intro p e ha hc hk s m args below hf hap hP hT
  exact h hP.2.1.2.2 p e ha hc hk s m args below hf hap hP hT
theorem okI23 {G : Sh} {D : Dm} (hL : Lay G) (h : okD G D) : iRg (D 23 9) ∧ (-9223372036854775808 ≤ D 23 10 ∧ D 23 10 < 9223372036854775808) ∧ iRg (D 25 0) ∧ iRg (D 25 1) ∧ iRg (D 25 2) := by
  have h1 := h 23 _ 9 (hL.1 23 _ rfl)
  have h2 := h 23 _ 10 (hL.1 23 _ rfl)
  have h3 := h 25 _ 0 (hL.1 25 _ rfl)
  have h4 := h 25 _ 1 (hL.1 25 _ rfl)
  have h5 := h 25 _ 2 (hL.1 25 _ rfl)
  exact ⟨h1, h2, h3, h4, h5⟩
def lvC (T : Int → Int) (n : Int) (D : Dm) (K : Tk) : Prop := D 23 3 = 0 ∧ D 23 4 = -1 ∧ D 23 5 = n ∧ D 24 = T ∧ SC D K ∧ Kok T n K
def XS (T : Int → Int) (n : Int) (D : Dm) (F : Tk → Rs) (res : Rs) : Prop := (∃ K, lvC T n D K ∧ F K = res) ∨ (D 23 3 ≠ 0 ∧ res = .inl (D 23 3, D 23 4))
def xO (D D' : Dm) : Prop := ∀ c i, ¬ (c = 23 ∧ 3 ≤ i ∧ i ≤ 10) → D' c i = D c i
theorem xO.rf {D : Dm} : xO D D := fun _ _ _ => rfl
theorem xO.tr {D D1 D2 : Dm} (h : xO D D1) (h2 : xO D1 D2) : xO D D2 := fun c i p => (h2 c i p).trans (h c i p)
theorem stO.x {D D' : Dm} (h : stO D D') : xO D D' := fun c i p => h c i (fun q => p ⟨q.1, by omega, by omega⟩)
theorem xO.c {D D' : Dm} (h : xO D D') {c : Nat} (hc : c ≠ 23) : D' c = D c := funext fun i => h c i (fun q => hc q.1)
theorem XS.up {T : Int → Int} {n : Int} {D : Dm} {F : Tk → Rs} {res : Rs} (h : XS T n D F res) {c : Nat} (hc : c ≠ 23 ∧ c ≠ 24) (i x : Int) : XS T n (upd2 D c i x) F res := by
  have e3 : ∀ j, upd2 D c i x 23 j = D 23 j := fun j => upd2_cell _ _ _ _ (fun q => hc.1 q.symm)
  have e4 : upd2 D c i x 24 = D 24 := funext fun j => upd2_cell _ _ _ _ (fun q => hc.2 q.symm)
  rcases h with ⟨K, ⟨a1, a2, a3, a4, a5, a6⟩, hF⟩ | ⟨a1, a2⟩
  · refine Or.inl ⟨K, ⟨by rw [e3]; exact a1, by rw [e3]; exact a2, by rw [e3]; exact a3, by rw [e4]; exact a4, ?_, a6⟩, hF⟩
    unfold SC
    rw [e3, e3, e3, e3, e3]
    exact a5
  · exact Or.inr ⟨by rw [e3]; exact a1, by rw [e3, e3]; exact a2⟩
section
variable {l : Launch} {E : Ev} {G : Sh} {D : Dm} {T : Int → Int} {n : Int} {res : Rs}
theorem o_step (hL : Lay G) (hn : 0 ≤ n ∧ n ≤ 600) {F : Tk → Rs} (hx : (∃ K, lvC T n D K ∧ K.1 ≠ 4 ∧ F (nxK T n K) = res) ∨ (D 23 3 ≠ 0 ∧ res = .inl (D 23 3, D 23 4))) : C0 l E MX6_step 2 [vR E 23] G D (fun _ D' => xO D D' ∧ XS T n D' F res) := by
  rcases hx with ⟨K, ⟨a1, a2, a3, a4, a5, a6⟩, h4, hF⟩ | ⟨a1, a2⟩
  · have hp := a6.2.2.1 h4
    have hp0 := a6.2.1
    refine C0.use (c_X6_step hL hn (p := K.2.2.1) (by omega) a1 a3 (a5.2.2.1 h4)) ?_
    rintro - D' ⟨h1, h2⟩
    rw [a4] at h1
    exact ⟨h2.x, Or.inl ⟨nxK T n K, ⟨by rw [h2 23 3 (by omega)]; exact a1, by rw [h2 23 4 (by omega)]; exact a2, by rw [h2 23 5 (by omega)]; exact a3, by rw [h2.c (by decide)]; exact a4, h1, (nx_ok a6 h4).1⟩, hF⟩⟩
  · refine C0.use (c_X6_stepF hL a1) ?_
    rintro - D' rfl
    exact ⟨xO.rf, Or.inr ⟨a1, a2⟩⟩
theorem o_stop (hL : Lay G) {why : Int} (hw : why ≠ 0 ∧ iRg why) (hx : (∃ K, lvC T n D K ∧ fl K why = res) ∨ (D 23 3 ≠ 0 ∧ res = .inl (D 23 3, D 23 4))) : C0 l E MX6_stop 2 [vR E 23, vI why] G D (fun _ D' => xO D D' ∧ D' 23 3 ≠ 0 ∧ res = .inl (D' 23 3, D' 23 4) ∧ D' 23 9 = D 23 9 ∧ D' 23 10 = D 23 10) := by
  rcases hx with ⟨K, ⟨a1, a2, a3, a4, a5, a6⟩, hF⟩ | ⟨a1, a2⟩
  · have e7 : D 23 7 = K.1 := a5.1
    have e8 : D 23 8 = K.2.1 := a5.2.1
    have fin : ∀ x : Int, x = (if K.1 = 4 then 1 else why) → xO D (upd2 (upd2 D 23 3 x) 23 4 (D 23 8)) ∧ (upd2 (upd2 D 23 3 x) 23 4 (D 23 8)) 23 3 ≠ 0 ∧ res = .inl ((upd2 (upd2 D 23 3 x) 23 4 (D 23 8)) 23 3, (upd2 (upd2 D 23 3 x) 23 4 (D 23 8)) 23 4) ∧ (upd2 (upd2 D 23 3 x) 23 4 (D 23 8)) 23 9 = D 23 9 ∧ (upd2 (upd2 D 23 3 x) 23 4 (D 23 8)) 23 10 = D 23 10 := by
      intro x hx
      have x0 : x ≠ 0 := by rw [hx]; split <;> omega
      refine ⟨fun c i p => ?_, ?_, ?_, ?_, ?_⟩
      · simp only [upd2]; rw [if_neg (by omega), if_neg (by omega)]
      · rw [upd2_place _ _ _ (by decide), upd2_same]; exact x0
      · rw [upd2_place _ _ _ (by decide), upd2_same, upd2_same, ← hF, e8, hx]; rfl
      · rw [upd2_place _ _ _ (by decide), upd2_place _ _ _ (by decide)]
      · rw [upd2_place _ _ _ (by decide), upd2_place _ _ _ (by decide)]
    refine s_X6_stop hL ⟨fun z => absurd a1 z, fun _ => ⟨fun z => ⟨hw.2, rfl, fin why ?_⟩, fun z => ⟨rfl, fin 1 ?_⟩⟩⟩
    · rw [if_neg (by omega)]
    · rw [if_pos (by omega)]
  · exact s_X6_stop hL ⟨fun _ => ⟨rfl, xO.rf, a1, a2, rfl, rfl⟩, fun z => absurd z a1⟩
theorem o_word (hL : Lay G) (hn : 0 ≤ n ∧ n ≤ 600) {c : Int} (hc : -9223372036854775808 ≤ c ∧ c < 9223372036854775808) {k : Tk → Rs} (hx : XS T n D (fun K => WW T n c K k) res) : C0 l E MX6_expectWord 2 [vR E 23, vJ c] G D (fun _ D' => xO D D' ∧ XS T n D' k res) := by
  refine s_X6_expectWord hL ⟨hc, fun z => ?_, fun z => ?_⟩
  · rcases hx with ⟨K, hl, hF⟩ | ⟨a1, a2⟩
    · obtain ⟨a1, a2, a3, a4, a5, a6⟩ := hl
      have e7 : D 23 7 = K.1 := a5.1
      have ex : D 23 10 = K.2.2.2 := a5.2.2.2.1 (by omega)
      dsimp only at hF
      rw [WW, if_pos ⟨by omega, by omega⟩] at hF
      refine C0.use (o_step hL hn (Or.inl ⟨K, ⟨a1, a2, a3, a4, a5, a6⟩, by omega, hF⟩)) ?_
      rintro - D' h
      exact ⟨rfl, h⟩
    · exact absurd z.1 a1
  · have hx2 : (∃ K, lvC T n D K ∧ fl K 2 = res) ∨ (D 23 3 ≠ 0 ∧ res = .inl (D 23 3, D 23 4)) := by
      rcases hx with ⟨K, hl, hF⟩ | q
      · refine Or.inl ⟨K, hl, ?_⟩
        obtain ⟨a1, a2, a3, a4, a5, a6⟩ := hl
        dsimp only at hF
        rw [WW, if_neg (fun q => z ⟨a1, by rw [a5.1]; exact q.1, by rw [a5.2.2.2.1 q.1]; exact q.2⟩)] at hF
        exact hF
      · exact Or.inr q
    refine C0.use (o_stop hL (why := 2) (by decide) hx2) ?_
    rintro - D1 ⟨h1, h2, h3, _, _⟩
    refine C0.use (c_X6_stepF hL h2) ?_
    rintro - D2 rfl
    exact ⟨rfl, h1, Or.inr ⟨h2, h3⟩⟩
theorem o_sign (hL : Lay G) (hn : 0 ≤ n ∧ n ≤ 600) {k : Tk → Rs} (hx : XS T n D (fun K => SG T n K k) res) : C0 l E MX6_expectSign 2 [vR E 23] G D (fun _ D' => xO D D' ∧ XS T n D' k res) := by
  refine s_X6_expectSign hL ⟨fun z => ?_, fun z => ?_⟩
  · have hx2 : (∃ K, lvC T n D K ∧ K.1 ≠ 4 ∧ k (nxK T n K) = res) ∨ (D 23 3 ≠ 0 ∧ res = .inl (D 23 3, D 23 4)) := by
      rcases hx with ⟨K, hl, hF⟩ | q
      · have e7 : D 23 7 = K.1 := hl.2.2.2.2.1.1
        dsimp only at hF
        rw [SG, if_pos (by omega)] at hF
        exact Or.inl ⟨K, hl, by omega, hF⟩
      · exact Or.inr q
    refine C0.use (o_step hL hn hx2) ?_
    rintro - D' h
    exact ⟨rfl, h⟩
  · have hx2 : (∃ K, lvC T n D K ∧ fl K 2 = res) ∨ (D 23 3 ≠ 0 ∧ res = .inl (D 23 3, D 23 4)) := by
      rcases hx with ⟨K, hl, hF⟩ | q
      · have e7 : D 23 7 = K.1 := hl.2.2.2.2.1.1
        dsimp only at hF
        rw [SG, if_neg (by omega)] at hF
        exact Or.inl ⟨K, hl, hF⟩
      · exact Or.inr q
    refine C0.use (o_stop hL (why := 2) (by decide) hx2) ?_
    rintro - D1 ⟨h1, h2, h3, _, _⟩
    refine C0.use (c_X6_stepF hL h2) ?_
    rintro - D2 rfl
    exact ⟨rfl, h1, Or.inr ⟨h2, h3⟩⟩
theorem o_num (hL : Lay G) (hn : 0 ≤ n ∧ n ≤ 600) {lo hi : Int} (hlo : iRg lo) (hhi : iRg hi) {k : Int → Tk → Rs} (hx : XS T n D (fun K => NB T n lo hi K k) res) : C0 l E MX6_readNumber 0 [vR E 23, vI lo, vI hi] G D (fun r D' => xO D D' ∧ iRg r ∧ XS T n D' (k r) res) := by
  refine Ct.ok (fun hok => ?_)
  have hr := (okI23 hL hok).1
  have dead : ∀ why, why ≠ 0 → iRg why → ((∃ K, lvC T n D K ∧ fl K why = res) ∨ (D 23 3 ≠ 0 ∧ res = .inl (D 23 3, D 23 4))) → C0 l E MX6_stop 2 [vR E 23, vI why] G D (fun r8 D8 => C0 l E MX6_step 2 [vR E 23] G D8 (fun r10 D10 => G = G ∧ xO D D10 ∧ iRg (D8 23 9) ∧ XS T n D10 (k (D8 23 9)) res)) := by
    intro why h0 h1 hx2
    refine C0.use (o_stop hL ⟨h0, h1⟩ hx2) ?_
    rintro - D1 ⟨g1, g2, g3, g4, _⟩
    refine C0.use (c_X6_stepF hL g2) ?_
    rintro - D2 rfl
    exact ⟨rfl, g1, by rw [g4]; exact hr, Or.inr ⟨g2, g3⟩⟩
  refine s_X6_readNumber hL ⟨fun z => ⟨hlo, fun z2 => dead 4 (by decide) (by decide) ?_, fun z2 => ⟨hhi, fun z3 => ?_, fun z3 => dead 4 (by decide) (by decide) ?_⟩⟩, fun z => dead 2 (by decide) (by decide) ?_⟩
  · rcases hx with ⟨K, hl, hF⟩ | q
    · have e7 : D 23 7 = K.1 := hl.2.2.2.2.1.1
      have e9 : D 23 9 = K.2.2.2 := hl.2.2.2.2.1.2.2.2.2 (by omega)
      dsimp only at hF
      rw [NB, if_pos (by omega), if_neg (by omega)] at hF
      exact Or.inl ⟨K, hl, hF⟩
    · exact Or.inr q
  · have hx2 : (∃ K, lvC T n D K ∧ K.1 ≠ 4 ∧ k (D 23 9) (nxK T n K) = res) ∨ (D 23 3 ≠ 0 ∧ res = .inl (D 23 3, D 23 4)) := by
      rcases hx with ⟨K, hl, hF⟩ | q
      · have e7 : D 23 7 = K.1 := hl.2.2.2.2.1.1
        have e9 : D 23 9 = K.2.2.2 := hl.2.2.2.2.1.2.2.2.2 (by omega)
        dsimp only at hF
        rw [NB, if_pos (by omega), if_pos (by omega)] at hF
        exact Or.inl ⟨K, hl, by omega, by rw [e9]; exact hF⟩
      · exact Or.inr q
    refine C0.use (o_step hL hn hx2) ?_
    rintro - D' h
    exact ⟨rfl, h.1, hr, h.2⟩
  · rcases hx with ⟨K, hl, hF⟩ | q
    · have e7 : D 23 7 = K.1 := hl.2.2.2.2.1.1
      have e9 : D 23 9 = K.2.2.2 := hl.2.2.2.2.1.2.2.2.2 (by omega)
      dsimp only at hF
      rw [NB, if_pos (by omega), if_neg (by omega)] at hF
      exact Or.inl ⟨K, hl, hF⟩
    · exact Or.inr q
  · rcases hx with ⟨K, hl, hF⟩ | q
    · have e7 : D 23 7 = K.1 := hl.2.2.2.2.1.1
      dsimp only at hF
      rw [NB, if_neg (by omega)] at hF
      exact Or.inl ⟨K, hl, hF⟩
    · exact Or.inr q
theorem c_X6_idxs (hL : Lay G) {m : Int} (hm : 0 ≤ m ∧ m ≤ 10) : C0 l E MX6_indexOfWord 0 [vR E 23, vR E 38, vI m] G D (fun r D' => r = fnd (D 38) m (D 23 10) ∧ D' = D) := by
  refine s_X6_indexOfWords hL ?_
  refine up_from (P := fun i => fstF (fun j => decide (D 38 j = D 23 10)) i (m - i).toNat = fnd (D 38) m (D 23 10) → KX6_indexOfWord l E _ 2 [(0, vR E 23), (1, vR E 38), (2, vI m), (3, vI i)] G D) (lo := 0) (n := m) hm.1 ?_ ?_ (by rw [Int.sub_zero]; rfl)
  · intro he
    rw [Int.sub_self] at he
    exact s_X6_indexOfWords_2 hL ⟨by omega, fun _ => ⟨rfl, he, rfl⟩, fun z => absurd z (by omega)⟩
  · intro i i0 i1 ih he
    rw [show (m - i).toNat = (m - (i + 1)).toNat + 1 by omega, fstF] at he
    refine s_X6_indexOfWords_2 hL ⟨by omega, fun z => absurd z (by omega), fun _ => ⟨fun z => absurd z (by omega), fun _ => ⟨by omega, fun z => ih ?_, fun z => ⟨rfl, ?_, rfl⟩⟩⟩⟩
    · rw [if_neg (by simp only [decide_eq_true_eq]; exact z)] at he; exact he
    · rw [if_pos (by simp only [decide_eq_true_eq]; exact z)] at he; exact he
theorem c_X6_idxf (hL : Lay G) {m : Int} (hm : 0 ≤ m ∧ m ≤ 4) : C0 l E MX6_indexOfWord 0 [vR E 23, vR E 39, vI m] G D (fun r D' => r = fnd (D 39) m (D 23 10) ∧ D' = D) := by
  refine s_X6_indexOfWordf hL ?_
  refine up_from (P := fun i => fstF (fun j => decide (D 39 j = D 23 10)) i (m - i).toNat = fnd (D 39) m (D 23 10) → KX6_indexOfWord l E _ 2 [(0, vR E 23), (1, vR E 39), (2, vI m), (3, vI i)] G D) (lo := 0) (n := m) hm.1 ?_ ?_ (by rw [Int.sub_zero]; rfl)
  · intro he
    rw [Int.sub_self] at he
    exact s_X6_indexOfWordf_2 hL ⟨by omega, fun _ => ⟨rfl, he, rfl⟩, fun z => absurd z (by omega)⟩
  · intro i i0 i1 ih he
    rw [show (m - i).toNat = (m - (i + 1)).toNat + 1 by omega, fstF] at he
    refine s_X6_indexOfWordf_2 hL ⟨by omega, fun z => absurd z (by omega), fun _ => ⟨fun z => absurd z (by omega), fun _ => ⟨by omega, fun z => ih ?_, fun z => ⟨rfl, ?_, rfl⟩⟩⟩⟩
    · rw [if_neg (by simp only [decide_eq_true_eq]; exact z)] at he; exact he
    · rw [if_pos (by simp only [decide_eq_true_eq]; exact z)] at he; exact he
theorem fnd_b (r : Row) {m : Int} (hm : 0 ≤ m) (x : Int) : fnd r m x = -1 ∨ (0 ≤ fnd r m x ∧ fnd r m x < m) := by
  have := fst_b (fun j => decide (r j = x)) m.toNat 0
  unfold fnd
  omega
theorem fnd_cg {r r' : Row} {m : Int} (x : Int) (h : ∀ j, 0 ≤ j → j < m → r j = r' j) : fnd r m x = fnd r' m x := by
  unfold fnd
  exact fst_cg2 _ _ (fun i a b => by rw [h i a (by omega)])
theorem c_X6_seesName (hL : Lay G) : C0 l E MX6_seesName 0 [vR E 23] G D (fun r D' => r = (if D 23 7 = 1 ∧ kwI (D 23 10) = -1 ∧ D 23 10 ≠ 0 then 1 else 0) ∧ D' = D) := by
  have hix : C0 l E MX6_indexOfWord 0 [vR E 23, .ref E.2.2.2.1, vI 15] G D (fun r D' => (((∀ j : Nat, j < 15 → nnL.getD j 0 ≠ D 23 10) ∧ r = -1) ∨ ((¬ ∀ j : Nat, j < 15 → nnL.getD j 0 ≠ D 23 10) ∧ 0 ≤ r ∧ r < 15)) ∧ D' = D) := by
    refine s_X6_indexOfWordn hL ?_
    refine up_from (P := fun i => (∀ j : Nat, (j : Int) < i → nnL.getD j 0 ≠ D 23 10) → KX6_indexOfWord l E _ 2 [(0, vR E 23), (1, .ref E.2.2.2.1), (2, vI 15), (3, vI i)] G D) (lo := 0) (n := 15) (by decide) ?_ ?_ (fun j h => by omega)
    · intro he
      exact s_X6_indexOfWordn_2 hL ⟨by omega, fun _ => ⟨rfl, Or.inl ⟨fun j hj => he j (by omega), rfl⟩, rfl⟩, fun z => absurd z (by omega)⟩
    · intro i i0 i1 ih he
      refine s_X6_indexOfWordn_2 hL ⟨by omega, fun z => absurd z (by omega), fun _ => ⟨fun z => absurd z (by omega), fun _ => ⟨by omega, fun z => ih (fun j hj => ?_), fun z => ⟨rfl, Or.inr ⟨fun q => q i.toNat (by omega) z, by omega⟩, rfl⟩⟩⟩⟩
      by_cases y : j = i.toNat
      · subst y; exact z
      · exact he j (by omega)
  refine s_X6_seesName hL ⟨fun z => ⟨rfl, by rw [if_neg (fun q => z q.1)], rfl⟩, fun z => ?_⟩
  refine C0.use hix ?_
  rintro r D1 ⟨h, rfl⟩
  try dsimp only
  have hi := nm_iff (D1 23 10)
  refine ⟨by omega, fun y => ⟨rfl, ?_, rfl⟩, fun y => ⟨rfl, ?_, rfl⟩⟩
  · rcases h with ⟨_, q⟩ | ⟨q, _⟩
    · exact absurd q y
    · rw [if_neg (fun p => q (hi.2 p.2))]
  · rcases h with ⟨q, _⟩ | ⟨_, q⟩
    · rw [if_pos ⟨z, hi.1 q⟩]
    · omega
end

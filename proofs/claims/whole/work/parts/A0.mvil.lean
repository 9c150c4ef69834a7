/-! ===== the reference's village ===== -/
def PosR (r : Rs) : Prop := ∀ f, r = .inl f → 0 < f.1
theorem fl_pos {K : Tk} {why : Int} (h : 0 < why) : PosR (fl K why) := by
  intro f e
  unfold fl at e
  injection e with e
  rw [← e]
  show 0 < (if K.1 = 4 then 1 else why)
  split <;> omega
theorem inr_pos {x : Tk × Vl × Row × Row} : PosR (.inr x) := fun _ e => by cases e
section
variable {T : Int → Int} {n : Int}
theorem WW_pos {c : Int} {K : Tk} {k : Tk → Rs} (h : ∀ K, PosR (k K)) : PosR (WW T n c K k) := by
  unfold WW
  split
  · exact h _
  · exact fl_pos (by decide)
theorem NB_pos {lo hi : Int} {K : Tk} {k : Int → Tk → Rs} (h : ∀ x K, PosR (k x K)) : PosR (NB T n lo hi K k) := by
  unfold NB
  split
  · split
    · exact h _ _
    · exact fl_pos (by decide)
  · exact fl_pos (by decide)
theorem NM_pos {r : Row} {m : Int} {K : Tk} {k : Int → Tk → Rs} (h : ∀ x K, PosR (k x K)) : PosR (NM T n r m K k) := by
  unfold NM
  split
  · split
    · exact h _ _
    · exact fl_pos (by decide)
  · exact fl_pos (by decide)
theorem pStrip_pos {w : Vl} {sn fn : Row} {k : Kt} {K : Tk} (h : ∀ K w sn fn, PosR (k K w sn fn)) : PosR (pStrip T n w sn fn k K) := by
  unfold pStrip
  split
  · exact fl_pos (by decide)
  · refine NM_pos (fun x0 K1 => WW_pos (fun K2 => NB_pos (fun x1 K3 => NB_pos (fun x2 K4 => WW_pos (fun K5 => NB_pos (fun x3 K6 => ?_))))))
    split
    · exact NB_pos (fun x4 K7 => h _ _ _ _)
    · exact h _ _ _ _
theorem hTail_pos {w : Vl} {sn fn : Row} {k : Kt} {kd a b : Int} {K : Tk} (h : ∀ K w sn fn, PosR (k K w sn fn)) : PosR (hTail T n w sn fn k kd a b K) := by
  unfold hTail
  exact WW_pos (fun K1 => NB_pos (fun t K2 => WW_pos (fun K3 => NB_pos (fun o K4 => h _ _ _ _))))
theorem pHarm_pos {w : Vl} {sn fn : Row} {k : Kt} {kd : Int} {K : Tk} (h : ∀ K w sn fn, PosR (k K w sn fn)) : PosR (pHarm T n w sn fn k kd K) := by
  unfold pHarm
  split
  · exact fl_pos (by decide)
  · split
    · exact NB_pos (fun a K2 => WW_pos (fun K3 => NB_pos (fun b K4 => hTail_pos h)))
    · split
      · exact NB_pos (fun a K2 => hTail_pos h)
      · split
        · exact NB_pos (fun a K2 => hTail_pos h)
        · exact hTail_pos h
theorem pHold_pos {f : Int} {sn fn : Row} {k : Kt} (h : ∀ K w sn fn, PosR (k K w sn fn)) : ∀ (m : Nat) (w : Vl) (K : Tk), PosR (pHold T n f sn fn k m w K) := by
  intro m
  induction m with
  | zero => intro w K; exact h _ _ _ _
  | succ m ih =>
    intro w K
    rw [pHold]
    split
    · split
      · split
        · exact fl_pos (by decide)
        · split
          · exact ih _ _
          · exact fl_pos (by decide)
      · exact fl_pos (by decide)
    · exact h _ _ _ _
theorem pFam_pos {w : Vl} {sn fn : Row} {k : Kt} {K : Tk} (h : ∀ K w sn fn, PosR (k K w sn fn)) : PosR (pFam T n w sn fn k K) := by
  unfold pFam
  split
  · exact fl_pos (by decide)
  · exact NM_pos (fun x0 K1 => WW_pos (fun K2 => NB_pos (fun x1 K3 => NB_pos (fun x2 K4 => WW_pos (fun K5 => NB_pos (fun x3 K6 => pHold_pos h _ _ _))))))
theorem part_pos {w : Vl} {sn fn : Row} {K : Tk} : PosR (pPart T n w sn fn K) := by
  have h : ∀ K w sn fn, PosR (kEnd T n K w sn fn) := by
    intro K w sn fn
    unfold kEnd SG
    split
    · exact inr_pos
    · exact fl_pos (by decide)
  unfold pPart
  split
  · exact pStrip_pos h
  · split
    · exact pFam_pos h
    · split
      · exact pHarm_pos h
      · exact fl_pos (by decide)
end
/-- where the reference's village call writes -/
def mvO (D D' : Dm) : Prop := ∀ c i, ¬ (c = 107 ∧ (i = 1 ∨ (9 ≤ i ∧ i ≤ 17))) → ¬ (c = 108 ∧ ((0 ≤ i ∧ i < 100) ∨ (400 ≤ i ∧ i < 500))) → c ≠ 113 → c ≠ 114 → c ≠ 115 → D' c i = D c i
def mvI (D D' : Dm) : Prop := ∀ c i, ¬ (c = 107 ∧ (i = 1 ∨ (9 ≤ i ∧ i ≤ 17))) → ¬ (c = 108 ∧ (400 ≤ i ∧ i < 500)) → c ≠ 113 → c ≠ 114 → c ≠ 115 → D' c i = D c i
def mvP (T : Int → Int) (m n : Int) (D D' : Dm) : Prop :=
  (¬ (0 ≤ n ∧ n ≤ m) → D' = upd2 D 107 1 1) ∧
  (0 ≤ n ∧ n ≤ m → D' 107 9 = 0 ∧ ((∃ f, pV T n (D 108) = .inl f ∧ D' 107 15 = f.1 ∧ D' 107 16 = f.2 ∧ (∀ i, 0 ≤ i → i < 100 → D' 108 i = D 108 i)) ∨ (∃ w, pV T n (D 108) = .inr w ∧ D' 107 15 = 0 ∧ D' 107 16 = -1 ∧ wfV w ∧ (∀ i, 0 ≤ i → i < 100 → D' 108 i = w i))))
section
variable {l : Launch} {E : Ev} {G : Sh} {D : Dm} {T : Int → Int} {n : Int}
theorem c_X10_village (hL : Lay G) (hv : wfV (D 108)) (hF : 0 ≤ D 107 9 ∧ D 107 9 ≤ 600) (hn : iRg n) (hT : ∀ i, 0 ≤ i → i < D 107 9 → D 112 i = T i) (hB : TB T (D 107 9)) : C0 l E MX10_village 0 [vR E 107, vI n] G D (fun r D' => r = (q_vil T (D 107 9) n (D 108)).2.1 ∧ D' 107 1 = (q_vil T (D 107 9) n (D 108)).1 ∧ mvO D D' ∧ mvP T (D 107 9) n D D') := by
  generalize hQ : (fun (r : Int) (G' : Sh) (D' : Dm) => G' = G ∧ r = (q_vil T (D 107 9) n (D 108)).2.1 ∧ D' 107 1 = (q_vil T (D 107 9) n (D 108)).1 ∧ mvO D D' ∧ mvP T (D 107 9) n D D') = Q
  suffices main : Ct l E MX10_village 0 0 0 [vR E 107, vI n] G D Q by rw [← hQ] at main; exact main
  have no : ¬ (0 ≤ n ∧ n ≤ D 107 9) → Q (-1) G (upd2 D 107 1 1) := by
    intro h
    rw [← hQ]
    have e : q_vil T (D 107 9) n (D 108) = aNo 1 (-1) := if_neg h
    refine ⟨rfl, by rw [e], by rw [e, upd2_same], fun c i p _ _ _ _ => ?_, fun _ => rfl, fun z => absurd z h⟩
    simp only [upd2]
    rw [if_neg (by omega)]
  refine s_X10_village hL ⟨hn, fun z => no (by omega), fun z => ⟨fun z2 => ?_, fun z2 => no (by omega)⟩⟩
  have hnn : 0 ≤ n ∧ n ≤ D 107 9 := ⟨z, z2⟩
  have hn' : 0 ≤ n ∧ n ≤ 600 := by omega
  have hTB : TB T n := fun i p q => hB i p (by omega)
  -- the end
  have last : ∀ D', mvI D D' → D' 107 9 = 0 → ((∃ w, pV T n (D 108) = .inr w ∧ wfV w ∧ D' 107 17 = 0 ∧ D' 107 16 = -1 ∧ ∀ i, 0 ≤ i → i < 100 → D' 108 (400 + i) = w i) ∨ (pV T n (D 108) = .inl (D' 107 17, D' 107 16) ∧ 0 < D' 107 17)) → KX10_village l E Q 138 [(0, vR E 107), (1, vI n), (2, vI 0)] G D' := by
    intro D' hI h9 hcase
    refine s_X10_village_138 hL ⟨by decide, fun _ => ⟨fun y => ?_, fun y => ?_⟩, fun y => absurd rfl y⟩
    · rcases hcase with ⟨w, q1, q2, q3, q4, q5⟩ | ⟨_, q⟩
      · refine C0.use (c_X10_copies hL (by decide) (by decide) (by decide)) ?_
        rintro - D7 rfl
        try dsimp only
        have e : q_vil T (D 107 9) n (D 108) = aNo 0 (w 0) := by
          unfold q_vil
          rw [if_pos hnn, q1]
        have cp : ∀ i, 0 ≤ i → i < 100 → cpy2 (upd2 D' 107 15 (D' 107 17)) 108 400 108 0 100 108 i = w i := fun i p q => by
          simp only [cpy2]
          rw [if_pos ⟨trivial, p, by omega⟩, upd2_cell _ _ _ _ (by decide), show (400 : Int) + (i - 0) = 400 + i by omega]
          exact q5 i p q
        have cq : ∀ j, cpy2 (upd2 D' 107 15 (D' 107 17)) 108 400 108 0 100 107 j = upd2 D' 107 15 (D' 107 17) 107 j := fun j => cpy2_cell (by decide)
        rw [← hQ]
        refine ⟨rfl, ?_, by rw [e, upd2_same], fun c i p1 p2 p3 p4 p5 => ?_, fun y => absurd hnn y, fun _ => ⟨?_, Or.inr ⟨w, q1, ?_, ?_, q2, fun i p q => ?_⟩⟩⟩
        · rw [e, cp 0 (by decide) (by decide)]
        · have : upd2 (cpy2 (upd2 D' 107 15 (D' 107 17)) 108 400 108 0 100) 107 1 0 c i = D' c i := by
            simp only [upd2, cpy2]
            rw [if_neg (by omega), if_neg (by omega), if_neg (by omega)]
          rw [this]
          exact hI c i p1 (by omega) p3 p4 p5
        · rw [upd2_place _ _ _ (by decide), cq, upd2_place _ _ _ (by decide), h9]
        · rw [upd2_place _ _ _ (by decide), cq, upd2_same, q3]
        · rw [upd2_place _ _ _ (by decide), cq, upd2_place _ _ _ (by decide), q4]
        · rw [upd2_cell _ _ _ _ (by decide)]; exact cp i p q
      · omega
    · rcases hcase with ⟨w, q1, q2, q3, q4, q5⟩ | ⟨q1, q⟩
      · omega
      · have e : q_vil T (D 107 9) n (D 108) = aNo 9 (-1) := by
          unfold q_vil
          rw [if_pos hnn, q1]
        rw [← hQ]
        refine ⟨rfl, by rw [e], by rw [e, upd2_same], fun c i p1 p2 p3 p4 p5 => ?_, fun y => absurd hnn y, fun _ => ⟨?_, Or.inl ⟨_, q1, ?_, ?_, fun i p q => ?_⟩⟩⟩
        · simp only [upd2]
          rw [if_neg (by omega), if_neg (by omega)]
          exact hI c i p1 (by omega) p3 p4 p5
        · rw [upd2_place _ _ _ (by decide), upd2_place _ _ _ (by decide), h9]
        · rw [upd2_place _ _ _ (by decide), upd2_same]
        · rw [upd2_place _ _ _ (by decide), upd2_place _ _ _ (by decide)]
        · rw [upd2_cell _ _ _ _ (by decide), upd2_cell _ _ _ _ (by decide)]
          exact hI 108 i (by omega) (by omega) (by decide) (by decide) (by decide)
  -- the parts
  have loop : ∀ (m : Nat) (w : Vl) (sn fn : Row) (K : Tk) (D' : Dm) (x : Int), mvI D D' → D' 107 9 = 0 → lvM T n D' K → DM D' w sn fn → wfD w → pAll T n m w sn fn K = pV T n (D 108) → n - K.2.1 < m → (x = if K.1 = 0 then 0 else 1) → KX10_village l E Q 138 [(0, vR E 107), (1, vI n), (2, vI x)] G D' := by
    intro m
    induction m with
    | zero =>
      intro w sn fn K D' x hI h9 hl hM hw he hf hx
      have := hl.2.2.2.2.2.2.1
      omega
    | succ m ih =>
      intro w sn fn K D' x hI h9 hl hM hw he hf hx
      have hKo := hl.2.2.2.2.2
      rw [pAll] at he
      by_cases h0 : K.1 = 0
      · rw [if_pos h0] at he hx
        subst hx
        exact last D' hI h9 (Or.inl ⟨w, he.symm, hw.1, hl.1, hl.2.1, hM.1⟩)
      · rw [if_neg h0] at he hx
        subst hx
        refine s_X10_village_138 hL ⟨by decide, fun y => absurd y (by decide), fun _ => ?_⟩
        refine C0.use (m_part hL hn' hTB hl hM hw) ?_
        rintro r D2 ⟨ho, hcase⟩
        try dsimp only
        have hI2 : mvI D D2 := fun c i p1 p2 p3 p4 p5 => (ho c i (by omega) (by omega) p4 p5).trans (hI c i p1 p2 p3 p4 p5)
        have h92 : D2 107 9 = 0 := (ho 107 9 (by omega) (by omega) (by decide) (by decide)).trans h9
        rcases hcase with ⟨rfl, K1, w1, sn1, fn1, hl1, hM1, hP⟩ | ⟨rfl, hd, hP⟩
        · obtain ⟨_, a2, a3, _⟩ := part_ok hKo hw hP
          rw [hP] at he
          dsimp only at he
          have hk := (RM.k hl1.2.2.2.2.1 hl1.2.2.2.2.2.1).2.2.2.2
          refine ⟨by decide, fun y => absurd y (by decide), fun _ => ⟨fun y => ?_, fun y => ?_⟩⟩
          · exact ih w1 sn1 fn1 K1 D2 0 hI2 h92 hl1 hM1 a3 he (by omega) (by rw [if_pos (hk.1 y)])
          · exact ih w1 sn1 fn1 K1 D2 1 hI2 h92 hl1 hM1 a3 he (by omega) (by rw [if_neg (fun q => y (hk.2 q))])
        · rw [hP] at he
          dsimp only at he
          have hp := part_pos _ hP
          exact ⟨by decide, fun _ => last D2 hI2 h92 (Or.inr ⟨he.symm, hp⟩), fun y => absurd rfl y⟩
  -- the draft is cleared
  have clear : ∀ X : Dm, mvI D X → X 107 9 = 0 → X 107 17 = 0 → X 107 16 = -1 → X 107 13 = 0 → X 107 10 = n → (∀ i, 0 ≤ i → i < n → X 113 i = T i) → KX10_village l E Q 70 [(0, vR E 107), (1, vI n), (2, vI 0)] G X := by
    intro X hI h9 h17 h16 h13 h10 h113
    refine up_from (P := fun i => ∀ Y : Dm, (∀ c j, ¬ (c = 108 ∧ 400 ≤ j ∧ j < 500) → Y c j = X c j) → (∀ j, 0 ≤ j → j < i → Y 108 (400 + j) = 0) → KX10_village l E Q 70 [(0, vR E 107), (1, vI n), (2, vI i)] G Y) (lo := 0) (n := 100) (by decide) ?_ ?_ X (fun _ _ _ => rfl) (fun j p q => by omega)
    · intro Y hY h400
      refine s_X10_village_70 hL ⟨by decide, fun _ => ?_, fun y => absurd y (by decide)⟩
      generalize hZ : upd2 (upd2 Y 108 403 (Y 108 3)) 108 404 (Y 108 4) = Z
      have z7 : ∀ j, Z 107 j = X 107 j := fun j => by
        rw [← hZ, upd2_cell _ _ _ _ (by decide), upd2_cell _ _ _ _ (by decide)]; exact hY _ _ (by omega)
      have z13 : ∀ j, Z 113 j = X 113 j := fun j => by
        rw [← hZ, upd2_cell _ _ _ _ (by decide), upd2_cell _ _ _ _ (by decide)]; exact hY _ _ (by omega)
      have hIZ : mvI D Z := fun c i p1 p2 p3 p4 p5 => by
        rw [← hZ]
        simp only [upd2]
        rw [if_neg (by omega), if_neg (by omega), hY c i p2]
        exact hI c i p1 p2 p3 p4 p5
      have zT : TB (Z 113) n := fun i p q => by rw [z13, h113 i p q]; exact hTB i p q
      have y3 : Y 108 3 = D 108 3 := (hY _ _ (by omega)).trans (hI _ _ (by omega) (by omega) (by decide) (by decide) (by decide))
      have y4 : Y 108 4 = D 108 4 := (hY _ _ (by omega)).trans (hI _ _ (by omega) (by omega) (by decide) (by decide) (by decide))
      refine C0.use (c_X10_ahead hL hn' (p := 0) (by omega) (by rw [z7]; exact h10) zT (by rw [z7]; exact h13)) ?_
      rintro - D6 ⟨g1, g2⟩
      rw [tok_cg (U := T) (fun i p q => by rw [z13]; exact h113 i p q) (by omega)] at g1
      have tk := tok_ok (T := T) (n := n) (p := 0) (by omega)
      have hl : lvM T n D6 (tokS T n 0) := ⟨by rw [g2 107 17 (by omega), z7]; exact h17, by rw [g2 107 16 (by omega), z7]; exact h16, by rw [g2 107 10 (by omega), z7]; exact h10, fun i p q => by rw [g2 113 i (by omega), z13]; exact h113 i p q, g1, tk.1⟩
      have hk := (RM.k g1 tk.1.1).2.2.2.2
      have hM : DM D6 (w0V (D 108)) r0 r0 := by
        refine ⟨fun i p q => ?_, fun j p q => ?_, fun j p q => ?_⟩
        · rw [g2 108 (400 + i) (by omega), ← hZ]
          simp only [upd2, w0V]
          by_cases e4 : i = 4
          · subst e4; rw [if_pos (by decide), if_neg (by decide), if_pos (by decide)]; exact y4
          · rw [if_neg (by omega)]
            by_cases e3 : i = 3
            · subst e3; rw [if_pos (by decide), if_pos (by decide)]; exact y3
            · rw [if_neg (by omega), if_neg e3, if_neg e4]
              exact h400 i p q
        · have e0 : w0V (D 108) 0 = 0 := rfl
          omega
        · have e0 : w0V (D 108) 2 = 0 := rfl
          omega
      have hI6 : mvI D D6 := fun c i p1 p2 p3 p4 p5 => (g2 c i (by omega)).trans (hIZ c i p1 p2 p3 p4 p5)
      have h96 : D6 107 9 = 0 := by rw [g2 107 9 (by omega), z7]; exact h9
      have hlt : n - (tokS T n 0).2.1 < (601 : Nat) := by
        have := tk.2
        omega
      exact ⟨fun y => loop 601 _ r0 r0 _ D6 0 hI6 h96 hl hM (w0_ok hv) rfl hlt (by rw [if_pos (hk.1 y)]), fun y => loop 601 _ r0 r0 _ D6 1 hI6 h96 hl hM (w0_ok hv) rfl hlt (by rw [if_neg (fun q => y (hk.2 q))])⟩
    · intro i i0 i1 ih Y hY h400
      refine s_X10_village_70 hL ⟨by omega, fun y => absurd y (by omega), fun _ => ⟨by omega, ih _ (fun c j p => ?_) (fun j p q => ?_)⟩⟩
      · simp only [upd2]
        rw [if_neg (by omega)]
        exact hY c j p
      · simp only [upd2]
        by_cases e : j = i
        · rw [if_pos ⟨trivial, by omega⟩]
        · rw [if_neg (by omega)]; exact h400 j p (by omega)
  -- the text is taken
  refine up_from (P := fun i => ∀ Y : Dm, (∀ c j, c ≠ 113 → Y c j = upd2 D 107 10 n c j) → (∀ j, 0 ≤ j → j < i → Y 113 j = T j) → KX10_village l E Q 25 [(0, vR E 107), (1, vI n), (2, vI i)] G Y) (lo := 0) (n := n) z ?_ ?_ _ (fun _ _ _ => rfl) (fun j p q => by omega)
  · intro Y hY h113
    refine s_X10_village_25 hL ⟨by omega, fun _ => clear _ (fun c i p1 p2 p3 p4 p5 => ?_) ?_ ?_ ?_ ?_ ?_ (fun i p q => ?_), fun y => absurd y (by omega)⟩
    · simp only [upd2]
      rw [if_neg (by omega), if_neg (by omega), if_neg (by omega), if_neg (by omega), hY c i p3]
      simp only [upd2]
      rw [if_neg (by omega)]
    · simp [upd2]
    · simp [upd2]
    · simp [upd2]
    · simp [upd2]
    · rw [upd2_place _ _ _ (by decide), upd2_place _ _ _ (by decide), upd2_place _ _ _ (by decide), upd2_place _ _ _ (by decide), hY _ _ (by decide), upd2_same]
    · rw [upd2_cell _ _ _ _ (by decide), upd2_cell _ _ _ _ (by decide), upd2_cell _ _ _ _ (by decide), upd2_cell _ _ _ _ (by decide)]
      exact h113 i p q
  · intro i i0 i1 ih Y hY h113
    have e : Y 112 i = T i := by rw [hY 112 i (by decide), upd2_cell _ _ _ _ (by decide)]; exact hT i i0 (by omega)
    have hb := hTB i i0 i1
    refine s_X10_village_25 hL ⟨by omega, fun y => absurd y (by omega), fun _ => ⟨⟨by omega, by omega⟩, ih _ (fun c j p => ?_) (fun j p q => ?_)⟩⟩
    · rw [upd2_cell _ _ _ _ p]; exact hY c j p
    · by_cases z9 : j = i
      · subst z9; rw [upd2_same]; exact e
      · rw [upd2_place _ _ _ z9]; exact h113 j p (by omega)
end

-- beside: what both sides reckon
abbrev hNet (v : Vl) (f lot : Int) : Int := netS v 0 (costS v f (heldN v f)) (heldN v f : Nat) lot
def ownS (v : Vl) (f hm pr cv lot : Int) : Int := if hm = -1 then hNet v f lot else if iA (iSr lot hm) 1 = 0 then max 0 (hNet v f lot - pr) + 0 else max 0 (hNet v f lot - pr) + cv
def gftS (v : Vl) (c lot : Int) : Int := if c = -1 then 0 else max 0 (hNet v c lot - v ((88 + (3 * c)) + 2))
def laidS (v : Vl) (f bn hm pr cv one : Int) : Int := min bn (max 0 (ownS v f hm pr cv one - v ((88 + (3 * f)) + 2)))
def bsI (v : Vl) (f bn c hm pr cv one two : Int) : Int := if ownS v f hm pr cv two + Int.tdiv (laidS v f bn hm pr cv one) 2 + gftS v c two < v ((88 + (3 * f)) + 2) then wtS v two else 0
def bsO (v : Vl) (f bn c hm pr cv one : Int) : Int := wtS v one * sz (bsI v f bn c hm pr cv one) (iSl 1 (v 1)).toNat
def bsS (v : Vl) (f bn c hm pr cv : Int) : Int := sz (bsO v f bn c hm pr cv) (iSl 1 (v 1)).toNat
abbrev bsG (v : Vl) (f bn c hm pr cv : Int) : Prop := (0 ≤ f ∧ f < v 2) ∧ (0 ≤ bn ∧ bn ≤ 999) ∧ (c = -1 ∨ ((0 ≤ c ∧ c < v 2) ∧ c ≠ f)) ∧ (hm = -1 ∨ (0 ≤ hm ∧ hm < v 1)) ∧ (0 ≤ pr ∧ pr ≤ 99) ∧ (0 ≤ cv ∧ cv ≤ 99)
def q_beside (v : Vl) (f bn c hm pr cv : Int) : Ans := if bsG v f bn c hm pr cv then aFr 1 (bsS v f bn c hm pr cv) (allS v * allS v) else aNo 1 0
theorem hNet_b {v : Vl} (hv : wfV v) {f : Int} (hf : 0 ≤ f ∧ f < v 2) (lot : Int) : 0 ≤ hNet v f lot ∧ hNet v f lot ≤ 990 := net_b hv (by decide) (cost_b hv hf (setN_lt _ _))
theorem ownS_b {v : Vl} (hv : wfV v) {f hm pr cv : Int} (hf : 0 ≤ f ∧ f < v 2) (hp : 0 ≤ pr ∧ pr ≤ 99) (hc : 0 ≤ cv ∧ cv ≤ 99) (lot : Int) : 0 ≤ ownS v f hm pr cv lot ∧ ownS v f hm pr cv lot ≤ 1089 := by
  have := hNet_b hv hf lot
  unfold ownS
  split
  · omega
  · split <;> omega
theorem gftS_b {v : Vl} (hv : wfV v) {c : Int} (hc : c = -1 ∨ (0 ≤ c ∧ c < v 2)) (lot : Int) : 0 ≤ gftS v c lot ∧ gftS v c lot ≤ 990 := by
  unfold gftS
  split
  · omega
  · have h1 := hNet_b hv (f := c) (by omega) lot
    have h2 := wff hv (f := c) (by omega) (by omega)
    omega
theorem laid_b {v : Vl} {f bn hm pr cv one : Int} (hb : 0 ≤ bn ∧ bn ≤ 999) : 0 ≤ laidS v f bn hm pr cv one ∧ laidS v f bn hm pr cv one ≤ 999 := by unfold laidS; omega
theorem half_b {x : Int} (h : 0 ≤ x ∧ x ≤ 999) : 0 ≤ Int.tdiv x 2 ∧ Int.tdiv x 2 ≤ 999 ∧ x - Int.tdiv (x + 1) 2 = Int.tdiv x 2 := by
  rw [Int.tdiv_eq_ediv_of_nonneg h.1, Int.tdiv_eq_ediv_of_nonneg (by omega)]
  omega
theorem bsI_b {v : Vl} (hv : wfV v) (f bn c hm pr cv one : Int) (n : Nat) : 0 ≤ sz (bsI v f bn c hm pr cv one) n ∧ sz (bsI v f bn c hm pr cv one) n ≤ n * 16777216 := by
  have := sz_bnd (f := bsI v f bn c hm pr cv one) (n := n) (a := 0) (b := 16777216) (fun i _ _ => by
    have := wtS_b hv i
    unfold bsI; split <;> omega)
  omega
theorem bsS_b {v : Vl} (hv : wfV v) (f bn c hm pr cv : Int) : 0 ≤ bsS v f bn c hm pr cv ∧ bsS v f bn c hm pr cv ≤ 1152921504606846976 := by
  have hlb := lotsB (wfH hv)
  have := sz_bnd (f := bsO v f bn c hm pr cv) (n := (iSl 1 (v 1)).toNat) (a := 0) (b := 18014398509481984) (fun i _ _ => by
    have h1 := wtS_b hv i
    have h2 := bsI_b hv f bn c hm pr cv i (iSl 1 (v 1)).toNat
    have h3 := mulB (A := 16777216) (B := 1073741824) h1 (b := sz (bsI v f bn c hm pr cv i) (iSl 1 (v 1)).toNat) (by omega)
    unfold bsO; omega)
  unfold bsS
  omega
section
variable {l : Launch} {E : Ev} {G : Sh} {D : Dm}
theorem c_X10_beside (hL : Lay G) (hv : wfV (D 108)) (hh : D 107 20 = 0) {f bn c hm pr cv : Int} (hf : iRg f) (hb : iRg bn) (hc : iRg c) (hhm : iRg hm) (hp : iRg pr) (hcv : iRg cv) {a : Ans} (ha : a = q_beside (D 108) f bn c hm pr cv) : C0 l E MX10_beside 0 [vR E 107, vI f, vI bn, vI c, vI hm, vI pr, vI cv] G D (fun r D' => r = a.2.1 ∧ mQ D D' a) := by
  have hab := all_b hv
  have hF := wfF hv
  have hH := wfH hv
  have hlb := lotsB hH
  generalize hQ : (fun (r : Int) (G' : Sh) (D' : Dm) => G' = G ∧ r = a.2.1 ∧ mQ D D' a) = Q
  have no : ¬ ((0 ≤ f ∧ f < D 108 2) ∧ (0 ≤ bn ∧ bn ≤ 999) ∧ (c = -1 ∨ ((0 ≤ c ∧ c < D 108 2) ∧ c ≠ f)) ∧ (hm = -1 ∨ (0 ≤ hm ∧ hm < D 108 1)) ∧ (0 ≤ pr ∧ pr ≤ 99) ∧ (0 ≤ cv ∧ cv ≤ 99)) → Q 0 G (upd2 D 107 1 1) := by
    intro q
    rw [← hQ]
    exact ⟨rfl, mQ.no (by rw [ha, q_beside, if_neg q]) mS.rf⟩
  have ys : ((0 ≤ f ∧ f < D 108 2) ∧ (0 ≤ bn ∧ bn ≤ 999) ∧ (c = -1 ∨ ((0 ≤ c ∧ c < D 108 2) ∧ c ≠ f)) ∧ (hm = -1 ∨ (0 ≤ hm ∧ hm < D 108 1)) ∧ (0 ≤ pr ∧ pr ≤ 99) ∧ (0 ≤ cv ∧ cv ≤ 99)) → C0 l E MX10_held 0 [vR E 107, vI f] G D (fun r33 D33 => C0 l E MX10_goesRound 2 [vR E 107, vI f, vI r33] G D33 (fun r35 D35 => KX10_beside l E Q 99 [(0, vR E 107), (1, vI f), (2, vI bn), (3, vI c), (4, vI hm), (5, vI pr), (6, vI cv), (7, vI r33), (8, vI 0)] G D35)) := by
    intro q
    rw [q_beside, if_pos q] at ha
    obtain ⟨qf, qb, qc, qh, qp, qv⟩ := q
    have hn := wff hv qf.1 qf.2
    -- the sums
    have sums : ∀ D1, mS D D1 → (∀ j, 0 ≤ j → j < iSl 1 (D 108 1) → D1 117 j = ownS (D 108) f hm pr cv j) → (∀ j, 0 ≤ j → j < iSl 1 (D 108 1) → D1 118 j = gftS (D 108) c j) → ∀ w : Int, KX10_beside l E Q 259 [(0, vR E 107), (1, vI f), (2, vI bn), (3, vI c), (4, vI hm), (5, vI pr), (6, vI cv), (7, vI w), (8, vI (D1 108 ((88 + (3 * f)) + 2))), (9, vJ 0), (11, vI 0)] G D1 := by
      intro D1 hm1 ho hg w
      have e := hm1.at
      rw [e]
      refine up_from (P := fun i => KX10_beside l E Q 259 [(0, vR E 107), (1, vI f), (2, vI bn), (3, vI c), (4, vI hm), (5, vI pr), (6, vI cv), (7, vI w), (8, vI (D 108 ((88 + (3 * f)) + 2))), (9, vJ (sz (bsO (D 108) f bn c hm pr cv) i.toNat)), (11, vI i)] G D1) (lo := 0) (n := iSl 1 (D 108 1)) (by omega) ?_ ?_
      · refine s_X10_beside_259 hL ⟨by omega, fun _ => ?_, fun z => absurd z (by rw [e]; omega)⟩
        refine C0.use (c_X10_allLots hL (by rw [e]; exact hv)) ?_
        rintro r D2 ⟨rfl, rfl⟩
        try dsimp only
        refine C0.use (c_X10_allLots hL (by rw [e]; exact hv)) ?_
        rintro r D3 ⟨rfl, rfl⟩
        try dsimp only
        rw [e]
        have hbs := bsS_b hv f bn c hm pr cv
        unfold bsS at hbs
        have h2 := mulB (A := 16777216) (B := 16777216) (a := allS (D 108)) (b := allS (D 108)) (by omega) (by omega)
        have h3 : 0 < allS (D 108) * allS (D 108) := Int.mul_pos (by omega) (by omega)
        refine C0.use (c_X10_tells hL (by omega) (by omega)) ?_
        rintro r D4 ⟨rfl, rfl⟩
        rw [← hQ]
        exact ⟨Or.inr rfl, rfl, mQ.tl ha hm1⟩
      · intro i i0 i1 ih
        rw [sz_s _ i0] at ih
        have hob := ownS_b (hm := hm) hv qf qp qv i
        have hlb2 := laid_b (v := D 108) (f := f) (hm := hm) (pr := pr) (cv := cv) (one := i) qb
        have hhf := half_b hlb2
        refine s_X10_beside_259 hL ⟨by omega, fun z => absurd z (by rw [e]; omega), fun _ => ⟨by rw [ho i i0 i1]; omega, ?_⟩⟩
        rw [ho i i0 i1]
        change KX10_beside l E Q 291 [(0, vR E 107), (1, vI f), (2, vI bn), (3, vI c), (4, vI hm), (5, vI pr), (6, vI cv), (7, vI w), (8, vI (D 108 ((88 + (3 * f)) + 2))), (9, vJ (sz (bsO (D 108) f bn c hm pr cv) i.toNat)), (11, vI i), (12, vI (laidS (D 108) f bn hm pr cv i)), (13, vI 0)] G D1
        have h0 : sz (bsO (D 108) f bn c hm pr cv) i.toNat = sz (bsO (D 108) f bn c hm pr cv) i.toNat + wtS (D 108) i * sz (bsI (D 108) f bn c hm pr cv i) (0 : Int).toNat := by rw [show (0 : Int).toNat = 0 from rfl, sz_0, Int.mul_zero, Int.add_zero]
        rw [h0]
        refine up_from (P := fun j => KX10_beside l E Q 291 [(0, vR E 107), (1, vI f), (2, vI bn), (3, vI c), (4, vI hm), (5, vI pr), (6, vI cv), (7, vI w), (8, vI (D 108 ((88 + (3 * f)) + 2))), (9, vJ (sz (bsO (D 108) f bn c hm pr cv) i.toNat + wtS (D 108) i * sz (bsI (D 108) f bn c hm pr cv i) j.toNat)), (11, vI i), (12, vI (laidS (D 108) f bn hm pr cv i)), (13, vI j)] G D1) (lo := 0) (n := iSl 1 (D 108 1)) (by omega) ?_ ?_
        · exact s_X10_beside_291 hL ⟨by omega, fun _ => ih, fun z => absurd z (by rw [e]; omega)⟩
        · intro j j0 j1 ih2
          rw [sz_s _ j0, bsI, Int.mul_add, ← Int.add_assoc] at ih2
          have hoj := ownS_b (hm := hm) hv qf qp qv j
          have hgj := gftS_b hv (c := c) (by omega) j
          refine s_X10_beside_291 hL ⟨by omega, fun z => absurd z (by rw [e]; omega), fun _ => ?_⟩
          rw [ho j j0 j1, hg j j0 j1]
          refine ⟨by omega, fun z => ?_, fun z => ?_⟩
          · rw [if_neg (by omega), Int.mul_zero] at ih2
            exact ih2
          · rw [if_pos z] at ih2
            refine C0.use (c_X10_weightOf hL (by rw [e]; exact hv) i) ?_
            rintro r D2 ⟨rfl, rfl⟩
            try dsimp only
            refine C0.use (c_X10_weightOf hL (by rw [e]; exact hv) j) ?_
            rintro r D3 ⟨rfl, rfl⟩
            try dsimp only
            rw [e]
            exact ih2
    refine C0.use (c_X10_held hL hv f hf) ?_
    rintro r D1 ⟨rfl, rfl⟩
    try dsimp only
    refine C0.use (c_X10_goesRound hL hv qf (S := heldN (D1 108) f) (setN_lt _ _)) ?_
    rintro - D2 ⟨hway, hr2⟩
    try dsimp only
    have hcst := cost_b hv qf (S := heldN (D1 108) f) (setN_lt _ _)
    refine up_from (P := fun i => ∀ D', mS D1 D' → D' 107 22 = costS (D1 108) f (heldN (D1 108) f) → (∀ j, 0 ≤ j → j < i → D' 117 j = ownS (D1 108) f hm pr cv j) → (∀ j, 0 ≤ j → j < i → D' 118 j = 0) → KX10_beside l E Q 99 [(0, vR E 107), (1, vI f), (2, vI bn), (3, vI c), (4, vI hm), (5, vI pr), (6, vI cv), (7, vI (heldN (D1 108) f : Nat)), (8, vI i)] G D') (lo := 0) (n := iSl 1 (D1 108 1)) (by omega) ?_ ?_ D2 hr2.m hway (fun j a b => by omega) (fun j a b => by omega)
    · intro D' hm1 hw1 ho hg
      have e := hm1.at
      have eh := hm1.hv
      refine s_X10_beside_99 hL ⟨by omega, fun _ => ⟨hc, fun z => ⟨by omega, ?_⟩, fun z => ?_⟩, fun z => absurd z (by rw [e]; omega)⟩
      · exact sums D' hm1 ho (fun j a b => by rw [hg j a b, gftS, if_pos z]) _
      · have qc2 : 0 ≤ c ∧ c < D1 108 2 := by omega
        have hnc := wff hv qc2.1 qc2.2
        have hcc := cost_b hv qc2 (S := heldN (D1 108) c) (setN_lt _ _)
        refine C0.use (c_X10_held hL (by rw [e]; exact hv) c hc) ?_
        rintro r D3 ⟨rfl, rfl⟩
        try dsimp only
        rw [e]
        refine C0.use (c_X10_goesRound hL (by rw [e]; exact hv) (by rw [e]; exact qc2) (S := heldN (D1 108) c) (by rw [e]; exact setN_lt _ _)) ?_
        rintro - D4 ⟨hway4, hr4⟩
        try dsimp only
        rw [e] at hway4
        refine up_from (P := fun i => ∀ D', mS D1 D' → D' 107 22 = costS (D1 108) c (heldN (D1 108) c) → (∀ j, 0 ≤ j → j < iSl 1 (D1 108 1) → D' 117 j = ownS (D1 108) f hm pr cv j) → (∀ j, 0 ≤ j → j < i → D' 118 j = gftS (D1 108) c j) → KX10_beside l E Q 204 [(0, vR E 107), (1, vI f), (2, vI bn), (3, vI c), (4, vI hm), (5, vI pr), (6, vI cv), (7, vI (heldN (D1 108) f : Nat)), (8, vI (heldN (D1 108) c : Nat)), (9, vI i)] G D') (lo := 0) (n := iSl 1 (D1 108 1)) (by omega) ?_ ?_ D4 (hm1.tr hr4.m) hway4 (fun j a b => by rw [hr4 117 j (by simp [scrR])]; exact ho j a b) (fun j a b => by omega)
        · intro D5 hm5 hw5 ho5 hg5
          have e5 := hm5.at
          exact s_X10_beside_204 hL ⟨by omega, fun _ => ⟨by omega, sums D5 hm5 ho5 hg5 _⟩, fun z => absurd z (by rw [e5]; omega)⟩
        · intro i i0 i1 ih D5 hm5 hw5 ho5 hg5
          have e5 := hm5.at
          have eh5 := hm5.hv
          have hnb := hNet_b hv qc2 i
          unfold hNet at hnb
          refine s_X10_beside_204 hL ⟨by omega, fun z => absurd z (by rw [e5]; omega), fun _ => ?_⟩
          refine C0.use (c_X10_netOf hL (by rw [e5]; exact hv) (by rw [eh5, hh]; decide) (by rw [hw5]; exact hcc) (heldN (D1 108) c : Nat) i) ?_
          rintro r D6 ⟨rfl, rfl⟩
          try dsimp only
          rw [e5, eh5, hh, hw5]
          refine ⟨by omega, ih _ (hm5.up (by simp [scrM]) _) ?_ (fun j a b => ?_) (fun j a b => ?_)⟩
          · rw [upd2_cell _ _ _ _ (by decide)]; exact hw5
          · rw [upd2_cell _ _ _ _ (by decide)]; exact ho5 j a b
          · by_cases z2 : j = i
            · subst z2; rw [upd2_same, gftS, if_neg z]
            · rw [upd2_place _ _ _ z2]; exact hg5 j a (by omega)
    · intro i i0 i1 ih D' hm1 hw1 ho hg
      have e := hm1.at
      have eh := hm1.hv
      have hnb := hNet_b hv qf i
      unfold hNet at hnb
      refine s_X10_beside_99 hL ⟨by omega, fun z => absurd z (by rw [e]; omega), fun _ => ?_⟩
      refine C0.use (c_X10_netOf hL (by rw [e]; exact hv) (by rw [eh, hh]; decide) (by rw [hw1]; exact hcst) (heldN (D1 108) f : Nat) i) ?_
      rintro r D3 ⟨rfl, rfl⟩
      try dsimp only
      rw [e, eh, hh, hw1]
      have fin : ∀ D4 x, D4 = upd2 (upd2 D3 117 i x) 118 i 0 ∨ (∃ y, D4 = upd2 (upd2 (upd2 D3 117 i y) 118 i 0) 117 i x) → x = ownS (D1 108) f hm pr cv i → KX10_beside l E Q 99 [(0, vR E 107), (1, vI f), (2, vI bn), (3, vI c), (4, vI hm), (5, vI pr), (6, vI cv), (7, vI (heldN (D1 108) f : Nat)), (8, vI (i + 1))] G D4 := by
        intro D4 x hx hx2
        have h117 : ∀ j, D4 117 j = if j = i then x else D3 117 j := by
          intro j
          rcases hx with rfl | ⟨y, rfl⟩
          · simp only [upd2]; simp
          · simp only [upd2]; by_cases z : j = i <;> simp [z]
        have h118 : ∀ j, D4 118 j = if j = i then 0 else D3 118 j := by
          intro j
          rcases hx with rfl | ⟨y, rfl⟩
          · simp only [upd2]; simp
          · simp only [upd2]; simp
        have hm4 : mS D1 D4 := by
          rcases hx with rfl | ⟨y, rfl⟩
          · exact (hm1.up (by simp [scrM]) _).up (by simp [scrM]) _
          · exact ((hm1.up (by simp [scrM]) _).up (by simp [scrM]) _).up (by simp [scrM]) _
        have hw4 : D4 107 22 = D3 107 22 := by
          rcases hx with rfl | ⟨y, rfl⟩ <;> simp [upd2]
        refine ih D4 hm4 (hw4.trans hw1) (fun j a b => ?_) (fun j a b => ?_)
        · rw [h117]
          by_cases z : j = i
          · rw [if_pos z, hx2, z]
          · rw [if_neg z]; exact ho j a (by omega)
        · rw [h118]
          by_cases z : j = i
          · rw [if_pos z]
          · rw [if_neg z]; exact hg j a (by omega)
      refine ⟨by omega, fun z => fin _ _ (Or.inl rfl) (by rw [ownS, if_pos z]), fun z => ⟨by omega, fun z2 => ⟨by omega, fin _ _ (Or.inr ⟨_, rfl⟩) ?_⟩, fun z2 => ⟨by omega, fin _ _ (Or.inr ⟨_, rfl⟩) ?_⟩⟩⟩
      · rw [ownS, if_neg z, if_pos (a1_ne1.mp z2)]
      · rw [ownS, if_neg z, if_neg (by omega)]
  have main : Ct l E MX10_beside 0 0 0 [vR E 107, vI f, vI bn, vI c, vI hm, vI pr, vI cv] G D Q := by
    refine s_X10_beside hL ?_
    repeat' (first | exact no (by omega) | exact ys (by omega) | refine And.intro ?_ ?_ | intro _ | omega)
  rw [← hQ] at main
  exact main
end

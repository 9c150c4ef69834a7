-- climbing
/-- sets one exchange away from S within o, of more worth -/
def cdS (o S : Nat) (w : Nat → Int) (T : Nat) : Bool := decide (ndf T o = 0) && (decide (pcT (ndf T S) = 1) && (decide (pcT (ndf S T) = 1) && decide (w S < w T)))
def bex (o : Nat) (w : Nat → Int) (n S : Nat) : Int := bstS (cdS o S w) w n
def gtc (w : Nat → Int) (n S : Nat) : Nat := cntS (fun T => decide (w S < w T)) n
def clF (o : Nat) (w : Nat → Int) (n : Nat) : Nat → Nat → Nat × Nat
  | 0, S => (S, 0)
  | k + 1, S => if bex o w n S = -1 then (S, 0) else ((clF o w n k (bex o w n S).toNat).1, (clF o w n k (bex o w n S).toNat).2 + 1)
theorem bex_is {o : Nat} {w : Nat → Int} {n S : Nat} (h : bex o w n S ≠ -1) : ∃ T : Nat, bex o w n S = T ∧ T < n ∧ ndf T o = 0 ∧ w S < w T := by
  unfold bex at h ⊢
  rcases bst_is (cdS o S w) w n with ⟨q, _⟩ | ⟨b, q1, q2, q3, _⟩
  · exact absurd q h
  · unfold cdS at q3
    simp only [Bool.and_eq_true, decide_eq_true_eq] at q3
    exact ⟨b, q1, q2, q3.1, q3.2.2.2⟩
theorem gtc_lt {w : Nat → Int} {n S T : Nat} (hT : T < n) (h : w S < w T) : gtc w n T < gtc w n S := by
  unfold gtc
  induction n with
  | zero => omega
  | succ k ih =>
    rw [cnt_s, cnt_s]
    have hle : cntS (fun U => decide (w T < w U)) k ≤ cntS (fun U => decide (w S < w U)) k := cnt_imp (fun U hU => by simp only [decide_eq_true_eq] at hU ⊢; omega) k
    rcases Nat.lt_or_ge T k with q | q
    · have i2 := ih q
      by_cases h1 : w T < w k
      · rw [if_pos (by simpa using h1), if_pos (by simp only [decide_eq_true_eq]; omega)]; omega
      · rw [if_neg (by simpa using h1)]; split <;> omega
    · have : T = k := by omega
      subst this
      rw [if_neg (by simp), if_pos (by simpa using h)]
      omega
theorem gtc_n {w : Nat → Int} {n S : Nat} (hS : S < n) : gtc w n S < n := by
  have h1 : ∀ k, gtc w k S ≤ k := by
    intro k
    induction k with
    | zero => exact Nat.le_refl _
    | succ k ih => unfold gtc at ih ⊢; rw [cnt_s]; split <;> omega
  unfold gtc at h1 ⊢
  obtain ⟨m, rfl⟩ : ∃ m, n = S + 1 + m := ⟨n - (S + 1), by omega⟩
  induction m with
  | zero =>
    rw [Nat.add_zero, cnt_s, if_neg (by simp)]
    have := h1 S
    omega
  | succ m ih =>
    have e : S + 1 + (m + 1) = S + 1 + m + 1 := by omega
    rw [e, cnt_s]
    have := ih (by omega)
    split <;> omega
theorem cl_st {o : Nat} {w : Nat → Int} {n : Nat} : ∀ (k m S : Nat), gtc w n S < k → gtc w n S < m → clF o w n k S = clF o w n m S := by
  intro k
  induction k with
  | zero => intro m S h; omega
  | succ k ih =>
    intro m S h1 h2
    cases m with
    | zero => omega
    | succ m =>
      rw [clF, clF]
      by_cases q : bex o w n S = -1
      · rw [if_pos q, if_pos q]
      · rw [if_neg q, if_neg q]
        obtain ⟨T, t1, t2, _, t4⟩ := bex_is q
        have := gtc_lt t2 t4
        rw [t1, Int.toNat_natCast, ih m T (by omega) (by omega)]
/-- where the climb ends, and its steps -/
def clS (o : Nat) (w : Nat → Int) (n S : Nat) : Nat × Nat := clF o w n n S
theorem cl_end {o : Nat} {w : Nat → Int} {n S : Nat} (hS : S < n) (h : bex o w n S = -1) : clS o w n S = (S, 0) := by
  unfold clS
  cases n with
  | zero => omega
  | succ k => rw [clF, if_pos h]
theorem cl_go {o : Nat} {w : Nat → Int} {n S T : Nat} (hS : S < n) (h : bex o w n S = T) : clS o w n S = ((clS o w n T).1, (clS o w n T).2 + 1) := by
  have hne : bex o w n S ≠ -1 := by omega
  obtain ⟨T', t1, t2, _, t4⟩ := bex_is hne
  have : T' = T := by omega
  subst this
  have h1 := gtc_lt t2 t4
  have h2 := gtc_n (w := w) hS
  unfold clS
  have e := cl_st (o := o) (w := w) (n := n) n (gtc w n S + 1) S h2 (by omega)
  rw [e, clF, if_neg hne, h, Int.toNat_natCast, cl_st (gtc w n S) n T' (by omega) (by omega)]
theorem cl_in {o : Nat} {w : Nat → Int} {n : Nat} : ∀ (k S : Nat), S < n → (clF o w n k S).1 < n ∧ (clF o w n k S).2 ≤ k := by
  intro k
  induction k with
  | zero => intro S h; exact ⟨h, Nat.le_refl _⟩
  | succ k ih =>
    intro S h
    rw [clF]
    by_cases q : bex o w n S = -1
    · rw [if_pos q]; exact ⟨h, by simp⟩
    · rw [if_neg q]
      obtain ⟨T, t1, t2, _, t4⟩ := bex_is q
      have := ih T t2
      rw [t1, Int.toNat_natCast]
      exact ⟨this.1, by dsimp only; omega⟩
def clR (v : Vl) (f : Int) : Nat × Nat := clS (openN v f) (worthS v f) (nS v) (heldN v f)
def q_climb (v : Vl) (f : Int) : Ans := if 0 ≤ f ∧ f < v 2 then aFr (clR v f).1 (worthS v f (clR v f).1) (allS v) else aNo 1 (-1)
section
variable {l : Launch} {E : Ev} {G : Sh} {D : Dm}
theorem c_X10_climb (hL : Lay G) (hv : wfV (D 108)) (hh : D 107 20 = 0) {f : Int} (hf : iRg f) {a : Ans} (ha : a = q_climb (D 108) f) : C0 l E MX10_climb 0 [vR E 107, vI f] G D (fun r D' => r = a.2.1 ∧ mQ (if 0 ≤ f ∧ f < D 108 2 then upd2 D 107 24 (clR (D 108) f).2 else D) D' a) := by
  have hs := wfS hv
  have h10 := two_le hs
  have hab := all_b hv
  refine s_X10_climb hL ⟨hf, fun g => ?_, fun g => ⟨rfl, ?_⟩⟩
  · rw [q_climb, if_pos g] at ha
    refine C0.use (c_X10_mayHave hL hv f hf) ?_
    rintro r D1 ⟨rfl, rfl⟩
    try dsimp only
    refine C0.use (c_X10_held hL hv f hf) ?_
    rintro r D2 ⟨rfl, rfl⟩
    try dsimp only
    have hho : heldN (D2 108) f < 2 ^ (D2 108 0).toNat := setN_lt _ _
    have hoo : openN (D2 108) f < 2 ^ (D2 108 0).toNat := setN_lt _ _
    refine C0.use (c_X10_worthOf hL hv hh g (S := heldN (D2 108) f) hho) ?_
    rintro r D3 ⟨rfl, hm3⟩
    try dsimp only
    rw [if_pos g]
    have key : ∀ S : Nat, S < 2 ^ (D2 108 0).toNat → ∀ (k : Nat) (D' : Dm), mS D2 D' → (clS (openN (D2 108) f) (worthS (D2 108) f) (nS (D2 108)) S).1 = (clR (D2 108) f).1 → k + (clS (openN (D2 108) f) (worthS (D2 108) f) (nS (D2 108)) S).2 = (clR (D2 108) f).2 → KX10_climb l E (fun r G' D' => G' = G ∧ (r = a.2.1 ∧ mQ (upd2 D2 107 24 (clR (D2 108) f).2) D' a)) 40 [(0, vR E 107), (1, vI f), (2, vI (openN (D2 108) f : Nat)), (3, vI S), (4, vJ (worthS (D2 108) f S)), (6, vI (k : Nat)), (7, vI 1)] G D' := by
      refine by_meas (fun S => gtc (worthS (D2 108) f) (nS (D2 108)) S) ?_
      intro S ih hS k D' hm h1 h2
      refine s_X10_climb_40 hL ⟨by omega, fun z => absurd z (by omega), fun _ => ?_⟩
      refine up_from (P := fun i => ∀ (x y : Int) (D' : Dm), x = bstS (cdS (openN (D2 108) f) S (worthS (D2 108) f)) (worthS (D2 108) f) i.toNat → y = (if x = -1 then worthS (D2 108) f S else worthS (D2 108) f x.toNat) → mS D2 D' → KX10_climb l E _ 51 [(0, vR E 107), (1, vI f), (2, vI (openN (D2 108) f : Nat)), (3, vI S), (4, vJ y), (6, vI (k : Nat)), (7, vI 1), (8, vI x), (9, vI i)] G D') (lo := 0) (n := ((2 ^ (D2 108 0).toNat : Nat) : Int)) (by omega) ?_ ?_ (-1) _ D' rfl (by rw [if_pos rfl]) hm
      · intro x y D' hx hy hm
        have e := hm.at
        have hx2 : x = bex (openN (D2 108) f) (worthS (D2 108) f) (nS (D2 108)) S := hx
        have hxb := bst_b (cdS (openN (D2 108) f) S (worthS (D2 108) f)) (worthS (D2 108) f) (nS (D2 108))
        have hxr : -1 ≤ x ∧ x < nS (D2 108) := by rw [hx2]; exact hxb
        have hn10 : nS (D2 108) ≤ 1024 := h10
        refine s_X10_climb_51 hL ⟨by omega, fun _ => ⟨by omega, fun q => ?_, fun q => ?_⟩, fun z => absurd z (by rw [e, iSl1 (by omega)]; omega)⟩
        · rw [if_pos q] at hy
          subst hy
          rw [cl_end hS (by rw [← hx2]; exact q)] at h1 h2
          dsimp only at h1 h2
          have hk : k = (clR (D2 108) f).2 := by omega
          have hcn : (clR (D2 108) f).2 ≤ nS (D2 108) := (cl_in _ _ hho).2
          rw [Int.add_zero]
          refine s_X10_climb_40 hL ⟨by omega, fun _ => ⟨by omega, ?_⟩, fun z => absurd rfl z⟩
          have e24 : upd2 D' 107 24 (k : Nat) 108 = D2 108 := by rw [← e]; funext i; exact upd2_cell _ _ _ _ (by decide)
          refine C0.use (c_X10_allLots hL (by rw [e24]; exact hv)) ?_
          rintro r D4 ⟨rfl, rfl⟩
          try dsimp only
          rw [e24]
          have hwb := worth_b hv g hS
          refine C0.use (c_X10_tells hL (by omega) (by omega)) ?_
          rintro r D5 ⟨rfl, rfl⟩
          try dsimp only
          rw [upd2_twice]
          rw [← h1] at ha
          rw [← hk]
          refine ⟨rfl, mQ.tl ha ?_⟩
          intro c i hc
          simp only [upd2]
          split
          · rfl
          · exact hm c i hc
        · obtain ⟨T, t1, t2, t3, t4⟩ := bex_is (o := openN (D2 108) f) (w := worthS (D2 108) f) (n := nS (D2 108)) (S := S) (by rw [← hx2]; exact q)
          have hxT : x = T := by rw [hx2]; exact t1
          subst hxT
          rw [if_neg q, Int.toNat_natCast] at hy
          subst hy
          rw [cl_go hS t1] at h1 h2
          dsimp only at h1 h2
          have e1 : ((k : Nat) : Int) + 1 = ((k + 1 : Nat) : Int) := by omega
          rw [e1]
          exact ih T (gtc_lt t2 t4) t2 (k + 1) D' hm h1 (by show k + 1 + (clS (openN (D2 108) f) (worthS (D2 108) f) (2 ^ (D2 108 0).toNat) T).2 = _; omega)
      · intro i i0 i1 ih2 x y D' hx hy hm
        have e := hm.at
        have eh := hm.hv
        obtain ⟨T, rfl⟩ := Int.eq_ofNat_of_zero_le i0
        have es : ((T : Int) + 1).toNat = T + 1 := by omega
        rw [Int.toNat_natCast] at hx
        rw [es, bst_s] at ih2
        have hxb := bst_b (cdS (openN (D2 108) f) S (worthS (D2 108) f)) (worthS (D2 108) f) T
        rw [← hx] at hxb ih2
        have hTl : T < 2 ^ (D2 108 0).toNat := by omega
        have nb : ∀ A B : Nat, A < 2 ^ (D2 108 0).toNat → ndf A B < 1024 := by
          intro A B hA
          have : ndf A B ≤ A := by unfold ndf; rw [xor_sub (by rw [Nat.and_assoc, Nat.and_comm B A, ← Nat.and_assoc, Nat.and_self])]; omega
          omega
        have hskip : cdS (openN (D2 108) f) S (worthS (D2 108) f) T = false → ∀ D', mS D2 D' → KX10_climb l E _ 51 [(0, vR E 107), (1, vI f), (2, vI (openN (D2 108) f : Nat)), (3, vI S), (4, vJ y), (6, vI (k : Nat)), (7, vI 1), (8, vI x), (9, vI ((T : Int) + 1))] G D' := fun q D' hm => ih2 x y D' (by rw [q]; rfl) hy hm
        refine s_X10_climb_51 hL ⟨by omega, fun z => absurd z (by rw [e, iSl1 (by omega)]; omega), fun _ => ⟨fun q => ?_, fun q => ?_⟩⟩
        · rw [iN_nat T _ (by omega)] at q
          exact hskip (by unfold cdS; simp; intro z; omega) D' hm
        · rw [iN_nat T _ (by omega)] at q
          rw [iN_nat T S (by omega), iN_nat S T (by omega)]
          refine C0.use (c_X10_bits hL (a := ndf T S) (nb T S hTl)) ?_
          rintro r D4 ⟨rfl, rfl⟩
          try dsimp only
          have hp1 := pcT_le (ndf T S)
          have hp2 := pcT_le (ndf S T)
          refine ⟨by omega, fun z => hskip (by unfold cdS; simp; intro _ z2; omega) D4 hm, fun z1 => ?_⟩
          refine C0.use (c_X10_bits hL (a := ndf S T) (nb S T hS)) ?_
          rintro r D5 ⟨rfl, rfl⟩
          try dsimp only
          refine ⟨by omega, fun z2 => ?_, fun z => hskip (by unfold cdS; simp; intro _ _ z2; omega) D5 hm⟩
          refine C0.use (c_X10_worthOf hL (by rw [e]; exact hv) (by rw [eh]; exact hh) (by rw [e]; exact g) (S := T) (by rw [e]; exact hTl)) ?_
          rintro r D6 ⟨rfl, hm6⟩
          try dsimp only
          rw [e]
          have hwT := worth_b hv g hTl
          have hwS := worth_b hv g hS
          have hyb : -108900000000000 ≤ y ∧ y ≤ 1100000000000 := by
            rw [hy]; split
            · exact hwS
            · exact worth_b hv g (by omega)
          have hyS : worthS (D2 108) f S ≤ y := by
            rw [hy]; split
            · exact Int.le_refl _
            · next z =>
              rcases bst_is (cdS (openN (D2 108) f) S (worthS (D2 108) f)) (worthS (D2 108) f) T with ⟨q1, _⟩ | ⟨b, q1, _, q3, _⟩
              · exact absurd (hx.trans q1) z
              · rw [hx, q1, Int.toNat_natCast]
                unfold cdS at q3
                simp only [Bool.and_eq_true, decide_eq_true_eq] at q3
                omega
          refine ⟨⟨by omega, by omega⟩, fun z3 => ?_, fun z3 => ?_⟩
          · have hp : cdS (openN (D2 108) f) S (worthS (D2 108) f) T = true := by
              unfold cdS
              simp only [Bool.and_eq_true, decide_eq_true_eq]
              exact ⟨by omega, by omega, by omega, by omega⟩
            rw [if_pos hp] at ih2
            refine ih2 _ _ D6 ?_ (by rw [if_neg (by omega), Int.toNat_natCast]) (hm.tr hm6.m)
            by_cases q1 : x = -1
            · rw [if_pos q1]
            · rw [if_neg q1] at hy ⊢
              rw [if_pos (by rw [← hy]; exact z3)]
          · by_cases hp : cdS (openN (D2 108) f) S (worthS (D2 108) f) T = true
            · rw [if_pos hp] at ih2
              refine ih2 x y D6 ?_ hy (hm.tr hm6.m)
              have hgt : worthS (D2 108) f S < worthS (D2 108) f T := by
                unfold cdS at hp
                simp only [Bool.and_eq_true, decide_eq_true_eq] at hp
                exact hp.2.2.2
              by_cases q1 : x = -1
              · rw [if_pos q1] at hy; omega
              · rw [if_neg q1] at hy ⊢
                rw [if_neg (by rw [← hy]; omega)]
            · exact hskip (by simpa using hp) D6 (hm.tr hm6.m)
    exact key _ hho 0 D3 hm3.m rfl (by rw [Nat.zero_add]; rfl)
  · rw [if_neg g]
    exact mQ.no (by rw [ha, q_climb, if_neg g]) mS.rf
end

-- tokens
def scF (c : Int → Bool) (n : Int) : Nat → Int → Int
  | 0, p => p
  | k + 1, p => if p < n ∧ c p = true then scF c n k (p + 1) else p
def scE (c : Int → Bool) (n p : Int) : Int := scF c n (n - p).toNat p
theorem scE_s {c : Int → Bool} {n p : Int} (h : p < n) (hc : c p = true) : scE c n p = scE c n (p + 1) := by
  unfold scE
  rw [show (n - p).toNat = (n - (p + 1)).toNat + 1 by omega, scF, if_pos ⟨h, hc⟩]
theorem scE_e {c : Int → Bool} {n p : Int} (h : ¬ (p < n ∧ c p = true)) : scE c n p = p := by
  unfold scE
  by_cases q : p < n
  · rw [show (n - p).toNat = (n - (p + 1)).toNat + 1 by omega, scF, if_neg h]
  · rw [show (n - p).toNat = 0 by omega, scF]
theorem scF_b (c : Int → Bool) (n : Int) : ∀ (k : Nat) (p : Int), p ≤ n → p ≤ scF c n k p ∧ scF c n k p ≤ n
  | 0, p, h => by rw [scF]; omega
  | k + 1, p, h => by
    rw [scF]
    split
    · next q => have := scF_b c n k (p + 1) (by omega); omega
    · omega
theorem scE_b {c : Int → Bool} {n p : Int} (h : p ≤ n) : p ≤ scE c n p ∧ scE c n p ≤ n := scF_b c n _ p h
/-- all on the way are of the kind -/
theorem scF_in (c : Int → Bool) (n : Int) : ∀ (k : Nat) (p i : Int), p ≤ i → i < scF c n k p → c i = true
  | 0, p, i, h1, h2 => by rw [scF] at h2; omega
  | k + 1, p, i, h1, h2 => by
    rw [scF] at h2
    split at h2
    · next q =>
      by_cases z : i = p
      · subst z; exact q.2
      · exact scF_in c n k (p + 1) i (by omega) h2
    · omega
theorem scE_in {c : Int → Bool} {n p i : Int} (h1 : p ≤ i) (h2 : i < scE c n p) : c i = true := scF_in c n _ p i h1 h2
def whB (T : Int → Int) (p : Int) : Bool := decide (T p = 10 ∨ T p = 32)
def leB (T : Int → Int) (p : Int) : Bool := decide (97 ≤ T p ∧ T p ≤ 122)
def diB (T : Int → Int) (p : Int) : Bool := decide (48 ≤ T p ∧ T p ≤ 57)
/-- the value of k letters, of k digits -/
def wv (T : Int → Int) (s : Int) : Nat → Int
  | 0 => 0
  | k + 1 => jO (jSl (wv T s k) 8) (T (s + k))
def nv (T : Int → Int) (s : Int) : Nat → Int
  | 0 => 0
  | k + 1 => nv T s k * 10 + (T (s + k) - 48)
/-- a token: kind (0 end, 1 word, 2 number, 3 sign, 4 bad), start, end, value -/
abbrev Tk : Type := Int × Int × Int × Int
def tkAt (T : Int → Int) (n s : Int) : Tk :=
  if n ≤ s then (0, s, s, 0)
  else if leB T s = true then (1, s, scE (leB T) n s, if 8 < scE (leB T) n s - s then 0 else wv T s (scE (leB T) n s - s).toNat)
  else if diB T s = true then (if 2 < scE (diB T) n s - s then (4, s, scE (diB T) n s, 0) else (2, s, scE (diB T) n s, nv T s (scE (diB T) n s - s).toNat))
  else if T s = 59 then (3, s, s + 1, 0) else (4, s, s, 0)
def tokS (T : Int → Int) (n p : Int) : Tk := tkAt T n (scE (whB T) n p)
/-- the class stands at a token -/
def SC (D : Dm) (K : Tk) : Prop := D 23 7 = K.1 ∧ D 23 8 = K.2.1 ∧ (K.1 ≠ 4 → D 23 6 = K.2.2.1) ∧ (K.1 = 1 → D 23 10 = K.2.2.2) ∧ (K.1 = 2 → D 23 9 = K.2.2.2)
theorem SC.mk {D : Dm} {k s e x : Int} (h7 : D 23 7 = k) (h8 : D 23 8 = s) (h6 : k ≠ 4 → D 23 6 = e) (h10 : k = 1 → D 23 10 = x) (h9 : k = 2 → D 23 9 = x) : SC D (k, s, e, x) := ⟨h7, h8, h6, h10, h9⟩
/-- what the class's reader of tokens writes in -/
def stO (D D' : Dm) : Prop := ∀ c i, ¬ (c = 23 ∧ 6 ≤ i ∧ i ≤ 10) → D' c i = D c i
theorem stO.rf {D : Dm} : stO D D := fun _ _ _ => rfl
theorem stO.tr {D D1 D2 : Dm} (h : stO D D1) (h2 : stO D1 D2) : stO D D2 := fun c i p => (h2 c i p).trans (h c i p)
theorem stO.up {D D1 : Dm} (h : stO D D1) {i : Int} (hi : 6 ≤ i ∧ i ≤ 10) (x : Int) : stO D (upd2 D1 23 i x) := fun c j p => by
  rw [← h c j p]; simp only [upd2]; rw [if_neg (by omega)]
theorem stO.c {D D' : Dm} (h : stO D D') {c : Nat} (hc : c ≠ 23) : D' c = D c := funext fun i => h c i (by omega)
theorem nv2 {T : Int → Int} {s : Int} {k : Nat} (hk : k ≤ 2) (h : ∀ i, s ≤ i → i < s + k → diB T i = true) : 0 ≤ nv T s k ∧ nv T s k ≤ 99 := by
  have d : ∀ j : Nat, j < k → 0 ≤ T (s + j) - 48 ∧ T (s + j) - 48 ≤ 9 := fun j hj => by
    have := h (s + j) (by omega) (by omega)
    unfold diB at this
    simp only [decide_eq_true_eq] at this
    omega
  rcases (show k = 0 ∨ k = 1 ∨ k = 2 by omega) with rfl | rfl | rfl
  · simp [nv]
  · have := d 0 (by omega)
    simp only [nv]; omega
  · have d0 := d 0 (by omega)
    have d1 := d 1 (by omega)
    simp only [nv]; omega
section
variable {l : Launch} {E : Ev} {G : Sh} {D : Dm}
theorem c_X6_scanWord (hL : Lay G) {n s : Int} (hn : 0 ≤ n ∧ n ≤ 600) (hs : 0 ≤ s ∧ s < n) (h5 : D 23 5 = n) (h6 : D 23 6 = s) (h8 : D 23 8 = s) (hl : leB (D 24) s = true) : C0 l E MX6_scanWord 2 [vR E 23] G D (fun _ D' => SC D' (tkAt (D 24) n s) ∧ stO D D') := by
  have he := scE_b (c := leB (D 24)) (show s ≤ n by omega)
  have et : tkAt (D 24) n s = (1, s, scE (leB (D 24)) n s, if 8 < scE (leB (D 24)) n s - s then 0 else wv (D 24) s (scE (leB (D 24)) n s - s).toNat) := by
    unfold tkAt; rw [if_neg (by omega), if_pos hl]
  rw [et]
  generalize hT : D 24 = T at *
  refine s_X6_scanWord hL ?_
  refine up_from (P := fun p => ∀ (k : Nat) (D' : Dm), p = s + k → stO D D' → D' 23 6 = p → D' 23 7 = 1 → D' 23 8 = s → D' 23 10 = wv T s k → scE (leB T) n p = scE (leB T) n s → KX6_scanWord l E _ 10 [(0, vR E 23)] G D') (lo := s) (n := scE (leB T) n s) he.1 ?_ ?_ 0 _ (by omega) ((stO.rf.up (by decide) _).up (by decide) _) (by rw [upd2_place _ _ _ (by decide), upd2_place _ _ _ (by decide)]; exact h6) (by rw [upd2_place _ _ _ (by decide), upd2_same]) (by rw [upd2_place _ _ _ (by decide), upd2_place _ _ _ (by decide)]; exact h8) (upd2_same _ _ _ _) rfl
  · intro k D' hp ho g6 g7 g8 g10 hsc
    generalize hE : scE (leB T) n s = e at *
    have g5 : D' 23 5 = n := by rw [ho 23 5 (by omega)]; exact h5
    have g24 : D' 24 = T := by rw [ho.c (by decide)]; exact hT
    have hend : ¬ (e < n ∧ leB T e = true) := fun q => by
      rw [scE_s q.1 q.2] at hsc
      have := scE_b (c := leB T) (show e + 1 ≤ n by omega)
      omega
    have ek : (e - s).toNat = k := by omega
    rw [ek]
    have fin : (e - s ≤ 8 → (G = G ∧ SC D' (1, s, e, if 8 < e - s then 0 else wv T s k) ∧ stO D D')) ∧ (8 < e - s → (G = G ∧ SC (upd2 D' 23 10 0) (1, s, e, if 8 < e - s then 0 else wv T s k) ∧ stO D (upd2 D' 23 10 0))) := by
      refine ⟨fun q => ⟨rfl, SC.mk g7 g8 (fun _ => g6) (fun _ => by rw [g10]; exact (if_neg (by omega)).symm) (fun q => absurd q (by decide)), ho⟩, fun q => ⟨rfl, SC.mk ?_ ?_ (fun _ => ?_) (fun _ => ?_) (fun q => absurd q (by decide)), ho.up (by decide) _⟩⟩
      · rw [upd2_place _ _ _ (by decide)]; exact g7
      · rw [upd2_place _ _ _ (by decide)]; exact g8
      · rw [upd2_place _ _ _ (by decide)]; exact g6
      · rw [upd2_same]; exact (if_pos q).symm
    refine s_X6_scanWord_10 hL ?_
    rw [g5, g6, g8, g24]
    refine ⟨fun _ => ⟨by omega, fin.1, fin.2⟩, fun q => ⟨by omega, fun _ => ⟨by omega, fin.1, fin.2⟩, fun q2 => absurd ⟨q, by unfold leB; exact decide_eq_true q2⟩ hend⟩⟩
  · intro p p0 p1 ih k D' hp ho g6 g7 g8 g10 hsc
    have g5 : D' 23 5 = n := by rw [ho 23 5 (by omega)]; exact h5
    have g24 : D' 24 = T := by rw [ho.c (by decide)]; exact hT
    have hlp : leB T p = true := scE_in p0 p1
    have hlp' : 97 ≤ T p ∧ T p ≤ 122 := by unfold leB at hlp; exact of_decide_eq_true hlp
    refine s_X6_scanWord_10 hL ?_
    rw [g5, g6, g8, g24, g10]
    refine ⟨fun q => absurd q (by omega), fun _ => ⟨by omega, fun q => absurd hlp' q, fun _ => ⟨by omega, ?_⟩⟩⟩
    refine ih (k + 1) _ (by omega) ((ho.up (by decide) _).up (by decide) _) (upd2_same _ _ _ _) ?_ ?_ ?_ ?_
    · rw [upd2_place _ _ _ (by decide), upd2_place _ _ _ (by decide)]; exact g7
    · rw [upd2_place _ _ _ (by decide), upd2_place _ _ _ (by decide)]; exact g8
    · rw [upd2_place _ _ _ (by decide), upd2_same, hp]; rfl
    · rw [← scE_s (by omega) hlp]; exact hsc
theorem c_X6_scanNumber (hL : Lay G) {n s : Int} (hn : 0 ≤ n ∧ n ≤ 600) (hs : 0 ≤ s ∧ s < n) (h5 : D 23 5 = n) (h6 : D 23 6 = s) (h8 : D 23 8 = s) (hl0 : leB (D 24) s = false) (hl : diB (D 24) s = true) : C0 l E MX6_scanNumber 2 [vR E 23] G D (fun _ D' => SC D' (tkAt (D 24) n s) ∧ stO D D') := by
  have he := scE_b (c := diB (D 24)) (show s ≤ n by omega)
  have et : tkAt (D 24) n s = if 2 < scE (diB (D 24)) n s - s then (4, s, scE (diB (D 24)) n s, 0) else (2, s, scE (diB (D 24)) n s, nv (D 24) s (scE (diB (D 24)) n s - s).toNat) := by
    unfold tkAt; rw [if_neg (by omega), if_neg (by rw [hl0]; decide), if_pos hl]
  rw [et]
  generalize hT : D 24 = T at *
  refine s_X6_scanNumber hL ?_
  refine up_from (P := fun p => ∀ (k : Nat) (D' : Dm), p = s + k → stO D D' → D' 23 6 = p → D' 23 8 = s → (k ≤ 2 → D' 23 9 = nv T s k) → scE (diB T) n p = scE (diB T) n s → KX6_scanNumber l E _ 5 [(0, vR E 23)] G D') (lo := s) (n := scE (diB T) n s) he.1 ?_ ?_ 0 _ (by omega) (stO.rf.up (by decide) _) (by rw [upd2_place _ _ _ (by decide)]; exact h6) (by rw [upd2_place _ _ _ (by decide)]; exact h8) (fun _ => upd2_same _ _ _ _) rfl
  · intro k D' hp ho g6 g8 g9 hsc
    generalize hE : scE (diB T) n s = e at *
    have g5 : D' 23 5 = n := by rw [ho 23 5 (by omega)]; exact h5
    have g24 : D' 24 = T := by rw [ho.c (by decide)]; exact hT
    have hend : ¬ (e < n ∧ diB T e = true) := fun q => by
      rw [scE_s q.1 q.2] at hsc
      have := scE_b (c := diB T) (show e + 1 ≤ n by omega)
      omega
    have ek : (e - s).toNat = k := by omega
    rw [ek]
    have fin : (2 < e - s → (G = G ∧ SC (upd2 D' 23 7 4) (if 2 < e - s then (4, s, e, 0) else (2, s, e, nv T s k)) ∧ stO D (upd2 D' 23 7 4))) ∧ (e - s ≤ 2 → (G = G ∧ SC (upd2 D' 23 7 2) (if 2 < e - s then (4, s, e, 0) else (2, s, e, nv T s k)) ∧ stO D (upd2 D' 23 7 2))) := by
      refine ⟨fun q => ⟨rfl, ?_, ho.up (by decide) _⟩, fun q => ⟨rfl, ?_, ho.up (by decide) _⟩⟩
      · rw [if_pos q]
        exact SC.mk (upd2_same _ _ _ _) (by rw [upd2_place _ _ _ (by decide)]; exact g8) (fun z => absurd rfl z) (fun z => absurd z (by decide)) (fun z => absurd z (by decide))
      · rw [if_neg (by omega)]
        exact SC.mk (upd2_same _ _ _ _) (by rw [upd2_place _ _ _ (by decide)]; exact g8) (fun _ => by rw [upd2_place _ _ _ (by decide)]; exact g6) (fun z => absurd z (by decide)) (fun _ => by rw [upd2_place _ _ _ (by decide)]; exact g9 (by omega))
    refine s_X6_scanNumber_5w hL ?_
    rw [g5, g6, g8, g24]
    refine ⟨fun _ => ⟨by omega, fin.1, fin.2⟩, fun q => ⟨by omega, fun _ => ⟨by omega, fin.1, fin.2⟩, fun q2 => absurd ⟨q, by unfold diB; exact decide_eq_true q2⟩ hend⟩⟩
  · intro p p0 p1 ih k D' hp ho g6 g8 g9 hsc
    have g5 : D' 23 5 = n := by rw [ho 23 5 (by omega)]; exact h5
    have g24 : D' 24 = T := by rw [ho.c (by decide)]; exact hT
    have hlp : diB T p = true := scE_in p0 p1
    have hlp' : 48 ≤ T p ∧ T p ≤ 57 := by unfold diB at hlp; exact of_decide_eq_true hlp
    refine s_X6_scanNumber_5w hL ?_
    rw [g5, g6, g8, g24]
    refine ⟨fun q => absurd q (by omega), fun _ => ⟨by omega, fun q => absurd hlp' q, fun _ => ⟨by omega, ?_⟩⟩⟩
    refine ih (k + 1) _ (by omega) ((ho.up (by decide) _).up (by decide) _) (upd2_same _ _ _ _) ?_ (fun hk => ?_) ?_
    · rw [upd2_place _ _ _ (by decide), upd2_place _ _ _ (by decide)]; exact g8
    · have hin : ∀ i, s ≤ i → i < s + ((k + 1 : Nat) : Int) → diB T i = true := fun i a b => scE_in (n := n) a (by omega)
      have hb := nv2 hk hin
      rw [upd2_place _ _ _ (by decide), upd2_same, g9 (by omega), hp]
      have e : nv T s (k + 1) = nv T s k * 10 + (T (s + k) - 48) := rfl
      rw [← e]
      exact toI (by omega)
    · rw [← scE_s (by omega) hlp]; exact hsc
/-- the class's step, where no fault is told -/
theorem c_X6_step (hL : Lay G) {n p : Int} (hn : 0 ≤ n ∧ n ≤ 600) (hp : 0 ≤ p ∧ p ≤ n) (h3 : D 23 3 = 0) (h5 : D 23 5 = n) (h6 : D 23 6 = p) : C0 l E MX6_step 2 [vR E 23] G D (fun _ D' => SC D' (tokS (D 24) n p) ∧ stO D D') := by
  refine s_X6_step hL ⟨fun _ => ?_, fun z => absurd h3 z⟩
  have he := scE_b (c := whB (D 24)) hp.2
  unfold tokS
  generalize hT : D 24 = T at *
  refine up_from (P := fun q => ∀ D', stO D D' → D' 23 6 = q → scE (whB T) n q = scE (whB T) n p → KX6_step l E _ 8 [(0, vR E 23)] G D') (lo := p) (n := scE (whB T) n p) he.1 ?_ ?_ D stO.rf h6 rfl
  · intro D' ho g6 hsc
    generalize hE : scE (whB T) n p = s at *
    have g5 : D' 23 5 = n := by rw [ho 23 5 (by omega)]; exact h5
    have g24 : D' 24 = T := by rw [ho.c (by decide)]; exact hT
    have hend : ¬ (s < n ∧ whB T s = true) := fun q => by
      rw [scE_s q.1 q.2] at hsc
      have := scE_b (c := whB T) (show s + 1 ≤ n by omega)
      omega
    -- the token itself
    have atEnd : n ≤ s → (G = G ∧ SC (upd2 (upd2 D' 23 8 s) 23 7 0) (tkAt T n s) ∧ stO D (upd2 (upd2 D' 23 8 s) 23 7 0)) := fun q => by
      refine ⟨rfl, ?_, (ho.up (by decide) _).up (by decide) _⟩
      unfold tkAt
      rw [if_pos q]
      exact SC.mk (upd2_same _ _ _ _) (by rw [upd2_place _ _ _ (by decide), upd2_same]) (fun _ => by rw [upd2_place _ _ _ (by decide), upd2_place _ _ _ (by decide)]; exact g6) (fun z => absurd z (by decide)) (fun z => absurd z (by decide))
    have tok : s < n → (0 ≤ s ∧ s < 600) ∧ ((¬ (97 ≤ T s ∧ T s ≤ 122) → ((¬ (48 ≤ T s ∧ T s ≤ 57) → ((T s ≠ 59 → (G = G ∧ SC (upd2 (upd2 D' 23 8 s) 23 7 4) (tkAt T n s) ∧ stO D (upd2 (upd2 D' 23 8 s) 23 7 4))) ∧ (T s = 59 → ((-2147483648 ≤ s + 1 ∧ s + 1 < 2147483648)) ∧ (G = G ∧ SC (upd2 (upd2 (upd2 D' 23 8 s) 23 7 3) 23 6 (s + 1)) (tkAt T n s) ∧ stO D (upd2 (upd2 (upd2 D' 23 8 s) 23 7 3) 23 6 (s + 1)))))) ∧ ((48 ≤ T s ∧ T s ≤ 57) → C0 l E MX6_scanNumber 2 [vR E 23] G (upd2 D' 23 8 s) (fun r19 D19 => G = G ∧ SC D19 (tkAt T n s) ∧ stO D D19)))) ∧ ((97 ≤ T s ∧ T s ≤ 122) → C0 l E MX6_scanWord 2 [vR E 23] G (upd2 D' 23 8 s) (fun r22 D22 => G = G ∧ SC D22 (tkAt T n s) ∧ stO D D22))) := by
      intro q
      have ho8 : stO D (upd2 D' 23 8 s) := ho.up (by decide) _
      have g24' : upd2 D' 23 8 s 24 = T := by rw [ho8.c (by decide)]; exact hT
      refine ⟨by omega, fun z => ⟨fun z2 => ⟨fun z3 => ⟨rfl, ?_, ho8.up (by decide) _⟩, fun z3 => ⟨by omega, rfl, ?_, (ho8.up (by decide) _).up (by decide) _⟩⟩, fun z2 => ?_⟩, fun z => ?_⟩
      · unfold tkAt
        rw [if_neg (by omega), if_neg (by unfold leB; simp only [decide_eq_true_eq]; exact z), if_neg (by unfold diB; simp only [decide_eq_true_eq]; exact z2), if_neg z3]
        exact SC.mk (upd2_same _ _ _ _) (by rw [upd2_place _ _ _ (by decide), upd2_same]) (fun y => absurd rfl y) (fun y => absurd y (by decide)) (fun y => absurd y (by decide))
      · unfold tkAt
        rw [if_neg (by omega), if_neg (by unfold leB; simp only [decide_eq_true_eq]; exact z), if_neg (by unfold diB; simp only [decide_eq_true_eq]; exact z2), if_pos z3]
        exact SC.mk (by rw [upd2_place _ _ _ (by decide), upd2_same]) (by rw [upd2_place _ _ _ (by decide), upd2_place _ _ _ (by decide), upd2_same]) (fun _ => upd2_same _ _ _ _) (fun y => absurd y (by decide)) (fun y => absurd y (by decide))
      · refine C0.use (c_X6_scanNumber hL hn (s := s) (by omega) (by rw [upd2_place _ _ _ (by decide)]; exact g5) (by rw [upd2_place _ _ _ (by decide)]; exact g6) (upd2_same _ _ _ _) (by rw [g24']; unfold leB; exact decide_eq_false z) (by rw [g24']; unfold diB; exact decide_eq_true z2)) ?_
        rintro - D3 ⟨h1, h2⟩
        rw [g24'] at h1
        exact ⟨rfl, h1, ho8.tr h2⟩
      · refine C0.use (c_X6_scanWord hL hn (s := s) (by omega) (by rw [upd2_place _ _ _ (by decide)]; exact g5) (by rw [upd2_place _ _ _ (by decide)]; exact g6) (upd2_same _ _ _ _) (by rw [g24']; unfold leB; exact decide_eq_true z)) ?_
        rintro - D3 ⟨h1, h2⟩
        rw [g24'] at h1
        exact ⟨rfl, h1, ho8.tr h2⟩
    refine s_X6_step_8 hL ?_
    rw [g5, g6, g24]
    refine ⟨fun q => ⟨tok, atEnd⟩, fun q => ⟨by omega, fun z => absurd ⟨q, by unfold whB; exact decide_eq_true (Or.inl z)⟩ hend, fun z => ⟨fun z2 => ⟨fun y => (tok y).2, atEnd⟩, fun z2 => absurd ⟨q, by unfold whB; exact decide_eq_true (Or.inr z2)⟩ hend⟩⟩⟩
  · intro q q0 q1 ih D' ho g6 hsc
    have g5 : D' 23 5 = n := by rw [ho 23 5 (by omega)]; exact h5
    have g24 : D' 24 = T := by rw [ho.c (by decide)]; exact hT
    have hw : whB T q = true := scE_in q0 q1
    have hw' : T q = 10 ∨ T q = 32 := by unfold whB at hw; exact of_decide_eq_true hw
    have go := ih (upd2 D' 23 6 (q + 1)) (ho.up (by decide) _) (upd2_same _ _ _ _) (by rw [← scE_s (by omega) hw]; exact hsc)
    refine s_X6_step_8 hL ?_
    rw [g5, g6, g24]
    refine ⟨fun z => absurd z (by omega), fun _ => ⟨by omega, fun z => ⟨by omega, go⟩, fun z => ⟨fun z2 => absurd hw' (by omega), fun z2 => ⟨by omega, go⟩⟩⟩⟩
theorem c_X6_stepF (hL : Lay G) (h3 : D 23 3 ≠ 0) : C0 l E MX6_step 2 [vR E 23] G D (fun _ D' => D' = D) :=
  s_X6_step hL ⟨fun z => absurd z h3, fun _ => ⟨rfl, rfl⟩⟩
end

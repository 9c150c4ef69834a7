-- the class's best exchange
def isFM (q : Nat → Prop) (w : Nat → Int) (r : Int) : Prop := (r = -1 ∧ ∀ T, ¬ q T) ∨ ∃ b : Nat, r = b ∧ q b ∧ ∀ T, q T → w T < w b ∨ (w T = w b ∧ b ≤ T)
theorem fm_bst (p : Nat → Bool) (w : Nat → Int) (n : Nat) : isFM (fun T => T < n ∧ p T = true) w (bstS p w n) := by
  induction n with
  | zero => exact Or.inl ⟨rfl, fun T h => by omega⟩
  | succ k ih =>
    rw [bst_s]
    by_cases hp : p k = true
    · rw [if_pos hp]
      right
      rcases ih with ⟨h1, h2⟩ | ⟨b, h1, h2, h3⟩
      · rw [if_pos h1]
        refine ⟨k, rfl, ⟨by omega, hp⟩, fun T hT => ?_⟩
        rcases Nat.lt_or_ge T k with q | q
        · exact absurd ⟨q, hT.2⟩ (h2 T)
        · have : T = k := by omega
          subst this; exact Or.inr ⟨rfl, Nat.le_refl _⟩
      · rw [h1, if_neg (by omega), Int.toNat_natCast]
        by_cases hlt : w b < w k
        · rw [if_pos hlt]
          refine ⟨k, rfl, ⟨by omega, hp⟩, fun T hT => ?_⟩
          rcases Nat.lt_or_ge T k with q | q
          · rcases h3 T ⟨q, hT.2⟩ with z | z <;> left <;> omega
          · have : T = k := by omega
            subst this; exact Or.inr ⟨rfl, Nat.le_refl _⟩
        · rw [if_neg hlt]
          refine ⟨b, rfl, ⟨by omega, h2.2⟩, fun T hT => ?_⟩
          rcases Nat.lt_or_ge T k with q | q
          · exact h3 T ⟨q, hT.2⟩
          · have : T = k := by omega
            subst this
            have := h2.1
            omega
    · rw [if_neg hp]
      rcases ih with ⟨h1, h2⟩ | ⟨b, h1, h2, h3⟩
      · refine Or.inl ⟨h1, fun T hT => ?_⟩
        rcases Nat.lt_or_ge T k with q | q
        · exact h2 T ⟨q, hT.2⟩
        · have : T = k := by omega
          subst this; exact hp hT.2
      · refine Or.inr ⟨b, h1, ⟨by omega, h2.2⟩, fun T hT => ?_⟩
        rcases Nat.lt_or_ge T k with q | q
        · exact h3 T ⟨q, hT.2⟩
        · have : T = k := by omega
          subst this; exact absurd hT.2 hp
theorem fm_uniq {q : Nat → Prop} {w : Nat → Int} {r r' : Int} (h : isFM q w r) (h' : isFM q w r') : r = r' := by
  rcases h with ⟨h1, h2⟩ | ⟨b, h1, h2, h3⟩ <;> rcases h' with ⟨g1, g2⟩ | ⟨c, g1, g2, g3⟩
  · omega
  · exact absurd g2 (h2 c)
  · exact absurd h2 (g2 b)
  · have a1 := h3 c g2
    have a2 := g3 b h2
    omega
theorem fm_cg {q q' : Nat → Prop} {w : Nat → Int} {r : Int} (h : isFM q w r) (e : ∀ T, q T ↔ q' T) : isFM q' w r := by
  rcases h with ⟨h1, h2⟩ | ⟨b, h1, h2, h3⟩
  · exact Or.inl ⟨h1, fun T hT => h2 T ((e T).2 hT)⟩
  · exact Or.inr ⟨b, h1, (e b).1 h2, fun T hT => h3 T ((e T).2 hT)⟩
theorem fm_new {q : Nat → Prop} {w : Nat → Int} {r : Int} {T0 : Nat} (h : isFM q w r) (hb : r = -1 ∨ w r.toNat < w T0 ∨ (w T0 = w r.toNat ∧ (T0 : Int) < r)) : isFM (fun T => q T ∨ T = T0) w T0 := by
  right
  refine ⟨T0, rfl, Or.inr rfl, fun T hT => ?_⟩
  rcases hT with hT | rfl
  · rcases h with ⟨h1, h2⟩ | ⟨b, h1, h2, h3⟩
    · exact absurd hT (h2 T)
    · rw [h1, Int.toNat_natCast] at hb
      have := h3 T hT
      omega
  · exact Or.inr ⟨rfl, Nat.le_refl _⟩
theorem fm_old {q : Nat → Prop} {w : Nat → Int} {r : Int} {T0 : Nat} (h : isFM q w r) (hne : r ≠ -1) (hb : w T0 < w r.toNat ∨ (w T0 = w r.toNat ∧ r ≤ (T0 : Int))) : isFM (fun T => q T ∨ T = T0) w r := by
  rcases h with ⟨h1, h2⟩ | ⟨b, h1, h2, h3⟩
  · exact absurd h1 hne
  · right
    rw [h1, Int.toNat_natCast] at hb
    refine ⟨b, h1, Or.inl h2, fun T hT => ?_⟩
    rcases hT with hT | rfl
    · exact h3 T hT
    · omega
/-- exchanges tried ahead of (m, k) -/
def visS (o S n m k T : Nat) : Prop := ∃ m' k' : Nat, (m' < m ∨ (m' = m ∧ k' < k)) ∧ k' < n ∧ S.testBit m' = true ∧ (ndf o S).testBit k' = true ∧ T = S ^^^ 2 ^ m' ^^^ 2 ^ k'
theorem pc_one : ∀ x : Fin 1024, pcT x.val = 1 → ∃ k : Fin 10, x.val = 2 ^ k.val := by decide +kernel
theorem pc_pow : ∀ k : Fin 10, pcT (2 ^ k.val) = 1 := by decide +kernel
theorem tb_lt {a n i : Nat} (h : a < 2 ^ n) (hb : a.testBit i = true) : i < n := by
  rcases Nat.lt_or_ge i n with q | q
  · exact q
  · rw [Nat.testBit_lt_two_pow (Nat.lt_of_lt_of_le h (Nat.pow_le_pow_right (by decide) q))] at hb
    cases hb
theorem vis_end {o S n : Nat} (hn : n ≤ 10) (hS : S < 2 ^ n) (ho : o < 2 ^ n) (hSo : ndf S o = 0) (w : Nat → Int) (T : Nat) : (visS o S n n 0 T ∧ w S < w T) ↔ (T < 2 ^ n ∧ cdS o S w T = true) := by
  have h10 : (2 : Nat) ^ n ≤ 2 ^ 10 := Nat.pow_le_pow_right (by decide) hn
  have hbits : ∀ i, S.testBit i = true → o.testBit i = true := by
    intro i hi
    have := ndf_bit S o i
    rw [hSo, Nat.zero_testBit, hi] at this
    cases hoi : o.testBit i <;> simp_all
  constructor
  · rintro ⟨⟨m, k, h1, h2, h3, h4, rfl⟩, hw⟩
    rw [ndf_bit] at h4
    have hko : o.testBit k = true := by cases h : o.testBit k <;> simp_all
    have hkS : S.testBit k = false := by cases h : S.testBit k <;> simp_all
    have hmn : m < n := tb_lt hS h3
    have hmk : m ≠ k := by intro e; subst e; rw [h3] at hkS; cases hkS
    have hm2 : 2 ^ m < 2 ^ n := Nat.pow_lt_pow_right (by decide) hmn
    have hk2 : 2 ^ k < 2 ^ n := Nat.pow_lt_pow_right (by decide) h2
    have hT : S ^^^ 2 ^ m ^^^ 2 ^ k < 2 ^ n := Nat.xor_lt_two_pow (Nat.xor_lt_two_pow hS hm2) hk2
    have tb : ∀ i, (S ^^^ 2 ^ m ^^^ 2 ^ k).testBit i = (S.testBit i ^^ decide (m = i) ^^ decide (k = i)) := by
      intro i; rw [Nat.testBit_xor, Nat.testBit_xor, Nat.testBit_two_pow, Nat.testBit_two_pow]
    refine ⟨hT, ?_⟩
    unfold cdS
    simp only [Bool.and_eq_true, decide_eq_true_eq]
    have e1 : ndf (S ^^^ 2 ^ m ^^^ 2 ^ k) S = 2 ^ k := by
      apply Nat.eq_of_testBit_eq
      intro i
      rw [ndf_bit, tb, Nat.testBit_two_pow]
      by_cases a : m = i
      · subst a; simp [h3]; omega
      · by_cases b : k = i
        · subst b; simp [hkS, a]
        · simp [a, b]
    have e2 : ndf S (S ^^^ 2 ^ m ^^^ 2 ^ k) = 2 ^ m := by
      apply Nat.eq_of_testBit_eq
      intro i
      rw [ndf_bit, tb, Nat.testBit_two_pow]
      by_cases a : m = i
      · subst a; have : ¬ k = m := fun z => hmk z.symm
        simp [h3, this]
      · by_cases b : k = i
        · subst b; simp [hkS, a]
        · simp [a, b]
    refine ⟨?_, ?_, ?_, hw⟩
    · apply Nat.eq_of_testBit_eq
      intro i
      rw [ndf_bit, tb, Nat.zero_testBit]
      by_cases b : k = i
      · subst b; simp [hko]
      · cases hs : S.testBit i with
        | true => simp [hbits i hs]
        | false =>
          have : ¬ m = i := by intro z; subst z; rw [h3] at hs; cases hs
          simp [b, this]
    · rw [e1]; exact pc_pow ⟨k, by omega⟩
    · rw [e2]; exact pc_pow ⟨m, by omega⟩
  · rintro ⟨hT, hc⟩
    unfold cdS at hc
    simp only [Bool.and_eq_true, decide_eq_true_eq] at hc
    obtain ⟨c1, c2, c3, c4⟩ := hc
    refine ⟨?_, c4⟩
    have nb : ∀ A B : Nat, A < 2 ^ n → ndf A B < 1024 := by
      intro A B hA
      have : ndf A B ≤ A := by unfold ndf; rw [xor_sub (by rw [Nat.and_assoc, Nat.and_comm B A, ← Nat.and_assoc, Nat.and_self])]; omega
      omega
    obtain ⟨k, hk⟩ := pc_one ⟨ndf T S, nb T S hT⟩ c2
    obtain ⟨m, hm⟩ := pc_one ⟨ndf S T, nb S T hS⟩ c3
    dsimp only at hk hm
    have bk : ∀ i, (T.testBit i && !S.testBit i) = decide (k.val = i) := by intro i; rw [← ndf_bit, hk, Nat.testBit_two_pow]
    have bm : ∀ i, (S.testBit i && !T.testBit i) = decide (m.val = i) := by intro i; rw [← ndf_bit, hm, Nat.testBit_two_pow]
    have k1 := bk k.val
    have m1 := bm m.val
    simp only [decide_true, Bool.and_eq_true, Bool.not_eq_true'] at k1 m1
    have hkn : k.val < n := tb_lt hT k1.1
    have hmn : m.val < n := tb_lt hS m1.1
    refine ⟨m.val, k.val, Or.inl hmn, hkn, m1.1, ?_, ?_⟩
    · rw [ndf_bit, k1.2]
      have := ndf_bit T o k.val
      rw [c1, Nat.zero_testBit, k1.1] at this
      revert this
      cases o.testBit k.val <;> decide
    · apply Nat.eq_of_testBit_eq
      intro i
      rw [Nat.testBit_xor, Nat.testBit_xor, Nat.testBit_two_pow, Nat.testBit_two_pow, ← bk i, ← bm i]
      cases T.testBit i <;> cases S.testBit i <;> rfl
section
variable {l : Launch} {E : Ev} {G : Sh} {D : Dm} {v : Vl}
/-- what an exchange is told in -/
def eS (D D' : Dm) : Prop := ∀ c i, ¬ scrK c i → ¬ (c = 49 ∧ i = 7) → D' c i = D c i
theorem eS.s {D D' : Dm} (h : eS D D') : cS D D' := fun c i hc => h c i (fun q => hc (by simp only [scrK, scrC] at q ⊢; omega)) (fun q => hc (by simp only [scrC]; omega))
theorem eS.k {D D1 D2 : Dm} (h : eS D D1) (h2 : kS D1 D2) : eS D D2 := fun c i a b => (h2 c i a).trans (h c i a b)
theorem eS.up {D D1 : Dm} (h : eS D D1) (x : Int) : eS D (upd2 D1 49 7 x) := fun c i a b => by
  rw [← h c i a b]
  simp only [upd2]
  rw [if_neg]
  rintro ⟨rfl, rfl⟩
  exact b ⟨rfl, rfl⟩
theorem c_X1_bestExchange (hL : Lay G) (hv : wfV v) (hR : Rd v G D) {f : Int} (hf : 0 ≤ f ∧ f < v 2) {S o : Nat} (hS : S < 2 ^ (v 0).toNat) (ho : o < 2 ^ (v 0).toNat) (hSo : ndf S o = 0) (h7 : D 49 7 = worthS v f S) : C0 l E MX1_bestExchange 0 [vR E 49, vI f, vI S, vI o] G D (fun r D' => r = bex o (worthS v f) (nS v) S ∧ D' 49 7 = (if r = -1 then worthS v f S else worthS v f r.toNat) ∧ eS D D') := by
  have hs := wfS hv
  have h10 := two_le hs
  have hnn : (v 0).toNat ≤ 10 := by omega
  have hndf : ndf o S < 2147483648 := by
    have : ndf o S ≤ o := by unfold ndf; rw [xor_sub (by rw [Nat.and_assoc, Nat.and_comm S o, ← Nat.and_assoc, Nat.and_self])]; omega
    omega
  refine s_X1_bestExchange hL ?_
  refine up_from (P := fun m => ∀ (x : Int) (D' : Dm), isFM (fun T => visS o S (v 0).toNat m.toNat 0 T ∧ worthS v f S < worthS v f T) (worthS v f) x → D' 49 7 = (if x = -1 then worthS v f S else worthS v f x.toNat) → eS D D' → KX1_bestExchange l E _ 6 [(0, vR E 49), (1, vI f), (2, vI S), (3, vI o), (4, vI x), (5, vI m)] G D') (lo := 0) (n := v 0) (by omega) ?_ ?_ (-1) D (Or.inl ⟨rfl, fun T hT => ?_⟩) (by rw [if_pos rfl]; exact h7) (fun _ _ _ _ => rfl)
  · intro x D' hx h7 he
    have e0 : D' 1 0 = v 0 := (he.s.ready hL hR).1.1
    refine s_X1_bestExchange_6 hL ⟨by omega, fun _ => ⟨rfl, ?_, h7, he⟩, fun z => absurd z (by omega)⟩
    exact fm_uniq (fm_cg hx (vis_end hnn hS ho hSo (worthS v f))) (fm_bst _ _ _)
  · intro m m0 m1 ihm x D' hx h7 he
    have e0 : D' 1 0 = v 0 := (he.s.ready hL hR).1.1
    refine s_X1_bestExchange_6 hL ⟨by omega, fun z => absurd z (by omega), fun _ => ?_⟩
    refine up_from (P := fun k => ∀ (x : Int) (D' : Dm), isFM (fun T => visS o S (v 0).toNat m.toNat k.toNat T ∧ worthS v f S < worthS v f T) (worthS v f) x → D' 49 7 = (if x = -1 then worthS v f S else worthS v f x.toNat) → eS D D' → KX1_bestExchange l E _ 21 [(0, vR E 49), (1, vI f), (2, vI S), (3, vI o), (4, vI x), (5, vI m), (6, vI k)] G D') (lo := 0) (n := v 0) (by omega) ?_ ?_ x D' hx h7 he
    · intro x D' hx h7 he
      have e0 : D' 1 0 = v 0 := (he.s.ready hL hR).1.1
      refine s_X1_bestExchange_21 hL ⟨by omega, fun _ => ihm x D' (fm_cg hx (fun T => and_congr_left' ?_)) h7 he, fun z => absurd z (by omega)⟩
      have em : (m + 1).toNat = m.toNat + 1 := by omega
      rw [em]
      constructor
      · rintro ⟨a, b, h1, h2, h3⟩; exact ⟨a, b, by omega, h2, h3⟩
      · rintro ⟨a, b, h1, h2, h3⟩; exact ⟨a, b, by omega, h2, h3⟩
    · intro k k0 k1 ih x D' hx h7 he
      have hR' := he.s.ready hL hR
      have e0 : D' 1 0 = v 0 := hR'.1.1
      have ek : (k + 1).toNat = k.toNat + 1 := by omega
      rw [ek] at ih
      have hskip : ¬ (S.testBit m.toNat = true ∧ (ndf o S).testBit k.toNat = true ∧ worthS v f S < worthS v f (S ^^^ 2 ^ m.toNat ^^^ 2 ^ k.toNat)) → ∀ D', D' 49 7 = (if x = -1 then worthS v f S else worthS v f x.toNat) → eS D D' → KX1_bestExchange l E _ 21 [(0, vR E 49), (1, vI f), (2, vI S), (3, vI o), (4, vI x), (5, vI m), (6, vI (k + 1))] G D' := fun q D' a b => ih x D' (fm_cg hx (fun T => by
        constructor
        · rintro ⟨⟨a, b, h1, h2, h3⟩, h4⟩; exact ⟨⟨a, b, by omega, h2, h3⟩, h4⟩
        · rintro ⟨⟨a, b, h1, h2, h3, h5, h6⟩, h4⟩
          refine ⟨⟨a, b, ?_, h2, h3, h5, h6⟩, h4⟩
          rcases Nat.lt_trichotomy b k.toNat with z | z | z
          · omega
          · by_cases z2 : a = m.toNat
            · subst z; subst z2; subst h6; exact absurd ⟨h3, h5, h4⟩ q
            · omega
          · omega)) a b
      have hS31 : S < 2147483648 := by omega
      refine s_X1_bestExchange_21 hL ⟨by omega, fun z => absurd z (by omega), fun _ => ⟨fun q => hskip (fun z => ?_) D' h7 he, fun q => ?_⟩⟩
      · have := bitI_eq0 m0 (by omega) hS31 q
        rw [z.1] at this; cases this
      · have hbm := bitI_ne0 m0 (by omega) hS31 q
        rw [iN_nat o S (by omega)]
        refine ⟨fun q2 => hskip (fun z => ?_) D' h7 he, fun q2 => ?_⟩
        · have := bitI_eq0 k0 (by omega) hndf q2
          rw [z.2.1] at this; cases this
        · have hbk := bitI_ne0 k0 (by omega) hndf q2
          have hm2 : 2 ^ m.toNat < 2 ^ (v 0).toNat := Nat.pow_lt_pow_right (by decide) (by omega)
          have hk2 : 2 ^ k.toNat < 2 ^ (v 0).toNat := Nat.pow_lt_pow_right (by decide) (by omega)
          have hx1 : S ^^^ 2 ^ m.toNat < 2 ^ (v 0).toNat := Nat.xor_lt_two_pow hS hm2
          have hT : S ^^^ 2 ^ m.toNat ^^^ 2 ^ k.toNat < 2 ^ (v 0).toNat := Nat.xor_lt_two_pow hx1 hk2
          have eT : iX (iX S (iSl 1 m)) (iSl 1 k) = ((S ^^^ 2 ^ m.toNat ^^^ 2 ^ k.toNat : Nat) : Int) := by
            rw [iSl1 (by omega), iSl1 (by omega), iX_nat S _ hS31 (by omega), iX_nat _ _ (by omega) (by omega)]
          rw [eT]
          refine C0.use (c_X5_worthOf hL hv hR' hf hT) ?_
          rintro r D2 ⟨rfl, hk2'⟩
          try dsimp only
          have e7 : D2 49 7 = (if x = -1 then worthS v f S else worthS v f x.toNat) := by rw [← h7]; exact hk2' 49 7 (by simp [scrK])
          have he2 : eS D D2 := he.k hk2'
          have hwT := worth_b hv hf hT
          have hnewq : worthS v f S < worthS v f (S ^^^ 2 ^ m.toNat ^^^ 2 ^ k.toNat) → ∀ T, ((visS o S (v 0).toNat m.toNat k.toNat T ∧ worthS v f S < worthS v f T) ∨ T = (S ^^^ 2 ^ m.toNat ^^^ 2 ^ k.toNat)) ↔ (visS o S (v 0).toNat m.toNat (k.toNat + 1) T ∧ worthS v f S < worthS v f T) := by
            intro hgt T
            constructor
            · rintro (⟨⟨a, b, h1, h2, h3⟩, h4⟩ | rfl)
              · exact ⟨⟨a, b, by omega, h2, h3⟩, h4⟩
              · exact ⟨⟨m.toNat, k.toNat, by omega, by omega, hbm, hbk, rfl⟩, hgt⟩
            · rintro ⟨⟨a, b, h1, h2, h3, h5, h6⟩, h4⟩
              by_cases z : a = m.toNat ∧ b = k.toNat
              · right; rw [h6, z.1, z.2]
              · left; exact ⟨⟨a, b, by omega, h2, h3, h5, h6⟩, h4⟩
          have hxS : x ≠ -1 → worthS v f S < worthS v f x.toNat ∧ x.toNat < 2 ^ (v 0).toNat ∧ 0 ≤ x := by
            intro hne
            rcases hx with ⟨h1, _⟩ | ⟨b, h1, h2, _⟩
            · exact absurd h1 hne
            · obtain ⟨⟨m', k', g1, g2, g3, g4, g5⟩, g6⟩ := h2
              rw [h1, Int.toNat_natCast]
              refine ⟨g6, ?_, by omega⟩
              rw [g5]
              have hm' : m' < (v 0).toNat := tb_lt hS g3
              exact Nat.xor_lt_two_pow (Nat.xor_lt_two_pow hS (Nat.pow_lt_pow_right (by decide) hm')) (Nat.pow_lt_pow_right (by decide) g2)
          have hy : worthS v f S ≤ D2 49 7 := by
            rw [e7]; split
            · exact Int.le_refl _
            · next z => have := (hxS z).1; omega
          have take : D2 49 7 < worthS v f (S ^^^ 2 ^ m.toNat ^^^ 2 ^ k.toNat) ∨ (x ≠ -1 ∧ worthS v f (S ^^^ 2 ^ m.toNat ^^^ 2 ^ k.toNat) = D2 49 7 ∧ ((S ^^^ 2 ^ m.toNat ^^^ 2 ^ k.toNat : Nat) : Int) < x) → KX1_bestExchange l E (fun r G' D' => G' = G ∧ (r = bex o (worthS v f) (nS v) S ∧ D' 49 7 = (if r = -1 then worthS v f S else worthS v f r.toNat) ∧ eS D D')) 21 [(0, vR E 49), (1, vI f), (2, vI S), (3, vI o), (4, vI (S ^^^ 2 ^ m.toNat ^^^ 2 ^ k.toNat : Nat)), (5, vI m), (6, vI (k + 1))] G (upd2 D2 49 7 (worthS v f (S ^^^ 2 ^ m.toNat ^^^ 2 ^ k.toNat))) := by
            intro hb
            have hgt : worthS v f S < worthS v f (S ^^^ 2 ^ m.toNat ^^^ 2 ^ k.toNat) := by
              rcases hb with z | ⟨z1, z2, _⟩
              · omega
              · have := (hxS z1).1
                rw [e7, if_neg z1] at z2; omega
            refine ih _ _ (fm_cg (fm_new hx ?_) (hnewq hgt)) ?_ (he2.up _)
            · by_cases z : x = -1
              · exact Or.inl z
              · rw [e7, if_neg z] at hb
                right
                rcases hb with z1 | ⟨_, z2, z3⟩
                · exact Or.inl z1
                · exact Or.inr ⟨z2, z3⟩
            · rw [if_neg (by omega), Int.toNat_natCast]; exact upd2_same _ _ _ _
          have stay : worthS v f (S ^^^ 2 ^ m.toNat ^^^ 2 ^ k.toNat) ≤ D2 49 7 → (x ≠ -1 → worthS v f (S ^^^ 2 ^ m.toNat ^^^ 2 ^ k.toNat) = D2 49 7 → x ≤ ((S ^^^ 2 ^ m.toNat ^^^ 2 ^ k.toNat : Nat) : Int)) → KX1_bestExchange l E (fun r G' D' => G' = G ∧ (r = bex o (worthS v f) (nS v) S ∧ D' 49 7 = (if r = -1 then worthS v f S else worthS v f r.toNat) ∧ eS D D')) 21 [(0, vR E 49), (1, vI f), (2, vI S), (3, vI o), (4, vI x), (5, vI m), (6, vI (k + 1))] G D2 := by
            intro h1 h2
            by_cases hgt : worthS v f S < worthS v f (S ^^^ 2 ^ m.toNat ^^^ 2 ^ k.toNat)
            · have hne : x ≠ -1 := by
                intro z; rw [e7, if_pos z] at h1; omega
              refine ih x D2 (fm_cg (fm_old hx hne ?_) (hnewq hgt)) e7 he2
              have h3 := h2 hne
              rw [e7, if_neg hne] at h1 h3
              omega
            · exact hskip (fun z => hgt z.2.2) D2 e7 he2
          have hxi : -1 ≤ x ∧ x < 2147483648 := by
            by_cases z : x = -1
            · omega
            · have := hxS z; omega
          refine ⟨by omega, fun z => ⟨fun z2 => take (Or.inl z2), fun z2 => stay z2 (fun _ z3 => absurd z3 z)⟩, fun z => ⟨by omega, fun z2 => ⟨fun z3 => take (Or.inl z3), fun z3 => stay z3 (fun z4 => absurd z2 z4)⟩, fun z2 => ⟨fun z3 => ⟨fun z4 => take (Or.inl z4), fun z4 => stay z4 (fun _ _ => z3)⟩, fun z3 => ⟨fun z4 => take (Or.inl z4), fun z4 => take (Or.inr ⟨z2, z, z3⟩)⟩⟩⟩⟩
  · obtain ⟨⟨a, b, h1, h2⟩, h3⟩ := hT
    have : (0 : Int).toNat = 0 := rfl
    omega
end

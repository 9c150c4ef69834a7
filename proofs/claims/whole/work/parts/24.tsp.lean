/-! ===== the shortest way round ===== -/
theorem xor_sub {a s : Nat} (h : s &&& a = s) : a ^^^ s = a - s := by
  have key : ∀ w a s : Nat, a < 2 ^ w → s &&& a = s → a ^^^ s = a - s := by
    intro w
    induction w with
    | zero =>
      intro a s ha hs
      have ha0 : a = 0 := by simpa using ha
      have := Nat.and_le_right (n := s) (m := a)
      have hs0 : s = 0 := by omega
      subst ha0; subst hs0; rfl
    | succ w ih =>
      intro a s ha hs
      have h2 : s / 2 &&& a / 2 = s / 2 := by rw [← Nat.and_div_two, hs]
      have h1 := ih (a / 2) (s / 2) (by rw [Nat.pow_succ] at ha; omega) h2
      have hle := Nat.and_le_right (n := s) (m := a)
      have hm : s % 2 = 1 → a % 2 = 1 := fun q => (Nat.and_mod_two_eq_one (a := s) (b := a) |>.mp (by rw [hs]; exact q)).2
      have hx := Nat.xor_div_two (a := a) (b := s)
      have hx2 := Nat.xor_mod_two_eq_one (a := a) (b := s)
      have hle2 := Nat.and_le_right (n := s / 2) (m := a / 2)
      omega
  obtain ⟨w, hw⟩ : ∃ w, a < 2 ^ w := ⟨a, Nat.lt_two_pow_self⟩
  exact key w a s hw h
theorem sub_pred {d t set : Nat} (hd : d &&& set = d) (ht : t &&& set = t) (hlt : t < d) : t ≤ (d - 1) &&& set := by
  have key : ∀ w d t set : Nat, d < 2 ^ w → d &&& set = d → t &&& set = t → t < d → t ≤ (d - 1) &&& set := by
    intro w
    induction w with
    | zero => intro d t set hd _ _ hlt; simp at hd; omega
    | succ w ih =>
      intro d t set hw hd ht hlt
      have d2 : d / 2 &&& set / 2 = d / 2 := by rw [← Nat.and_div_two, hd]
      have t2 : t / 2 &&& set / 2 = t / 2 := by rw [← Nat.and_div_two, ht]
      have tm : t % 2 = 1 → set % 2 = 1 := fun q => (Nat.and_mod_two_eq_one (a := t) (b := set) |>.mp (by rw [ht]; exact q)).2
      have x2 := Nat.and_div_two (a := d - 1) (b := set)
      have xm := Nat.and_mod_two_eq_one (a := d - 1) (b := set)
      rcases Nat.mod_two_eq_zero_or_one d with h0 | h1
      · have e : (d - 1) / 2 = d / 2 - 1 := by omega
        rw [e] at x2
        have := ih (d / 2) (t / 2) (set / 2) (by rw [Nat.pow_succ] at hw; omega) d2 t2 (by omega)
        omega
      · have e : (d - 1) / 2 = d / 2 := by omega
        rw [e, d2] at x2
        omega
  obtain ⟨w, hw⟩ : ∃ w, d < 2 ^ w := ⟨d, Nat.lt_two_pow_self⟩
  exact key w d t set hw hd ht hlt
/-- the next larger subset -/
def nxt (set s : Nat) : Nat := set - ((set - s - 1) &&& set)
theorem comp_sub {set s : Nat} (h : s &&& set = s) : (set - s) &&& set = set - s := by
  rw [← xor_sub h]
  apply Nat.eq_of_testBit_eq
  intro i
  have hb : s.testBit i = (s.testBit i && set.testBit i) := by rw [← Nat.testBit_and, h]
  simp only [Nat.testBit_and, Nat.testBit_xor]
  cases h1 : s.testBit i <;> cases h2 : set.testBit i <;> simp_all
theorem nxt_gt {set s : Nat} (h : s &&& set = s) (hlt : s < set) : s < nxt set s := by
  have := Nat.and_le_left (n := set - s - 1) (m := set)
  unfold nxt; omega
theorem and_sub' (a b : Nat) : (a &&& b) &&& b = a &&& b := by
  apply Nat.eq_of_testBit_eq
  intro i
  simp only [Nat.testBit_and]
  cases a.testBit i <;> cases b.testBit i <;> rfl
theorem nxt_sub {set s : Nat} : nxt set s &&& set = nxt set s := comp_sub (and_sub' _ _)
theorem nxt_le {set s : Nat} : nxt set s ≤ set := Nat.sub_le _ _
theorem nxt_least {set s t : Nat} (h : s &&& set = s) (ht : t &&& set = t) (hlt : s < t) : nxt set s ≤ t := by
  have htle : t ≤ set := by have := Nat.and_le_right (n := t) (m := set); omega
  have := sub_pred (comp_sub h) (comp_sub ht) (show set - t < set - s by omega)
  unfold nxt; omega
theorem iX_m1 (m : Nat) (h : m < 2147483648) : iX m (-1) = -(m : Int) - 1 := by
  have e : iX m (-1) = (~~~(Int32.ofInt m)).toInt := by
    unfold iX
    congr 1
    rw [← Int32.toBitVec_inj]
    have h1 : (Int32.ofInt (-1)).toBitVec = BitVec.allOnes 32 := by decide
    simp [h1]
  rw [e]
  rw [Int32.toInt_not, toI (by omega), Int.bmod_eq_of_le (by omega) (by omega)]
theorem iA_comm (x y : Int) : iA x y = iA y x := by unfold iA; rw [Int32.and_comm]
theorem ndf_sub (a b : Nat) : ndf a b = a - (b &&& a) := by
  unfold ndf
  rw [Nat.and_comm a b]
  exact xor_sub (and_sub' b a)
theorem nxt_I {set s : Nat} (hlt : s < set) (hb : set < 2147483648) : iA ((s : Int) - (set : Int)) set = ((nxt set s : Nat) : Int) := by
  have e : (s : Int) - (set : Int) = iX ((set - s - 1 : Nat) : Int) (-1) := by rw [iX_m1 _ (by omega)]; omega
  rw [e, iA_comm, iN_nat set (set - s - 1) hb, ndf_sub]
  rfl
theorem nxt_0 {set : Nat} (hlt : 0 < set) (hb : set < 2147483648) : iA set (-(set : Int)) = ((nxt set 0 : Nat) : Int) := by
  rw [iA_comm]
  have := nxt_I (s := 0) hlt hb
  rw [← this]
  congr 1
  omega
theorem nxt_end {set : Nat} : iA ((set : Int) - (set : Int)) set = 0 := by
  rw [Int.sub_self]
  unfold iA
  have : Int32.ofInt 0 = 0 := by decide
  rw [this, Int32.zero_and]
  decide
theorem rest_eq {S k : Nat} (h : S.testBit k = true) : ndf S (2 ^ k) = S ^^^ 2 ^ k := by
  apply Nat.eq_of_testBit_eq
  intro i
  rw [ndf_bit, Nat.testBit_xor, Nat.testBit_two_pow]
  by_cases hi : k = i
  · subst hi; simp [h]
  · simp [hi]
theorem rest_sub {S k : Nat} (h : S.testBit k = true) : 2 ^ k &&& S = 2 ^ k := by
  apply Nat.eq_of_testBit_eq
  intro i
  rw [Nat.testBit_and, Nat.testBit_two_pow]
  by_cases hi : k = i
  · subst hi; simp [h]
  · simp [hi]
theorem rest_lt {S k : Nat} (h : S.testBit k = true) : S ^^^ 2 ^ k < S := by
  rw [xor_sub (rest_sub h)]
  have h1 : 2 ^ k ≤ S := by have := Nat.and_le_right (n := 2 ^ k) (m := S); rw [rest_sub h] at this; exact this
  have h2 : 0 < 2 ^ k := Nat.two_pow_pos k
  omega
theorem rest_in {S k set : Nat} (h : S.testBit k = true) (hs : S &&& set = S) : (S ^^^ 2 ^ k) &&& set = S ^^^ 2 ^ k := by
  apply Nat.eq_of_testBit_eq
  intro i
  have hb : S.testBit i = (S.testBit i && set.testBit i) := by rw [← Nat.testBit_and, hs]
  rw [Nat.testBit_and, Nat.testBit_xor, Nat.testBit_two_pow]
  by_cases hi : k = i
  · subst hi; simp [h]
  · cases h1 : S.testBit i <;> cases h2 : set.testBit i <;> simp_all
theorem bit_lt {S n i : Nat} (h : S < 2 ^ n) (hb : S.testBit i = true) : i < n := by
  rcases Nat.lt_or_ge i n with q | q
  · exact q
  · rw [Nat.testBit_lt_two_pow (Nat.lt_of_lt_of_le h (Nat.pow_le_pow_right (by decide) q))] at hb
    cases hb
/-- the least of g over those that c says -/
def mnF (c : Int → Bool) (g : Int → Int) (A : Int) (n : Nat) : Int := fz (fun j m => if c j then min m (g j) else m) A n
theorem mn_s (c : Int → Bool) (g : Int → Int) (A : Int) {i : Int} (h : 0 ≤ i) : mnF c g A (i + 1).toNat = if c i then min (mnF c g A i.toNat) (g i) else mnF c g A i.toNat := fz_s _ _ h
theorem mn_n (c : Int → Bool) (g : Int → Int) (A : Int) (k : Nat) : mnF c g A (k + 1) = if c k then min (mnF c g A k) (g k) else mnF c g A k := rfl
theorem mn_A (c : Int → Bool) (g : Int → Int) (A : Int) (n : Nat) : mnF c g A n ≤ A := by
  induction n with
  | zero => exact Int.le_refl _
  | succ k ih => rw [mn_n]; split <;> omega
theorem mn_le {c : Int → Bool} {g : Int → Int} {A : Int} {n : Nat} {j : Int} (h0 : 0 ≤ j) (h1 : j < n) (hc : c j = true) : mnF c g A n ≤ g j := by
  induction n with
  | zero => omega
  | succ k ih =>
    rw [mn_n]
    by_cases hj : j = k
    · subst hj; rw [if_pos hc]; omega
    · have := ih (by omega)
      split <;> omega
theorem mn_ge {c : Int → Bool} {g : Int → Int} {A B : Int} {n : Nat} (hA : B ≤ A) (h : ∀ j : Int, 0 ≤ j → j < n → c j = true → B ≤ g j) : B ≤ mnF c g A n := by
  induction n with
  | zero => exact hA
  | succ k ih =>
    have h1 := ih (fun j h0 h1 hc => h j h0 (by omega) hc)
    rw [mn_n]
    split
    · next hc => have := h k (by omega) (by omega) hc; omega
    · exact h1
theorem mn_congr {c : Int → Bool} {g g' : Int → Int} {A : Int} {n : Nat} (h : ∀ j : Int, 0 ≤ j → j < n → c j = true → g j = g' j) : mnF c g A n = mnF c g' A n := by
  refine fz_congr (fun i x h0 h1 => ?_)
  split
  · next hc => rw [h i h0 h1 hc]
  · rfl
theorem mn_min (c : Int → Bool) (g : Int → Int) (A B : Int) (n : Nat) : mnF c g (min A B) n = min A (mnF c g B n) := by
  induction n with
  | zero => rfl
  | succ k ih => rw [mn_n, mn_n, ih]; split <;> omega
theorem mn_none {c : Int → Bool} {g : Int → Int} {A : Int} {n : Nat} (h : ∀ j : Int, 0 ≤ j → j < n → c j = false) : mnF c g A n = A := by
  induction n with
  | zero => rfl
  | succ k ih => rw [mn_n, h k (by omega) (by omega)]; simp; exact ih (fun j h0 h1 => h j h0 (by omega))
/-- from home to a strip; from strip to strip -/
def hmS (v : Vl) (f k : Int) : Int := ((Int.natAbs (v ((8 + (5 * k)) + 0) - v ((88 + (3 * f)) + 0)) : Nat) : Int) + ((Int.natAbs (v ((8 + (5 * k)) + 1) - v ((88 + (3 * f)) + 1)) : Nat) : Int)
def apS (v : Vl) (j k : Int) : Int := ((Int.natAbs (v ((8 + (5 * k)) + 0) - v ((8 + (5 * j)) + 0)) : Nat) : Int) + ((Int.natAbs (v ((8 + (5 * k)) + 1) - v ((8 + (5 * j)) + 1)) : Nat) : Int)
theorem hm_b {v : Vl} (hv : wfV v) {f k : Int} (hf : 0 ≤ f ∧ f < v 2) (hk : 0 ≤ k ∧ k < v 0) : 0 ≤ hmS v f k ∧ hmS v f k ≤ 198 := by
  have h1 := wfs hv hk.1 hk.2
  have h2 := wff hv hf.1 hf.2
  unfold hmS; omega
theorem ap_b {v : Vl} (hv : wfV v) {j k : Int} (hj : 0 ≤ j ∧ j < v 0) (hk : 0 ≤ k ∧ k < v 0) : 0 ≤ apS v j k ∧ apS v j k ≤ 198 := by
  have h1 := wfs hv hk.1 hk.2
  have h2 := wfs hv hj.1 hj.2
  unfold apS; omega
def wayF (v : Vl) (f : Int) : Nat → Nat → Int → Int
  | 0, _, _ => 0
  | n + 1, S, k => mnF (fun j => (S ^^^ 2 ^ k.toNat).testBit j.toNat) (fun j => wayF v f n (S ^^^ 2 ^ k.toNat) j + apS v j k) (if S ^^^ 2 ^ k.toNat = 0 then hmS v f k else 1000000) (v 0).toNat
/-- the shortest way from home through S to its strip k -/
def wayS (v : Vl) (f : Int) (S : Nat) (k : Int) : Int := wayF v f S S k
theorem way_st {v : Vl} {f : Int} : ∀ (N S n m : Nat) (k : Int), S ≤ N → S ≤ n → S ≤ m → S.testBit k.toNat = true → wayF v f n S k = wayF v f m S k := by
  intro N
  induction N with
  | zero => intro S n m k h _ _ hb; have : S = 0 := by omega
            subst this; simp at hb
  | succ N ih =>
    intro S n m k hN hn hm hb
    have hlt := rest_lt hb
    obtain ⟨n, rfl⟩ : ∃ n', n = n' + 1 := ⟨n - 1, by omega⟩
    obtain ⟨m, rfl⟩ : ∃ m', m = m' + 1 := ⟨m - 1, by omega⟩
    show mnF _ _ _ _ = mnF _ _ _ _
    refine mn_congr (fun j h0 h1 hc => ?_)
    rw [ih (S ^^^ 2 ^ k.toNat) n m j (by omega) (by omega) (by omega) hc]
theorem way_eq {v : Vl} {f : Int} {S : Nat} {k : Int} (hb : S.testBit k.toNat = true) : wayS v f S k = mnF (fun j => (S ^^^ 2 ^ k.toNat).testBit j.toNat) (fun j => wayS v f (S ^^^ 2 ^ k.toNat) j + apS v j k) (if S ^^^ 2 ^ k.toNat = 0 then hmS v f k else 1000000) (v 0).toNat := by
  have hlt := rest_lt hb
  unfold wayS
  obtain ⟨n, hn⟩ : ∃ n, S = n + 1 := ⟨S - 1, by omega⟩
  have e : wayF v f S S k = wayF v f (n + 1) S k := by rw [← hn]
  rw [e]
  show mnF _ _ _ _ = _
  refine mn_congr (fun j h0 h1 hc => ?_)
  rw [way_st S (S ^^^ 2 ^ k.toNat) n (S ^^^ 2 ^ k.toNat) j (by omega) (by omega) (by omega) hc]
theorem way_b {v : Vl} (hv : wfV v) {f : Int} (hf : 0 ≤ f ∧ f < v 2) : ∀ (N S : Nat) (k : Int), S ≤ N → S < 2 ^ (v 0).toNat → 0 ≤ k → S.testBit k.toNat = true → 0 ≤ wayS v f S k ∧ wayS v f S k ≤ 198 * S := by
  have hS := wfS hv
  intro N
  induction N with
  | zero => intro S k h _ _ hb; have : S = 0 := by omega
            subst this; simp at hb
  | succ N ih =>
    intro S k hN hlt h0 hb
    have hr := rest_lt hb
    have hk := bit_lt hlt hb
    have hh := hm_b hv hf (k := k) ⟨h0, by omega⟩
    rw [way_eq hb]
    refine ⟨mn_ge (by split <;> omega) (fun j j0 j1 hc => ?_), ?_⟩
    · have h1 := ih (S ^^^ 2 ^ k.toNat) j (by omega) (by omega) j0 hc
      have h2 := ap_b hv (j := j) (k := k) ⟨j0, by omega⟩ ⟨h0, by omega⟩
      omega
    · by_cases hz : S ^^^ 2 ^ k.toNat = 0
      · rw [if_pos hz]
        have := mn_A (fun j => (S ^^^ 2 ^ k.toNat).testBit j.toNat) (fun j => wayS v f (S ^^^ 2 ^ k.toNat) j + apS v j k) (hmS v f k) (v 0).toNat
        omega
      · obtain ⟨i, hi⟩ := Nat.exists_testBit_of_ne_zero hz
        have hi2 := bit_lt (show S ^^^ 2 ^ k.toNat < 2 ^ (v 0).toNat by omega) hi
        have h1 := ih (S ^^^ 2 ^ k.toNat) i (by omega) (by omega) (by omega) (by rw [Int.toNat_natCast]; exact hi)
        have h2 := ap_b hv (j := i) (k := k) (by omega) ⟨h0, by omega⟩
        have h3 := mn_le (c := fun j => (S ^^^ 2 ^ k.toNat).testBit j.toNat) (g := fun j => wayS v f (S ^^^ 2 ^ k.toNat) j + apS v j k) (A := if S ^^^ 2 ^ k.toNat = 0 then hmS v f k else 1000000) (n := (v 0).toNat) (j := i) (by omega) (by omega) (by simpa using hi)
        omega
/-- the shortest way round -/
def rndS (v : Vl) (f : Int) (S : Nat) : Int := if S = 0 then 0 else mnF (fun k => S.testBit k.toNat) (fun k => wayS v f S k + hmS v f k) 1000000 (v 0).toNat
theorem rnd_b {v : Vl} (hv : wfV v) {f : Int} (hf : 0 ≤ f ∧ f < v 2) {S : Nat} (hlt : S < 2 ^ (v 0).toNat) : 0 ≤ rndS v f S ∧ rndS v f S ≤ 1000000 := by
  have hS := wfS hv
  unfold rndS
  split
  · omega
  · refine ⟨mn_ge (by omega) (fun k k0 k1 hc => ?_), mn_A _ _ _ _⟩
    have h1 := way_b hv hf S S k (Nat.le_refl _) hlt k0 hc
    have h2 := hm_b hv hf (k := k) ⟨k0, by omega⟩
    omega

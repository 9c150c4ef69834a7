/-! ===== loops ===== -/
theorem C0.use {l : Launch} {E : Ev} {M : Mt} {κ : Nat} {as : List Value} {G : Sh} {D : Dm} {P P' : Int → Dm → Prop} (h : C0 l E M κ as G D P) (k : ∀ r D', P r D' → P' r D') : C0 l E M κ as G D P' :=
  Ct.mono h (fun r _ D' q => ⟨q.1, k r D' q.2⟩)
theorem up_from {P : Int → Prop} {lo n : Int} (hlo : lo ≤ n) (he : P n) (h : ∀ i, lo ≤ i → i < n → P (i + 1) → P i) : P lo := by
  obtain ⟨k, hk⟩ : ∃ k : Nat, n = lo + k := ⟨(n - lo).toNat, by omega⟩
  subst hk
  induction k generalizing lo with
  | zero => simpa using he
  | succ k ih =>
    refine h lo (Int.le_refl _) (by omega) ?_
    refine ih (by omega) ?_ (fun i h1 h2 => h i (by omega) (by omega))
    have e : lo + 1 + (k : Int) = lo + ((k + 1 : Nat) : Int) := by omega
    rw [e]; exact he
theorem down_from {P : Int → Prop} {lo n : Int} (hlo : lo ≤ n) (he : P lo) (h : ∀ i, lo < i → i ≤ n → P (i - 1) → P i) : P n := by
  obtain ⟨k, hk⟩ : ∃ k : Nat, n = lo + k := ⟨(n - lo).toNat, by omega⟩
  subst hk
  induction k with
  | zero => simpa using he
  | succ k ih =>
    refine h _ (by omega) (Int.le_refl _) ?_
    have e : lo + ((k + 1 : Nat) : Int) - 1 = lo + (k : Int) := by omega
    rw [e]
    exact ih (by omega) (fun i h1 h2 => h i h1 (by omega))
theorem by_meas {α : Type} (μ : α → Nat) {P : α → Prop} (h : ∀ a, (∀ b, μ b < μ a → P b) → P a) (a : α) : P a := by
  have key : ∀ n a, μ a < n → P a := by
    intro n
    induction n with
    | zero => intro a ha; omega
    | succ n ih => intro a ha; exact h a (fun b hb => ih b (by omega))
  exact key (μ a + 1) a (by omega)
/-- a fold over 0 .. n-1 -/
def fz {α : Type} (f : Int → α → α) (a : α) : Nat → α
  | 0 => a
  | k + 1 => f k (fz f a k)
theorem fz_0 {α : Type} (f : Int → α → α) (a : α) : fz f a 0 = a := rfl
theorem fz_s {α : Type} (f : Int → α → α) (a : α) {i : Int} (h : 0 ≤ i) : fz f a (i + 1).toNat = f i (fz f a i.toNat) := by
  obtain ⟨k, rfl⟩ : ∃ k : Nat, i = k := ⟨i.toNat, by omega⟩
  have e : ((k : Int) + 1).toNat = k + 1 := by omega
  rw [e]
  show f k (fz f a k) = f k (fz f a ((k : Int)).toNat)
  rw [Int.toNat_natCast]
theorem fz_congr {α : Type} {f g : Int → α → α} {a : α} {n : Nat} (h : ∀ (i : Int) (x : α), 0 ≤ i → i < n → f i x = g i x) : fz f a n = fz g a n := by
  induction n with
  | zero => rfl
  | succ k ih =>
    show f k (fz f a k) = g k (fz g a k)
    rw [ih (fun i x h1 h2 => h i x h1 (by omega)), h k _ (by omega) (by omega)]
/-- sums -/
def sz (f : Int → Int) (n : Nat) : Int := fz (fun i s => s + f i) 0 n
theorem sz_0 (f : Int → Int) : sz f 0 = 0 := rfl
theorem sz_s (f : Int → Int) {i : Int} (h : 0 ≤ i) : sz f (i + 1).toNat = sz f i.toNat + f i := fz_s _ _ h
theorem sz_n (f : Int → Int) (k : Nat) : sz f (k + 1) = sz f k + f k := rfl
theorem sz_congr {f g : Int → Int} {n : Nat} (h : ∀ i : Int, 0 ≤ i → i < n → f i = g i) : sz f n = sz g n := fz_congr (fun i x h1 h2 => by rw [h i h1 h2])
theorem sz_add (f g : Int → Int) (n : Nat) : sz (fun i => f i + g i) n = sz f n + sz g n := by
  induction n with
  | zero => rfl
  | succ k ih => rw [sz_n, sz_n, sz_n, ih]; omega
theorem sz_mul (c : Int) (f : Int → Int) (n : Nat) : sz (fun i => c * f i) n = c * sz f n := by
  induction n with
  | zero => simp [sz_0]
  | succ k ih => rw [sz_n, sz_n, ih, Int.mul_add]
theorem sz_bnd {f : Int → Int} {n : Nat} {a b : Int} (h : ∀ i : Int, 0 ≤ i → i < n → a ≤ f i ∧ f i ≤ b) : n * a ≤ sz f n ∧ sz f n ≤ n * b := by
  induction n with
  | zero => simp [sz_0]
  | succ k ih =>
    have h1 := ih (fun i h1 h2 => h i h1 (by omega))
    have h2 := h k (by omega) (by omega)
    have e1 : ((k + 1 : Nat) : Int) * a = k * a + a := by rw [Int.natCast_succ, Int.add_mul, Int.one_mul]
    have e2 : ((k + 1 : Nat) : Int) * b = k * b + b := by rw [Int.natCast_succ, Int.add_mul, Int.one_mul]
    rw [sz_n, e1, e2]
    omega
/-! ===== bits ===== -/
theorem iA_nat (a b : Nat) (ha : a < 2147483648) : iA a b = ((a &&& b : Nat) : Int) := by
  unfold iA
  rw [Int32.ofInt_eq_ofNat, Int32.ofInt_eq_ofNat]
  have e : Int32.ofNat a &&& Int32.ofNat b = Int32.ofNat (a &&& b) := by
    rw [← Int32.toBitVec_inj]; simp
  rw [e, Int32.toInt_ofNat_of_lt]
  have := Nat.and_le_left (n := a) (m := b)
  omega
theorem iO_nat (a b : Nat) (ha : a < 2147483648) (hb : b < 2147483648) : iO a b = ((a ||| b : Nat) : Int) := by
  unfold iO
  rw [Int32.ofInt_eq_ofNat, Int32.ofInt_eq_ofNat]
  have e : Int32.ofNat a ||| Int32.ofNat b = Int32.ofNat (a ||| b) := by
    rw [← Int32.toBitVec_inj]; simp
  rw [e, Int32.toInt_ofNat_of_lt]
  exact Nat.or_lt_two_pow (n := 31) ha hb
theorem iX_nat (a b : Nat) (ha : a < 2147483648) (hb : b < 2147483648) : iX a b = ((a ^^^ b : Nat) : Int) := by
  unfold iX
  rw [Int32.ofInt_eq_ofNat, Int32.ofInt_eq_ofNat]
  have e : Int32.ofNat a ^^^ Int32.ofNat b = Int32.ofNat (a ^^^ b) := by
    rw [← Int32.toBitVec_inj]; simp
  rw [e, Int32.toInt_ofNat_of_lt]
  exact Nat.xor_lt_two_pow (n := 31) ha hb
theorem sh32 : ∀ k : Fin 32, ((Int32.ofNat k.val &&& 31).toBitVec.smod 32).toNat = k.val := by decide +kernel
theorem iSl_nat (a k : Nat) (hk : k < 32) (h : a * 2 ^ k < 2147483648) : iSl a k = ((a * 2 ^ k : Nat) : Int) := by
  unfold iSl
  rw [Int32.ofInt_eq_ofNat, Int32.ofInt_eq_ofNat]
  have e : Int32.ofNat a <<< (Int32.ofNat k &&& 31) = Int32.ofNat (a * 2 ^ k) := pk_shlN (n := a) _ k (sh32 ⟨k, hk⟩) (by omega)
  rw [e, Int32.toInt_ofNat_of_lt (by omega)]
theorem iSr_nat (a k : Nat) (hk : k < 32) (h : a < 2147483648) : iSr a k = ((a / 2 ^ k : Nat) : Int) := by
  unfold iSr
  rw [Int32.ofInt_eq_ofNat, Int32.ofInt_eq_ofNat]
  have e : Int32.ofNat a >>> (Int32.ofNat k &&& 31) = Int32.ofNat (a / 2 ^ k) := pk_shrN (n := a) (by omega) _ k (sh32 ⟨k, hk⟩)
  rw [e, Int32.toInt_ofNat_of_lt]
  have := Nat.div_le_self a (2 ^ k)
  omega
theorem iB_nat (a k : Nat) (hk : k < 32) (h : a < 2147483648) : iA (iSr a k) 1 = if a.testBit k then 1 else 0 := by
  rw [iSr_nat a k hk h]
  have h2 : a / 2 ^ k < 2147483648 := by have := Nat.div_le_self a (2 ^ k); omega
  have e := iA_nat (a / 2 ^ k) 1 h2
  rw [show ((1 : Nat) : Int) = 1 from rfl] at e
  rw [e, Nat.and_one_is_mod, Nat.testBit_eq_decide_div_mod_eq]
  by_cases hb : a / 2 ^ k % 2 = 1
  · simp [hb]
  · have : a / 2 ^ k % 2 = 0 := by omega
    simp [this]
/-- the bit k of a, asked as the program asks -/
theorem bit_ne {a k : Nat} (hk : k < 32) (h : a < 2147483648) : iA (iSr a k) 1 ≠ 0 ↔ a.testBit k = true := by
  rw [iB_nat a k hk h]; cases a.testBit k <;> simp
theorem bit_eq1 {a k : Nat} (hk : k < 32) (h : a < 2147483648) : iA (iSr a k) 1 = 1 ↔ a.testBit k = true := by
  rw [iB_nat a k hk h]; cases a.testBit k <;> simp
theorem bit_eq0 {a k : Nat} (hk : k < 32) (h : a < 2147483648) : iA (iSr a k) 1 = 0 ↔ a.testBit k = false := by
  rw [iB_nat a k hk h]; cases a.testBit k <;> simp
/-- those of a that are not in b -/
def ndf (a b : Nat) : Nat := a ^^^ (a &&& b)
theorem ndf_bit (a b i : Nat) : (ndf a b).testBit i = (a.testBit i && !b.testBit i) := by
  simp only [ndf, Nat.testBit_xor, Nat.testBit_and]
  cases a.testBit i <;> cases b.testBit i <;> rfl
theorem iN_nat (a b : Nat) (ha : a < 2147483648) : iA a (iX b (-1)) = ((ndf a b : Nat) : Int) := by
  have e0 : Int32.ofInt (iX b (-1)) = Int32.ofInt b ^^^ Int32.ofInt (-1) := by unfold iX; exact Int32.ofInt_toInt _
  unfold iA
  rw [e0, Int32.ofInt_eq_ofNat, Int32.ofInt_eq_ofNat]
  have e : Int32.ofNat a &&& (Int32.ofNat b ^^^ Int32.ofInt (-1)) = Int32.ofNat (ndf a b) := by
    rw [← Int32.toBitVec_inj]
    apply BitVec.eq_of_getLsbD_eq
    intro i hi
    have h1 : (Int32.ofInt (-1)).toBitVec = BitVec.allOnes 32 := by decide
    simp only [Int32.toBitVec_and, Int32.toBitVec_xor, h1, Int32.toBitVec_ofNat', BitVec.getLsbD_and, BitVec.getLsbD_xor, BitVec.getLsbD_ofNat, BitVec.getLsbD_allOnes, ndf_bit]
    simp [hi]
  rw [e, Int32.toInt_ofNat_of_lt]
  exact Nat.lt_pow_two_of_testBit _ (fun i hi => by rw [ndf_bit, Nat.testBit_lt_two_pow (Nat.lt_of_lt_of_le (show a < 2 ^ 31 from ha) (Nat.pow_le_pow_right (by decide) hi))]; rfl)
theorem p2 (k : Nat) : iSl 1 k = iSl ((1 : Nat) : Int) k := rfl
theorem iP_nat (k : Nat) (hk : k < 31) : iSl 1 k = ((2 ^ k : Nat) : Int) := by
  have h : 2 ^ k < 2 ^ 31 := Nat.pow_lt_pow_right (by decide) hk
  have e := iSl_nat 1 k (by omega) (by rw [Nat.one_mul]; exact h)
  rw [Nat.one_mul] at e
  exact e
theorem mulB {a b A B : Int} (ha : 0 ≤ a ∧ a ≤ A) (hb : 0 ≤ b ∧ b ≤ B) : 0 ≤ a * b ∧ a * b ≤ A * B :=
  ⟨Int.mul_nonneg ha.1 hb.1, Int.mul_le_mul ha.2 hb.2 hb.1 (by omega)⟩

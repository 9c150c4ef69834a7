/-! ===== what both sides compute, over the village v (as the reference lays it out) ===== -/
abbrev Vl : Type := Int → Int
def wfV (v : Vl) : Prop := (0 ≤ v 0 ∧ v 0 ≤ 10) ∧ (0 ≤ v 1 ∧ v 1 ≤ 6) ∧ (0 ≤ v 2 ∧ v 2 ≤ 4) ∧ (1 ≤ v 3 ∧ v 3 ≤ 99) ∧ (0 ≤ v 4 ∧ v 4 ≤ 99)
  ∧ (∀ s, 0 ≤ s → s < v 0 → (0 ≤ v ((8 + (5 * s)) + 0) ∧ v ((8 + (5 * s)) + 0) ≤ 99) ∧ (0 ≤ v ((8 + (5 * s)) + 1) ∧ v ((8 + (5 * s)) + 1) ≤ 99) ∧ (1 ≤ v ((8 + (5 * s)) + 2) ∧ v ((8 + (5 * s)) + 2) ≤ 99) ∧ (1 ≤ v ((8 + (5 * s)) + 3) ∧ v ((8 + (5 * s)) + 3) ≤ 3) ∧ (-1 ≤ v ((8 + (5 * s)) + 4) ∧ v ((8 + (5 * s)) + 4) < v 2))
  ∧ (∀ h, 0 ≤ h → h < v 1 → (0 ≤ v ((58 + (5 * h)) + 0) ∧ v ((58 + (5 * h)) + 0) ≤ 3) ∧ (0 ≤ v ((58 + (5 * h)) + 1) ∧ v ((58 + (5 * h)) + 1) ≤ 99) ∧ (0 ≤ v ((58 + (5 * h)) + 2) ∧ v ((58 + (5 * h)) + 2) ≤ 99) ∧ (0 ≤ v ((58 + (5 * h)) + 3) ∧ v ((58 + (5 * h)) + 3) ≤ 8) ∧ (0 ≤ v ((58 + (5 * h)) + 4) ∧ v ((58 + (5 * h)) + 4) ≤ 16))
  ∧ (∀ f, 0 ≤ f → f < v 2 → (0 ≤ v ((88 + (3 * f)) + 0) ∧ v ((88 + (3 * f)) + 0) ≤ 99) ∧ (0 ≤ v ((88 + (3 * f)) + 1) ∧ v ((88 + (3 * f)) + 1) ≤ 99) ∧ (0 ≤ v ((88 + (3 * f)) + 2) ∧ v ((88 + (3 * f)) + 2) ≤ 99))
theorem wfS {v : Vl} (h : wfV v) : 0 ≤ v 0 ∧ v 0 ≤ 10 := h.1
theorem wfH {v : Vl} (h : wfV v) : 0 ≤ v 1 ∧ v 1 ≤ 6 := h.2.1
theorem wfF {v : Vl} (h : wfV v) : 0 ≤ v 2 ∧ v 2 ≤ 4 := h.2.2.1
theorem wfP {v : Vl} (h : wfV v) : 1 ≤ v 3 ∧ v 3 ≤ 99 := h.2.2.2.1
theorem wfU {v : Vl} (h : wfV v) : 0 ≤ v 4 ∧ v 4 ≤ 99 := h.2.2.2.2.1
theorem wfs {v : Vl} (h : wfV v) {s : Int} (h0 : 0 ≤ s) (h1 : s < v 0) : (0 ≤ v ((8 + (5 * s)) + 0) ∧ v ((8 + (5 * s)) + 0) ≤ 99) ∧ (0 ≤ v ((8 + (5 * s)) + 1) ∧ v ((8 + (5 * s)) + 1) ≤ 99) ∧ (1 ≤ v ((8 + (5 * s)) + 2) ∧ v ((8 + (5 * s)) + 2) ≤ 99) ∧ (1 ≤ v ((8 + (5 * s)) + 3) ∧ v ((8 + (5 * s)) + 3) ≤ 3) ∧ (-1 ≤ v ((8 + (5 * s)) + 4) ∧ v ((8 + (5 * s)) + 4) < v 2) := h.2.2.2.2.2.1 s h0 h1
theorem wfh {v : Vl} (h : wfV v) {i : Int} (h0 : 0 ≤ i) (h1 : i < v 1) : (0 ≤ v ((58 + (5 * i)) + 0) ∧ v ((58 + (5 * i)) + 0) ≤ 3) ∧ (0 ≤ v ((58 + (5 * i)) + 1) ∧ v ((58 + (5 * i)) + 1) ≤ 99) ∧ (0 ≤ v ((58 + (5 * i)) + 2) ∧ v ((58 + (5 * i)) + 2) ≤ 99) ∧ (0 ≤ v ((58 + (5 * i)) + 3) ∧ v ((58 + (5 * i)) + 3) ≤ 8) ∧ (0 ≤ v ((58 + (5 * i)) + 4) ∧ v ((58 + (5 * i)) + 4) ≤ 16) := h.2.2.2.2.2.2.1 i h0 h1
theorem wff {v : Vl} (h : wfV v) {f : Int} (h0 : 0 ≤ f) (h1 : f < v 2) : (0 ≤ v ((88 + (3 * f)) + 0) ∧ v ((88 + (3 * f)) + 0) ≤ 99) ∧ (0 ≤ v ((88 + (3 * f)) + 1) ∧ v ((88 + (3 * f)) + 1) ≤ 99) ∧ (0 ≤ v ((88 + (3 * f)) + 2) ∧ v ((88 + (3 * f)) + 2) ≤ 99) := h.2.2.2.2.2.2.2 f h0 h1
theorem iSl1 {k : Int} (h : 0 ≤ k ∧ k ≤ 30) : iSl 1 k = ((2 ^ k.toNat : Nat) : Int) := by
  obtain ⟨j, rfl⟩ := Int.eq_ofNat_of_zero_le h.1
  rw [iP_nat j (by omega), Int.toNat_natCast]
theorem lotsB {k : Int} (h : 0 ≤ k ∧ k ≤ 6) : 1 ≤ iSl 1 k ∧ iSl 1 k ≤ 64 := by
  rcases (show k = 0 ∨ k = 1 ∨ k = 2 ∨ k = 3 ∨ k = 4 ∨ k = 5 ∨ k = 6 by omega) with rfl | rfl | rfl | rfl | rfl | rfl | rfl <;> decide
theorem setsB {k : Int} (h : 0 ≤ k ∧ k ≤ 10) : 1 ≤ iSl 1 k ∧ iSl 1 k ≤ 1024 := by
  rcases (show k = 0 ∨ k = 1 ∨ k = 2 ∨ k = 3 ∨ k = 4 ∨ k = 5 ∨ k = 6 ∨ k = 7 ∨ k = 8 ∨ k = 9 ∨ k = 10 by omega) with rfl | rfl | rfl | rfl | rfl | rfl | rfl | rfl | rfl | rfl | rfl <;> decide
/-- the last bit is 0 or 1 -/
theorem a1_01 (x : Int) : iA x 1 = 0 ∨ iA x 1 = 1 := by
  have e : iA x 1 = (Int32.ofInt x &&& 1).toInt := rfl
  rw [e]
  have h : ∀ b : BitVec 32, (b &&& 1#32).toInt = 0 ∨ (b &&& 1#32).toInt = 1 := by
    intro b
    have h1 : b &&& 1#32 = BitVec.ofNat 32 (b.toNat % 2) := by
      apply BitVec.eq_of_toNat_eq
      simp [BitVec.toNat_and, Nat.and_one_is_mod]
      omega
    rw [h1]
    rcases Nat.mod_two_eq_zero_or_one b.toNat with h | h <;> rw [h] <;> decide
  exact h (Int32.ofInt x).toBitVec
theorem a1_ne1 {x : Int} : iA x 1 ≠ 1 ↔ iA x 1 = 0 := by rcases a1_01 x with h | h <;> simp [h]
theorem a1_ne0 {x : Int} : iA x 1 ≠ 0 ↔ iA x 1 = 1 := by rcases a1_01 x with h | h <;> simp [h]
/-- sets made of the places for which p says so -/
def setN (p : Int → Bool) : Nat → Nat
  | 0 => 0
  | k + 1 => if p k then setN p k ||| 2 ^ k else setN p k
theorem setN_lt (p : Int → Bool) (n : Nat) : setN p n < 2 ^ n := by
  induction n with
  | zero => simp [setN]
  | succ k ih =>
    have h1 : 2 ^ k < 2 ^ (k + 1) := Nat.pow_lt_pow_right (by decide) (by omega)
    unfold setN
    split
    · exact Nat.or_lt_two_pow (by omega) h1
    · omega
theorem setN_bit (p : Int → Bool) (n i : Nat) : (setN p n).testBit i = (decide (i < n) && p i) := by
  induction n with
  | zero => simp [setN]
  | succ k ih =>
    unfold setN
    by_cases hp : p k = true
    · rw [if_pos hp, Nat.testBit_or, ih, Nat.testBit_two_pow]
      by_cases hi : i = k
      · subst hi; simp [hp]
      · have h1 : ¬ k = i := fun e => hi e.symm
        by_cases h2 : i < k
        · have : i < k + 1 := by omega
          simp [h1, h2, this]
        · have : ¬ i < k + 1 := by omega
          simp [h1, h2, this]
    · rw [if_neg hp, ih]
      by_cases hi : i = k
      · subst hi; simp [hp]
      · by_cases h2 : i < k
        · have : i < k + 1 := by omega
          simp [h2, this]
        · have : ¬ i < k + 1 := by omega
          simp [h2, this]
theorem setN_s (p : Int → Bool) {i : Int} (h : 0 ≤ i) : setN p (i + 1).toNat = if p i then setN p i.toNat ||| 2 ^ i.toNat else setN p i.toNat := by
  obtain ⟨k, rfl⟩ := Int.eq_ofNat_of_zero_le h
  have e : ((k : Int) + 1).toNat = k + 1 := by omega
  rw [e, Int.toNat_natCast]
  rfl
theorem setN_or {p : Int → Bool} {i : Int} (h : 0 ≤ i ∧ i < 31) : iO (setN p i.toNat : Nat) (iSl 1 i) = ((setN p i.toNat ||| 2 ^ i.toNat : Nat) : Int) := by
  rw [iSl1 (by omega)]
  have h1 := setN_lt p i.toNat
  have h2 : 2 ^ i.toNat < 2 ^ 31 := Nat.pow_lt_pow_right (by decide) (by omega)
  exact iO_nat _ _ (by omega) (by omega)
theorem iO_z {a : Nat} (h : a < 2147483648) : iO a 0 = (a : Int) := by
  have e := iO_nat a 0 h (by decide)
  rw [Nat.or_zero] at e
  exact e
theorem setN_le {p : Int → Bool} {n : Nat} (h : n ≤ 30) : setN p n < 2147483648 := by
  have h1 := setN_lt p n
  have h2 : 2 ^ n < 2 ^ 31 := Nat.pow_lt_pow_right (by decide) (by omega)
  omega
def heldN (v : Vl) (f : Int) : Nat := setN (fun s => decide (v ((8 + (5 * s)) + 4) = f)) (v 0).toNat
def openN (v : Vl) (f : Int) : Nat := setN (fun s => decide (v ((8 + (5 * s)) + 4) = -1 ∨ v ((8 + (5 * s)) + 4) = f)) (v 0).toNat
/-- the weight of a lot -/
def wtF (v : Vl) (lot h w : Int) : Int := if iA (iSr lot h) 1 = 0 then w * (16 - v ((58 + (5 * h)) + 4)) else w * v ((58 + (5 * h)) + 4)
def wtS (v : Vl) (lot : Int) : Int := fz (wtF v lot) 1 (v 1).toNat
def allS (v : Vl) : Int := 16 ^ (v 1).toNat
abbrev fallsP (v : Vl) (h s : Int) : Prop := (((v ((58 + (5 * h)) + 0)) ≠ 0) ∧ (((v ((58 + (5 * h)) + 0)) = 3) ∨ (((v ((58 + (5 * h)) + 0)) ≠ 1) ∧ ((v ((8 + (5 * s)) + 3)) = (v ((58 + (5 * h)) + 1))) ∨ ((v ((58 + (5 * h)) + 0)) = 1) ∧ ((v ((8 + (5 * s)) + 1)) < (v ((58 + (5 * h)) + 1))))) ∨ ((v ((58 + (5 * h)) + 0)) = 0) ∧ (((v ((58 + (5 * h)) + 1)) ≤ (v ((8 + (5 * s)) + 0))) ∧ ((v ((8 + (5 * s)) + 0)) ≤ (v ((58 + (5 * h)) + 2)))))
def tkF (v : Vl) (s lot h t : Int) : Int := if iA (iSr lot h) 1 = 0 then t else if fallsP v h s then t + v ((58 + (5 * h)) + 3) else t
def tkS (v : Vl) (s lot : Int) : Int := fz (tkF v s lot) 0 (v 1).toNat
/-- what a strip leaves in a lot, its giving halved hv times -/
def leftS (v : Vl) (hv s lot : Int) : Int := Int.tdiv (iSr (v ((8 + (5 * s)) + 2)) hv * (8 - min 8 (tkS v s lot))) 8

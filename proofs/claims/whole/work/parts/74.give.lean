-- give: the ways, pure
def dgN (m n k s : Nat) : Nat := k / m ^ (n - 1 - s) % m
def wyS (v : Vl) (k : Nat) : Row := fun s => ((dgN (v 2).toNat (v 0).toNat k s.toNat : Nat) : Int)
def shN (v : Vl) (w : Row) (f : Int) : Nat := setN (fun s => decide (w s = f)) (v 0).toNat
def hgB (v : Vl) (f : Int) (S : Nat) (lot : Int) : Bool := decide (netS v 0 (costS v f S) S lot < v ((88 + (3 * f)) + 2))
def v0S (v : Vl) (T : Int → Nat) : Int := sz (fun f => atMostS v 0 f (T f) (v ((88 + (3 * f)) + 2) - 1)) (v 2).toNat
def cnF (v : Vl) (T : Int → Nat) (lot f : Int) : Int := if hgB v f (T f) lot then 1 else 0
def cnL (v : Vl) (T : Int → Nat) (lot : Int) (n : Nat) : Int := sz (cnF v T lot) n
def v1F (v : Vl) (T : Int → Nat) (lot w : Int) : Int := if 0 < wtS v lot then max w (cnL v T lot (v 2).toNat) else w
def v1S (v : Vl) (T : Int → Nat) : Int := fz (v1F v T) 0 (iSl 1 (v 1)).toNat
def valS (v : Vl) (kd : Int) (k : Nat) : Int := if kd = 0 then v0S v (shN v (wyS v k)) else v1S v (shN v (wyS v k))
def gmS (val : Nat → Int) : Nat → Int × Nat
  | 0 => (-1, 0)
  | k + 1 => if k = 0 ∨ val k < (gmS val k).1 then (val k, k) else gmS val k
def nW (v : Vl) : Nat := (v 2).toNat ^ (v 0).toNat
abbrev gvOk (v : Vl) (kd : Int) : Prop := (0 ≤ kd ∧ kd ≤ 1) ∧ (v 0 ≤ 8 ∧ v 2 ≤ 3) ∧ v 2 ≠ 0
def q_give (v : Vl) (kd : Int) : Ans := if 0 ≤ kd ∧ kd ≤ 1 then (if v 0 ≤ 8 ∧ v 2 ≤ 3 then (if v 2 = 0 then aNo 6 0 else aFr 1 (gmS (valS v kd) (nW v)).1 (if kd = 0 then allS v else 1)) else aNo 4 0) else aNo 1 0
theorem cn_b (v : Vl) (T : Int → Nat) (lot : Int) (n : Nat) : 0 ≤ cnL v T lot n ∧ cnL v T lot n ≤ n := by
  have := sz_bnd (f := cnF v T lot) (n := n) (a := 0) (b := 1) (fun i _ _ => by unfold cnF; split <;> omega)
  unfold cnL; omega
theorem v1_b {v : Vl} (hv : wfV v) (h3 : v 2 ≤ 3) (T : Int → Nat) : ∀ k : Nat, 0 ≤ fz (v1F v T) 0 k ∧ fz (v1F v T) 0 k ≤ 3 := by
  have hF := wfF hv
  intro k
  induction k with
  | zero => exact ⟨Int.le_refl _, by show (0 : Int) ≤ 3; decide⟩
  | succ k ih =>
    have := cn_b v T k (v 2).toNat
    show 0 ≤ v1F v T k (fz (v1F v T) 0 k) ∧ v1F v T k (fz (v1F v T) 0 k) ≤ 3
    generalize fz (v1F v T) 0 k = t at ih ⊢
    unfold v1F
    split <;> omega
theorem v1_ge (v : Vl) (T : Int → Nat) {c : Int} (hc : 1 ≤ c) : ∀ k : Nat, c ≤ fz (v1F v T) 0 k ↔ ∃ lot : Int, (0 ≤ lot ∧ lot < k) ∧ 0 < wtS v lot ∧ c ≤ cnL v T lot (v 2).toNat := by
  intro k
  induction k with
  | zero => exact ⟨fun h => by rw [fz_0] at h; omega, fun ⟨lot, h, _⟩ => by omega⟩
  | succ k ih =>
    show c ≤ v1F v T k (fz (v1F v T) 0 k) ↔ _
    have step : c ≤ v1F v T k (fz (v1F v T) 0 k) ↔ (c ≤ fz (v1F v T) 0 k ∨ (0 < wtS v k ∧ c ≤ cnL v T k (v 2).toNat)) := by
      unfold v1F
      split <;> omega
    rw [step, ih]
    constructor
    · rintro (⟨lot, h1, h2⟩ | h)
      · exact ⟨lot, by omega, h2⟩
      · exact ⟨k, by omega, h⟩
    · rintro ⟨lot, h1, h2⟩
      by_cases q : lot = k
      · subst q; exact Or.inr h2
      · exact Or.inl ⟨lot, by omega, h2⟩
theorem v0_b {v : Vl} (hv : wfV v) (T : Int → Nat) (n : Nat) (hn : n ≤ 4) : 0 ≤ sz (fun f => atMostS v 0 f (T f) (v ((88 + (3 * f)) + 2) - 1)) n ∧ sz (fun f => atMostS v 0 f (T f) (v ((88 + (3 * f)) + 2) - 1)) n ≤ 4294967296 := by
  have := sz_bnd (f := fun f => atMostS v 0 f (T f) (v ((88 + (3 * f)) + 2) - 1)) (n := n) (a := 0) (b := 1073741824) (fun i _ _ => am_b hv 0 i _ _)
  omega
theorem val_b {v : Vl} (hv : wfV v) (h3 : v 2 ≤ 3) (kd : Int) (k : Nat) : 0 ≤ valS v kd k ∧ valS v kd k ≤ 4294967296 := by
  have hF := wfF hv
  unfold valS
  split
  · exact v0_b hv _ _ (by omega)
  · have := v1_b hv h3 (shN v (wyS v k)) (iSl 1 (v 1)).toNat
    unfold v1S; omega
theorem gm_b {val : Nat → Int} (h : ∀ k, 0 ≤ val k ∧ val k ≤ 4294967296) : ∀ k : Nat, 0 < k → 0 ≤ (gmS val k).1 ∧ (gmS val k).1 ≤ 4294967296
  | 0, hk => absurd hk (by decide)
  | k + 1, _ => by
    rw [gmS]
    split
    · exact h k
    · next q => exact gm_b h k (by omega)
theorem sz_comm (F : Int → Int → Int) (m : Nat) : ∀ n : Nat, sz (fun i => sz (F i) m) n = sz (fun j => sz (fun i => F i j) n) m
  | 0 => by
    have : sz (fun j => sz (fun i => F i j) 0) m = sz (fun _ => 0 * (0 : Int)) m := sz_congr (fun _ _ _ => rfl)
    rw [this, sz_mul]; simp [sz_0]
  | n + 1 => by
    rw [sz_n, sz_comm F m n, ← sz_add]
    rfl
theorem v0_lots (v : Vl) (T : Int → Nat) : sz (fun lot => wtS v lot * cnL v T lot (v 2).toNat) (iSl 1 (v 1)).toNat = v0S v T := by
  have e : sz (fun lot => wtS v lot * cnL v T lot (v 2).toNat) (iSl 1 (v 1)).toNat = sz (fun lot => sz ((fun lot f => amS v 0 f (T f) (v ((88 + (3 * f)) + 2) - 1) lot) lot) (v 2).toNat) (iSl 1 (v 1)).toNat := by
    refine sz_congr (fun lot _ _ => ?_)
    unfold cnL
    rw [← sz_mul]
    refine sz_congr (fun f _ _ => ?_)
    dsimp only
    unfold cnF hgB amS
    by_cases h : netS v 0 (costS v f (T f)) (T f) lot < v ((88 + (3 * f)) + 2)
    · rw [if_pos (decide_eq_true h), if_pos (by omega), Int.mul_one]
    · rw [if_neg (by simp only [decide_eq_true_eq]; exact h), if_neg (by omega), Int.mul_zero]
  rw [e, sz_comm]
  rfl
/-! digits -/
theorem dg_lt {m n k s : Nat} (hm : 0 < m) : dgN m n k s < m := Nat.mod_lt _ hm
theorem dg_0 {m n s : Nat} : dgN m n 0 s = 0 := by unfold dgN; rw [Nat.zero_div, Nat.zero_mod]
theorem wy_b {v : Vl} (hv : wfV v) (h2 : v 2 ≠ 0) (k : Nat) (s : Int) : 0 ≤ wyS v k s ∧ wyS v k s < v 2 := by
  have hF := wfF hv
  have := dg_lt (m := (v 2).toNat) (n := (v 0).toNat) (k := k) (s := s.toNat) (by omega)
  unfold wyS; omega
/-- no carry: what stands above stays -/
theorem up_same {q m : Nat} (hm : 0 < m) (h : q % m + 1 < m) : (q + 1) / m = q / m ∧ (q + 1) % m = q % m + 1 := by
  have e := Nat.div_add_mod q m
  have h1 : q + 1 = (q % m + 1) + m * (q / m) := by omega
  constructor
  · rw [h1, Nat.add_mul_div_left _ _ hm, Nat.div_eq_of_lt h, Nat.zero_add]
  · rw [h1, Nat.add_mul_mod_self_left, Nat.mod_eq_of_lt h]
theorem up_carry {q m : Nat} (hm : 0 < m) (h : q % m + 1 = m) : (q + 1) / m = q / m + 1 ∧ (q + 1) % m = 0 := by
  have e := Nat.div_add_mod q m
  have h1 : q + 1 = m * (q / m + 1) := by rw [Nat.mul_add]; omega
  constructor
  · rw [h1, Nat.mul_div_cancel_left _ hm]
  · rw [h1, Nat.mul_mod_right]
theorem div_up {k m a b : Nat} : k / m ^ (a + b) = k / m ^ a / m ^ b := by rw [Nat.pow_add, Nat.div_div_eq_div_mul]
/-- shares after a strip turns -/
theorem sh_turn {v : Vl} {w : Row} {s x g : Int} (hs : 0 ≤ s ∧ s < v 0) : shN v (upV w s x) g = if g = x then ndf (shN v w g) (2 ^ s.toNat) ||| 2 ^ s.toNat else ndf (shN v w g) (2 ^ s.toNat) := by
  apply Nat.eq_of_testBit_eq
  intro i
  have e1 : (shN v (upV w s x) g).testBit i = (decide (i < (v 0).toNat) && decide (upV w s x i = g)) := setN_bit _ _ _
  have e2 : (shN v w g).testBit i = (decide (i < (v 0).toNat) && decide (w i = g)) := setN_bit _ _ _
  rw [e1]
  by_cases q : i = s.toNat
  · have q2 : (i : Int) = s := by omega
    have e3 : decide (i < (v 0).toNat) = true := decide_eq_true (by omega)
    have e4 : upV w s x i = x := by simp [upV, q2]
    rw [e3, e4, Bool.true_and]
    by_cases z : g = x
    · rw [if_pos z, Nat.testBit_or, Nat.testBit_two_pow, decide_eq_true z.symm, decide_eq_true q.symm, Bool.or_true]
    · rw [if_neg z, ndf_bit, Nat.testBit_two_pow, decide_eq_false (fun y => z y.symm), decide_eq_true q.symm]
      simp
  · have q2 : ¬ (i : Int) = s := by omega
    have e4 : upV w s x i = w i := by simp [upV, q2]
    have q3 : ¬ s.toNat = i := fun z => q z.symm
    rw [e4]
    by_cases z : g = x
    · rw [if_pos z, Nat.testBit_or, ndf_bit, e2, Nat.testBit_two_pow, decide_eq_false q3]
      simp
    · rw [if_neg z, ndf_bit, e2, Nat.testBit_two_pow, decide_eq_false q3]
      simp
/-! bits of longs -/
def bJ (x : Int) (i : Nat) : Bool := (Int64.ofInt x).toBitVec.getLsbD i
theorem bJ_or (x y : Int) (i : Nat) : bJ (jO x y) i = (bJ x i || bJ y i) := by
  unfold bJ jO
  rw [Int64.ofInt_toInt, Int64.toBitVec_or, BitVec.getLsbD_or]
theorem bJ_and (x y : Int) (i : Nat) : bJ (jA x y) i = (bJ x i && bJ y i) := by
  unfold bJ jA
  rw [Int64.ofInt_toInt, Int64.toBitVec_and, BitVec.getLsbD_and]
theorem bJ_0 (i : Nat) : bJ 0 i = false := by
  have : (Int64.ofInt 0).toBitVec = 0#64 := by decide
  unfold bJ
  rw [this, BitVec.getLsbD_zero]
theorem bJ_sl0 : ∀ k : Fin 64, (Int64.ofInt (jSl 1 (k.val : Nat))).toBitVec = BitVec.twoPow 64 k.val := by decide +kernel
theorem bJ_sl {k : Int} (hk : 0 ≤ k ∧ k < 64) (i : Nat) (hi : i < 64) : bJ (jSl 1 k) i = decide (i = k.toNat) := by
  have h := bJ_sl0 ⟨k.toNat, by omega⟩
  have e : ((k.toNat : Nat) : Int) = k := by omega
  simp only [e] at h
  unfold bJ
  rw [h, BitVec.getLsbD_twoPow]
  by_cases q : i = k.toNat
  · simp [q]; omega
  · have q2 : ¬ k.toNat = i := fun z => q z.symm
    simp [q, q2]
theorem jO_r (x y : Int) : -9223372036854775808 ≤ jO x y ∧ jO x y < 9223372036854775808 := by
  have h1 := Int64.le_toInt (Int64.ofInt x ||| Int64.ofInt y)
  have h2 := Int64.toInt_lt (Int64.ofInt x ||| Int64.ofInt y)
  unfold jO; omega
theorem bJ_ne {x : Int} (hx : -9223372036854775808 ≤ x ∧ x < 9223372036854775808) : x ≠ 0 ↔ ∃ i, i < 64 ∧ bJ x i = true := by
  constructor
  · intro h
    refine Classical.byContradiction (fun q => h ?_)
    have e : (Int64.ofInt x).toBitVec = 0#64 := by
      apply BitVec.eq_of_getLsbD_eq
      intro i hi
      rw [BitVec.getLsbD_zero]
      cases hb : (Int64.ofInt x).toBitVec.getLsbD i with
      | false => rfl
      | true => exact absurd ⟨i, hi, hb⟩ q
    have e2 : Int64.ofInt x = 0 := by
      rw [← Int64.toBitVec_inj, e]; rfl
    have e3 := toJ hx
    rw [e2] at e3
    exact e3.symm
  · rintro ⟨i, _, hb⟩ rfl
    rw [bJ_0] at hb
    cases hb
def hlF (v : Vl) (f : Int) (S : Nat) (lot x : Int) : Int := if hgB v f S lot && decide (0 < wtS v lot) then jO x (jSl 1 lot) else x
def hlS (v : Vl) (f : Int) (S : Nat) : Int := fz (hlF v f S) 0 (iSl 1 (v 1)).toNat
theorem hl_b (v : Vl) (f : Int) (S : Nat) : ∀ k : Nat, -9223372036854775808 ≤ fz (hlF v f S) 0 k ∧ fz (hlF v f S) 0 k < 9223372036854775808
  | 0 => by rw [fz_0]; decide
  | k + 1 => by
    show -9223372036854775808 ≤ hlF v f S k (fz (hlF v f S) 0 k) ∧ hlF v f S k (fz (hlF v f S) 0 k) < 9223372036854775808
    unfold hlF
    split
    · exact jO_r _ _
    · exact hl_b v f S k
theorem hl_bit (v : Vl) (f : Int) (S : Nat) {i : Nat} (hi : i < 64) : ∀ k : Nat, k ≤ 64 → bJ (fz (hlF v f S) 0 k) i = (decide (i < k) && (hgB v f S i && decide (0 < wtS v i)))
  | 0, _ => by rw [fz_0, bJ_0]; simp
  | k + 1, hk => by
    have ih := hl_bit v f S hi k (by omega)
    have e : fz (hlF v f S) 0 (k + 1) = hlF v f S k (fz (hlF v f S) 0 k) := rfl
    rw [e]
    generalize fz (hlF v f S) 0 k = t at ih ⊢
    unfold hlF
    by_cases q : i = k
    · subst q
      have e1 : decide (i < i) = false := by simp
      have e2 : decide (i < i + 1) = true := by simp
      rw [e1, Bool.false_and] at ih
      rw [e2, Bool.true_and]
      cases hc : hgB v f S i && decide (0 < wtS v i) with
      | true =>
        rw [if_pos rfl, bJ_or, bJ_sl (by omega) i hi]
        simp
      | false =>
        rw [if_neg (by decide)]; exact ih
    · have e1 : decide (i < k + 1) = decide (i < k) := by apply decide_eq_decide.2; omega
      rw [e1]
      split
      · rw [bJ_or, ih, bJ_sl (by omega) i hi, decide_eq_false (show ¬ i = ((k : Int)).toNat by omega), Bool.or_false]
      · exact ih

-- counting bits, and greatest common divisors
def pcT (a : Nat) : Nat := a % 2 + a / 2 % 2 + a / 4 % 2 + a / 8 % 2 + a / 16 % 2 + a / 32 % 2 + a / 64 % 2 + a / 128 % 2 + a / 256 % 2 + a / 512 % 2
theorem pcT_le (a : Nat) : pcT a ≤ 10 := by unfold pcT; omega
theorem pcT_and : ∀ a : Fin 1024, a.val ≠ 0 → pcT (a.val &&& (a.val - 1)) + 1 = pcT a.val := by decide +kernel
theorem pcT_0 : pcT 0 = 0 := rfl
def b1C (x : Int) : Int := x - iA (iUs x 1) 1431655765
def b2C (y : Int) : Int := iA y 858993459 + iA (iUs y 2) 858993459
def b3C (z : Int) : Int := iA (z + iUs z 4) 252645135
def b4C (w : Int) : Int := w + iUs w 8
def b5C (u : Int) : Int := iA (u + iUs u 16) 63
theorem b5_all : ∀ a : Fin 1024, b5C (b4C (b3C (b2C (b1C a.val)))) = (pcT a.val : Nat) := by decide +kernel
theorem tdiv_r {a b : Int} (ha : -9223372036854775808 < a ∧ a < 9223372036854775808) (hb : 0 < b) : -9223372036854775808 ≤ Int.tdiv a b ∧ Int.tdiv a b < 9223372036854775808 := by
  have h : (Int.tdiv a b).natAbs ≤ a.natAbs := by
    rw [Int.natAbs_tdiv]; exact Nat.div_le_self _ _
  omega
section
variable {l : Launch} {E : Ev} {G : Sh} {D : Dm}
theorem c_X10_bits (hL : Lay G) {a : Nat} (ha : a < 1024) : C0 l E MX10_bits 0 [vI a] G D (fun r D' => r = (pcT a : Nat) ∧ D' = D) := by
  refine s_X10_bits hL ?_
  have key : ∀ b : Nat, b < 1024 → ∀ x : Int, x + (pcT b : Nat) = (pcT a : Nat) → KX10_bits l E (fun r G' D' => G' = G ∧ (r = (pcT a : Nat) ∧ D' = D)) 4 [(0, vI a), (1, vI x), (2, vI b)] G D := by
    refine by_meas (fun b : Nat => b) ?_
    intro b ih hb x hx
    refine s_X10_bits_4 hL ⟨by omega, fun h => ?_, fun h => ?_⟩
    · have h0 : b = 0 := by omega
      subst h0
      rw [pcT_0] at hx
      exact ⟨rfl, by omega, rfl⟩
    · have hne : b ≠ 0 := by omega
      have e1 : (b : Int) - 1 = ((b - 1 : Nat) : Int) := by omega
      rw [e1, iA_nat b (b - 1) (by omega)]
      have h1 : b &&& (b - 1) ≤ b - 1 := Nat.and_le_right
      have h2 : pcT (b &&& (b - 1)) + 1 = pcT b := pcT_and ⟨b, hb⟩ hne
      exact ih _ (show b &&& (b - 1) < b by omega) (by omega) (x + 1) (by omega)
  exact key a ha 0 (by omega)
theorem c_J6_bitCount (hL : Lay G) {a : Nat} (ha : a < 1024) : C0 l E MJ6_bitCount_0f7a4 0 [vI a] G D (fun r D' => r = (pcT a : Nat) ∧ D' = D) :=
  s_J6_bitCount_0f7a4 hL ⟨rfl, b5_all ⟨a, ha⟩, rfl⟩
theorem c_X10_tells (hL : Lay G) {n d : Int} (hn : -9223372036854775808 < n ∧ n < 9223372036854775808) (hd : 0 < d ∧ d < 9223372036854775808) : C0 l E MX10_tells 0 [vR E 107, vJ n, vJ d] G D (fun r D' => r = 1 ∧ D' = upd2 (upd2 (upd2 D 107 2 (Int.tdiv n (Nat.gcd n.natAbs d.natAbs : Nat))) 107 3 (Int.tdiv d (Nat.gcd n.natAbs d.natAbs : Nat))) 107 1 0) := by
  refine s_X10_tells hL ?_
  have key : ∀ p : Nat × Nat, Nat.gcd p.1 p.2 = Nat.gcd n.natAbs d.natAbs → p.1 < 9223372036854775808 → p.2 < 9223372036854775808 → KX10_tells l E (fun r G' D' => G' = G ∧ (r = 1 ∧ D' = upd2 (upd2 (upd2 D 107 2 (Int.tdiv n (Nat.gcd n.natAbs d.natAbs : Nat))) 107 3 (Int.tdiv d (Nat.gcd n.natAbs d.natAbs : Nat))) 107 1 0)) 17 [(0, vR E 107), (1, vJ n), (3, vJ d), (5, vJ p.1), (7, vJ p.2)] G D := by
    refine by_meas (fun p : Nat × Nat => p.2) ?_
    rintro ⟨a, b⟩ ih hg ha hb
    dsimp only at hg ha hb ⊢
    refine s_X10_tells_17 hL ⟨by omega, fun h => ?_, fun h => ?_⟩
    · have h0 : b = 0 := by omega
      subst h0
      rw [Nat.gcd_zero_right] at hg
      have hpos : 0 < Nat.gcd n.natAbs d.natAbs := Nat.gcd_pos_of_pos_right _ (by omega)
      have q1 := tdiv_r (a := n) (b := (a : Int)) (by omega) (by omega)
      have q2 := tdiv_r (a := d) (b := (a : Int)) (by omega) (by omega)
      rw [hg] at q1 q2 ⊢
      exact ⟨⟨by omega, by omega, by omega, by omega, by omega⟩, rfl, rfl, rfl⟩
    · refine ⟨⟨by omega, by omega⟩, ?_⟩
      have e : Int.tmod (a : Int) (b : Int) = ((a % b : Nat) : Int) := rfl
      rw [e]
      have hlt : a % b < b := Nat.mod_lt _ (by omega)
      exact ih (b, a % b) hlt (by rw [← hg, Nat.gcd_comm a b, Nat.gcd_rec b a, Nat.gcd_comm]) hb (by dsimp only; omega)
  have e2 : d = (d.natAbs : Int) := by omega
  refine ⟨by omega, fun h => ?_, fun h => ?_⟩
  · have e1 : n = (n.natAbs : Int) := by omega
    have k := key (n.natAbs, d.natAbs) rfl (by dsimp only; omega) (by dsimp only; omega)
    dsimp only at k
    rw [← e1, ← e2] at k
    exact k
  · have e1 : -n = (n.natAbs : Int) := by omega
    have k := key (n.natAbs, d.natAbs) rfl (by dsimp only; omega) (by dsimp only; omega)
    dsimp only at k
    rw [← e1, ← e2] at k
    exact k
theorem euclid_s {a b i : Nat} (h : i = 0 ∨ (b < a ∧ a * b * 2 ^ i ≤ 2 ^ 127)) (ha : a < 2 ^ 63) (hb : b < 2 ^ 63) (h0 : 0 < b) : a % b < b ∧ b * (a % b) * 2 ^ (i + 1) ≤ 2 ^ 127 := by
  have hlt : a % b < b := Nat.mod_lt _ h0
  refine ⟨hlt, ?_⟩
  rcases h with rfl | ⟨h1, h2⟩
  · have h3 : b * (a % b) ≤ 2 ^ 63 * 2 ^ 63 := Nat.mul_le_mul (by omega) (by omega)
    have h4 : b * (a % b) * 2 ^ (0 + 1) ≤ 2 ^ 63 * 2 ^ 63 * 2 ^ (0 + 1) := Nat.mul_le_mul_right _ h3
    exact Nat.le_trans h4 (by decide)
  · have h3 : 2 * (a % b) ≤ a := by
      have e := Nat.div_add_mod a b
      have e2 : 1 ≤ a / b := (Nat.one_le_div_iff h0).2 (by omega)
      have e3 : b * 1 ≤ b * (a / b) := Nat.mul_le_mul_left _ e2
      omega
    have h4 : b * (2 * (a % b)) ≤ b * a := Nat.mul_le_mul_left _ h3
    have e : b * (a % b) * 2 ^ (i + 1) = b * (2 * (a % b)) * 2 ^ i := by
      rw [Nat.pow_succ, Nat.mul_comm (2 ^ i) 2, ← Nat.mul_assoc, Nat.mul_assoc b (a % b) 2, Nat.mul_comm (a % b) 2]
    rw [e]
    refine Nat.le_trans (Nat.mul_le_mul_right _ h4) ?_
    rw [Nat.mul_comm b a]; exact h2
theorem c_X9_commonDivisor (hL : Lay G) {a b : Nat} (ha : a < 9223372036854775808) (hb : b < 9223372036854775808) : C0 l E MX9_commonDivisor 1 [vJ a, vJ b] G D (fun r D' => r = (Nat.gcd a b : Nat) ∧ D' = D) := by
  refine s_X9_commonDivisor hL ?_
  refine up_from (P := fun i => ∀ p q : Nat, Nat.gcd p q = Nat.gcd a b → p < 9223372036854775808 → q < 9223372036854775808 → (i.toNat = 0 ∨ (q < p ∧ p * q * 2 ^ i.toNat ≤ 2 ^ 127)) → KX9_commonDivisor l E _ 3 [(0, vJ p), (2, vJ q), (4, vI i)] G D) (lo := 0) (n := 200) (by omega) ?_ ?_ a b rfl ha hb (Or.inl rfl)
  · intro p q hg hp hq hi
    refine s_X9_commonDivisor_3 hL ⟨by omega, fun _ => ?_, fun h => absurd h (by omega)⟩
    have e200 : (200 : Int).toNat = 200 := rfl
    rw [e200] at hi
    rcases hi with h | ⟨h1, h2⟩
    · omega
    · have hq0 : q = 0 := by
        rcases Nat.eq_zero_or_pos q with h | h
        · exact h
        · exfalso
          have h3 : 1 * 1 ≤ p * q := Nat.mul_le_mul (by omega) h
          have h4 : 1 * 2 ^ 200 ≤ p * q * 2 ^ 200 := Nat.mul_le_mul_right _ h3
          have h5 := Nat.le_trans h4 h2
          exact absurd h5 (by decide)
      subst hq0
      rw [Nat.gcd_zero_right] at hg
      exact ⟨rfl, by rw [hg], rfl⟩
  · intro i h0 h1 ih p q hg hp hq hi
    refine s_X9_commonDivisor_3 hL ⟨by omega, fun h => absurd h (by omega), fun _ => ⟨by omega, fun h => ?_, fun h => ?_⟩⟩
    · have hq0 : q = 0 := by omega
      subst hq0
      rw [Nat.gcd_zero_right] at hg
      exact ⟨rfl, by rw [hg], rfl⟩
    · refine ⟨⟨by omega, by omega⟩, ?_⟩
      have e : Int.tmod (p : Int) (q : Int) = ((p % q : Nat) : Int) := rfl
      rw [e]
      obtain ⟨g1, g2⟩ := euclid_s hi hp hq (by omega)
      have e1 : (i + 1).toNat = i.toNat + 1 := by omega
      refine ih q (p % q) (by rw [← hg, Nat.gcd_comm p q, Nat.gcd_rec q p, Nat.gcd_comm]) hq (by omega) (Or.inr ?_)
      rw [e1]; exact ⟨g1, g2⟩
theorem c_X9_tell (hL : Lay G) {n d : Int} (hn : -9223372036854775808 < n ∧ n < 9223372036854775808) (hd : 0 < d ∧ d < 9223372036854775808) : C0 l E MX9_tell 0 [vR E 0, vJ n, vJ d] G D (fun r D' => r = 1 ∧ D' = upd2 (upd2 (upd2 D 0 12 (Int.tdiv n (Nat.gcd n.natAbs d.natAbs : Nat))) 0 13 (Int.tdiv d (Nat.gcd n.natAbs d.natAbs : Nat))) 0 11 0) := by
  refine s_X9_tell hL ⟨hn, ?_⟩
  have e2 : d = (d.natAbs : Int) := by omega
  have c := c_X9_commonDivisor (l := l) (E := E) (D := D) hL (a := n.natAbs) (b := d.natAbs) (by omega) (by omega)
  rw [← e2] at c
  refine C0.use c ?_
  rintro r D1 ⟨rfl, rfl⟩
  try dsimp only
  have hpos : 0 < Nat.gcd n.natAbs d.natAbs := Nat.gcd_pos_of_pos_right _ (by omega)
  have hle : Nat.gcd n.natAbs d.natAbs ≤ d.natAbs := Nat.gcd_le_right _ (by omega)
  have q1 := tdiv_r (a := n) (b := (Nat.gcd n.natAbs d.natAbs : Nat)) (by omega) (by omega)
  have q2 := tdiv_r (a := d) (b := (Nat.gcd n.natAbs d.natAbs : Nat)) (by omega) (by omega)
  refine ⟨by omega, fun _ => ⟨⟨by omega, by omega, q1, by omega, q2⟩, rfl, rfl, rfl⟩, fun h => absurd h (by omega)⟩
end

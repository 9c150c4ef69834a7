-- give of the class: turning, finding
section
variable {l : Launch} {E : Ev} {G : Sh} {D : Dm} {v : Vl} {a : Ans}
/-- after way k -/
theorem c_X3_turn (hL : Lay G) (hv : wfV v) (h8 : v 0 ≤ 8) (h3 : v 2 ≤ 3) (h2 : v 2 ≠ 0) (hC : CV 1 v D) {k : Nat} (hk : k < nW v) (hW : WY v D (wyS v k)) : C0 l E MX3_turnToNextWay 0 [vR E 60] G D (fun r D' => ((r = 1 ∧ k + 1 < nW v) ∨ (r = 0 ∧ k + 1 = nW v)) ∧ WY v D' (wyS v (k + 1)) ∧ (∀ c, c ≠ 63 → c ≠ 64 → D' c = D c)) := by
  have hF := wfF hv
  have hs := wfS hv
  have hp := p256 (k := v 0) (by omega)
  have e0 : D 1 0 = v 0 := hC.1
  have e2 : D 1 2 = v 2 := hC.2.2.1
  have en : ∃ n : Nat, v 0 = n := ⟨(v 0).toNat, by omega⟩
  have em : ∃ m : Nat, v 2 = m := ⟨(v 2).toNat, by omega⟩
  obtain ⟨n, en⟩ := en
  obtain ⟨m, em⟩ := em
  have en' : (v 0).toNat = n := by omega
  have em' : (v 2).toNat = m := by omega
  have hm : 0 < m := by omega
  have hkn : k < m ^ n := by unfold nW at hk; rw [en', em'] at hk; exact hk
  have wy : ∀ (j : Nat) (s : Nat), wyS v j s = ((dgN m n j s : Nat) : Int) := fun j s => by unfold wyS; rw [en', em', Int.toNat_natCast]
  refine s_X3_turnToNextWay hL ?_
  rw [e0, en]
  -- j digits are left
  have loop : ∀ (j : Nat) (w : Row) (D' : Dm), j ≤ n → (∀ c, c ≠ 63 → c ≠ 64 → D' c = D c) → WY v D' w → (∀ t : Nat, t < j → w t = wyS v k t) → (∀ t : Nat, j ≤ t → t < n → w t = wyS v (k + 1) t) → (k + 1) / m ^ (n - j) = k / m ^ (n - j) + 1 → KX3_turnToNextWay l E (fun r G' D' => G' = G ∧ ((r = 1 ∧ k + 1 < nW v) ∨ (r = 0 ∧ k + 1 = nW v)) ∧ WY v D' (wyS v (k + 1)) ∧ (∀ c, c ≠ 63 → c ≠ 64 → D' c = D c)) 10 [(0, vR E 60), (1, vI ((j : Int) - 1))] G D' := by
    intro j
    induction j with
    | zero =>
      intro w D' _ ho hw hlo hhi hcar
      rw [Nat.sub_zero, Nat.div_eq_of_lt hkn] at hcar
      have hfin : k + 1 = nW v := by
        unfold nW
        rw [en', em']
        have h1 : m ^ n ≤ k + 1 := by
          refine Classical.byContradiction (fun q => ?_)
          rw [Nat.div_eq_of_lt (by omega)] at hcar
          omega
        omega
      refine s_X3_turnToNextWay_10 hL ⟨by omega, fun _ => ⟨rfl, Or.inr ⟨rfl, hfin⟩, ⟨fun s a b => ?_, fun f a b => ?_⟩, ho⟩, fun z => absurd z (by omega)⟩
      · rw [hw.1 s a b]
        have e : s = ((s.toNat : Nat) : Int) := by omega
        rw [e]
        exact hhi s.toNat (by omega) (by omega)
      · rw [hw.2 f a b]
        congr 1
        unfold shN
        apply Nat.eq_of_testBit_eq
        intro i
        rw [setN_bit, setN_bit, en']
        by_cases q : i < n
        · rw [hhi i (by omega) q]
        · rw [decide_eq_false q, Bool.false_and, Bool.false_and]
    | succ j ihj =>
      intro w D' hj ho hw hlo hhi hcar
      have e2' : D' 1 2 = m := by rw [ho 1 (by decide) (by decide), e2]; exact em
      have ej : (((j + 1 : Nat) : Int)) - 1 = j := by omega
      rw [ej]
      have hwj : w j = ((k / m ^ (n - (j + 1)) % m : Nat) : Int) := by
        rw [hlo j (by omega), wy]
        unfold dgN
        rw [show n - 1 - j = n - (j + 1) by omega]
      generalize hq : k / m ^ (n - (j + 1)) = q at hwj hcar
      have hd : q % m < m := Nat.mod_lt _ hm
      have hdj : D' 63 j = ((q % m : Nat) : Int) := by rw [hw.1 j (by omega) (by omega)]; exact hwj
      have hpw : n - j = (n - (j + 1)) + 1 := by omega
      have hup : ∀ x : Nat, x / m ^ (n - j) = x / m ^ (n - (j + 1)) / m := fun x => by rw [hpw, div_up, Nat.pow_one]
      have hp2 : 2 ^ j ≤ 256 := by
        have : 2 ^ j ≤ 2 ^ 8 := Nat.pow_le_pow_right (by decide) (by omega)
        omega
      -- what the stores do
      have turn : ∀ x : Int, 0 ≤ x → x < 3 → (∀ c, c ≠ 63 → c ≠ 64 → (upd2 (upd2 (upd2 D' 63 j x) 64 ((q % m : Nat) : Int) (iA (D' 64 ((q % m : Nat) : Int)) (iX (iSl 1 j) (-1)))) 64 x (iO ((upd2 (upd2 D' 63 j x) 64 ((q % m : Nat) : Int) (iA (D' 64 ((q % m : Nat) : Int)) (iX (iSl 1 j) (-1)))) 64 x) (iSl 1 j))) c = D c) ∧ WY v (upd2 (upd2 (upd2 D' 63 j x) 64 ((q % m : Nat) : Int) (iA (D' 64 ((q % m : Nat) : Int)) (iX (iSl 1 j) (-1)))) 64 x (iO ((upd2 (upd2 D' 63 j x) 64 ((q % m : Nat) : Int) (iA (D' 64 ((q % m : Nat) : Int)) (iX (iSl 1 j) (-1)))) 64 x) (iSl 1 j))) (upV w j x) := by
        intro x x0 x3
        refine ⟨fun c a b => ?_, fun s a b => ?_, fun f a b => ?_⟩
        · funext i; rw [upd2_cell _ _ _ _ b, upd2_cell _ _ _ _ b, upd2_cell _ _ _ _ a, ho c a b]
        · rw [upd2_cell _ _ _ _ (by decide), upd2_cell _ _ _ _ (by decide)]
          simp only [upd2, upV]
          by_cases z : s = j
          · rw [if_pos ⟨trivial, z⟩, if_pos z]
          · rw [if_neg (fun y => z y.2), if_neg z]; exact hw.1 s a b
        · have hl : ∀ g, shN v w g < 256 := fun g => by have := shN_lt v w g; omega
          have e1 : iSl 1 (j : Int) = ((2 ^ j : Nat) : Int) := by rw [iSl1 (by omega), Int.toNat_natCast]
          have eclr : ∀ g : Int, 0 ≤ g → g < 3 → iA (D' 64 g) (iX (iSl 1 j) (-1)) = ((ndf (shN v w g) (2 ^ j) : Nat) : Int) := fun g g0 g1 => by
            rw [hw.2 g g0 g1, e1, iN_nat _ _ (by have := hl g; omega)]
          have hnd : ∀ g, ndf (shN v w g) (2 ^ j) < 256 := fun g => by
            have h1 : ∀ i, 8 ≤ i → (ndf (shN v w g) (2 ^ j)).testBit i = false := fun i hi => by
              rw [ndf_bit, Nat.testBit_lt_two_pow (Nat.lt_of_lt_of_le (show shN v w g < 2 ^ 8 from hl g) (Nat.pow_le_pow_right (by decide) hi))]
              rfl
            exact Nat.lt_pow_two_of_testBit (n := 8) _ (fun i hi => h1 i hi)
          have ndf_no : ∀ g : Int, g ≠ ((q % m : Nat) : Int) → ndf (shN v w g) (2 ^ j) = shN v w g := fun g hg => by
            apply Nat.eq_of_testBit_eq
            intro i
            rw [ndf_bit, Nat.testBit_two_pow]
            by_cases z : j = i
            · subst z
              have : (shN v w g).testBit j = false := by
                unfold shN
                rw [setN_bit, decide_eq_false (show ¬ w (j : Int) = g from fun y => hg (by rw [← y]; exact hwj)), Bool.and_false]
              rw [this]; rfl
            · rw [decide_eq_false z]; simp
          have est : shN v (upV w j x) f = if f = x then ndf (shN v w f) (2 ^ j) ||| 2 ^ j else ndf (shN v w f) (2 ^ j) := by
            have := sh_turn (v := v) (w := w) (s := j) (x := x) (g := f) (by omega)
            rw [Int.toNat_natCast] at this
            exact this
          rw [est]
          have hq3 : ((q % m : Nat) : Int) < 3 := by omega
          by_cases z : f = x
          · subst z
            rw [upd2_same, if_pos rfl]
            have e5 : (upd2 (upd2 D' 63 j f) 64 ((q % m : Nat) : Int) (iA (D' 64 ((q % m : Nat) : Int)) (iX (iSl 1 j) (-1)))) 64 f = ((ndf (shN v w f) (2 ^ j) : Nat) : Int) := by
              by_cases y : f = ((q % m : Nat) : Int)
              · rw [← y, upd2_same, eclr f a b]
              · rw [upd2_place _ _ _ y, upd2_cell _ _ _ _ (by decide), hw.2 f a b, ndf_no f y]
            rw [e5, e1, iO_nat _ _ (by have := hnd f; omega) (by omega)]
          · rw [upd2_place _ _ _ z, if_neg z]
            by_cases y : f = ((q % m : Nat) : Int)
            · rw [← y, upd2_same, eclr f a b]
            · rw [upd2_place _ _ _ y, upd2_cell _ _ _ _ (by decide), hw.2 f a b, ndf_no f y]
      refine s_X3_turnToNextWay_10 hL ?_
      rw [hdj, e2']
      have e6 : (j : Int) + (-1) = (j : Int) - 1 := by omega
      refine ⟨by omega, fun z => absurd z (by omega), fun _ => ⟨by omega, fun z => ⟨by omega, ?_⟩, fun z => ⟨by omega, fun y => absurd y (by omega), fun _ => ?_⟩⟩⟩
      · -- carry
        have hc := up_carry hm (q := q) (by omega)
        obtain ⟨t1, t2⟩ := turn 0 (by decide) (by decide)
        rw [e6]
        refine ihj (upV w j 0) _ (by omega) t1 t2 (fun t ht => ?_) (fun t ht1 ht2 => ?_) ?_
        · simp only [upV]; rw [if_neg (by omega)]; exact hlo t (by omega)
        · by_cases y : t = j
          · subst y
            simp only [upV, if_true]
            rw [wy]
            unfold dgN
            rw [show n - 1 - t = n - (t + 1) by omega, hcar, hc.2]; rfl
          · simp only [upV]; rw [if_neg (by omega)]; exact hhi t (by omega) ht2
        · rw [hup, hup, hq, hcar, hc.1]
      · -- no carry
        have hc := up_same hm (q := q) (by omega)
        obtain ⟨t1, t2⟩ := turn (((q % m : Nat) : Int) + 1) (by omega) (by omega)
        have hkj : (k + 1) / m ^ (n - j) = k / m ^ (n - j) := by rw [hup, hup, hq, hcar, hc.1]
        have hall : ∀ t : Nat, t < n → upV w j (((q % m : Nat) : Int) + 1) t = wyS v (k + 1) t := by
          intro t ht
          simp only [upV]
          by_cases y : t = j
          · subst y
            rw [if_pos rfl, wy]
            unfold dgN
            rw [show n - 1 - t = n - (t + 1) by omega, hcar, hc.2]; omega
          · rw [if_neg (by omega)]
            by_cases y2 : t < j
            · rw [hlo t (by omega), wy, wy]
              unfold dgN
              have e7 : n - 1 - t = (n - j) + (j - 1 - t) := by omega
              rw [e7, div_up, div_up, hkj]
            · exact hhi t (by omega) ht
        refine ⟨rfl, Or.inl ⟨rfl, ?_⟩, ⟨fun s a b => ?_, fun f a b => ?_⟩, t1⟩
        · unfold nW
          rw [en', em']
          have e8 : (k + 1) / m ^ n = k / m ^ n := by
            rw [show n = (n - j) + j by omega, div_up, div_up, hkj]
          rw [Nat.div_eq_of_lt hkn] at e8
          exact (Nat.div_eq_zero_iff_lt (Nat.pow_pos hm)).1 e8
        · rw [t2.1 s a b]
          have e : s = ((s.toNat : Nat) : Int) := by omega
          rw [e]
          exact hall s.toNat (by omega)
        · rw [t2.2 f a b]
          congr 1
          unfold shN
          apply Nat.eq_of_testBit_eq
          intro i
          rw [setN_bit, setN_bit, en']
          by_cases y : i < n
          · rw [hall i y]
          · rw [decide_eq_false y, Bool.false_and, Bool.false_and]
  refine loop n (wyS v k) D (Nat.le_refl _) (fun _ _ _ => rfl) hW (fun _ _ => rfl) (fun t a b => by omega) ?_
  rw [Nat.sub_self, Nat.pow_zero, Nat.div_one, Nat.div_one]
end

-- words by their values
theorem jo_sl {w c : Int} (hw : 0 ≤ w ∧ w < 36028797018963968) (hc : 0 ≤ c ∧ c < 256) : jO (jSl w 8) c = w * 256 + c := by
  obtain ⟨a, rfl⟩ := Int.eq_ofNat_of_zero_le hw.1
  obtain ⟨b, rfl⟩ := Int.eq_ofNat_of_zero_le hc.1
  unfold jO jSl
  rw [Int64.ofInt_toInt, Int64.ofInt_eq_ofNat, Int64.ofInt_eq_ofNat]
  have e8 : ((Int32.ofInt 8).toInt64 &&& 63) = 8 := by decide
  rw [e8]
  have e1 : (Int64.ofNat a <<< (8 : Int64)).toBitVec = BitVec.ofNat 64 (a * 256) := by
    rw [Int64.toBitVec_shiftLeft]
    have e9 : ((8 : Int64).toBitVec.smod 64) = 8#64 := by decide
    rw [e9]
    apply BitVec.eq_of_toNat_eq
    rw [BitVec.shiftLeft_eq', BitVec.toNat_shiftLeft, Int64.toBitVec_ofNat', BitVec.toNat_ofNat, BitVec.toNat_ofNat, BitVec.toNat_ofNat, Nat.shiftLeft_eq, show 2 ^ (8 % 2 ^ 64) = 256 from rfl]
    omega
  have e : (Int64.ofNat a <<< (8 : Int64)) ||| Int64.ofNat b = Int64.ofNat (a * 256 + b) := by
    rw [← Int64.toBitVec_inj, Int64.toBitVec_or, e1, Int64.toBitVec_ofNat', Int64.toBitVec_ofNat']
    apply BitVec.eq_of_toNat_eq
    rw [BitVec.toNat_or, BitVec.toNat_ofNat, BitVec.toNat_ofNat, BitVec.toNat_ofNat]
    have h1 : a * 256 % 2 ^ 64 = a <<< 8 := by rw [Nat.shiftLeft_eq]; omega
    have h2 : b % 2 ^ 64 = b := by omega
    have h4 : a <<< 8 = a * 256 := Nat.shiftLeft_eq a 8
    have h3 : (a * 256 + b) % 2 ^ 64 = a <<< 8 + b := by rw [h4]; exact Nat.mod_eq_of_lt (by omega)
    rw [h1, h2, h3, Nat.shiftLeft_add_eq_or_of_lt (by omega)]
  rw [e, Int64.toInt_ofNat_of_lt (by omega)]
  omega
def bdL (k : Nat) : Int := [1, 123, 31488, 8060928, 2063597568, 528280977408, 135239930216448, 34621422135410688, 8863084066665136128].getD k 0
theorem wv_1 {T : Int → Int} {s : Int} : ∀ k : Nat, k ≤ 8 → (∀ i : Int, s ≤ i → i < s + k → leB T i = true) → (0 ≤ wv T s k ∧ wv T s k < bdL k) ∧ (∀ j : Nat, k = j + 1 → wv T s k = wv T s j * 256 + T (s + j))
  | 0, _, _ => ⟨⟨Int.le_refl _, by show (0 : Int) < 1; decide⟩, fun j h => absurd h (by omega)⟩
  | k + 1, hk, hl => by
    have ih := (wv_1 (T := T) (s := s) k (by omega) (fun i a b => hl i a (by omega))).1
    have hc : 97 ≤ T (s + k) ∧ T (s + k) ≤ 122 := by
      have := hl (s + k) (by omega) (by omega)
      unfold leB at this
      exact of_decide_eq_true this
    have e : wv T s (k + 1) = jO (jSl (wv T s k) 8) (T (s + k)) := rfl
    have hb : bdL k ≤ 34621422135410688 := by
      rcases (show k = 0 ∨ k = 1 ∨ k = 2 ∨ k = 3 ∨ k = 4 ∨ k = 5 ∨ k = 6 ∨ k = 7 by omega) with rfl | rfl | rfl | rfl | rfl | rfl | rfl | rfl <;> decide
    rw [jo_sl (by omega) (by omega)] at e
    refine ⟨?_, fun j hj => ?_⟩
    · rw [e]
      generalize wv T s k = w at ih
      rcases (show k = 0 ∨ k = 1 ∨ k = 2 ∨ k = 3 ∨ k = 4 ∨ k = 5 ∨ k = 6 ∨ k = 7 by omega) with h | h | h | h | h | h | h | h <;> subst h <;> simp only [bdL, List.getD_cons_zero, List.getD_cons_succ] at ih ⊢ <;> omega
    · have : j = k := by omega
      subst this
      exact e
theorem wv_inj {T U : Int → Int} {s u : Int} : ∀ (k m : Nat), k ≤ 8 → m ≤ 8 → (∀ i : Int, s ≤ i → i < s + k → leB T i = true) → (∀ i : Int, u ≤ i → i < u + m → leB U i = true) → wv T s k = wv U u m → k = m ∧ ∀ i : Nat, i < k → T (s + i) = U (u + i)
  | 0, 0, _, _, _, _, _ => ⟨rfl, fun i h => absurd h (by omega)⟩
  | 0, m + 1, _, hm, _, hu, he => by
    have h1 := (wv_1 (m + 1) hm hu).2 m rfl
    have h2 := (wv_1 m (by omega) (fun i a b => hu i a (by omega))).1
    have hc : 97 ≤ U (u + m) := by
      have := hu (u + m) (by omega) (by omega)
      unfold leB at this
      exact (of_decide_eq_true this).1
    have h3 : wv T s 0 = 0 := rfl
    omega
  | k + 1, 0, hk, _, ht, _, he => by
    have h1 := (wv_1 (k + 1) hk ht).2 k rfl
    have h2 := (wv_1 k (by omega) (fun i a b => ht i a (by omega))).1
    have hc : 97 ≤ T (s + k) := by
      have := ht (s + k) (by omega) (by omega)
      unfold leB at this
      exact (of_decide_eq_true this).1
    have h3 : wv U u 0 = 0 := rfl
    omega
  | k + 1, m + 1, hk, hm, ht, hu, he => by
    have h1 := (wv_1 (k + 1) hk ht).2 k rfl
    have h2 := (wv_1 (m + 1) hm hu).2 m rfl
    have hc : 97 ≤ T (s + k) ∧ T (s + k) ≤ 122 := by
      have := ht (s + k) (by omega) (by omega)
      unfold leB at this
      exact of_decide_eq_true this
    have hd : 97 ≤ U (u + m) ∧ U (u + m) ≤ 122 := by
      have := hu (u + m) (by omega) (by omega)
      unfold leB at this
      exact of_decide_eq_true this
    obtain ⟨e1, e2⟩ := wv_inj k m (by omega) (by omega) (fun i a b => ht i a (by omega)) (fun i a b => hu i a (by omega)) (by omega)
    subst e1
    refine ⟨rfl, fun i hi => ?_⟩
    by_cases z : i = k
    · subst z; omega
    · exact e2 i (by omega)
theorem wv_cg {T U : Int → Int} {s u : Int} : ∀ k : Nat, (∀ i : Nat, i < k → T (s + i) = U (u + i)) → wv T s k = wv U u k
  | 0, _ => rfl
  | k + 1, h => by
    show jO (jSl (wv T s k) 8) (T (s + k)) = jO (jSl (wv U u k) 8) (U (u + k))
    rw [wv_cg k (fun i hi => h i (by omega)), h k (by omega)]
/-- the words, in the reference's order -/
def kcL : List Int := [0x7374726970, 0x6861696c, 0x66726f7374, 0x647279, 0x626c69676874, 0x66616d696c79, 0x6174, 0x6769766573, 0x736f696c, 0x746f, 0x6e656564, 0x686f6c6473, 0x74616b6573, 0x6f646473]
def ksF (p : Int) : Int := ksB.getD p.toNat 0
theorem kc_wv : ∀ j : Fin 14, wv ksF (ksT j.val) (keT j.val - ksT j.val).toNat = kcL.getD j.val 0 ∧ kcL.getD j.val 0 ≠ 0 := by decide +kernel
def kwI (x : Int) : Int := fstF (fun j => decide (kcL.getD j.toNat 0 = x)) 0 14
theorem kwP_iff {T : Int → Int} {s e : Int} (hse : s < e) (hl : ∀ i, s ≤ i → i < e → leB T i = true) {j : Nat} (hj : j < 14) : kwP T s e j ↔ kcL.getD j 0 = (if 8 < e - s then 0 else wv T s (e - s).toNat) := by
  have hb := ks_b ⟨j, hj⟩
  have hk := kc_wv ⟨j, hj⟩
  have hlj := ks_l ⟨j, hj⟩
  dsimp only at hb hk hlj
  have hle : ∀ i : Int, ksT j ≤ i → i < ksT j + ((keT j - ksT j).toNat : Nat) → leB ksF i = true := fun i a b => by
    have := hlj ⟨i.toNat, by omega⟩ (by dsimp only; omega) (by dsimp only; omega)
    unfold leB ksF
    exact decide_eq_true this
  constructor
  · rintro ⟨h1, h2⟩
    rw [if_neg (by omega), ← hk.1, show (keT j - ksT j).toNat = (e - s).toNat by omega]
    exact wv_cg _ (fun i hi => h2 i (by omega) (by omega))
  · intro h
    by_cases q : 8 < e - s
    · rw [if_pos q] at h; exact absurd h hk.2
    · rw [if_neg q, ← hk.1] at h
      obtain ⟨e1, e2⟩ := wv_inj _ _ (by omega) (by omega) hle (fun i a b => hl i a (by omega)) h
      refine ⟨by omega, fun i i0 i1 => ?_⟩
      have := e2 i.toNat (by omega)
      have e3 : ((i.toNat : Nat) : Int) = i := by omega
      rw [e3] at this
      exact this
theorem fst_cg2 {q q' : Int → Bool} : ∀ (k : Nat) (lo : Int), (∀ i, lo ≤ i → i < lo + k → q i = q' i) → fstF q lo k = fstF q' lo k
  | 0, _, _ => rfl
  | k + 1, lo, h => by
    rw [fstF, fstF, h lo (by omega) (by omega), fst_cg2 k (lo + 1) (fun i a b => h i (by omega) (by omega))]
theorem kwF_I {T : Int → Int} {s e : Int} (hse : s < e) (hl : ∀ i, s ≤ i → i < e → leB T i = true) : kwF T s e = kwI (if 8 < e - s then 0 else wv T s (e - s).toNat) := by
  unfold kwF kwI
  refine fst_cg2 14 0 (fun i a b => ?_)
  have h := kwP_iff hse hl (j := i.toNat) (by omega)
  by_cases q : kwP T s e i.toNat
  · rw [kwB_t q, decide_eq_true (h.1 q)]
  · rw [kwB_f q, decide_eq_false (fun z => q (h.2 z))]
theorem wv_pos {T : Int → Int} {s : Int} {k : Nat} (h0 : 0 < k) (hk : k ≤ 8) (hl : ∀ i : Int, s ≤ i → i < s + k → leB T i = true) : 0 < wv T s k := by
  obtain ⟨j, rfl⟩ : ∃ j, k = j + 1 := ⟨k - 1, by omega⟩
  have h1 := (wv_1 (j + 1) hk hl).2 j rfl
  have h2 := (wv_1 j (by omega) (fun i a b => hl i a (by omega))).1
  have hc : 97 ≤ T (s + j) := by
    have := hl (s + j) (by omega) (by omega)
    unfold leB at this
    exact (of_decide_eq_true this).1
  omega
/-- kwI x, told word by word -/
theorem kwI_at {x : Int} {j : Nat} (hj : j < 14) (h : kcL.getD j 0 = x) : kwI x = j := by
  subst h
  have : ∀ j : Fin 14, kwI (kcL.getD j.val 0) = j.val := by decide +kernel
  exact this ⟨j, hj⟩
theorem kwI_or (x : Int) : (kwI x = -1 ∧ ∀ j : Nat, j < 14 → kcL.getD j 0 ≠ x) ∨ ∃ j : Nat, j < 14 ∧ kwI x = j ∧ kcL.getD j 0 = x := by
  by_cases h : ∃ j : Nat, j < 14 ∧ kcL.getD j 0 = x
  · obtain ⟨j, h1, h2⟩ := h
    exact Or.inr ⟨j, h1, kwI_at h1 h2, h2⟩
  · refine Or.inl ⟨?_, fun j hj he => h ⟨j, hj, he⟩⟩
    have key : ∀ (k : Nat) (lo : Int), 0 ≤ lo → lo + k ≤ 14 → fstF (fun j => decide (kcL.getD j.toNat 0 = x)) lo k = -1 := by
      intro k
      induction k with
      | zero => intro lo _ _; rfl
      | succ k ih =>
        intro lo h0 h1
        rw [fstF, if_neg (by simp only [decide_eq_true_eq]; exact fun z => h ⟨lo.toNat, by omega, z⟩)]
        exact ih (lo + 1) (by omega) (by omega)
    exact key 14 0 (by decide) (by decide)
theorem kwI_iff {x : Int} {j : Nat} (hj : j < 14) : kwI x = j ↔ x = kcL.getD j 0 := by
  constructor
  · intro h
    rcases kwI_or x with ⟨h1, _⟩ | ⟨i, h1, h2, h3⟩
    · omega
    · have : i = j := by omega
      subst this; exact h3.symm
  · intro h
    exact kwI_at hj h.symm
/-- the words that no name may be -/
theorem nn_kc : ∀ j : Fin 15, (j.val = 14 ∧ nnL.getD j.val 0 = 0) ∨ (∃ i : Fin 14, nnL.getD j.val 0 = kcL.getD i.val 0) := by decide
theorem kc_nn : ∀ i : Fin 14, ∃ j : Fin 15, nnL.getD j.val 0 = kcL.getD i.val 0 := by decide
theorem nm_iff (x : Int) : (∀ j : Nat, j < 15 → nnL.getD j 0 ≠ x) ↔ (kwI x = -1 ∧ x ≠ 0) := by
  constructor
  · intro h
    refine ⟨?_, fun z => h 14 (by decide) (by rw [z]; decide)⟩
    rcases kwI_or x with ⟨h1, _⟩ | ⟨i, h1, h2, h3⟩
    · exact h1
    · obtain ⟨j, hj⟩ := kc_nn ⟨i, h1⟩
      exact absurd (hj.trans h3) (h j.val j.isLt)
  · rintro ⟨h1, h2⟩ j hj he
    rcases nn_kc ⟨j, hj⟩ with ⟨_, q⟩ | ⟨i, q⟩
    · exact h2 (he.symm.trans q)
    · have := kwI_at i.isLt (q.symm.trans he)
      omega

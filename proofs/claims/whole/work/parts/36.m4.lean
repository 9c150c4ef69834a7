-- best, edge and change of the reference
abbrev obS (v : Vl) (f k : Int) : Nat → Bool := okS (openN v f) k
abbrev nS (v : Vl) : Nat := 2 ^ (v 0).toNat
def frT (n d : Int) : Int := Int.tdiv n (Nat.gcd n.natAbs d.natAbs : Nat)
def frB (n d : Int) : Int := Int.tdiv d (Nat.gcd n.natAbs d.natAbs : Nat)
/-- an answer: the status, the value, and a fraction if one is told -/
abbrev Ans : Type := Int × Int × Option (Int × Int)
abbrev aNo (s r : Int) : Ans := (s, r, none)
abbrev aFr (r n d : Int) : Ans := (0, r, some (frT n d, frB n d))
/-- cell c (places s, t, b for status, top, bottom) tells the answer a; all else but scr stays -/
def tQ (scr : Nat → Int → Prop) (c : Nat) (s t b : Int) (D D' : Dm) (a : Ans) : Prop := D' c s = a.1 ∧ (match a.2.2 with | none => D' c t = D c t ∧ D' c b = D c b | some x => D' c t = x.1 ∧ D' c b = x.2) ∧ ∀ c' i, ¬ scr c' i → ¬ (c' = c ∧ (i = s ∨ i = t ∨ i = b)) → D' c' i = D c' i
abbrev mQ (D D' : Dm) (a : Ans) : Prop := tQ scrM 107 1 2 3 D D' a
theorem upd2_twice (D : Dm) (c : Nat) (i x y : Int) : upd2 (upd2 D c i x) c i y = upd2 D c i y := by
  funext c' i'
  simp only [upd2]
  split <;> rfl
theorem mQ.no {D D1 : Dm} {a : Ans} {s r : Int} (ha : a = aNo s r) (h : mS D D1) : r = a.2.1 ∧ mQ D (upd2 D1 107 1 s) a := by
  subst ha
  refine ⟨rfl, upd2_same _ _ _ _, ⟨?_, ?_⟩, fun c i h1 h2 => ?_⟩
  · rw [upd2_place _ _ _ (by decide)]; exact h _ _ (by simp [scrM])
  · rw [upd2_place _ _ _ (by decide)]; exact h _ _ (by simp [scrM])
  · rw [← h c i h1]; simp only [upd2]; rw [if_neg]; rintro ⟨rfl, rfl⟩; exact h2 ⟨rfl, Or.inl rfl⟩
theorem mQ.tl {D D1 : Dm} {a : Ans} {n d r : Int} (ha : a = aFr r n d) (h : mS D D1) : r = a.2.1 ∧ mQ D (upd2 (upd2 (upd2 D1 107 2 (frT n d)) 107 3 (frB n d)) 107 1 0) a := by
  subst ha
  refine ⟨rfl, upd2_same _ _ _ _, ⟨by simp [upd2], by simp [upd2]⟩, fun c i h1 h2 => ?_⟩
  rw [← h c i h1]
  simp only [upd2]
  rw [if_neg, if_neg, if_neg]
  · rintro ⟨rfl, rfl⟩; exact h2 ⟨rfl, Or.inr (Or.inl rfl)⟩
  · rintro ⟨rfl, rfl⟩; exact h2 ⟨rfl, Or.inr (Or.inr rfl)⟩
  · rintro ⟨rfl, rfl⟩; exact h2 ⟨rfl, Or.inl rfl⟩
theorem all_b {v : Vl} (hv : wfV v) : 1 ≤ allS v ∧ allS v ≤ 16777216 := by
  have hH := wfH hv
  unfold allS
  rcases (show v 1 = 0 ∨ v 1 = 1 ∨ v 1 = 2 ∨ v 1 = 3 ∨ v 1 = 4 ∨ v 1 = 5 ∨ v 1 = 6 by omega) with h | h | h | h | h | h | h <;> rw [h] <;> decide
theorem bst_b (p : Nat → Bool) (w : Nat → Int) (n : Nat) : -1 ≤ bstS p w n ∧ bstS p w n < n := by
  rcases bst_is p w n with ⟨q, _⟩ | ⟨b, q, q2, _⟩ <;> omega
section
variable {l : Launch} {E : Ev} {G : Sh} {D : Dm}
def bestR (v : Vl) (f k : Int) : Int := bstS (obS v f k) (worthS v f) (nS v)
def q_best (v : Vl) (f k : Int) : Ans := if (0 ≤ f ∧ f < v 2) ∧ 1 ≤ k ∧ k ≤ 6 then (if bestR v f k = -1 then aNo 6 (-1) else aFr (bestR v f k) (worthS v f (bestR v f k).toNat) (allS v)) else aNo 1 (-1)
theorem c_X10_best (hL : Lay G) (hv : wfV (D 108)) (hh : D 107 20 = 0) {f k : Int} (hf : -2147483648 ≤ f ∧ f < 2147483648) (hk : -2147483648 ≤ k ∧ k < 2147483648) {a : Ans} (ha : a = q_best (D 108) f k) : C0 l E MX10_best 0 [vR E 107, vI f, vI k] G D (fun r D' => r = a.2.1 ∧ mQ D D' a) := by
  have h10 := two_le (wfS hv)
  have hab := all_b hv
  refine s_X10_best hL ⟨hf, fun h => ⟨rfl, mQ.no ?_ mS.rf⟩, fun h => ⟨hk, fun h1 => ⟨rfl, mQ.no ?_ mS.rf⟩, fun h1 => ⟨fun h6 => ?_, fun h6 => ⟨rfl, mQ.no ?_ mS.rf⟩⟩⟩⟩
  · rw [ha, q_best, if_neg (by omega)]
  · rw [ha, q_best, if_neg (by omega)]
  · rw [q_best, if_pos (show (0 ≤ f ∧ f < D 108 2) ∧ 1 ≤ k ∧ k ≤ 6 from ⟨h, h1, h6⟩)] at ha
    refine C0.use (c_X10_bestOf hL hv hh h ⟨h1, h6⟩) ?_
    rintro r D1 ⟨hr, hw, hm⟩
    try dsimp only
    have hrb := bst_b (okS (openN (D 108) f) k) (worthS (D 108) f) (2 ^ (D 108 0).toNat)
    have e : D1 108 = D 108 := hm.at
    have hbr : bestR (D 108) f k = r := hr.symm
    rw [hbr] at ha
    refine ⟨by omega, fun hne => ?_, fun he => ⟨rfl, mQ.no (by rw [ha, if_pos he]) hm⟩⟩
    refine C0.use (c_X10_allLots hL (by rw [e]; exact hv)) ?_
    rintro r2 D2 ⟨rfl, rfl⟩
    try dsimp only
    rw [e, hw hne]
    have hwb := worth_b hv h (S := r.toNat) (by omega)
    refine C0.use (c_X10_tells hL (by omega) (by omega)) ?_
    rintro r3 D3 ⟨rfl, rfl⟩
    try dsimp only
    rw [upd2_twice]
    exact ⟨rfl, mQ.tl (by rw [ha, if_neg hne]) hm⟩
  · rw [ha, q_best, if_neg (by omega)]
end

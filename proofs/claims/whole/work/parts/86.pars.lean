/-! ===== the reading of a text, pure ===== -/
abbrev Rs : Type := Sum (Int × Int) (Tk × Vl × Row × Row)
def fl (K : Tk) (why : Int) : Rs := .inl (if K.1 = 4 then 1 else why, K.2.1)
abbrev nxK (T : Int → Int) (n : Int) (K : Tk) : Tk := tokS T n K.2.2.1
def WW (T : Int → Int) (n c : Int) (K : Tk) (k : Tk → Rs) : Rs := if K.1 = 1 ∧ K.2.2.2 = c then k (nxK T n K) else fl K 2
def NB (T : Int → Int) (n lo hi : Int) (K : Tk) (k : Int → Tk → Rs) : Rs := if K.1 = 2 then (if lo ≤ K.2.2.2 ∧ K.2.2.2 ≤ hi then k K.2.2.2 (nxK T n K) else fl K 4) else fl K 2
def SG (T : Int → Int) (n : Int) (K : Tk) (k : Tk → Rs) : Rs := if K.1 = 3 then k (nxK T n K) else fl K 2
abbrev nmOk (K : Tk) : Prop := K.1 = 1 ∧ kwI K.2.2.2 = -1 ∧ K.2.2.2 ≠ 0
def fnd (r : Row) (m x : Int) : Int := fstF (fun j => decide (r j = x)) 0 m.toNat
def NM (T : Int → Int) (n : Int) (r : Row) (m : Int) (K : Tk) (k : Int → Tk → Rs) : Rs := if nmOk K then (if fnd r m K.2.2.2 = -1 then k K.2.2.2 (nxK T n K) else fl K 3) else fl K 2
def wStrip (w : Vl) (x1 x2 x3 x4 : Int) : Vl := fun i => if i = 0 then w 0 + 1 else if i = 8 + 5 * w 0 then x1 else if i = 8 + 5 * w 0 + 1 then x2 else if i = 8 + 5 * w 0 + 2 then x3 else if i = 8 + 5 * w 0 + 3 then x4 else if i = 8 + 5 * w 0 + 4 then -1 else w i
def wHarm (w : Vl) (kd a b t o : Int) : Vl := fun i => if i = 1 then w 1 + 1 else if i = 58 + 5 * w 1 then kd else if i = 58 + 5 * w 1 + 1 then a else if i = 58 + 5 * w 1 + 2 then b else if i = 58 + 5 * w 1 + 3 then t else if i = 58 + 5 * w 1 + 4 then o else w i
def wFam (w : Vl) (x1 x2 x3 : Int) : Vl := fun i => if i = 2 then w 2 + 1 else if i = 88 + 3 * w 2 then x1 else if i = 88 + 3 * w 2 + 1 then x2 else if i = 88 + 3 * w 2 + 2 then x3 else w i
abbrev Kt : Type := Tk → Vl → Row → Row → Rs
def pStrip (T : Int → Int) (n : Int) (w : Vl) (sn fn : Row) (k : Kt) (K : Tk) : Rs := if w 0 = 10 then fl K 5 else
  NM T n sn (w 0) (nxK T n K) (fun x0 K1 => WW T n 24948 K1 (fun K2 => NB T n 0 99 K2 (fun x1 K3 => NB T n 0 99 K3 (fun x2 K4 => WW T n 444150998387 K4 (fun K5 => NB T n 1 99 K5 (fun x3 K6 =>
    if K6.1 = 1 ∧ K6.2.2.2 = 1936681324 then NB T n 1 3 (nxK T n K6) (fun x4 K7 => k K7 (wStrip w x1 x2 x3 x4) (upV sn (w 0) x0) fn)
    else k K6 (wStrip w x1 x2 x3 1) (upV sn (w 0) x0) fn))))))
def hTail (T : Int → Int) (n : Int) (w : Vl) (sn fn : Row) (k : Kt) (kd a b : Int) (K : Tk) : Rs := WW T n 499850634611 K (fun K1 => NB T n 0 8 K1 (fun t K2 => WW T n 1868850291 K2 (fun K3 => NB T n 0 16 K3 (fun o K4 => k K4 (wHarm w kd a b t o) sn fn))))
def pHarm (T : Int → Int) (n : Int) (w : Vl) (sn fn : Row) (k : Kt) (kd : Int) (K : Tk) : Rs := if w 1 = 6 then fl K 5 else
  if kd = 0 then NB T n 0 99 (nxK T n K) (fun a K2 => WW T n 29807 K2 (fun K3 => NB T n a 99 K3 (fun b K4 => hTail T n w sn fn k kd a b K4)))
  else if kd = 1 then NB T n 0 99 (nxK T n K) (fun a K2 => hTail T n w sn fn k kd a 0 K2)
  else if kd = 2 then NB T n 1 3 (nxK T n K) (fun a K2 => hTail T n w sn fn k kd a 0 K2)
  else hTail T n w sn fn k kd 0 0 (nxK T n K)
def pHold (T : Int → Int) (n : Int) (f : Int) (sn fn : Row) (k : Kt) : Nat → Vl → Tk → Rs
  | 0, w, K => k K w sn fn
  | m + 1, w, K => if K.1 = 1 ∧ K.2.2.2 = 448545973363 then
      (if nmOk (nxK T n K) then
        (if fnd sn (w 0) (nxK T n K).2.2.2 = -1 then fl (nxK T n K) 3
         else if w (8 + 5 * fnd sn (w 0) (nxK T n K).2.2.2 + 4) = -1 then pHold T n f sn fn k m (upV w (8 + 5 * fnd sn (w 0) (nxK T n K).2.2.2 + 4) f) (nxK T n (nxK T n K))
         else fl (nxK T n K) 6)
       else fl (nxK T n K) 2)
    else k K w sn fn
def pFam (T : Int → Int) (n : Int) (w : Vl) (sn fn : Row) (k : Kt) (K : Tk) : Rs := if w 2 = 4 then fl K 5 else
  NM T n fn (w 2) (nxK T n K) (fun x0 K1 => WW T n 24948 K1 (fun K2 => NB T n 0 99 K2 (fun x1 K3 => NB T n 0 99 K3 (fun x2 K4 => WW T n 1852138852 K4 (fun K5 => NB T n 0 99 K5 (fun x3 K6 =>
    pHold T n (w 2) sn (upV fn (w 2) x0) k 601 (wFam w x1 x2 x3) K6))))))
def kEnd (T : Int → Int) (n : Int) : Kt := fun K w sn fn => SG T n K (fun K1 => .inr (K1, w, sn, fn))
def kOf (K : Tk) : Int := if K.1 = 1 then kwI K.2.2.2 else -1
def pPart (T : Int → Int) (n : Int) (w : Vl) (sn fn : Row) (K : Tk) : Rs :=
  if kOf K = 0 then pStrip T n w sn fn (kEnd T n) K else if kOf K = 5 then pFam T n w sn fn (kEnd T n) K
  else if 1 ≤ kOf K ∧ kOf K ≤ 4 then pHarm T n w sn fn (kEnd T n) (kOf K - 1) K else fl K 2
def pAll (T : Int → Int) (n : Int) : Nat → Vl → Row → Row → Tk → Sum (Int × Int) Vl
  | 0, w, _, _, _ => .inr w
  | m + 1, w, sn, fn, K => if K.1 = 0 then .inr w else match pPart T n w sn fn K with
    | .inl f => .inl f
    | .inr (K1, w1, sn1, fn1) => pAll T n m w1 sn1 fn1 K1
/-- a token as the readers make it -/
def Kok (T : Int → Int) (n : Int) (K : Tk) : Prop := (0 ≤ K.1 ∧ K.1 ≤ 4) ∧ (0 ≤ K.2.1 ∧ K.2.1 ≤ n) ∧ (K.1 ≠ 4 → K.2.1 ≤ K.2.2.1 ∧ K.2.2.1 ≤ n) ∧ (K.1 = 1 ∨ K.1 = 2 ∨ K.1 = 3 → K.2.1 < K.2.2.1) ∧ (K.1 = 1 → (∀ i, K.2.1 ≤ i → i < K.2.2.1 → leB T i = true) ∧ K.2.2.2 = if 8 < K.2.2.1 - K.2.1 then 0 else wv T K.2.1 (K.2.2.1 - K.2.1).toNat) ∧ (K.1 = 2 → 0 ≤ K.2.2.2 ∧ K.2.2.2 ≤ 99)
theorem tok_ok {T : Int → Int} {n p : Int} (hp : 0 ≤ p ∧ p ≤ n) : Kok T n (tokS T n p) ∧ p ≤ (tokS T n p).2.1 := by
  have he := scE_b (c := whB T) hp.2
  unfold tokS
  generalize hs : scE (whB T) n p = s at he ⊢
  unfold tkAt
  by_cases h0 : n ≤ s
  · rw [if_pos h0]
    exact ⟨⟨⟨by dsimp only; omega, by dsimp only; omega⟩, ⟨by dsimp only; omega, by dsimp only; omega⟩, fun _ => ⟨by dsimp only; omega, by dsimp only; omega⟩, fun q => absurd q (by dsimp only; omega), fun q => absurd q (by dsimp only; omega), fun q => absurd q (by dsimp only; omega)⟩, by dsimp only; omega⟩
  · rw [if_neg h0]
    by_cases h1 : leB T s = true
    · rw [if_pos h1]
      have he1 := scE_b (c := leB T) (show s ≤ n by omega)
      have hgt : s < scE (leB T) n s := by
        rw [scE_s (by omega) h1]
        have := scE_b (c := leB T) (show s + 1 ≤ n by omega)
        omega
      exact ⟨⟨⟨by dsimp only; omega, by dsimp only; omega⟩, ⟨by dsimp only; omega, by dsimp only; omega⟩, fun _ => ⟨by dsimp only; omega, by dsimp only; omega⟩, fun _ => hgt, fun _ => ⟨fun i a b => scE_in a b, rfl⟩, fun q => absurd q (by dsimp only; omega)⟩, by dsimp only; omega⟩
    · rw [if_neg h1]
      by_cases h2 : diB T s = true
      · rw [if_pos h2]
        have he1 := scE_b (c := diB T) (show s ≤ n by omega)
        have hgt : s < scE (diB T) n s := by
          rw [scE_s (by omega) h2]
          have := scE_b (c := diB T) (show s + 1 ≤ n by omega)
          omega
        by_cases h3 : 2 < scE (diB T) n s - s
        · rw [if_pos h3]
          exact ⟨⟨⟨by dsimp only; omega, by dsimp only; omega⟩, ⟨by dsimp only; omega, by dsimp only; omega⟩, fun q => absurd rfl q, fun q => absurd q (by dsimp only; omega), fun q => absurd q (by dsimp only; omega), fun q => absurd q (by dsimp only; omega)⟩, by dsimp only; omega⟩
        · rw [if_neg h3]
          exact ⟨⟨⟨by dsimp only; omega, by dsimp only; omega⟩, ⟨by dsimp only; omega, by dsimp only; omega⟩, fun _ => ⟨by dsimp only; omega, by dsimp only; omega⟩, fun _ => hgt, fun q => absurd q (by dsimp only; omega), fun _ => nv2 (by omega) (fun i a b => scE_in (n := n) a (by omega))⟩, by dsimp only; omega⟩
      · rw [if_neg h2]
        by_cases h3 : T s = 59
        · rw [if_pos h3]
          exact ⟨⟨⟨by dsimp only; omega, by dsimp only; omega⟩, ⟨by dsimp only; omega, by dsimp only; omega⟩, fun _ => ⟨by dsimp only; omega, by dsimp only; omega⟩, fun _ => by dsimp only; omega, fun q => absurd q (by dsimp only; omega), fun q => absurd q (by dsimp only; omega)⟩, by dsimp only; omega⟩
        · rw [if_neg h3]
          exact ⟨⟨⟨by dsimp only; omega, by dsimp only; omega⟩, ⟨by dsimp only; omega, by dsimp only; omega⟩, fun q => absurd rfl q, fun q => absurd q (by dsimp only; omega), fun q => absurd q (by dsimp only; omega), fun q => absurd q (by dsimp only; omega)⟩, by dsimp only; omega⟩
/-- the next one stands behind -/
theorem nx_ok {T : Int → Int} {n : Int} {K : Tk} (h : Kok T n K) (h4 : K.1 ≠ 4) : Kok T n (nxK T n K) ∧ K.2.2.1 ≤ (nxK T n K).2.1 := by
  have h1 := h.2.2.1 h4
  have h2 := h.2.1
  exact tok_ok ⟨by omega, by omega⟩

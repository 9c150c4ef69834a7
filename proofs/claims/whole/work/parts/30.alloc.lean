/-! ===== what is made ===== -/
def newD (D : Dm) (c : Nat) : Dm := fun c' i => if c' = c then 0 else D c' i
def newR (R : Nat → Int → Option Nat) (c : Nat) : Nat → Int → Option Nat := fun c' i => if c' = c then none else R c' i
def grow (G : Sh) (t : Tg) : Sh := (G.1 ++ [t], newR G.2 G.1.length)
theorem wsO_grow (E : Ev) (G : Sh) (D : Dm) (t : Tg) : wsO E (grow G t) (newD D G.1.length) = wsO E G D ++ [(E.1 + G.1.length, ceO E (grow G t) (newD D G.1.length) G.1.length t)] := by
  apply List.ext_getElem?
  intro i
  have hlen : (wsO E G D).length = G.1.length := by simp [wsO]
  rcases Nat.lt_trichotomy i G.1.length with h | h | h
  · rw [List.getElem?_append_left (by rw [hlen]; exact h)]
    simp only [wsO, List.getElem?_mapIdx, grow]
    rw [List.getElem?_append_left h]
    cases hg : G.1[i]? with
    | none => rfl
    | some t' =>
      simp only [Option.map_some]
      have hne : i ≠ G.1.length := by omega
      have e1 : ∀ j, newD D G.1.length i j = D i j := fun j => by simp [newD, hne]
      have e2 : ceO E (G.1 ++ [t], newR G.2 G.1.length) (newD D G.1.length) i t' = ceO E G D i t' := by
        have f1 : fsO E (G.1 ++ [t], newR G.2 G.1.length) (newD D G.1.length) i t'.1 = fsO E G D i t'.1 := by simp [fsO, e1, newR, hne]
        have f2 : arO E (G.1 ++ [t], newR G.2 G.1.length) (newD D G.1.length) i t' = arO E G D i t' := by simp [arO, e1, newR, hne]
        simp only [ceO, f1, f2]
      rw [e2]
  · subst h
    rw [List.getElem?_append_right (by rw [hlen]; exact Nat.le_refl _), hlen, Nat.sub_self]
    rw [wsO_get (t := t) (by simp [grow])]
    rfl
  · rw [List.getElem?_append_right (by omega), hlen]
    have e1 : (wsO E (grow G t) (newD D G.1.length))[i]? = none := by
      apply List.getElem?_eq_none
      simp [wsO, grow]; omega
    rw [e1, List.getElem?_eq_none]
    simp; omega
theorem Hp_grow {E : Ev} {G : Sh} {D : Dm} {H H' : Heap} {t : Tg} (h : Hp E G D H) (hz : H'.size = H.size + 1) (ho : ∀ q : Nat, q < H.size → H'[q]? = H[q]?) (hn : va_at E.2.1 vwCl (E.1 + G.1.length, ceO E (grow G t) (newD D G.1.length) G.1.length t) H') : Hp E (grow G t) (newD D G.1.length) H' := by
  refine ⟨by rw [hz, h.1]; simp [grow]; omega, ?_, ?_⟩
  · rw [wsO_grow]
    refine (h.2.1.kept (fun k q hq => ho q.1 ((h.2.1 k q hq).lt))).app (fun k q hq => ?_)
    have hk : k = 0 := by
      have := (List.getElem?_eq_some_iff.mp hq).1
      simp at this; omega
    subst hk
    cases hq
    exact hn
  · intro c t' i hc
    by_cases e : c = G.1.length
    · subst e
      simp only [newD, if_true]
      unfold okv
      split <;> decide
    · simp only [newD, if_neg e]
      have hc2 : G.1[c]? = some t' := by
        have hl : c < (G.1 ++ [t]).length := (List.getElem?_eq_some_iff.mp hc).1
        simp at hl
        have hc' : (G.1 ++ [t])[c]? = some t' := hc
        rwa [List.getElem?_append_left (by omega)] at hc'
      exact h.2.2 c t' i hc2
theorem S_push {A : Nat → Prop} {H0 H H1 : Heap} {locs : List Loc} (h : va_S A H0 H locs) (hz : H1.size = H.size + 1) (ho : ∀ q : Nat, q < H.size → H1[q]? = H[q]?) : va_S A H0 H1 locs :=
  ⟨Nat.le_trans h.1 (by omega), fun x h1 h2 => (ho x (Nat.lt_of_lt_of_le h1 h.1)).trans (h.2.1 x h1 h2), h.2.2⟩
section GA
variable {l : Launch} {E : Ev} {cc : ByteArray} {nL : Nat} {own : String} {R : Room} {Pf : MethodId → Method → State → Array Value → Prop} {Qf : List Frame → Array Value → State → State → Prop} {k n pc : Nat} {L : List (Nat × Value)} {st : List Value} {G : Sh} {D : Dm}
theorem go_newa {x : Int} {κ t0 : Nat} {ty : FieldType} {atype : ArrayType} (hx : 0 ≤ x ∧ x ≤ 50000000) (hw : Cond.arrayClass ty ∈ gT) (hty : newarray.typeOf atype = ty) (ht : (tysO E)[t0]? = some (E.2.2.1 κ, ty)) (hra : ∀ s cA, va_RA s cA ty → s.vm.findClass ("[" ++ ty.toString) = some cA) (hb : componentBytes ty ≤ 8) (hκ : 100 ≤ κ) (hcell : ∀ G' c, vp_cell (E.2.2.1 κ) (arO E G' (newD D c) c (κ, x.toNat)) = arrV (E.2.2.1 κ) x.toNat (fun _ => defaultValue ty))
    (hk : k + 1 ≤ R.cells ∧ n + x.toNat ≤ R.slots) (hd : decode cc pc = .ok (.newarray atype, 2)) (kk : Go l E cc nL own R Pf Qf (k + 1) (n + x.toNat) (pc + 2) L (vR E G.1.length :: st) (grow G (κ, x.toNat)) (newD D G.1.length)) : Go l E cc nL own R Pf Qf k n pc L (vI x :: st) G D := by
  intro p e s m args below meth cd H locs ls h1 h2 h3 h4 h5 h6 h7 h8 h9 h10 h11
  subst hty
  have hN : (Int32.ofInt x).toNatClampNeg = x.toNat := by have := clI hx.1 (show x < 2147483648 by omega); omega
  have hbm : x.toNat * componentBytes (newarray.typeOf atype) ≤ 536870912 := by
    have : x.toNat * componentBytes (newarray.typeOf atype) ≤ 50000000 * 8 := Nat.mul_le_mul (by omega) hb
    omega
  refine va_newaK h1 h2 (h5 _ hw) rfl hd rfl (by rw [zI, ltI (by omega) (by omega)]; omega) hN hbm hk.1 hk.2 h10.1 fun H1 cA e1 z1 o1 hAr hNm => ?_
  have hcA : cA = E.2.2.1 κ := Option.some.inj (hNm.symm.trans (hra s _ (h7.1.2 t0 _ ht).2))
  subst hcA
  have z2 : H1.size = H.size + 1 := by rw [z1, h10.1]
  have o2 : ∀ q : Nat, q < H.size → H1[q]? = H[q]? := fun q hq => o1 q (by rw [← h10.1]; exact hq)
  refine kk p e s m args below meth cd H1 locs ls h1 h2 h3 h4 h5 h6 h7 h8 (S_push h9 z2 o2) (Hp_grow h10 z2 o2 ?_) h11
  have hlt : ¬ κ < 100 := by omega
  simp only [ceO, hlt, if_false]
  show H1[E.1 + G.1.length]? = some (vp_cell _ _)
  rw [hcell]
  exact e1
theorem go_newaI {x : Int} (hx : 0 ≤ x ∧ x ≤ 50000000) (hw : Cond.arrayClass .int ∈ gT) (hk : k + 1 ≤ R.cells ∧ n + x.toNat ≤ R.slots) (hd : decode cc pc = .ok (.newarray .int, 2)) (kk : Go l E cc nL own R Pf Qf (k + 1) (n + x.toNat) (pc + 2) L (vR E G.1.length :: st) (grow G (100, x.toNat)) (newD D G.1.length)) : Go l E cc nL own R Pf Qf k n pc L (vI x :: st) G D :=
  go_newa (t0 := 0) hx hw rfl rfl (fun _ _ h => h) (by decide) (by decide) (fun G' c => by simp [arO, newD, vp_cell_i]; rfl) hk hd kk
theorem go_newaJ {x : Int} (hx : 0 ≤ x ∧ x ≤ 50000000) (hw : Cond.arrayClass .long ∈ gT) (hk : k + 1 ≤ R.cells ∧ n + x.toNat ≤ R.slots) (hd : decode cc pc = .ok (.newarray .long, 2)) (kk : Go l E cc nL own R Pf Qf (k + 1) (n + x.toNat) (pc + 2) L (vR E G.1.length :: st) (grow G (101, x.toNat)) (newD D G.1.length)) : Go l E cc nL own R Pf Qf k n pc L (vI x :: st) G D :=
  go_newa (t0 := 1) hx hw rfl rfl (fun _ _ h => h) (by decide) (by decide) (fun G' c => by simp [arO, newD, vp_cell_l]; rfl) hk hd kk
theorem go_newaB {x : Int} (hx : 0 ≤ x ∧ x ≤ 50000000) (hw : Cond.arrayClass .byte ∈ gT) (hk : k + 1 ≤ R.cells ∧ n + x.toNat ≤ R.slots) (hd : decode cc pc = .ok (.newarray .byte, 2)) (kk : Go l E cc nL own R Pf Qf (k + 1) (n + x.toNat) (pc + 2) L (vR E G.1.length :: st) (grow G (102, x.toNat)) (newD D G.1.length)) : Go l E cc nL own R Pf Qf k n pc L (vI x :: st) G D :=
  go_newa (t0 := 2) hx hw rfl rfl (fun _ _ h => h) (by decide) (by decide) (fun G' c => by simp [arO, newD, vp_cell_i]; rfl) hk hd kk
theorem go_newaZ {x : Int} (hx : 0 ≤ x ∧ x ≤ 50000000) (hw : Cond.arrayClass .boolean ∈ gT) (hk : k + 1 ≤ R.cells ∧ n + x.toNat ≤ R.slots) (hd : decode cc pc = .ok (.newarray .boolean, 2)) (kk : Go l E cc nL own R Pf Qf (k + 1) (n + x.toNat) (pc + 2) L (vR E G.1.length :: st) (grow G (103, x.toNat)) (newD D G.1.length)) : Go l E cc nL own R Pf Qf k n pc L (vI x :: st) G D :=
  go_newa (t0 := 3) hx hw rfl rfl (fun _ _ h => h) (by decide) (by decide) (fun G' c => by simp [arO, newD, vp_cell_i]; rfl) hk hd kk
end GA

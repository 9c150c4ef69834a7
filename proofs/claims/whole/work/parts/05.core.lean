/-! ===== the abstract memory: cells by number, whole numbers as Int ===== -/
abbrev Tg : Type := Nat × Nat
abbrev Sh : Type := List Tg × (Nat → Int → Option Nat)
abbrev Dm : Type := Nat → Int → Int
/-- base address; classes and slots; array classes by kind; the static table's address; the text's address -/
abbrev Ev : Type := Nat × va_G × (Nat → ClassId) × Nat × (Nat → Nat)
abbrev Mt : Type := MethodName × ByteArray × Nat × Option FieldType × Nat × Nat
def vI (x : Int) : Value := .int (Int32.ofInt x)
def vJ (x : Int) : Value := .long (Int64.ofInt x)
def vR (E : Ev) (c : Nat) : Value := .ref (E.1 + c)
def upd2 (D : Dm) (c : Nat) (i x : Int) : Dm := fun c' i' => if c' = c ∧ i' = i then x else D c' i'
def updR (R : Nat → Int → Option Nat) (c : Nat) (i : Int) (x : Option Nat) : Nat → Int → Option Nat := fun c' i' => if c' = c ∧ i' = i then x else R c' i'
theorem upd2_same (D : Dm) (c : Nat) (i x : Int) : upd2 D c i x c i = x := by simp [upd2]
theorem upd2_cell (D : Dm) {c c' : Nat} (i x j : Int) (h : c' ≠ c) : upd2 D c i x c' j = D c' j := by simp [upd2, h]
theorem upd2_place (D : Dm) (c : Nat) {c' : Nat} {i j : Int} (x : Int) (h : j ≠ i) : upd2 D c i x c' j = D c' j := by simp [upd2, h]
def fvl (E : Ev) (κ : Nat) (x : Int) (r : Option Nat) : Value := match κ with
  | 0 => vI x
  | 1 => vJ x
  | 3 => vI x
  | _ => va_rf (r.map (fun c => E.1 + c))
def fkd (ci : Nat) : List Nat := match ci with
  | 0 => [2, 2, 2, 2]
  | 1 => [2, 2, 2, 2, 2, 0, 0, 1]
  | 2 => [2, 2, 2, 0, 0]
  | 3 => [2, 2, 2, 2, 2, 2, 2, 0]
  | 4 => [2, 2, 2, 2, 2]
  | 5 => [2, 2, 2, 1, 1, 3, 2, 2, 2, 2]
  | 6 => [2, 0, 2, 0, 0, 0, 0, 0, 0, 0, 1, 2, 2, 2, 2]
  | 7 => [2, 2, 2]
  | 8 => [0, 0, 0, 0, 0, 2, 2, 2, 2, 2, 2, 2, 2, 2, 2, 2, 2]
  | 9 => [2, 2, 0, 2, 2, 2, 2, 2, 2, 2, 2, 0, 1, 1, 0, 0, 0]
  | 10 => [2, 0, 1, 1, 2, 2, 2, 2, 2, 0, 0, 0, 0, 0, 0, 0, 0, 0, 2, 2, 0, 2, 0, 1, 0, 2, 2, 0, 0, 2, 2, 2, 2, 0, 2, 2, 0, 0]
  | _ => []
def fsO (E : Ev) (G : Sh) (D : Dm) (c ci : Nat) : List Value := (fkd ci).mapIdx fun k κ => fvl E κ (D c k) (G.2 c k)
def arO (E : Ev) (G : Sh) (D : Dm) (c : Nat) (t : Tg) : vp_A :=
  if t.1 = 101 then (t.2, .inr (.inl fun j => Int64.ofInt (D c j)))
  else if t.1 = 104 ∨ t.1 = 105 then (t.2, .inr (.inr (.inr (.inr fun j => (G.2 c j).map (fun c => E.1 + c)))))
  else (t.2, .inl fun j => Int32.ofInt (D c j))
def ceO (E : Ev) (G : Sh) (D : Dm) (c : Nat) (t : Tg) : va_E := if t.1 < 100 then .inr (t.1, fsO E G D c t.1) else .inl (E.2.2.1 t.1, arO E G D c t)
def wsO (E : Ev) (G : Sh) (D : Dm) : va_W := G.1.mapIdx fun c t => (E.1 + c, ceO E G D c t)
def AE (E : Ev) : Nat → Prop := fun q => E.1 ≤ q
def tysO (E : Ev) : List (ClassId × FieldType) := [(E.2.2.1 100, .int), (E.2.2.1 101, .long), (E.2.2.1 102, .byte), (E.2.2.1 103, .boolean), (E.2.2.1 104, .object "HailHill$Village"), (E.2.2.1 105, .array .long)]
def kd (t : Tg) (i : Int) : Nat := if t.1 < 100 then (fkd t.1).getD i.toNat 0 else if t.1 = 101 then 1 else 0
def okv (κ : Nat) (x : Int) : Prop := if κ = 1 then -9223372036854775808 ≤ x ∧ x < 9223372036854775808 else -2147483648 ≤ x ∧ x < 2147483648
/-- every number held is one of its kind -/
def okD (G : Sh) (D : Dm) : Prop := ∀ c t i, G.1[c]? = some t → okv (kd t i) (D c i)
def Hp (E : Ev) (G : Sh) (D : Dm) (H : Heap) : Prop := H.size = E.1 + G.1.length ∧ va_P E.2.1 vwCl (wsO E G D) H ∧ okD G D
theorem okD_upd {G G' : Sh} {D : Dm} {c : Nat} {t : Tg} {i x : Int} (hG : G'.1 = G.1) (h : okD G D) (hc : G.1[c]? = some t) (hx : okv (kd t i) x) : okD G' (upd2 D c i x) := by
  intro c' t' i' hc'
  rw [hG] at hc'
  by_cases e : c' = c ∧ i' = i
  · obtain ⟨rfl, rfl⟩ := e
    rw [hc] at hc'
    cases hc'
    rw [upd2_same]
    exact hx
  · simp only [upd2, if_neg e]
    exact h c' t' i' hc'
theorem okI {x : Int} {κ : Nat} (hκ : κ ≠ 1) (h : -2147483648 ≤ x ∧ x < 2147483648) : okv κ x := by simp only [okv, if_neg hκ]; exact h
theorem okJ {x : Int} (h : -9223372036854775808 ≤ x ∧ x < 9223372036854775808) : okv 1 x := by simp only [okv, if_true]; exact h
theorem kdF {ci z k κ : Nat} (hci : ci < 100) (h : (fkd ci)[k]? = some κ) : kd (ci, z) k = κ := by
  simp [kd, hci, List.getD_eq_getElem?_getD, h]
theorem wsO_get {E : Ev} {G : Sh} {D : Dm} {c : Nat} {t : Tg} (h : G.1[c]? = some t) : (wsO E G D)[c]? = some (E.1 + c, ceO E G D c t) := by
  simp [wsO, List.getElem?_mapIdx, h]
theorem wsO_D (E : Ev) (G : Sh) (D : Dm) : va_D (AE E) (wsO E G D) := by
  have key : ∀ (i : Nat) (q : Nat × va_E), (wsO E G D)[i]? = some q → q.1 = E.1 + i := by
    intro i q h
    rw [wsO, List.getElem?_mapIdx] at h
    cases hg : G.1[i]? with
    | none => rw [hg] at h; cases h
    | some t => rw [hg] at h; cases h; rfl
  refine ⟨fun i j p q hi hj e => ?_, fun k q hk => ?_⟩
  · rw [key i p hi, key j q hj] at e
    omega
  · rw [key k q hk]
    exact Nat.le_add_right _ _
theorem wsO_ext {E : Ev} {G : Sh} {D : Dm} {G' : Sh} {D' : Dm} {c : Nat} {t : Tg} (h : G.1[c]? = some t) (hG : G'.1 = G.1) (hc : ∀ c' t', c' ≠ c → G.1[c']? = some t' → ceO E G' D' c' t' = ceO E G D c' t') : (wsO E G D).set c (E.1 + c, ceO E G' D' c t) = wsO E G' D' := by
  apply List.ext_getElem?
  intro i
  have hl : c < (wsO E G D).length := by simp [wsO]; exact (List.getElem?_eq_some_iff.mp h).1
  by_cases hi : i = c
  · subst hi
    rw [List.getElem?_set_self hl]
    rw [wsO_get (G := G') (by rw [hG]; exact h)]
  · rw [List.getElem?_set_ne (Ne.symm hi)]
    simp only [wsO, List.getElem?_mapIdx, hG]
    cases hg : G.1[i]? with
    | none => rfl
    | some t' => simp only [Option.map_some]; rw [hc i t' hi hg]
theorem ceO_keep {E : Ev} {G : Sh} {D D' : Dm} {c : Nat} {t : Tg} (h : ∀ i, D' c i = D c i) : ceO E G D' c t = ceO E G D c t := by
  have e1 : fsO E G D' c t.1 = fsO E G D c t.1 := by simp only [fsO, h]
  have e2 : arO E G D' c t = arO E G D c t := by simp only [arO, h]
  simp only [ceO, e1, e2]
theorem ceO_keepR {E : Ev} {G : Sh} {R' : Nat → Int → Option Nat} {D : Dm} {c : Nat} {t : Tg} (h : ∀ i, R' c i = G.2 c i) : ceO E (G.1, R') D c t = ceO E G D c t := by
  have e1 : fsO E (G.1, R') D c t.1 = fsO E G D c t.1 := by simp only [fsO, h]
  have e2 : arO E (G.1, R') D c t = arO E G D c t := by simp only [arO, h]
  simp only [ceO, e1, e2]
theorem wsO_set {E : Ev} {G : Sh} {D : Dm} {c : Nat} {t : Tg} (i x : Int) (h : G.1[c]? = some t) : (wsO E G D).set c (E.1 + c, ceO E G (upd2 D c i x) c t) = wsO E G (upd2 D c i x) :=
  wsO_ext h rfl (fun c' t' hc _ => ceO_keep (fun j => upd2_cell D i x j hc))
theorem wsO_setR {E : Ev} {G : Sh} {D : Dm} {c : Nat} {t : Tg} (i : Int) (x : Option Nat) (h : G.1[c]? = some t) : (wsO E G D).set c (E.1 + c, ceO E (G.1, updR G.2 c i x) D c t) = wsO E (G.1, updR G.2 c i x) D :=
  wsO_ext h rfl (fun c' t' hc _ => ceO_keepR (fun j => by simp [updR, hc]))
/-- a field's value -/
theorem fsO_get {E : Ev} {G : Sh} {D : Dm} {c ci k κ : Nat} (h : (fkd ci)[k]? = some κ) : (fsO E G D c ci)[k]? = some (fvl E κ (D c k) (G.2 c k)) := by
  simp [fsO, List.getElem?_mapIdx, h]
theorem fsO_set {E : Ev} {G : Sh} {D : Dm} {c ci k κ : Nat} {x : Int} (h : (fkd ci)[k]? = some κ) : (fsO E G D c ci).set k (fvl E κ x (G.2 c k)) = fsO E G (upd2 D c k x) c ci := by
  apply List.ext_getElem?
  intro i
  have hl : k < (fsO E G D c ci).length := by simp [fsO]; exact (List.getElem?_eq_some_iff.mp h).1
  by_cases hi : i = k
  · subst hi
    rw [List.getElem?_set_self hl, fsO_get h, upd2_same]
  · rw [List.getElem?_set_ne (Ne.symm hi)]
    simp only [fsO, List.getElem?_mapIdx]
    cases hg : (fkd ci)[i]? with
    | none => rfl
    | some κ' =>
      simp only [Option.map_some]
      rw [upd2_place D c x (show (i : Int) ≠ (k : Int) by omega)]
theorem fsO_setR {E : Ev} {G : Sh} {D : Dm} {c ci k : Nat} {x : Option Nat} (h : (fkd ci)[k]? = some 2) : (fsO E G D c ci).set k (va_rf (x.map (fun c => E.1 + c))) = fsO E (G.1, updR G.2 c k x) D c ci := by
  apply List.ext_getElem?
  intro i
  have hl : k < (fsO E G D c ci).length := by simp [fsO]; exact (List.getElem?_eq_some_iff.mp h).1
  by_cases hi : i = k
  · subst hi
    rw [List.getElem?_set_self hl, fsO_get h]
    simp [updR, fvl]
  · rw [List.getElem?_set_ne (Ne.symm hi)]
    simp only [fsO, List.getElem?_mapIdx]
    cases hg : (fkd ci)[i]? with
    | none => rfl
    | some κ' =>
      simp only [Option.map_some]
      have e : updR G.2 c (k : Int) x c (i : Int) = G.2 c (i : Int) := by
        have : (i : Int) ≠ (k : Int) := by omega
        simp [updR, this]
      rw [e]
theorem ceO_obj {E : Ev} {G : Sh} {D : Dm} {c ci z : Nat} (h : ci < 100) : ceO E G D c (ci, z) = .inr (ci, fsO E G D c ci) := by simp [ceO, h]
theorem ceO_int {E : Ev} {G : Sh} {D : Dm} {c κ n : Nat} (h : κ = 100 ∨ κ = 102 ∨ κ = 103) : ceO E G D c (κ, n) = .inl (E.2.2.1 κ, n, .inl fun j => Int32.ofInt (D c j)) := by
  rcases h with rfl | rfl | rfl <;> simp [ceO, arO]
theorem ceO_long {E : Ev} {G : Sh} {D : Dm} {c n : Nat} : ceO E G D c (101, n) = .inl (E.2.2.1 101, n, .inr (.inl fun j => Int64.ofInt (D c j))) := by simp [ceO, arO]
theorem ceO_ref {E : Ev} {G : Sh} {D : Dm} {c κ n : Nat} (h : κ = 104 ∨ κ = 105) : ceO E G D c (κ, n) = .inl (E.2.2.1 κ, n, .inr (.inr (.inr (.inr fun j => (G.2 c j).map (fun c => E.1 + c))))) := by
  rcases h with rfl | rfl <;> simp [ceO, arO]
/-! ===== whole numbers ===== -/
def iA (x y : Int) : Int := (Int32.ofInt x &&& Int32.ofInt y).toInt
def iO (x y : Int) : Int := (Int32.ofInt x ||| Int32.ofInt y).toInt
def iX (x y : Int) : Int := (Int32.ofInt x ^^^ Int32.ofInt y).toInt
def iSl (x y : Int) : Int := (Int32.ofInt x <<< (Int32.ofInt y &&& 31)).toInt
def iSr (x y : Int) : Int := (Int32.ofInt x >>> (Int32.ofInt y &&& 31)).toInt
def iUs (x y : Int) : Int := ((Int32.ofInt x).toUInt32 >>> ((Int32.ofInt y).toUInt32 &&& Int32.toUInt32 31)).toInt32.toInt
def jA (x y : Int) : Int := (Int64.ofInt x &&& Int64.ofInt y).toInt
def jO (x y : Int) : Int := (Int64.ofInt x ||| Int64.ofInt y).toInt
def jSl (x y : Int) : Int := (Int64.ofInt x <<< ((Int32.ofInt y).toInt64 &&& 63)).toInt
def b8 (x : Int) : Int := (Int8.ofInt x).toInt
def s16 (x : Int) : Int := (Int16.ofInt x).toInt
def w32 (x : Int) : Int := (Int32.ofInt x).toInt
theorem toI {x : Int} (h : -2147483648 ≤ x ∧ x < 2147483648) : (Int32.ofInt x).toInt = x := Int32.toInt_ofInt_of_le (by omega) (by omega)
theorem toJ {x : Int} (h : -9223372036854775808 ≤ x ∧ x < 9223372036854775808) : (Int64.ofInt x).toInt = x := Int64.toInt_ofInt_of_le (by omega) (by omega)
theorem ltI {x y : Int} (hx : -2147483648 ≤ x ∧ x < 2147483648) (hy : -2147483648 ≤ y ∧ y < 2147483648) : Int32.ofInt x < Int32.ofInt y ↔ x < y := by rw [Int32.lt_iff_toInt_lt, toI hx, toI hy]
theorem leI {x y : Int} (hx : -2147483648 ≤ x ∧ x < 2147483648) (hy : -2147483648 ≤ y ∧ y < 2147483648) : Int32.ofInt x ≤ Int32.ofInt y ↔ x ≤ y := by rw [Int32.le_iff_toInt_le, toI hx, toI hy]
theorem eqI {x y : Int} (hx : -2147483648 ≤ x ∧ x < 2147483648) (hy : -2147483648 ≤ y ∧ y < 2147483648) : Int32.ofInt x = Int32.ofInt y ↔ x = y := by rw [← Int32.toInt_inj, toI hx, toI hy]
theorem ltJ {x y : Int} (hx : -9223372036854775808 ≤ x ∧ x < 9223372036854775808) (hy : -9223372036854775808 ≤ y ∧ y < 9223372036854775808) : Int64.ofInt x < Int64.ofInt y ↔ x < y := by rw [Int64.lt_iff_toInt_lt, toJ hx, toJ hy]
theorem leJ {x y : Int} (hx : -9223372036854775808 ≤ x ∧ x < 9223372036854775808) (hy : -9223372036854775808 ≤ y ∧ y < 9223372036854775808) : Int64.ofInt x ≤ Int64.ofInt y ↔ x ≤ y := by rw [Int64.le_iff_toInt_le, toJ hx, toJ hy]
theorem eqJ {x y : Int} (hx : -9223372036854775808 ≤ x ∧ x < 9223372036854775808) (hy : -9223372036854775808 ≤ y ∧ y < 9223372036854775808) : Int64.ofInt x = Int64.ofInt y ↔ x = y := by rw [← Int64.toInt_inj, toJ hx, toJ hy]
theorem zI : (0 : Int32) = Int32.ofInt 0 := by decide
theorem inI {i : Int} {n : Nat} (h0 : 0 ≤ i) (h : i < n) (hn : i < 2147483648) : vp_in (Int32.ofInt i) n := by
  rw [vp_in_iff, toI (by omega)]; omega
theorem clI {i : Int} (h0 : 0 ≤ i) (hn : i < 2147483648) : ((Int32.ofInt i).toNatClampNeg : Int) = i := by
  have h : (Int32.ofInt i).toNatClampNeg = (Int32.ofInt i).toInt.toNat := rfl
  rw [h, toI (by omega)]; omega
theorem vI_def (x : Int) : vI x = .int (Int32.ofInt x) := rfl
theorem vI_of (x : Int32) : Value.int x = vI x.toInt := by simp [vI]
theorem vJ_of (x : Int64) : Value.long x = vJ x.toInt := by simp [vJ]

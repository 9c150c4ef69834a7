/-! ===== objects and rows are made ===== -/
def gr (G : Sh) (N : Nat) (t : Tg) : Sh := (G.1 ++ [t], newR G.2 N)
def sR (G : Sh) (c : Nat) (i : Int) (x : Nat) : Sh := (G.1, updR G.2 c i (some x))
theorem gr_len {G : Sh} {N : Nat} {t : Tg} (h : G.1.length = N) : (gr G N t).1.length = N + 1 := by simp [gr, h]
theorem gr_at {G : Sh} {N : Nat} {t : Tg} {c : Nat} {u : Tg} (h : G.1[c]? = some u) : (gr G N t).1[c]? = some u := by
  simp only [gr]
  rw [List.getElem?_append_left (List.getElem?_eq_some_iff.mp h).1]
  exact h
theorem gr_nw {G : Sh} {N : Nat} {t : Tg} (h : G.1.length = N) : (gr G N t).1[N]? = some t := by subst h; simp [gr]
theorem sR_len {G : Sh} {c N : Nat} {i : Int} {x : Nat} (h : G.1.length = N) : (sR G c i x).1.length = N := h
theorem sR_at {G : Sh} {c : Nat} {i : Int} {x d : Nat} {u : Tg} (h : G.1[d]? = some u) : (sR G c i x).1[d]? = some u := h
def zv (κ : Nat) : Value := match κ with
  | 0 => vI 0
  | 1 => vJ 0
  | 3 => vI 0
  | _ => .null
theorem fvl_z (E : Ev) (κ : Nat) : fvl E κ 0 none = zv κ := match κ with
  | 0 => rfl
  | 1 => rfl
  | 2 => rfl
  | 3 => rfl
  | _ + 4 => rfl
theorem fsO_z (E : Ev) (G : Sh) (D : Dm) (N ci : Nat) (t : Tg) : fsO E (gr G N t) (newD D N) N ci = (fkd ci).map zv := by
  apply List.ext_getElem?
  intro i
  simp only [fsO, List.getElem?_mapIdx, List.getElem?_map, gr, newR, newD, if_true, fvl_z]
/-- a class that is made at an entry of the constants -/
def NW (own : String) (idx ci z : Nat) : Prop := ∃ (C : String) (T : u_T) (ty : Nat → FieldType), vwCl[ci]? = some (C, T, z) ∧ Cond.classLink own idx C ∈ gT ∧ Cond.instantiable C z ∈ gT ∧ Cond.initialized C ∈ gT ∧ (∀ w ∈ u_ws C T z, w ∈ gT) ∧ (∀ k, k < z → parseFieldDescriptor (T k).2.2.1 = some (ty k)) ∧ (∀ j, j < z → defaultValue (ty j) = vp_V ((fkd ci).map zv) j) ∧ ci < 100
/-- the words of Object's own constructor -/
def OI (own : String) (idx : Nat) : Prop := Cond.methodLink own idx Lib.objectInit ∈ gT ∧ Cond.instanceMethod Lib.objectInit ∈ gT ∧ Cond.code Lib.objectInit ⟨#[0xb1]⟩ 1 none ∈ gT
section GB
variable {l : Launch} {E : Ev} {cc : ByteArray} {nL : Nat} {own : String} {R : Room} {Pf : MethodId → Method → State → Array Value → Prop} {Qf : List Frame → Array Value → State → State → Prop} {k n pc : Nat} {L : List (Nat × Value)} {st : List Value} {G : Sh} {D : Dm}
theorem go_nI {x : Int} {N M : Nat} (hN : G.1.length = N) (hM : x.toNat = M) (hx : 0 ≤ x ∧ x ≤ 50000000) (hk : k + 1 ≤ R.cells ∧ n + M ≤ R.slots) (hd : decode cc pc = .ok (.newarray .int, 2)) (kk : Go l E cc nL own R Pf Qf (k + 1) (n + M) (pc + 2) L (vR E N :: st) (gr G N (100, M)) (newD D N)) : Go l E cc nL own R Pf Qf k n pc L (vI x :: st) G D := by
  subst hN hM
  exact go_newaI hx aw_int hk hd kk
theorem go_nJ {x : Int} {N M : Nat} (hN : G.1.length = N) (hM : x.toNat = M) (hx : 0 ≤ x ∧ x ≤ 50000000) (hk : k + 1 ≤ R.cells ∧ n + M ≤ R.slots) (hd : decode cc pc = .ok (.newarray .long, 2)) (kk : Go l E cc nL own R Pf Qf (k + 1) (n + M) (pc + 2) L (vR E N :: st) (gr G N (101, M)) (newD D N)) : Go l E cc nL own R Pf Qf k n pc L (vI x :: st) G D := by
  subst hN hM
  exact go_newaJ hx aw_long hk hd kk
theorem go_nB {x : Int} {N M : Nat} (hN : G.1.length = N) (hM : x.toNat = M) (hx : 0 ≤ x ∧ x ≤ 50000000) (hk : k + 1 ≤ R.cells ∧ n + M ≤ R.slots) (hd : decode cc pc = .ok (.newarray .byte, 2)) (kk : Go l E cc nL own R Pf Qf (k + 1) (n + M) (pc + 2) L (vR E N :: st) (gr G N (102, M)) (newD D N)) : Go l E cc nL own R Pf Qf k n pc L (vI x :: st) G D := by
  subst hN hM
  exact go_newaB hx aw_byte hk hd kk
theorem go_nZ {x : Int} {N M : Nat} (hN : G.1.length = N) (hM : x.toNat = M) (hx : 0 ≤ x ∧ x ≤ 50000000) (hk : k + 1 ≤ R.cells ∧ n + M ≤ R.slots) (hd : decode cc pc = .ok (.newarray .boolean, 2)) (kk : Go l E cc nL own R Pf Qf (k + 1) (n + M) (pc + 2) L (vR E N :: st) (gr G N (103, M)) (newD D N)) : Go l E cc nL own R Pf Qf k n pc L (vI x :: st) G D := by
  subst hN hM
  exact go_newaZ hx aw_bool hk hd kk
theorem go_nO {idx ci z N : Nat} (hN : G.1.length = N) (hw : NW own idx ci z) (hk : k + 1 ≤ R.cells ∧ n + z ≤ R.slots) (hd : decode cc pc = .ok (.new idx, 3)) (kk : Go l E cc nL own R Pf Qf (k + 1) (n + z) (pc + 3) L (vR E N :: st) (gr G N (ci, z)) (newD D N)) : Go l E cc nL own R Pf Qf k n pc L st G D := by
  intro p e s m args below meth cd H locs ls h1 h2 h3 h4 h5 h6 h7 h8 h9 h10 h11
  obtain ⟨C, T, ty, a1, a2, a3, a4, a5, a6, a7, a8⟩ := hw
  have hKn := h7.1.1 ci _ a1
  refine W.newcK h1 h2 h4 (h5 _ a2) (h5 _ a3) (h5 _ a4) rfl hd hk.1 hk.2 hKn.2.1 (h := E.1 + N) (by rw [h10.1, hN]) fun H1 kC hkC e1 z1 o1 => ?_
  subst hN
  have z2 : H1.size = H.size + 1 := by rw [z1, h10.1]
  have o2 : ∀ q : Nat, q < H.size → H1[q]? = H[q]? := fun q hq => o1 q (by rw [← h10.1]; exact hq)
  refine kk p e s m args below meth cd H1 locs ls h1 h2 h3 h4 h5 h6 h7 h8 (S_push h9 z2 o2) (Hp_grow h10 z2 o2 ?_) h11
  rw [ceO_obj a8]
  refine ⟨_, a1, (u_born ty h5 a5 hKn hkC e1 a6).to (fun j hj => ?_)⟩
  rw [show fsO E (grow G (ci, z)) (newD D G.1.length) G.1.length ci = (fkd ci).map zv from fsO_z E G D G.1.length ci (ci, z)]
  exact a7 j hj
theorem go_oI {idx c : Nat} (hw : OI own idx) (hR : 1 ≤ R.frames ∧ 24 ≤ R.locals) (hc : (st.map fun v => v.category).sum ≤ 8) (hd : decode cc pc = .ok (.invokespecial idx, 3)) (kk : Go l E cc nL own R Pf Qf k n (pc + 3) L st G D) : Go l E cc nL own R Pf Qf k n pc L (vR E c :: st) G D := by
  intro p e s m args below meth cd H locs ls h1 h2 h3 h4 h5 h6 h7 h8 h9 h10 h11
  refine W.objInit (a := E.1 + c) (rest := st) h1 h2 h4 (h5 _ hw.1) (h5 _ hw.2.1) (h5 _ hw.2.2) rfl (by rw [h3]; exact h11.1) rfl hd hR.1 ?_ (kk p e s m args below meth cd H locs ls h1 h2 h3 h4 h5 h6 h7 h8 h9 h10 h11)
  have := lv_room (m := m) (pc := pc) (ls := ls) (rest := vR E c :: st) hc
  have := hR.2
  omega
/-- a row of villages -/
theorem go_nV {idx N M : Nat} {x : Int} (hN : G.1.length = N) (hM : x.toNat = M) (hx : 0 ≤ x ∧ x ≤ 50000000) (hw : Cond.classLink own idx "HailHill$Village" ∈ gT) (hk : k + 1 ≤ R.cells ∧ n + M ≤ R.slots) (hd : decode cc pc = .ok (.anewarray idx, 3)) (kk : Go l E cc nL own R Pf Qf (k + 1) (n + M) (pc + 3) L (vR E N :: st) (gr G N (104, M)) (newD D N)) : Go l E cc nL own R Pf Qf k n pc L (vI x :: st) G D := by
  intro p e s m args below meth cd H locs ls h1 h2 h3 h4 h5 h6 h7 h8 h9 h10 h11
  subst hN hM
  have hx2 : (Int32.ofInt x).toNatClampNeg = x.toNat := by have := clI hx.1 (show x < 2147483648 by omega); omega
  have hk2 := hk.2
  rw [← hx2] at hk2
  refine W.anew h1 h2 h4 (h5 _ hw) (va_AO.use h7.2.1.2.2.2.2.1) rfl hd rfl (by rw [zI, ltI (by omega) (by omega)]; omega) (by rw [hx2]; omega) hk.1 hk2 fun cA kA comp f1 f2 f3 f4 => ?_
  rw [hx2]
  have hcA : cA = E.2.2.1 104 := by
    obtain ⟨_, _, _, _, _, g⟩ := (h7.1.2 4 _ rfl).2
    exact Option.some.inj (f1.symm.trans g)
  subst hcA
  generalize hH1 : H.push ({ cls := E.2.2.1 104, slots := Array.replicate x.toNat .null, vm := .none } : Cell) = H1
  have z2 : H1.size = H.size + 1 := by rw [← hH1, Array.size_push]
  have e1 : H1[H.size]? = some (arrV (E.2.2.1 104) x.toNat (fun _ => .null)) := by rw [← hH1, Array.getElem?_push_size, ← arrV_new]
  have o2 : ∀ q : Nat, q < H.size → H1[q]? = H[q]? := fun q hq => by rw [← hH1, Array.getElem?_push, if_neg (Nat.ne_of_lt hq)]
  have K := kk p e s m args below meth cd H1 locs ls h1 h2 h3 h4 h5 h6 h7 h8 (S_push h9 z2 o2) (Hp_grow h10 z2 o2 (by
    rw [ceO_ref (Or.inl rfl)]
    show H1[E.1 + G.1.length]? = some (vp_cell _ _)
    rw [← h10.1, e1, vp_cell_q]
    congr 2
    funext j
    simp [grow, newR, va_rf])) h11
  have e9 : vR E G.1.length = .ref H.size := by rw [h10.1]; rfl
  rw [e9] at K
  exact K
theorem go_pR {c ci z idx : Nat} (f : Nat) {i : Int} {c' : Nat} (hf : FW own idx ci f 2 false) (hi : (f : Int) = i) (hc : G.1[c]? = some (ci, z)) (hd : decode cc pc = .ok (.putfield idx, 3)) (kk : Go l E cc nL own R Pf Qf k n (pc + 3) L st (sR G c i c') D) : Go l E cc nL own R Pf Qf k n pc L (vR E c' :: vR E c :: st) G D := go_putR f hf hi hc hd kk
theorem go_pF {M : Mt} {c ci z idx : Nat} (f : Nat) {i : Int} {c' : Nat} (hf : FW own idx ci f 2 true) (hi : (f : Int) = i) (hM : M.1.name = "<init>") (ho : vwCl[ci]?.map (fun q => q.1) = some own) (hc : G.1[c]? = some (ci, z)) (hd : decode cc pc = .ok (.putfield idx, 3)) (kk : Go l E cc nL own R (PfM M) Qf k n (pc + 3) L st (sR G c i c') D) : Go l E cc nL own R (PfM M) Qf k n pc L (vR E c' :: vR E c :: st) G D := go_putF f hf hi hM ho hc hd kk
theorem go_aast {c d N z : Nat} {i b : Int} (hc : G.1[c]? = some (104, N)) (hv : G.1[d]? = some (8, z)) (hb : (N : Int) = b) (hN : N < 2147483648) (hi : 0 ≤ i ∧ i < b) (hd : decode cc pc = .ok (.aastore, 1)) (kk : Go l E cc nL own R Pf Qf k n (pc + 1) L st (sR G c i d) D) : Go l E cc nL own R Pf Qf k n pc L (vR E d :: vI i :: vR E c :: st) G D := by
  intro p e s m args below meth cd H locs ls h1 h2 h3 h4 h5 h6 h7 h8 h9 h10 h11
  have he := wsO_get (E := E) (D := D) hc
  rw [ceO_ref (Or.inl rfl)] at he
  have hw := wsO_get (E := E) (D := D) hv
  rw [ceO_obj (by decide)] at hw
  have hin : vp_in (Int32.ofInt i) N := inI hi.1 (by omega) (by omega)
  have hlt : (Int32.ofInt i).toNatClampNeg < N := Nat.not_le.mp fun q => hin (Or.inr q)
  have hcl := clI hi.1 (show i < 2147483648 by omega)
  have h0 : ¬ Int32.ofInt i < 0 := fun q => hin (Or.inl q)
  obtain ⟨r', hr', cellV, g1, g2, g3, -⟩ := h10.2.1 d _ hw
  have hcls := (h7.1.1 8 _ (rfl : vwCl[8]? = some (RX8, TX8, 17))).2
  obtain ⟨kA, comp, k1, k2, k3, -⟩ := (h7.1.2 4 _ rfl).2
  have hcomp : comp = E.2.1.1 8 := Option.some.inj (k3.symm.trans hcls.1)
  subst hcomp
  obtain ⟨kC, hkC, -⟩ := hcls.2
  have hat : H[E.1 + c]? = some (vp_cell (E.2.2.1 104) (N, .inr (.inr (.inr (.inr fun j : Nat => (G.2 c j).map (fun c => E.1 + c)))))) := h10.2.1 c _ he
  refine W.aast (v := E.1 + d) h1 h2 hat (fun q h => by cases h) (fun h => by cases h) k1 k2 rfl hkC ⟨h0, by show _ < (arrV _ _ _).slots.size; rw [arrV_size]; exact hlt⟩ g1 (fun q h => by rw [g3] at h; cases h) (by rw [g2]; exact hkC) (by rw [g2]; exact va_assign hcls) rfl rfl hd fun H1 e1 z1 oq => ?_
  refine kk p e s m args below meth cd H1 _ ls h1 h2 h3 h4 h5 h6 h7 h8 (h9.put z1 oq (Nat.le_add_right _ _)) (h10.store (G' := sR G c i d) (D' := D) hc z1 oq rfl (fun c' t' h _ => ceO_keepR (fun j => by simp [updR, h])) ?_ h10.2.2) h11
  rw [ceO_ref (Or.inl rfl)]
  show H1[E.1 + c]? = some (vp_cell _ _)
  rw [e1, vp_cell_q, vp_cell_q, arrV_store]
  congr 2
  funext q
  by_cases hq : q = (Int32.ofInt i).toNatClampNeg
  · subst hq
    simp [updV, sR, updR, va_rf, hcl]
  · have : ¬ (q : Int) = i := by omega
    simp [updV, sR, updR, hq, this]
end GB
/-! ===== four rows of sixty longs ===== -/
def mr (T : State) (cA cB : ClassId) : Nat → State
  | 0 => T.pushCell (arrV cA 4 (fun _ => .null))
  | i + 1 => ((mr T cA cB i).pushCell (arrV cB 60 (fun _ => .long 0))).setCell T.heap.size (arrV cA 4 (fun j => if j < i + 1 then .ref (T.heap.size + 1 + j) else .null))
theorem mr_up (cA : ClassId) (h i : Nat) : (arrV cA 4 (fun j => if j < i then Value.ref (h + 1 + j) else .null)).setSlot i (.ref (h + 1 + i)) = arrV cA 4 (fun j => if j < i + 1 then .ref (h + 1 + j) else .null) := by
  rw [arrV_store]
  congr 1
  funext j
  by_cases q : j = i
  · subst q; simp [updV]
  · by_cases q2 : j < i
    · have : j < i + 1 := by omega
      simp [updV, q, q2, this]
    · have : ¬ j < i + 1 := by omega
      simp [updV, q, q2, this]
theorem mr_ok (T : State) (cA cB : ClassId) : ∀ i, (mr T cA cB i).heap.size = T.heap.size + 1 + i ∧ (mr T cA cB i).heap[T.heap.size]? = some (arrV cA 4 (fun j => if j < i then .ref (T.heap.size + 1 + j) else .null)) ∧ (mr T cA cB i).vm = T.vm ∧ (mr T cA cB i).slotsUsed = T.slotsUsed + 4 + 60 * i
  | 0 => ⟨by simp [mr, State.pushCell], by simp [mr, State.pushCell], rfl, by simp [mr, State.pushCell, arrV_size]⟩
  | i + 1 => by
    obtain ⟨a, b, d, u⟩ := mr_ok T cA cB i
    have hlt : T.heap.size < (mr T cA cB i).heap.size + 1 := by omega
    refine ⟨?_, ?_, ?_, ?_⟩
    · simp [mr, State.pushCell, State.setCell, a]; omega
    · simp [mr, State.pushCell, State.setCell, Array.getElem?_setIfInBounds, hlt]
    · simp [mr, State.pushCell, State.setCell, d]
    · simp [mr, State.pushCell, State.setCell, u, arrV_size]; omega
theorem mr_top (T : State) (f : JFrame) (cA cB : ClassId) : ∀ i, mr (T.setTop f) cA cB i = (mr T cA cB i).setTop f
  | 0 => rfl
  | i + 1 => by simp only [mr, mr_top T f cA cB i, State.heap_setTop, State.pushCell_setTop, State.setCell_setTop]
section
variable {E : CtlPost} {e : Env} {d : Bool} {acts : List Action} {s : State}
theorem wp_row {cB cc : ClassId} {kB : Class} (hk : s.vm.classes[cB]? = some kB) (hkind : kB.kind = .array cc .long) (hl : ¬ 60 > e.platform.arrayLengthLimit) (hh : ¬ 60 * componentBytes .long > e.platform.maxHeapBytes) (h1 : s.heap.size < e.platform.maxCells) (h2 : s.slotsUsed + 60 ≤ e.platform.maxSlots) {Q : Addr → Pre} (hq : ∀ acts', Q s.heap.size d acts' (s.pushCell (arrV cB 60 (fun _ => .long 0)))) : wp (multianewarray.make cB [60]) Q E e d acts s := by
  rw [multianewarray.make]
  simp only [wp_bind', W.ite, show ¬ (60 : Int32) < 0 by decide, if_false, wp_pure', W.theClass, hk, hkind, Option.some.injEq, exists_eq_left']
  refine W.newArray_of (howMany := 60) hk hkind hl hh h1 h2 rfl (fun acts' => ?_)
  have := hq acts'
  rw [← arrV_new] at this
  exact this
theorem wp_rows {cA cB cc : ClassId} {kA kB : Class} (hkA : s.vm.classes[cA]? = some kA) (hkindA : kA.kind = .array cB (.array .long)) (hkB : s.vm.classes[cB]? = some kB) (hkindB : kB.kind = .array cc .long) (hl : ¬ 60 > e.platform.arrayLengthLimit) (hh : ¬ 60 * componentBytes .long > e.platform.maxHeapBytes) (hh4 : ¬ 4 * componentBytes (.array .long) > e.platform.maxHeapBytes) (h1 : s.heap.size + 5 ≤ e.platform.maxCells) (h2 : s.slotsUsed + 244 ≤ e.platform.maxSlots) {Q : Addr → Pre} (hq : ∀ d' acts', Q s.heap.size d' acts' (mr s cA cB 4)) : wp (multianewarray.make cA [4, 60]) Q E e d acts s := by
  rw [multianewarray.make]
  simp only [wp_bind', W.ite, show ¬ (4 : Int32) < 0 by decide, if_false, wp_pure', W.theClass, hkA, hkindA, Option.some.injEq, exists_eq_left']
  refine W.newArray_of (howMany := 4) hkA hkindA (by omega) hh4 (by omega) (by omega) rfl (fun acts' => ?_)
  have hfind : ([(60 : Int32)].find? (· < 0)) = none := by decide
  simp only [hfind]
  rw [ite_self, wp_bind', Std.Legacy.Range.forIn_eq_forIn_range']
  show wp (forIn (List.range' 0 4 1) PUnit.unit _) _ E e d acts' _
  refine wp_forIn_inv (fun rest s' => ∃ i, i ≤ 4 ∧ rest = List.range' i (4 - i) ∧ s' = mr s cA cB i) _ _ ⟨0, by decide, rfl, by rw [arrV_new]; rfl⟩ ?_ ?_
  · rintro x rest s' d' acts2 Q' ⟨i, hi, hr, rfl⟩ nx
    have hlt : i < 4 := by
      rcases Nat.lt_or_ge i 4 with h | h
      · exact h
      · rw [show 4 - i = 0 by omega] at hr; simp at hr
    rw [show 4 - i = (4 - (i + 1)) + 1 by omega, List.range'_succ] at hr
    obtain ⟨rfl, rfl⟩ := List.cons.inj hr
    obtain ⟨f1, f2, f3, f4⟩ := mr_ok s cA cB x
    simp only [wp_bind']
    refine wp_row (by rw [f3]; exact hkB) hkindB hl hh (by rw [f1]; omega) (by rw [f4]; omega) (fun acts3 => ?_)
    have hlt0 : s.heap.size < (mr s cA cB x).heap.size := by rw [f1]; omega
    simp only [wp_bind', W.writeLoc, wp_pure']
    refine ⟨_, by rw [State.heap_pushCell_of_lt (h := hlt0)]; exact f2, (fun h => by cases h), by rw [arrV_size]; exact hlt, ?_, nx _ _ _ ⟨x + 1, hlt, rfl, ?_⟩⟩
    · show State.fitsSlot _ cA .none _ _ = true
      simp [State.fitsSlot, State.slotType?, f3, hkA, hkindA, fits]
    · rw [f1, mr_up]; rfl
  · rintro s' d' acts2 ⟨i, hi, hr, rfl⟩
    have : i = 4 := by
      rcases Nat.lt_or_ge i 4 with h | h
      · rw [show 4 - i = (4 - (i + 1)) + 1 by omega, List.range'_succ] at hr; cases hr
      · omega
    subst this
    simp only [wp_pure']
    exact hq _ _
end
def mG (G : Sh) (N : Nat) : Nat → Sh
  | 0 => gr G N (105, 4)
  | i + 1 => sR (gr (mG G N i) (N + 1 + i) (101, 60)) N i (N + 1 + i)
def mD (D : Dm) (N : Nat) : Nat → Dm
  | 0 => newD D N
  | i + 1 => newD (mD D N i) (N + 1 + i)
theorem mG_ok {G : Sh} {N : Nat} (hN : G.1.length = N) : ∀ i, (mG G N i).1.length = N + 1 + i ∧ (mG G N i).1[N]? = some (105, 4) ∧ ∀ j : Nat, (mG G N i).2 N (j : Int) = if j < i then some (N + 1 + j) else none
  | 0 => ⟨gr_len hN, gr_nw hN, fun j => by simp [mG, gr, newR]⟩
  | i + 1 => by
    obtain ⟨a, b, d⟩ := mG_ok hN i
    refine ⟨gr_len a, gr_at (N := N + 1 + i) b, fun j => ?_⟩
    simp only [mG, sR, gr, updR, newR]
    by_cases q : j = i
    · subst q; simp
    · have q1 : ¬ (j : Int) = (i : Int) := by omega
      rw [if_neg (fun z => q1 z.2), if_neg (by omega), d j]
      by_cases q2 : j < i
      · rw [if_pos q2, if_pos (by omega)]
      · rw [if_neg q2, if_neg (by omega)]
theorem mr_Hp {E : Ev} {G : Sh} {D : Dm} {N : Nat} {T : State} (hN : G.1.length = N) (h : Hp E G D T.heap) : ∀ i, i ≤ 4 → Hp E (mG G N i) (mD D N i) (mr T (E.2.2.1 105) (E.2.2.1 101) i).heap
  | 0, _ => by
    subst hN
    refine Hp_grow (t := (105, 4)) h (by simp [mr, State.pushCell]) (fun q hq => ?_) ?_
    · show (T.heap.push _)[q]? = _
      rw [Array.getElem?_push, if_neg (Nat.ne_of_lt hq)]
    · rw [ceO_ref (Or.inr rfl)]
      show (T.heap.push _)[E.1 + G.1.length]? = some (vp_cell _ _)
      rw [← h.1, Array.getElem?_push_size, vp_cell_q]
      congr 2
      funext j
      simp [grow, newR, va_rf]
  | i + 1, hi => by
    have ih := mr_Hp hN h i (by omega)
    obtain ⟨f1, f2, f3, f4⟩ := mr_ok T (E.2.2.1 105) (E.2.2.1 101) i
    obtain ⟨a, b, d⟩ := mG_ok hN i
    have hT : T.heap.size = E.1 + N := by rw [h.1, hN]
    have hp : Hp E (gr (mG G N i) (N + 1 + i) (101, 60)) (newD (mD D N i) (N + 1 + i)) ((mr T (E.2.2.1 105) (E.2.2.1 101) i).pushCell (arrV (E.2.2.1 101) 60 (fun _ => .long 0))).heap := by
      rw [← a]
      refine Hp_grow (t := (101, 60)) ih (by simp [State.pushCell]) (fun q hq => ?_) ?_
      · show (Array.push _ _)[q]? = _
        rw [Array.getElem?_push, if_neg (Nat.ne_of_lt hq)]
      · rw [ceO_long]
        show (Array.push _ _)[E.1 + (mG G N i).1.length]? = some (vp_cell _ _)
        rw [← ih.1, Array.getElem?_push_size, vp_cell_l]
        congr 2
        funext j
        simp [newD]
    obtain ⟨g1, g2, g3⟩ := mG_ok hN (i + 1)
    have hlt : T.heap.size < (mr T (E.2.2.1 105) (E.2.2.1 101) i).heap.size + 1 := by omega
    refine hp.store (c := N) (t := (105, 4)) (G' := mG G N (i + 1)) (D' := mD D N (i + 1)) (gr_at b) ?_ (fun q hq => ?_) rfl (fun c' t' hc _ => ceO_keepR (fun j => by simp [updR, hc])) ?_ hp.2.2
    · simp [mr, State.pushCell, State.setCell]
    · show (Array.setIfInBounds _ _ _)[q]? = _
      rw [hT]
      simp [Array.getElem?_setIfInBounds, Ne.symm hq]
    · rw [ceO_ref (Or.inr rfl)]
      show (mr T (E.2.2.1 105) (E.2.2.1 101) (i + 1)).heap[E.1 + N]? = some (vp_cell _ _)
      rw [← hT, (mr_ok T (E.2.2.1 105) (E.2.2.1 101) (i + 1)).2.1, vp_cell_q]
      congr 2
      funext j
      rw [g3 j]
      by_cases q : j < i + 1
      · rw [if_pos q, if_pos q]
        exact congrArg Value.ref (show T.heap.size + 1 + j = E.1 + (N + 1 + j) by omega)
      · rw [if_neg q, if_neg q]
        rfl
theorem mr_X {p : Program} {l : Launch} {e : Env} {R : Room} {s : State} {m : MethodId} {args : Array Value} {below : List Frame} {meth : Method} {c : Code} {T : State} {locs : List Loc} {cells slots : Nat} (X : Stand p l e R s m args below meth c T locs cells slots) (cA cB : ClassId) : ∀ i, Stand p l e R s m args below meth c (mr T cA cB i) (locs ++ (List.range i).map fun j => ⟨T.heap.size, j⟩) (cells + 1 + i) (slots + 4 + 60 * i)
  | 0 => by
    have h := X.pushed (arrV cA 4 (fun _ => .null))
    rw [arrV_size] at h
    simpa [mr] using h
  | i + 1 => by
    have ih := mr_X X cA cB i
    obtain ⟨f1, f2, f3, f4⟩ := mr_ok T cA cB i
    have hlt0 : T.heap.size < (mr T cA cB i).heap.size := by rw [f1]; omega
    have hcell : ((mr T cA cB i).pushCell (arrV cB 60 (fun _ => .long 0))).heap[T.heap.size]? = some (arrV cA 4 (fun j => if j < i then .ref (T.heap.size + 1 + j) else .null)) := by rw [State.heap_pushCell_of_lt (h := hlt0)]; exact f2
    have h := (ih.pushed (arrV cB 60 (fun _ => .long 0))).stored hcell i (.ref (T.heap.size + 1 + i))
    rw [mr_up, arrV_size] at h
    have e2 : (locs ++ (List.range (i + 1)).map fun j => (⟨T.heap.size, j⟩ : Loc)) = (locs ++ (List.range i).map fun j => (⟨T.heap.size, j⟩ : Loc)) ++ [⟨T.heap.size, i⟩] := by simp [List.range_succ, List.append_assoc]
    rw [e2, show slots + 4 + 60 * (i + 1) = slots + 4 + 60 * i + 60 by omega]
    exact h
theorem go_nM {l : Launch} {E : Ev} {cc : ByteArray} {nL : Nat} {own : String} {R : Room} {Pf : MethodId → Method → State → Array Value → Prop} {Qf : List Frame → Array Value → State → State → Prop} {k n pc : Nat} {L : List (Nat × Value)} {st : List Value} {G : Sh} {D : Dm} {idx N : Nat} (hN : G.1.length = N) (hw : Cond.classLink own idx "[[J" ∈ gT) (hk : k + 5 ≤ R.cells ∧ n + 244 ≤ R.slots) (hd : decode cc pc = .ok (.multianewarray idx 2, 4)) (kk : Go l E cc nL own R Pf Qf (k + 5) (n + 244) (pc + 4) L (vR E N :: st) (mG G N 4) (mD D N 4)) : Go l E cc nL own R Pf Qf k n pc L (vI 60 :: vI 4 :: st) G D := by
  intro p e s m args below meth cd H locs ls h1 h2 h3 h4 h5 h6 h7 h8 h9 h10 h11 T hT X
  have hpl : e.platform.magicAccessors = ({} : Platform).magicAccessors := by rw [X.admits.platform]
  obtain ⟨cB, cA, kA, q1, q2, q3, q4, q5⟩ := h7.2.1.2.2.2.2.2
  obtain ⟨cB', kB, cc', p1, p2, p3⟩ := Cond.arrayClass_spec (h5 _ aw_long)
  have eB : cB' = cB := Option.some.inj (p1.symm.trans q1)
  subst eB
  have eA : cA = E.2.2.1 105 := Option.some.inj (q5.symm.trans (h7.1.2 5 _ rfl).2)
  have eL : cB' = E.2.2.1 101 := Option.some.inj (q1.symm.trans (h7.1.2 1 _ rfl).2)
  obtain ⟨c0, hf0, hcl⟩ := Cond.classLink_spec h4 (h5 _ hw) e.platform hpl
  have e0 : c0 = cA := Option.some.inj (hf0.symm.trans q5)
  subst e0
  obtain ⟨hg₁, hwarm₁, hready₁⟩ := State.classEntry (e := e) X.warmed hcl
  generalize T.vm.noted m.cls idx (.cls c0) = vm₁ at hg₁ hwarm₁ hready₁
  have hal : s.vm.Alike vm₁ := hwarm₁.alike
  obtain ⟨kA₁, hkA₁, heA⟩ := hal.2.2 _ _ q3
  obtain ⟨kB₁, hkB₁, heB⟩ := hal.2.2 _ _ p2
  have kkA : kA₁.kind = .array cB' (.array .long) := by rw [heA]; exact q4
  have kkB : kB₁.kind = .array cc' .long := by rw [heB]; exact p3
  obtain ⟨hr1, hr2⟩ := X.roomAbove hk.1 hk.2
  have X₁ := X.noted hwarm₁
  have X4 := mr_X X₁ c0 cB' 4
  have hsz : (T.setVm vm₁).heap.size = E.1 + N := by show T.heap.size = _; rw [hT, h10.1, hN]
  obtain ⟨f1, f2, f3, f4⟩ := mr_ok (T.setVm vm₁) c0 cB' 4
  have old : ∀ i, ∀ q : Nat, q < T.heap.size → (mr (T.setVm vm₁) c0 cB' i).heap[q]? = T.heap[q]? := by
    intro i
    induction i with
    | zero =>
      intro q hq
      show (T.heap.push _)[q]? = _
      rw [Array.getElem?_push, if_neg (Nat.ne_of_lt hq)]
    | succ i ih =>
      intro q hq
      have g1 := (mr_ok (T.setVm vm₁) c0 cB' i).1
      have g2 : (T.setVm vm₁).heap.size = T.heap.size := rfl
      show (Array.setIfInBounds (Array.push _ _) T.heap.size _)[q]? = _
      rw [Array.getElem?_setIfInBounds, if_neg (Nat.ne_of_gt hq), Array.getElem?_push, if_neg (by omega)]
      exact ih q hq
  have hp : Hp E (mG G N 4) (mD D N 4) (mr (T.setVm vm₁) c0 cB' 4).heap := by
    have := mr_Hp (T := T.setVm vm₁) hN (by show Hp E G D T.heap; rw [hT]; exact h10) 4 (by decide)
    rw [← eA, ← eL] at this
    exact this
  obtain ⟨t, a1, b1⟩ := kk p e s m args below meth cd (mr (T.setVm vm₁) c0 cB' 4).heap _ ls h1 h2 h3 h4 h5 h6 h7 h8 ⟨by rw [f1]; have := h9.1; rw [← hT] at this; exact Nat.le_trans this (by show T.heap.size ≤ T.heap.size + 1 + 4; omega), fun q g1 g2 => by
      rw [old 4 q (by rw [hT]; exact Nat.lt_of_lt_of_le g1 h9.1), hT]
      exact h9.2.1 q g1 g2, fun q hq => by
      rcases List.mem_append.mp hq with h | h
      · exact h9.2.2 q h
      · obtain ⟨z, -, hz⟩ := List.mem_map.mp h
        rw [← hz]
        show E.1 ≤ (T.setVm vm₁).heap.size
        rw [hsz]
        exact Nat.le_add_right _ _⟩ hp h11 (mr (T.setVm vm₁) c0 cB' 4) rfl X4
  refine ⟨t, ?_, b1⟩
  subst h2
  have hl : ¬ 60 > e.platform.arrayLengthLimit := by rw [Launch.admits_arrayLengthLimit X.admits]; decide
  have hh : ¬ 60 * componentBytes .long > e.platform.maxHeapBytes := by rw [Launch.admits_maxHeapBytes X.admits]; decide
  have hh4 : ¬ 4 * componentBytes (.array .long) > e.platform.maxHeapBytes := by rw [Launch.admits_maxHeapBytes X.admits]; decide
  jvm_step X.here [h1, hd]
  simp only [multianewarray.sem, wp_bind', W.resolveClassAt_links (State.method?_setTop (F0 m pc ls (vI 60 :: vI 4 :: st)) X.here.top) hg₁]
  rw [W.popN, if_neg (by decide)]
  refine ⟨F0 m pc ls (vI 60 :: vI 4 :: st), State.topJava?_setTop' (s := T.setVm vm₁) (F0 m pc ls (vI 60 :: vI 4 :: st)) X.here.top, [.int 4, .int 60], st, rfl, rfl, ?_⟩
  simp only [List.mapM_cons, List.mapM_nil, wp_bind', wp_pure']
  refine wp_rows (kA := kA₁) (kB := kB₁) (cB := cB') (cc := cc') hkA₁ kkA hkB₁ kkB hl hh hh4 (by show T.heap.size + 5 ≤ _; omega) (by show T.slotsUsed + 244 ≤ _; omega) (fun d' acts' => ?_)
  have eS : ∀ f : JFrame, ((T.setTop (F0 m pc ls (vI 60 :: vI 4 :: st))).setVm vm₁).setTop f = (T.setVm vm₁).setTop f := fun f => by
    show ((T.setVm vm₁).setTop _).setTop _ = _
    rw [State.setTop_setTop]
  rw [eS, mr_top]
  simp only [wp_bind', W.mark, W.pushRef, State.topJava?_setTop' _ X4.here.top, Option.some.injEq, exists_eq_left', State.setTop_setTop, State.heap_setTop]
  intro acts
  simp [jvm, X4.here.top]
  have e9 : vR E N = .ref (T.setVm vm₁).heap.size := by rw [hsz]; rfl
  rw [e9] at a1
  exact a1

/-! ===== the judgement Go: the machine at an instruction, over the abstract memory ===== -/
def gT : List Cond := lw_tbl.filter goodWord
def gw (M : Mt) : List Cond := Cond.code M.1 M.2.1 M.2.2.1 M.2.2.2.1 :: gT
def rmO (M : Mt) (mc ms : Nat) : Room := { frames := M.2.2.2.2.1, cells := mc, slots := ms, locals := M.2.2.2.2.2 }
/-- what is said of the tables and of what was there before: entry state -/
def AOL (U : State) : Prop := ∃ (comp c : ClassId) (k : Class), U.vm.findClass "[J" = some comp ∧ (U.vm.classes.findIdx? fun (x : Class) => match x.kind with | .array component _ => component == comp | _ => false) = some c ∧ U.vm.classes[c]? = some k ∧ k.kind = .array comp (.array .long) ∧ U.vm.findClass "[[J" = some c
theorem AOL.moved {u U : State} (hvm : u.vm.Alike U.vm) (h : AOL u) : AOL U := by
  obtain ⟨comp, c, k, h1, h2, h3, h4, h5⟩ := h
  obtain ⟨k', hk', he⟩ := hvm.2.2 _ _ h3
  refine ⟨comp, c, k', by rw [hvm.findClass]; exact h1, ?_, hk', by rw [he]; exact h4, by rw [hvm.findClass]; exact h5⟩
  have e1 := va_idx_bare U.vm comp
  have e2 := va_idx_bare u.vm comp
  have e3 : U.vm.bare = u.vm.bare := by first | exact hvm.bare_eq | exact hvm.bare_eq.symm
  rw [e3] at e1
  exact (e1.symm.trans e2).trans h2
def Nst (U : State) : Prop := va_Nw (.methodLinkNest "HailHill" 9 yX8_init "HailHill") U ∧ va_Nw (.methodLinkNest "HailHill" 26 yX7_init "HailHill") U ∧ va_Nw (.methodLinkNest "HailHill" 33 yX6_init "HailHill") U ∧ va_Nw (.methodLinkNest "HailHill$Scribe" 21 yX8_init "HailHill") U ∧ va_AO "HailHill$Village" U ∧ AOL U
def nnL : List Int := [495874894192, 24948, 444150998387, 1936681324, 1751214444, 29807, 440006570868, 6582905, 108217764374644, 112568633486457, 1852138852, 448545973363, 499850634611, 1868850291, 0]
def ksB : List Int := [32, 115, 116, 114, 105, 112, 32, 104, 97, 105, 108, 32, 102, 114, 111, 115, 116, 32, 100, 114, 121, 32, 98, 108, 105, 103, 104, 116, 32, 102, 97, 109, 105, 108, 121, 32, 97, 116, 32, 103, 105, 118, 101, 115, 32, 115, 111, 105, 108, 32, 116, 111, 32, 110, 101, 101, 100, 32, 104, 111, 108, 100, 115, 32, 116, 97, 107, 101, 115, 32, 111, 100, 100, 115, 32]
/-- a static that nobody asks for: a reference or null -/
def siV (E : Ev) : Value := if E.2.2.2.2 3 = 0 then .null else .ref (E.2.2.2.2 2)
def Km (E : Ev) (U : State) : Prop := va_K E.2.1 vwCl (tysO E) U ∧ Nst U ∧ va_Z "HailHill$Scribe" "NO_NAMES" "[J" (.ref E.2.2.2.1) (AE E) U U.heap ∧ va_T .long E.2.2.2.1 15 (fun j => vJ (nnL.getD j 0)) (AE E) U U.heap
  ∧ vk_R "HailHillModel" 142 " strip hail frost dry blight family at gives soil to need holds takes odds " (E.2.2.2.2 0) U ∧ vk_S 1 [75] [ksB.map Int32.ofInt] (fun _ => E.2.2.2.2 0) (fun _ => E.2.2.2.2 1) (AE E) U U.heap ∧ va_Z "java/lang/String" "COMPACT_STRINGS" "Z" (.int 1) (AE E) U U.heap ∧ va_Z "jdk/internal/util/Preconditions" "SIOOBE_FORMATTER" "Ljava/util/function/BiFunction;" (siV E) (AE E) U U.heap
def Pm (M : Mt) (m : MethodId) (meth : Method) (s : State) : Prop := meth.sig.returnType = M.2.2.2.1 ∧ meth.locks = false ∧ meth.name = M.1.name
def Go (l : Launch) (E : Ev) (cc : ByteArray) (nL : Nat) (own : String) (R : Room) (Pf : MethodId → Method → State → Array Value → Prop) (Qf : List Frame → Array Value → State → State → Prop) (k n pc : Nat) (L : List (Nat × Value)) (st : List Value) (G : Sh) (D : Dm) : Prop :=
  ∀ (p : Program) (e : Env) (s : State) (m : MethodId) (args : Array Value) (below : List Frame) (meth : Method) (c : Code) (H : Heap) (locs : List Loc) (ls : Array Slot),
    p.tables.exec = Jvm.exec → c.code = cc → c.maxLocals = nL → s.vm.findClass own = some m.cls → (∀ w ∈ gT, w.before args s = true) → Pf m meth s args → Km E s → E.1 ≤ s.heap.size → va_S (AE E) s.heap H locs → Hp E G D H → lv_has ls nL L →
    W p l e R s m args below meth c H locs k n (Qf below args s) (F0 m pc ls st)
def rvO (κ : Nat) (r : Int) : Option Value := match κ with
  | 0 => some (vI r)
  | 1 => some (vJ r)
  | _ => none
def QcO (E : Ev) (κ : Nat) (Q : Int → Sh → Dm → Prop) : Array Value → State → Outcome → State → Prop := fun _ st oc t => (∃ (r : Int) (G : Sh) (D : Dm), oc = .returned (rvO κ r) ∧ Q r G D ∧ Hp E G D t.heap) ∧ va_F (AE E) st t
/-- a method's contract -/
def Ct (l : Launch) (E : Ev) (M : Mt) (κ : Nat) (mc ms : Nat) (as : List Value) (G : Sh) (D : Dm) (Q : Int → Sh → Dm → Prop) : Prop :=
  Met l M.1 (gw M) (rmO M mc ms) (va_Pc as (fun U => Hp E G D U.heap ∧ Km E U ∧ E.1 ≤ U.heap.size)) (QcO E κ Q) mc ms (AE E)
/-- inside a method -/
def PfM (M : Mt) : MethodId → Method → State → Array Value → Prop := fun _ meth _ _ => meth.sig.returnType = M.2.2.2.1 ∧ meth.locks = false ∧ meth.name = M.1.name
def QfM (E : Ev) (κ mc ms : Nat) (Q : Int → Sh → Dm → Prop) : List Frame → Array Value → State → State → Prop := fun below args s => MQ below (QcO E κ Q) args s mc ms (AE E)
abbrev Gm (l : Launch) (E : Ev) (M : Mt) (κ mc ms : Nat) (Q : Int → Sh → Dm → Prop) (k n pc : Nat) (L : List (Nat × Value)) (st : List Value) (G : Sh) (D : Dm) : Prop :=
  Go l E M.2.1 M.2.2.1 M.1.cls (rmO M mc ms) (PfM M) (QfM E κ mc ms Q) k n pc L st G D
theorem Ct.mono {l : Launch} {E : Ev} {M : Mt} {κ mc ms : Nat} {as : List Value} {G : Sh} {D : Dm} {Q Q' : Int → Sh → Dm → Prop} (h : Ct l E M κ mc ms as G D Q) (hQ : ∀ r G' D', Q r G' D' → Q' r G' D') : Ct l E M κ mc ms as G D Q' := by
  intro p e ha hc hk s m args below hf hap hP hT
  obtain ⟨n, o, h1, h2, h3, ⟨⟨r, G', D', a, b, c⟩, d⟩, e'⟩ := h p e ha hc hk s m args below hf hap hP hT
  exact ⟨n, o, h1, h2, h3, ⟨⟨r, G', D', a, hQ r G' D' b, c⟩, d⟩, e'⟩
theorem Nst.warm {s U : State} (hW : s.WarmedH U.vm) (h : Nst s) : Nst U := ⟨va_Nw.warmM hW h.1, va_Nw.warmM hW h.2.1, va_Nw.warmM hW h.2.2.1, va_Nw.warmM hW h.2.2.2.1, va_AO.moved hW.alike h.2.2.2.2.1, AOL.moved hW.alike h.2.2.2.2.2⟩
theorem Nst.same {s U : State} (hv : s.vm = U.vm) (h : Nst s) : Nst U := ⟨va_Nw.same rfl hv h.1, va_Nw.same rfl hv h.2.1, va_Nw.same rfl hv h.2.2.1, va_Nw.same rfl hv h.2.2.2.1, va_AO.moved (hv ▸ Vm.Alike.refl s.vm) h.2.2.2.2.1, AOL.moved (hv ▸ Vm.Alike.refl s.vm) h.2.2.2.2.2⟩
theorem Km.to {E : Ev} {s U : State} {H : Heap} {locs : List Loc} (h : Km E s) (hS : va_S (AE E) s.heap H locs) (hU : U.heap = H) (hW : s.WarmedH U.vm) : Km E U := by
  obtain ⟨a, b, c, d, e, f, g, g2⟩ := h
  have hq : ∀ a : Nat, a < s.heap.size → ¬ AE E a → U.heap[a]? = s.heap[a]? := fun a h1 h2 => by rw [hU]; exact hS.2.1 a h1 h2
  exact ⟨va_K.moved hW.alike a, b.warm hW, va_Z.moved hW.alike (va_Z.kept c hq), va_T.moved hW.alike (va_T.kept d hq), vk_R.warm hW e, vk_S.moved hW.alike (vk_S.kept f hq), va_Z.moved hW.alike (va_Z.kept g hq), va_Z.moved hW.alike (va_Z.kept g2 hq)⟩
theorem Km.blind {E : Ev} {U : State} {g : JFrame} {mk : MethodId} {a : Array Value} (h : Km E U) : Km E (U.calling g mk a) := by
  obtain ⟨x1, b, c, d, e, f, g1, g2⟩ := h
  have hv : U.vm.Alike (U.calling g mk a).vm := Vm.Alike.refl U.vm
  exact ⟨va_K.moved hv x1, b.same rfl, va_Z.moved hv c, va_T.moved hv d, vk_R.same rfl e, vk_S.moved hv f, va_Z.moved hv g1, va_Z.moved hv g2⟩
/-- a contract out of the walk from the entry -/
theorem Ct.of {l : Launch} {E : Ev} {M : Mt} {κ mc ms : Nat} {as : List Value} {G : Sh} {D : Dm} {Q : Int → Sh → Dm → Prop} (hy : plainName M.1.cls = true) (hl : (lg_sl as).length ≤ M.2.2.1) (h : Gm l E M κ mc ms Q 0 0 0 (lv_args 0 as) [] G D) : Ct l E M κ mc ms as G D Q := by
  refine Met.ofW (cc := M.2.1) (maxL := M.2.2.1) (ret := M.2.2.2.1) hy rfl ?_
  intro p e s m args below meth c s₁ B hml hv
  obtain ⟨rfl, hP, hK, hB⟩ := hv
  rw [lg_entry_eq]
  exact h p e s m _ below meth c s.heap [] _ B.exec B.bytes hml (findClass_of_methodNamed B.named) (fun w hw => atoms_spec (ws := gw M) B.pre w (List.mem_cons_of_mem _ hw)) ⟨B.returns, B.notSynchronized, (name_of_methodNamed B.named B.method).1⟩ hK hB va_S.rf hP (lv_entry as hl)
section GO
variable {l : Launch} {E : Ev} {cc : ByteArray} {nL : Nat} {own : String} {R : Room} {Pf : MethodId → Method → State → Array Value → Prop} {Qf : List Frame → Array Value → State → State → Prop} {k n pc : Nat} {L : List (Nat × Value)} {st : List Value} {G : Sh} {D : Dm}
theorem go_sub (ks : List Nat) {L' : List (Nat × Value)} (h : lv_pick L ks = L') (kk : Go l E cc nL own R Pf Qf k n pc L' st G D) : Go l E cc nL own R Pf Qf k n pc L st G D :=
  fun p e s m args below meth c H locs ls h1 h2 h3 h4 h5 h6 h7 h8 h9 h10 h11 => kk p e s m args below meth c H locs ls h1 h2 h3 h4 h5 h6 h7 h8 h9 h10 (lv_sub h11 ks h)
theorem go_iconst {x : Int} (hd : decode cc pc = .ok (.iconst x, 1)) (kk : Go l E cc nL own R Pf Qf k n (pc + 1) L (vI x :: st) G D) : Go l E cc nL own R Pf Qf k n pc L st G D :=
  fun p e s m args below meth c H locs ls h1 h2 h3 h4 h5 h6 h7 h8 h9 h10 h11 => lv_iconst h1 h2 hd rfl (kk p e s m args below meth c H locs ls h1 h2 h3 h4 h5 h6 h7 h8 h9 h10 h11)
theorem go_bipush {x : Int} (hd : decode cc pc = .ok (.bipush x, 2)) (hx : (Int8.ofInt x).toInt32 = Int32.ofInt x) (kk : Go l E cc nL own R Pf Qf k n (pc + 2) L (vI x :: st) G D) : Go l E cc nL own R Pf Qf k n pc L st G D :=
  fun p e s m args below meth c H locs ls h1 h2 h3 h4 h5 h6 h7 h8 h9 h10 h11 => lv_bipush h1 h2 hd hx (kk p e s m args below meth c H locs ls h1 h2 h3 h4 h5 h6 h7 h8 h9 h10 h11)
theorem go_sipush {x : Int} (hd : decode cc pc = .ok (.sipush x, 3)) (hx : (Int16.ofInt x).toInt32 = Int32.ofInt x) (kk : Go l E cc nL own R Pf Qf k n (pc + 3) L (vI x :: st) G D) : Go l E cc nL own R Pf Qf k n pc L st G D :=
  fun p e s m args below meth c H locs ls h1 h2 h3 h4 h5 h6 h7 h8 h9 h10 h11 => lv_sipush h1 h2 hd hx (kk p e s m args below meth c H locs ls h1 h2 h3 h4 h5 h6 h7 h8 h9 h10 h11)
theorem go_lconst {j : Fin 2} {x : Int} (hd : decode cc pc = .ok (.lconst j, 1)) (hx : ((j : Nat) : Int) = x) (kk : Go l E cc nL own R Pf Qf k n (pc + 1) L (vJ x :: st) G D) : Go l E cc nL own R Pf Qf k n pc L st G D :=
  fun p e s m args below meth c H locs ls h1 h2 h3 h4 h5 h6 h7 h8 h9 h10 h11 => lv_lconst h1 h2 hd (by rw [← hx]; exact (Int64.ofInt_eq_ofNat (n := j)).symm) (kk p e s m args below meth c H locs ls h1 h2 h3 h4 h5 h6 h7 h8 h9 h10 h11)
theorem go_ldc {j : Nat} {x : Int} (hw : Cond.constant own j (Int32.ofInt x) ∈ gT) (hd : decode cc pc = .ok (.ldc j, 2)) (kk : Go l E cc nL own R Pf Qf k n (pc + 2) L (vI x :: st) G D) : Go l E cc nL own R Pf Qf k n pc L st G D :=
  fun p e s m args below meth c H locs ls h1 h2 h3 h4 h5 h6 h7 h8 h9 h10 h11 => lv_ldc h1 h2 h4 (h5 _ hw) hd (kk p e s m args below meth c H locs ls h1 h2 h3 h4 h5 h6 h7 h8 h9 h10 h11)
theorem go_ldc2 {j : Nat} {x : Int} (hw : Cond.constantLong own j (Int64.ofInt x) ∈ gT) (hd : decode cc pc = .ok (.ldc2_w j, 3)) (kk : Go l E cc nL own R Pf Qf k n (pc + 3) L (vJ x :: st) G D) : Go l E cc nL own R Pf Qf k n pc L st G D :=
  fun p e s m args below meth c H locs ls h1 h2 h3 h4 h5 h6 h7 h8 h9 h10 h11 => lv_ldc2 h1 h2 h4 (h5 _ hw) hd (kk p e s m args below meth c H locs ls h1 h2 h3 h4 h5 h6 h7 h8 h9 h10 h11)
theorem go_ldcw {j : Nat} {x : Int} (hw : Cond.constant own j (Int32.ofInt x) ∈ gT) (hd : decode cc pc = .ok (.ldc_w j, 3)) (kk : Go l E cc nL own R Pf Qf k n (pc + 3) L (vI x :: st) G D) : Go l E cc nL own R Pf Qf k n pc L st G D :=
  fun p e s m args below meth c H locs ls h1 h2 h3 h4 h5 h6 h7 h8 h9 h10 h11 => lv_ldcw h1 h2 h4 (h5 _ hw) hd (kk p e s m args below meth c H locs ls h1 h2 h3 h4 h5 h6 h7 h8 h9 h10 h11)
theorem go_iload_n (q : Nat) {j : Fin 4} {i : Nat} {x : Int} (hd : decode cc pc = .ok (.iload_n j, 1)) (hi : (j : Nat) = i) (hq : L[q]? = some (i, vI x)) (kk : Go l E cc nL own R Pf Qf k n (pc + 1) L (vI x :: st) G D) : Go l E cc nL own R Pf Qf k n pc L st G D :=
  fun p e s m args below meth c H locs ls h1 h2 h3 h4 h5 h6 h7 h8 h9 h10 h11 => lv_iload_n h1 h2 hd hi (lv_at h11 q hq) (kk p e s m args below meth c H locs ls h1 h2 h3 h4 h5 h6 h7 h8 h9 h10 h11)
theorem go_iload (q : Nat) {i : Nat} {x : Int} (hd : decode cc pc = .ok (.iload i, 2)) (hq : L[q]? = some (i, vI x)) (kk : Go l E cc nL own R Pf Qf k n (pc + 2) L (vI x :: st) G D) : Go l E cc nL own R Pf Qf k n pc L st G D :=
  fun p e s m args below meth c H locs ls h1 h2 h3 h4 h5 h6 h7 h8 h9 h10 h11 => lv_iload h1 h2 hd (lv_at h11 q hq) (kk p e s m args below meth c H locs ls h1 h2 h3 h4 h5 h6 h7 h8 h9 h10 h11)
theorem go_lload_n (q : Nat) {j : Fin 4} {i : Nat} {x : Int} (hd : decode cc pc = .ok (.lload_n j, 1)) (hi : (j : Nat) = i) (hq : L[q]? = some (i, vJ x)) (kk : Go l E cc nL own R Pf Qf k n (pc + 1) L (vJ x :: st) G D) : Go l E cc nL own R Pf Qf k n pc L st G D :=
  fun p e s m args below meth c H locs ls h1 h2 h3 h4 h5 h6 h7 h8 h9 h10 h11 => lv_lload_n h1 h2 hd hi (lv_at h11 q hq) (kk p e s m args below meth c H locs ls h1 h2 h3 h4 h5 h6 h7 h8 h9 h10 h11)
theorem go_lload (q : Nat) {i : Nat} {x : Int} (hd : decode cc pc = .ok (.lload i, 2)) (hq : L[q]? = some (i, vJ x)) (kk : Go l E cc nL own R Pf Qf k n (pc + 2) L (vJ x :: st) G D) : Go l E cc nL own R Pf Qf k n pc L st G D :=
  fun p e s m args below meth c H locs ls h1 h2 h3 h4 h5 h6 h7 h8 h9 h10 h11 => lv_lload h1 h2 hd (lv_at h11 q hq) (kk p e s m args below meth c H locs ls h1 h2 h3 h4 h5 h6 h7 h8 h9 h10 h11)
theorem go_aload_n (q : Nat) {j : Fin 4} {i : Nat} {x : Nat} (hd : decode cc pc = .ok (.aload_n j, 1)) (hi : (j : Nat) = i) (hq : L[q]? = some (i, vR E x)) (kk : Go l E cc nL own R Pf Qf k n (pc + 1) L (vR E x :: st) G D) : Go l E cc nL own R Pf Qf k n pc L st G D :=
  fun p e s m args below meth c H locs ls h1 h2 h3 h4 h5 h6 h7 h8 h9 h10 h11 => lv_aload_n h1 h2 hd hi (lv_at h11 q hq) (kk p e s m args below meth c H locs ls h1 h2 h3 h4 h5 h6 h7 h8 h9 h10 h11)
theorem go_aload (q : Nat) {i : Nat} {x : Nat} (hd : decode cc pc = .ok (.aload i, 2)) (hq : L[q]? = some (i, vR E x)) (kk : Go l E cc nL own R Pf Qf k n (pc + 2) L (vR E x :: st) G D) : Go l E cc nL own R Pf Qf k n pc L st G D :=
  fun p e s m args below meth c H locs ls h1 h2 h3 h4 h5 h6 h7 h8 h9 h10 h11 => lv_aload h1 h2 hd (lv_at h11 q hq) (kk p e s m args below meth c H locs ls h1 h2 h3 h4 h5 h6 h7 h8 h9 h10 h11)
theorem go_sload_n (q : Nat) {j : Fin 4} {i : Nat} {x : Nat} (hd : decode cc pc = .ok (.aload_n j, 1)) (hi : (j : Nat) = i) (hq : L[q]? = some (i, .ref x)) (kk : Go l E cc nL own R Pf Qf k n (pc + 1) L (.ref x :: st) G D) : Go l E cc nL own R Pf Qf k n pc L st G D :=
  fun p e s m args below meth c H locs ls h1 h2 h3 h4 h5 h6 h7 h8 h9 h10 h11 => lv_aload_n h1 h2 hd hi (lv_at h11 q hq) (kk p e s m args below meth c H locs ls h1 h2 h3 h4 h5 h6 h7 h8 h9 h10 h11)
theorem go_istore_n (ks : List Nat) {j : Fin 4} {i : Nat} {x : Int} {L' : List (Nat × Value)} (hd : decode cc pc = .ok (.istore_n j, 1)) (hi : (j : Nat) = i) (hn : i < nL) (hL : lv_pick ((i, vI x) :: L.filter (fun q => !(q.1 == i) && !(q.1 + 1 == i && q.2.category == 2))) ks = L') (kk : Go l E cc nL own R Pf Qf k n (pc + 1) L' st G D) : Go l E cc nL own R Pf Qf k n pc L (vI x :: st) G D :=
  fun p e s m args below meth c H locs ls h1 h2 h3 h4 h5 h6 h7 h8 h9 h10 h11 => lv_istore_n h1 h2 hd hi h11 hn rfl (fun ls' hl' => (kk p e s m args below meth c H locs ls' h1 h2 h3 h4 h5 h6 h7 h8 h9 h10 (lv_sub hl' ks hL)))
theorem go_istore (ks : List Nat) {i : Nat} {x : Int} {L' : List (Nat × Value)} (hd : decode cc pc = .ok (.istore i, 2)) (hn : i < nL) (hL : lv_pick ((i, vI x) :: L.filter (fun q => !(q.1 == i) && !(q.1 + 1 == i && q.2.category == 2))) ks = L') (kk : Go l E cc nL own R Pf Qf k n (pc + 2) L' st G D) : Go l E cc nL own R Pf Qf k n pc L (vI x :: st) G D :=
  fun p e s m args below meth c H locs ls h1 h2 h3 h4 h5 h6 h7 h8 h9 h10 h11 => lv_istore h1 h2 hd h11 hn rfl (fun ls' hl' => (kk p e s m args below meth c H locs ls' h1 h2 h3 h4 h5 h6 h7 h8 h9 h10 (lv_sub hl' ks hL)))
theorem go_lstore_n (ks : List Nat) {j : Fin 4} {i : Nat} {x : Int} {L' : List (Nat × Value)} (hd : decode cc pc = .ok (.lstore_n j, 1)) (hi : (j : Nat) = i) (hn : i + 1 < nL) (hL : lv_pick ((i, vJ x) :: L.filter (fun q => !(q.1 == i) && (!(q.1 == i + 1) && !(q.1 + 1 == i && q.2.category == 2)))) ks = L') (kk : Go l E cc nL own R Pf Qf k n (pc + 1) L' st G D) : Go l E cc nL own R Pf Qf k n pc L (vJ x :: st) G D :=
  fun p e s m args below meth c H locs ls h1 h2 h3 h4 h5 h6 h7 h8 h9 h10 h11 => lv_lstore_n h1 h2 hd hi h11 hn rfl (fun ls' hl' => (kk p e s m args below meth c H locs ls' h1 h2 h3 h4 h5 h6 h7 h8 h9 h10 (lv_sub hl' ks hL)))
theorem go_lstore (ks : List Nat) {i : Nat} {x : Int} {L' : List (Nat × Value)} (hd : decode cc pc = .ok (.lstore i, 2)) (hn : i + 1 < nL) (hL : lv_pick ((i, vJ x) :: L.filter (fun q => !(q.1 == i) && (!(q.1 == i + 1) && !(q.1 + 1 == i && q.2.category == 2)))) ks = L') (kk : Go l E cc nL own R Pf Qf k n (pc + 2) L' st G D) : Go l E cc nL own R Pf Qf k n pc L (vJ x :: st) G D :=
  fun p e s m args below meth c H locs ls h1 h2 h3 h4 h5 h6 h7 h8 h9 h10 h11 => lv_lstore h1 h2 hd h11 hn rfl (fun ls' hl' => (kk p e s m args below meth c H locs ls' h1 h2 h3 h4 h5 h6 h7 h8 h9 h10 (lv_sub hl' ks hL)))
theorem go_astore_n (ks : List Nat) {j : Fin 4} {i : Nat} {x : Nat} {L' : List (Nat × Value)} (hd : decode cc pc = .ok (.astore_n j, 1)) (hi : (j : Nat) = i) (hn : i < nL) (hL : lv_pick ((i, vR E x) :: L.filter (fun q => !(q.1 == i) && !(q.1 + 1 == i && q.2.category == 2))) ks = L') (kk : Go l E cc nL own R Pf Qf k n (pc + 1) L' st G D) : Go l E cc nL own R Pf Qf k n pc L (vR E x :: st) G D :=
  fun p e s m args below meth c H locs ls h1 h2 h3 h4 h5 h6 h7 h8 h9 h10 h11 => lv_astore_n h1 h2 hd hi h11 hn rfl (fun ls' hl' => (kk p e s m args below meth c H locs ls' h1 h2 h3 h4 h5 h6 h7 h8 h9 h10 (lv_sub hl' ks hL)))
theorem go_astore (ks : List Nat) {i : Nat} {x : Nat} {L' : List (Nat × Value)} (hd : decode cc pc = .ok (.astore i, 2)) (hn : i < nL) (hL : lv_pick ((i, vR E x) :: L.filter (fun q => !(q.1 == i) && !(q.1 + 1 == i && q.2.category == 2))) ks = L') (kk : Go l E cc nL own R Pf Qf k n (pc + 2) L' st G D) : Go l E cc nL own R Pf Qf k n pc L (vR E x :: st) G D :=
  fun p e s m args below meth c H locs ls h1 h2 h3 h4 h5 h6 h7 h8 h9 h10 h11 => lv_astore h1 h2 hd h11 hn rfl (fun ls' hl' => (kk p e s m args below meth c H locs ls' h1 h2 h3 h4 h5 h6 h7 h8 h9 h10 (lv_sub hl' ks hL)))
theorem go_iinc (q : Nat) (ks : List Nat) {i : Nat} {x y : Int} {L' : List (Nat × Value)} (hd : decode cc pc = .ok (.iinc i y, 3)) (hi : i < nL) (hq : L[q]? = some (i, vI x)) (hL : lv_pick ((i, vI (x + y)) :: L.filter (fun q => !(q.1 == i) && !(q.1 + 1 == i && q.2.category == 2))) ks = L') (kk : Go l E cc nL own R Pf Qf k n (pc + 3) L' st G D) : Go l E cc nL own R Pf Qf k n pc L st G D :=
  fun p e s m args below meth c H locs ls h1 h2 h3 h4 h5 h6 h7 h8 h9 h10 h11 => lv_iinc (k := q) (x := Int32.ofInt x) (v := Int32.ofInt (x + y)) h1 h2 hd h11 hq (Int32.ofInt_add x y).symm hi rfl (fun ls' hl' => kk p e s m args below meth c H locs ls' h1 h2 h3 h4 h5 h6 h7 h8 h9 h10 (lv_sub hl' ks hL))
theorem go_iadd {x y : Int} (hd : decode cc pc = .ok (.iadd, 1)) (kk : Go l E cc nL own R Pf Qf k n (pc + 1) L (vI (x + y) :: st) G D) : Go l E cc nL own R Pf Qf k n pc L (vI y :: vI x :: st) G D := by
  intro p e s m args below meth c H locs ls h1 h2 h3 h4 h5 h6 h7 h8 h9 h10 h11
  refine lv_iadd h1 h2 hd ?_
  rw [← Int32.ofInt_add]
  exact kk p e s m args below meth c H locs ls h1 h2 h3 h4 h5 h6 h7 h8 h9 h10 h11
theorem go_isub {x y : Int} (hd : decode cc pc = .ok (.isub, 1)) (kk : Go l E cc nL own R Pf Qf k n (pc + 1) L (vI (x - y) :: st) G D) : Go l E cc nL own R Pf Qf k n pc L (vI y :: vI x :: st) G D := by
  intro p e s m args below meth c H locs ls h1 h2 h3 h4 h5 h6 h7 h8 h9 h10 h11
  refine lv_isub h1 h2 hd ?_
  rw [← Int32.ofInt_sub]
  exact kk p e s m args below meth c H locs ls h1 h2 h3 h4 h5 h6 h7 h8 h9 h10 h11
theorem go_imul {x y : Int} (hd : decode cc pc = .ok (.imul, 1)) (kk : Go l E cc nL own R Pf Qf k n (pc + 1) L (vI (x * y) :: st) G D) : Go l E cc nL own R Pf Qf k n pc L (vI y :: vI x :: st) G D := by
  intro p e s m args below meth c H locs ls h1 h2 h3 h4 h5 h6 h7 h8 h9 h10 h11
  refine lv_imul h1 h2 hd ?_
  rw [← Int32.ofInt_mul]
  exact kk p e s m args below meth c H locs ls h1 h2 h3 h4 h5 h6 h7 h8 h9 h10 h11
theorem go_ineg {x : Int} (hd : decode cc pc = .ok (.ineg, 1)) (kk : Go l E cc nL own R Pf Qf k n (pc + 1) L (vI (-x) :: st) G D) : Go l E cc nL own R Pf Qf k n pc L (vI x :: st) G D := by
  intro p e s m args below meth c H locs ls h1 h2 h3 h4 h5 h6 h7 h8 h9 h10 h11
  refine lv_ineg h1 h2 hd ?_
  rw [← Int32.ofInt_neg]
  exact kk p e s m args below meth c H locs ls h1 h2 h3 h4 h5 h6 h7 h8 h9 h10 h11
theorem go_lneg {x : Int} (hd : decode cc pc = .ok (.lneg, 1)) (kk : Go l E cc nL own R Pf Qf k n (pc + 1) L (vJ (-x) :: st) G D) : Go l E cc nL own R Pf Qf k n pc L (vJ x :: st) G D := by
  intro p e s m args below meth c H locs ls h1 h2 h3 h4 h5 h6 h7 h8 h9 h10 h11
  refine lv_lneg h1 h2 hd ?_
  rw [← Int64.ofInt_neg]
  exact kk p e s m args below meth c H locs ls h1 h2 h3 h4 h5 h6 h7 h8 h9 h10 h11
theorem go_ladd {x y : Int} (hd : decode cc pc = .ok (.ladd, 1)) (kk : Go l E cc nL own R Pf Qf k n (pc + 1) L (vJ (x + y) :: st) G D) : Go l E cc nL own R Pf Qf k n pc L (vJ y :: vJ x :: st) G D := by
  intro p e s m args below meth c H locs ls h1 h2 h3 h4 h5 h6 h7 h8 h9 h10 h11
  refine lv_ladd h1 h2 hd ?_
  rw [← Int64.ofInt_add]
  exact kk p e s m args below meth c H locs ls h1 h2 h3 h4 h5 h6 h7 h8 h9 h10 h11
theorem go_lsub {x y : Int} (hd : decode cc pc = .ok (.lsub, 1)) (kk : Go l E cc nL own R Pf Qf k n (pc + 1) L (vJ (x - y) :: st) G D) : Go l E cc nL own R Pf Qf k n pc L (vJ y :: vJ x :: st) G D := by
  intro p e s m args below meth c H locs ls h1 h2 h3 h4 h5 h6 h7 h8 h9 h10 h11
  refine lv_lsub h1 h2 hd ?_
  rw [← Int64.ofInt_sub]
  exact kk p e s m args below meth c H locs ls h1 h2 h3 h4 h5 h6 h7 h8 h9 h10 h11
theorem go_lmul {x y : Int} (hd : decode cc pc = .ok (.lmul, 1)) (kk : Go l E cc nL own R Pf Qf k n (pc + 1) L (vJ (x * y) :: st) G D) : Go l E cc nL own R Pf Qf k n pc L (vJ y :: vJ x :: st) G D := by
  intro p e s m args below meth c H locs ls h1 h2 h3 h4 h5 h6 h7 h8 h9 h10 h11
  refine lv_lmul h1 h2 hd ?_
  rw [← Int64.ofInt_mul]
  exact kk p e s m args below meth c H locs ls h1 h2 h3 h4 h5 h6 h7 h8 h9 h10 h11
theorem go_iand {x y : Int} (hd : decode cc pc = .ok (.iand, 1)) (kk : Go l E cc nL own R Pf Qf k n (pc + 1) L (vI (iA x y) :: st) G D) : Go l E cc nL own R Pf Qf k n pc L (vI y :: vI x :: st) G D := by
  intro p e s m args below meth c H locs ls h1 h2 h3 h4 h5 h6 h7 h8 h9 h10 h11
  refine lv_iand h1 h2 hd ?_
  rw [vI_of]
  exact kk p e s m args below meth c H locs ls h1 h2 h3 h4 h5 h6 h7 h8 h9 h10 h11
theorem go_ior {x y : Int} (hd : decode cc pc = .ok (.ior, 1)) (kk : Go l E cc nL own R Pf Qf k n (pc + 1) L (vI (iO x y) :: st) G D) : Go l E cc nL own R Pf Qf k n pc L (vI y :: vI x :: st) G D := by
  intro p e s m args below meth c H locs ls h1 h2 h3 h4 h5 h6 h7 h8 h9 h10 h11
  refine lv_ior h1 h2 hd ?_
  rw [vI_of]
  exact kk p e s m args below meth c H locs ls h1 h2 h3 h4 h5 h6 h7 h8 h9 h10 h11
theorem go_ixor {x y : Int} (hd : decode cc pc = .ok (.ixor, 1)) (kk : Go l E cc nL own R Pf Qf k n (pc + 1) L (vI (iX x y) :: st) G D) : Go l E cc nL own R Pf Qf k n pc L (vI y :: vI x :: st) G D := by
  intro p e s m args below meth c H locs ls h1 h2 h3 h4 h5 h6 h7 h8 h9 h10 h11
  refine lv_ixor h1 h2 hd ?_
  rw [vI_of]
  exact kk p e s m args below meth c H locs ls h1 h2 h3 h4 h5 h6 h7 h8 h9 h10 h11
theorem go_ishl {x y : Int} (hd : decode cc pc = .ok (.ishl, 1)) (kk : Go l E cc nL own R Pf Qf k n (pc + 1) L (vI (iSl x y) :: st) G D) : Go l E cc nL own R Pf Qf k n pc L (vI y :: vI x :: st) G D := by
  intro p e s m args below meth c H locs ls h1 h2 h3 h4 h5 h6 h7 h8 h9 h10 h11
  refine lv_ishl h1 h2 hd ?_
  rw [vI_of]
  exact kk p e s m args below meth c H locs ls h1 h2 h3 h4 h5 h6 h7 h8 h9 h10 h11
theorem go_ishr {x y : Int} (hd : decode cc pc = .ok (.ishr, 1)) (kk : Go l E cc nL own R Pf Qf k n (pc + 1) L (vI (iSr x y) :: st) G D) : Go l E cc nL own R Pf Qf k n pc L (vI y :: vI x :: st) G D := by
  intro p e s m args below meth c H locs ls h1 h2 h3 h4 h5 h6 h7 h8 h9 h10 h11
  refine lv_ishr h1 h2 hd ?_
  rw [vI_of]
  exact kk p e s m args below meth c H locs ls h1 h2 h3 h4 h5 h6 h7 h8 h9 h10 h11
theorem go_iushr {x y : Int} (hd : decode cc pc = .ok (.iushr, 1)) (kk : Go l E cc nL own R Pf Qf k n (pc + 1) L (vI (iUs x y) :: st) G D) : Go l E cc nL own R Pf Qf k n pc L (vI y :: vI x :: st) G D := by
  intro p e s m args below meth c H locs ls h1 h2 h3 h4 h5 h6 h7 h8 h9 h10 h11
  refine lv_iushr h1 h2 hd rfl ?_
  rw [vI_of]
  exact kk p e s m args below meth c H locs ls h1 h2 h3 h4 h5 h6 h7 h8 h9 h10 h11
theorem go_land {x y : Int} (hd : decode cc pc = .ok (.land, 1)) (kk : Go l E cc nL own R Pf Qf k n (pc + 1) L (vJ (jA x y) :: st) G D) : Go l E cc nL own R Pf Qf k n pc L (vJ y :: vJ x :: st) G D := by
  intro p e s m args below meth c H locs ls h1 h2 h3 h4 h5 h6 h7 h8 h9 h10 h11
  refine lv_land h1 h2 hd ?_
  rw [vJ_of]
  exact kk p e s m args below meth c H locs ls h1 h2 h3 h4 h5 h6 h7 h8 h9 h10 h11
theorem go_lor {x y : Int} (hd : decode cc pc = .ok (.lor, 1)) (kk : Go l E cc nL own R Pf Qf k n (pc + 1) L (vJ (jO x y) :: st) G D) : Go l E cc nL own R Pf Qf k n pc L (vJ y :: vJ x :: st) G D := by
  intro p e s m args below meth c H locs ls h1 h2 h3 h4 h5 h6 h7 h8 h9 h10 h11
  refine lv_lor h1 h2 hd ?_
  rw [vJ_of]
  exact kk p e s m args below meth c H locs ls h1 h2 h3 h4 h5 h6 h7 h8 h9 h10 h11
theorem go_lshl {x y : Int} (hd : decode cc pc = .ok (.lshl, 1)) (kk : Go l E cc nL own R Pf Qf k n (pc + 1) L (vJ (jSl x y) :: st) G D) : Go l E cc nL own R Pf Qf k n pc L (vI y :: vJ x :: st) G D := by
  intro p e s m args below meth c H locs ls h1 h2 h3 h4 h5 h6 h7 h8 h9 h10 h11
  refine lv_lshl h1 h2 hd rfl ?_
  rw [vJ_of]
  exact kk p e s m args below meth c H locs ls h1 h2 h3 h4 h5 h6 h7 h8 h9 h10 h11
theorem go_i2l {x : Int} (hx : -2147483648 ≤ x ∧ x < 2147483648) (hd : decode cc pc = .ok (.i2l, 1)) (kk : Go l E cc nL own R Pf Qf k n (pc + 1) L (vJ x :: st) G D) : Go l E cc nL own R Pf Qf k n pc L (vI x :: st) G D := by
  intro p e s m args below meth c H locs ls h1 h2 h3 h4 h5 h6 h7 h8 h9 h10 h11
  refine lv_i2l h1 h2 hd (v := Int64.ofInt x) ?_ (kk p e s m args below meth c H locs ls h1 h2 h3 h4 h5 h6 h7 h8 h9 h10 h11)
  rw [← Int64.toInt_inj, Int32.toInt_toInt64, toI hx, toJ (by omega)]
theorem go_l2i {x : Int} (hd : decode cc pc = .ok (.l2i, 1)) (kk : Go l E cc nL own R Pf Qf k n (pc + 1) L (vI x :: st) G D) : Go l E cc nL own R Pf Qf k n pc L (vJ x :: st) G D := by
  intro p e s m args below meth c H locs ls h1 h2 h3 h4 h5 h6 h7 h8 h9 h10 h11
  refine lv_l2i h1 h2 hd (v := Int32.ofInt x) ?_ (kk p e s m args below meth c H locs ls h1 h2 h3 h4 h5 h6 h7 h8 h9 h10 h11)
  exact Int64.toInt32_ofInt
theorem go_i2b {x : Int} (hd : decode cc pc = .ok (.i2b, 1)) (kk : Go l E cc nL own R Pf Qf k n (pc + 1) L (vI (b8 x) :: st) G D) : Go l E cc nL own R Pf Qf k n pc L (vI x :: st) G D := by
  intro p e s m args below meth c H locs ls h1 h2 h3 h4 h5 h6 h7 h8 h9 h10 h11
  refine lv_i2b h1 h2 hd (v := Int32.ofInt (b8 x)) ?_ (kk p e s m args below meth c H locs ls h1 h2 h3 h4 h5 h6 h7 h8 h9 h10 h11)
  rw [Int32.toInt8_ofInt, b8, Int32.ofInt_int8ToInt]
theorem go_i2s {x : Int} (hd : decode cc pc = .ok (.i2s, 1)) (kk : Go l E cc nL own R Pf Qf k n (pc + 1) L (vI (s16 x) :: st) G D) : Go l E cc nL own R Pf Qf k n pc L (vI x :: st) G D := by
  intro p e s m args below meth c H locs ls h1 h2 h3 h4 h5 h6 h7 h8 h9 h10 h11
  refine lv_i2s h1 h2 hd (v := Int32.ofInt (s16 x)) ?_ (kk p e s m args below meth c H locs ls h1 h2 h3 h4 h5 h6 h7 h8 h9 h10 h11)
  rw [Int32.toInt16_ofInt, s16, Int32.ofInt_int16ToInt]
theorem tdiv_bnd {x y : Int} (hx : -2147483648 ≤ x ∧ x < 2147483648) (hy : 0 < y) : -2147483648 ≤ x.tdiv y ∧ x.tdiv y < 2147483648 := by
  have h1 : (x.tdiv y).natAbs ≤ x.natAbs := by rw [Int.natAbs_tdiv]; exact Nat.div_le_self _ _
  rcases Int.le_total 0 x with h | h
  · have := Int.tdiv_nonneg h (Int.le_of_lt hy)
    omega
  · have := Int.tdiv_nonneg (a := -x) (by omega) (Int.le_of_lt hy)
    rw [Int.neg_tdiv] at this
    omega
theorem idivI {x y : Int} (hx : -2147483648 ≤ x ∧ x < 2147483648) (hy : 0 < y ∧ y < 2147483648) : Int32.ofInt x / Int32.ofInt y = Int32.ofInt (x.tdiv y) := by
  rw [← Int32.toInt_inj, Int32.toInt_div_of_ne_right, toI hx, toI (by omega), toI (tdiv_bnd hx hy.1)]
  intro h
  have := congrArg Int32.toInt h
  rw [toI (by omega)] at this
  have e : (-1 : Int32).toInt = -1 := by decide
  omega
theorem go_idiv {x y : Int} (h : (-2147483648 ≤ x ∧ x < 2147483648) ∧ 0 < y ∧ y < 2147483648) (hd : decode cc pc = .ok (.idiv, 1)) (kk : Go l E cc nL own R Pf Qf k n (pc + 1) L (vI (x.tdiv y) :: st) G D) : Go l E cc nL own R Pf Qf k n pc L (vI y :: vI x :: st) G D := by
  intro p e s m args below meth c H locs ls h1 h2 h3 h4 h5 h6 h7 h8 h9 h10 h11
  refine lv_idiv h1 h2 hd ?_ ?_
  · rw [zI, eqI (by omega) (by omega)]; omega
  · rw [idivI h.1 h.2]
    exact kk p e s m args below meth c H locs ls h1 h2 h3 h4 h5 h6 h7 h8 h9 h10 h11
theorem go_irem {x y : Int} (h : (-2147483648 ≤ x ∧ x < 2147483648) ∧ 0 < y ∧ y < 2147483648) (hd : decode cc pc = .ok (.irem, 1)) (kk : Go l E cc nL own R Pf Qf k n (pc + 1) L (vI (x.tmod y) :: st) G D) : Go l E cc nL own R Pf Qf k n pc L (vI y :: vI x :: st) G D := by
  intro p e s m args below meth c H locs ls h1 h2 h3 h4 h5 h6 h7 h8 h9 h10 h11
  refine lv_irem h1 h2 hd ?_ ?_
  · rw [zI, eqI (by omega) (by omega)]; omega
  · rw [idivI h.1 h.2, ← Int32.ofInt_mul, ← Int32.ofInt_sub]
    have e9 : x - x.tdiv y * y = x.tmod y := by have := Int.mul_tdiv_add_tmod x y; rw [Int.mul_comm] at this; omega
    rw [e9]
    exact kk p e s m args below meth c H locs ls h1 h2 h3 h4 h5 h6 h7 h8 h9 h10 h11
theorem tdiv_bndJ {x y : Int} (hx : -9223372036854775808 ≤ x ∧ x < 9223372036854775808) (hy : 0 < y) : -9223372036854775808 ≤ x.tdiv y ∧ x.tdiv y < 9223372036854775808 := by
  have h1 : (x.tdiv y).natAbs ≤ x.natAbs := by rw [Int.natAbs_tdiv]; exact Nat.div_le_self _ _
  rcases Int.le_total 0 x with h | h
  · have := Int.tdiv_nonneg h (Int.le_of_lt hy)
    omega
  · have := Int.tdiv_nonneg (a := -x) (by omega) (Int.le_of_lt hy)
    rw [Int.neg_tdiv] at this
    omega
theorem ldivJ {x y : Int} (hx : -9223372036854775808 ≤ x ∧ x < 9223372036854775808) (hy : 0 < y ∧ y < 9223372036854775808) : Int64.ofInt x / Int64.ofInt y = Int64.ofInt (x.tdiv y) := by
  rw [← Int64.toInt_inj, Int64.toInt_div_of_ne_right, toJ hx, toJ (by omega), toJ (tdiv_bndJ hx hy.1)]
  intro h
  have := congrArg Int64.toInt h
  rw [toJ (by omega)] at this
  have e : (-1 : Int64).toInt = -1 := by decide
  omega
theorem zJ : (0 : Int64) = Int64.ofInt 0 := by decide
theorem go_ldiv {x y : Int} (h : (-9223372036854775808 ≤ x ∧ x < 9223372036854775808) ∧ 0 < y ∧ y < 9223372036854775808) (hd : decode cc pc = .ok (.ldiv, 1)) (kk : Go l E cc nL own R Pf Qf k n (pc + 1) L (vJ (x.tdiv y) :: st) G D) : Go l E cc nL own R Pf Qf k n pc L (vJ y :: vJ x :: st) G D := by
  intro p e s m args below meth c H locs ls h1 h2 h3 h4 h5 h6 h7 h8 h9 h10 h11
  refine lv_ldiv h1 h2 hd ?_ ?_
  · rw [zJ, eqJ (by omega) (by omega)]; omega
  · rw [ldivJ h.1 h.2]
    exact kk p e s m args below meth c H locs ls h1 h2 h3 h4 h5 h6 h7 h8 h9 h10 h11
theorem go_lrem {x y : Int} (h : (-9223372036854775808 ≤ x ∧ x < 9223372036854775808) ∧ 0 < y ∧ y < 9223372036854775808) (hd : decode cc pc = .ok (.lrem, 1)) (kk : Go l E cc nL own R Pf Qf k n (pc + 1) L (vJ (x.tmod y) :: st) G D) : Go l E cc nL own R Pf Qf k n pc L (vJ y :: vJ x :: st) G D := by
  intro p e s m args below meth c H locs ls h1 h2 h3 h4 h5 h6 h7 h8 h9 h10 h11
  refine lv_lrem h1 h2 hd ?_ ?_
  · rw [zJ, eqJ (by omega) (by omega)]; omega
  · rw [ldivJ h.1 h.2, ← Int64.ofInt_mul, ← Int64.ofInt_sub]
    have e9 : x - x.tdiv y * y = x.tmod y := by have := Int.mul_tdiv_add_tmod x y; rw [Int.mul_comm] at this; omega
    rw [e9]
    exact kk p e s m args below meth c H locs ls h1 h2 h3 h4 h5 h6 h7 h8 h9 h10 h11
theorem go_dup {v : Value} (hv : v.category = 1) (hd : decode cc pc = .ok (.dup, 1)) (kk : Go l E cc nL own R Pf Qf k n (pc + 1) L (v :: v :: st) G D) : Go l E cc nL own R Pf Qf k n pc L (v :: st) G D :=
  fun p e s m args below meth c H locs ls h1 h2 h3 h4 h5 h6 h7 h8 h9 h10 h11 => lv_dup h1 h2 hd hv (kk p e s m args below meth c H locs ls h1 h2 h3 h4 h5 h6 h7 h8 h9 h10 h11)
theorem go_pop {v : Value} (hv : v.category = 1) (hd : decode cc pc = .ok (.pop, 1)) (kk : Go l E cc nL own R Pf Qf k n (pc + 1) L st G D) : Go l E cc nL own R Pf Qf k n pc L (v :: st) G D :=
  fun p e s m args below meth c H locs ls h1 h2 h3 h4 h5 h6 h7 h8 h9 h10 h11 => lv_pop h1 h2 hd hv (kk p e s m args below meth c H locs ls h1 h2 h3 h4 h5 h6 h7 h8 h9 h10 h11)
theorem go_dup2 {v w : Value} (hv : v.category = 1) (hw : w.category = 1) (hd : decode cc pc = .ok (.dup2, 1)) (kk : Go l E cc nL own R Pf Qf k n (pc + 1) L (v :: w :: v :: w :: st) G D) : Go l E cc nL own R Pf Qf k n pc L (v :: w :: st) G D :=
  fun p e s m args below meth c H locs ls h1 h2 h3 h4 h5 h6 h7 h8 h9 h10 h11 => lv_dup2_11 h1 h2 hd hv hw (kk p e s m args below meth c H locs ls h1 h2 h3 h4 h5 h6 h7 h8 h9 h10 h11)
theorem go_goto {off : Int} (tgt : Nat) (hd : decode cc pc = .ok (.goto off, 3)) (ht : (pc : Int) + off = (tgt : Int)) (kk : Go l E cc nL own R Pf Qf k n tgt L st G D) : Go l E cc nL own R Pf Qf k n pc L st G D :=
  fun p e s m args below meth c H locs ls h1 h2 h3 h4 h5 h6 h7 h8 h9 h10 h11 => lv_goto h1 h2 hd ht (kk p e s m args below meth c H locs ls h1 h2 h3 h4 h5 h6 h7 h8 h9 h10 h11)
theorem go_icmp_eq {x y : Int} {off : Int} (tgt : Nat) (hd : decode cc pc = .ok (.if_icmp .eq off, 3)) (ht : (pc : Int) + off = (tgt : Int)) (hx : -2147483648 ≤ x ∧ x < 2147483648) (hy : -2147483648 ≤ y ∧ y < 2147483648) (kt : x = y → Go l E cc nL own R Pf Qf k n tgt L st G D) (kf : x ≠ y → Go l E cc nL own R Pf Qf k n (pc + 3) L st G D) : Go l E cc nL own R Pf Qf k n pc L (vI y :: vI x :: st) G D :=
  fun p e s m args below meth c H locs ls h1 h2 h3 h4 h5 h6 h7 h8 h9 h10 h11 => lv_icmp_eq h1 h2 hd ht (fun h => kt ((eqI hx hy).mp h) p e s m args below meth c H locs ls h1 h2 h3 h4 h5 h6 h7 h8 h9 h10 h11) (fun h => kf (fun q => h ((eqI hx hy).mpr q)) p e s m args below meth c H locs ls h1 h2 h3 h4 h5 h6 h7 h8 h9 h10 h11)
theorem go_if_eq {x : Int} {off : Int} (tgt : Nat) (hd : decode cc pc = .ok (.ifCond .eq off, 3)) (ht : (pc : Int) + off = (tgt : Int)) (hx : -2147483648 ≤ x ∧ x < 2147483648) (kt : x = 0 → Go l E cc nL own R Pf Qf k n tgt L st G D) (kf : x ≠ 0 → Go l E cc nL own R Pf Qf k n (pc + 3) L st G D) : Go l E cc nL own R Pf Qf k n pc L (vI x :: st) G D :=
  fun p e s m args below meth c H locs ls h1 h2 h3 h4 h5 h6 h7 h8 h9 h10 h11 => lv_if_eq h1 h2 hd ht (fun h => kt ((eqI hx (by decide)).mp h) p e s m args below meth c H locs ls h1 h2 h3 h4 h5 h6 h7 h8 h9 h10 h11) (fun h => kf (fun q => h ((eqI hx (by decide)).mpr q)) p e s m args below meth c H locs ls h1 h2 h3 h4 h5 h6 h7 h8 h9 h10 h11)
theorem go_lcmp_eq {x y off : Int} (tgt : Nat) (hd0 : decode cc pc = .ok (.lcmp, 1)) (hd : decode cc (pc + 1) = .ok (.ifCond .eq off, 3)) (ht : ((pc + 1 : Nat) : Int) + off = (tgt : Int)) (hx : -9223372036854775808 ≤ x ∧ x < 9223372036854775808) (hy : -9223372036854775808 ≤ y ∧ y < 9223372036854775808) (kt : x = y → Go l E cc nL own R Pf Qf k n tgt L st G D) (kf : x ≠ y → Go l E cc nL own R Pf Qf k n (pc + 1 + 3) L st G D) : Go l E cc nL own R Pf Qf k n pc L (vJ y :: vJ x :: st) G D :=
  fun p e s m args below meth c H locs ls h1 h2 h3 h4 h5 h6 h7 h8 h9 h10 h11 => W.lcmp h1 h2 hd0 (lv_if_eq h1 h2 hd ht (fun h => kt (((lg_cmp_eq _ _).trans (eqJ hx hy)).mp h) p e s m args below meth c H locs ls h1 h2 h3 h4 h5 h6 h7 h8 h9 h10 h11) (fun h => kf (fun q => h (((lg_cmp_eq _ _).trans (eqJ hx hy)).mpr q)) p e s m args below meth c H locs ls h1 h2 h3 h4 h5 h6 h7 h8 h9 h10 h11))
theorem go_icmp_ne {x y : Int} {off : Int} (tgt : Nat) (hd : decode cc pc = .ok (.if_icmp .ne off, 3)) (ht : (pc : Int) + off = (tgt : Int)) (hx : -2147483648 ≤ x ∧ x < 2147483648) (hy : -2147483648 ≤ y ∧ y < 2147483648) (kt : x ≠ y → Go l E cc nL own R Pf Qf k n tgt L st G D) (kf : x = y → Go l E cc nL own R Pf Qf k n (pc + 3) L st G D) : Go l E cc nL own R Pf Qf k n pc L (vI y :: vI x :: st) G D :=
  fun p e s m args below meth c H locs ls h1 h2 h3 h4 h5 h6 h7 h8 h9 h10 h11 => lv_icmp_ne h1 h2 hd ht (fun h => kt (fun q => h ((eqI hx hy).mpr q)) p e s m args below meth c H locs ls h1 h2 h3 h4 h5 h6 h7 h8 h9 h10 h11) (fun h => kf ((eqI hx hy).mp h) p e s m args below meth c H locs ls h1 h2 h3 h4 h5 h6 h7 h8 h9 h10 h11)
theorem go_if_ne {x : Int} {off : Int} (tgt : Nat) (hd : decode cc pc = .ok (.ifCond .ne off, 3)) (ht : (pc : Int) + off = (tgt : Int)) (hx : -2147483648 ≤ x ∧ x < 2147483648) (kt : x ≠ 0 → Go l E cc nL own R Pf Qf k n tgt L st G D) (kf : x = 0 → Go l E cc nL own R Pf Qf k n (pc + 3) L st G D) : Go l E cc nL own R Pf Qf k n pc L (vI x :: st) G D :=
  fun p e s m args below meth c H locs ls h1 h2 h3 h4 h5 h6 h7 h8 h9 h10 h11 => lv_if_ne h1 h2 hd ht (fun h => kt (fun q => h ((eqI hx (by decide)).mpr q)) p e s m args below meth c H locs ls h1 h2 h3 h4 h5 h6 h7 h8 h9 h10 h11) (fun h => kf ((eqI hx (by decide)).mp h) p e s m args below meth c H locs ls h1 h2 h3 h4 h5 h6 h7 h8 h9 h10 h11)
theorem go_lcmp_ne {x y off : Int} (tgt : Nat) (hd0 : decode cc pc = .ok (.lcmp, 1)) (hd : decode cc (pc + 1) = .ok (.ifCond .ne off, 3)) (ht : ((pc + 1 : Nat) : Int) + off = (tgt : Int)) (hx : -9223372036854775808 ≤ x ∧ x < 9223372036854775808) (hy : -9223372036854775808 ≤ y ∧ y < 9223372036854775808) (kt : x ≠ y → Go l E cc nL own R Pf Qf k n tgt L st G D) (kf : x = y → Go l E cc nL own R Pf Qf k n (pc + 1 + 3) L st G D) : Go l E cc nL own R Pf Qf k n pc L (vJ y :: vJ x :: st) G D :=
  fun p e s m args below meth c H locs ls h1 h2 h3 h4 h5 h6 h7 h8 h9 h10 h11 => W.lcmp h1 h2 hd0 (lv_if_ne h1 h2 hd ht (fun h => kt (fun q => h (((lg_cmp_eq _ _).trans (eqJ hx hy)).mpr q)) p e s m args below meth c H locs ls h1 h2 h3 h4 h5 h6 h7 h8 h9 h10 h11) (fun h => kf (((lg_cmp_eq _ _).trans (eqJ hx hy)).mp h) p e s m args below meth c H locs ls h1 h2 h3 h4 h5 h6 h7 h8 h9 h10 h11))
theorem go_icmp_lt {x y : Int} {off : Int} (tgt : Nat) (hd : decode cc pc = .ok (.if_icmp .lt off, 3)) (ht : (pc : Int) + off = (tgt : Int)) (hx : -2147483648 ≤ x ∧ x < 2147483648) (hy : -2147483648 ≤ y ∧ y < 2147483648) (kt : x < y → Go l E cc nL own R Pf Qf k n tgt L st G D) (kf : y ≤ x → Go l E cc nL own R Pf Qf k n (pc + 3) L st G D) : Go l E cc nL own R Pf Qf k n pc L (vI y :: vI x :: st) G D :=
  fun p e s m args below meth c H locs ls h1 h2 h3 h4 h5 h6 h7 h8 h9 h10 h11 => lv_icmp_lt h1 h2 hd ht (fun h => kt ((ltI hx hy).mp h) p e s m args below meth c H locs ls h1 h2 h3 h4 h5 h6 h7 h8 h9 h10 h11) (fun h => kf (Int.not_lt.mp (fun q => h ((ltI hx hy).mpr q))) p e s m args below meth c H locs ls h1 h2 h3 h4 h5 h6 h7 h8 h9 h10 h11)
theorem go_if_lt {x : Int} {off : Int} (tgt : Nat) (hd : decode cc pc = .ok (.ifCond .lt off, 3)) (ht : (pc : Int) + off = (tgt : Int)) (hx : -2147483648 ≤ x ∧ x < 2147483648) (kt : x < 0 → Go l E cc nL own R Pf Qf k n tgt L st G D) (kf : 0 ≤ x → Go l E cc nL own R Pf Qf k n (pc + 3) L st G D) : Go l E cc nL own R Pf Qf k n pc L (vI x :: st) G D :=
  fun p e s m args below meth c H locs ls h1 h2 h3 h4 h5 h6 h7 h8 h9 h10 h11 => lv_if_lt h1 h2 hd ht (fun h => kt ((ltI hx (by decide)).mp h) p e s m args below meth c H locs ls h1 h2 h3 h4 h5 h6 h7 h8 h9 h10 h11) (fun h => kf (Int.not_lt.mp (fun q => h ((ltI hx (by decide)).mpr q))) p e s m args below meth c H locs ls h1 h2 h3 h4 h5 h6 h7 h8 h9 h10 h11)
theorem go_lcmp_lt {x y off : Int} (tgt : Nat) (hd0 : decode cc pc = .ok (.lcmp, 1)) (hd : decode cc (pc + 1) = .ok (.ifCond .lt off, 3)) (ht : ((pc + 1 : Nat) : Int) + off = (tgt : Int)) (hx : -9223372036854775808 ≤ x ∧ x < 9223372036854775808) (hy : -9223372036854775808 ≤ y ∧ y < 9223372036854775808) (kt : x < y → Go l E cc nL own R Pf Qf k n tgt L st G D) (kf : y ≤ x → Go l E cc nL own R Pf Qf k n (pc + 1 + 3) L st G D) : Go l E cc nL own R Pf Qf k n pc L (vJ y :: vJ x :: st) G D :=
  fun p e s m args below meth c H locs ls h1 h2 h3 h4 h5 h6 h7 h8 h9 h10 h11 => W.lcmp h1 h2 hd0 (lv_if_lt h1 h2 hd ht (fun h => kt (((lg_cmp_lt _ _).trans (ltJ hx hy)).mp h) p e s m args below meth c H locs ls h1 h2 h3 h4 h5 h6 h7 h8 h9 h10 h11) (fun h => kf (Int.not_lt.mp (fun q => h (((lg_cmp_lt _ _).trans (ltJ hx hy)).mpr q))) p e s m args below meth c H locs ls h1 h2 h3 h4 h5 h6 h7 h8 h9 h10 h11))
theorem go_icmp_ge {x y : Int} {off : Int} (tgt : Nat) (hd : decode cc pc = .ok (.if_icmp .ge off, 3)) (ht : (pc : Int) + off = (tgt : Int)) (hx : -2147483648 ≤ x ∧ x < 2147483648) (hy : -2147483648 ≤ y ∧ y < 2147483648) (kt : y ≤ x → Go l E cc nL own R Pf Qf k n tgt L st G D) (kf : x < y → Go l E cc nL own R Pf Qf k n (pc + 3) L st G D) : Go l E cc nL own R Pf Qf k n pc L (vI y :: vI x :: st) G D :=
  fun p e s m args below meth c H locs ls h1 h2 h3 h4 h5 h6 h7 h8 h9 h10 h11 => lv_icmp_ge h1 h2 hd ht (fun h => kt ((leI hy hx).mp h) p e s m args below meth c H locs ls h1 h2 h3 h4 h5 h6 h7 h8 h9 h10 h11) (fun h => kf (Int.not_le.mp (fun q => h ((leI hy hx).mpr q))) p e s m args below meth c H locs ls h1 h2 h3 h4 h5 h6 h7 h8 h9 h10 h11)
theorem go_if_ge {x : Int} {off : Int} (tgt : Nat) (hd : decode cc pc = .ok (.ifCond .ge off, 3)) (ht : (pc : Int) + off = (tgt : Int)) (hx : -2147483648 ≤ x ∧ x < 2147483648) (kt : 0 ≤ x → Go l E cc nL own R Pf Qf k n tgt L st G D) (kf : x < 0 → Go l E cc nL own R Pf Qf k n (pc + 3) L st G D) : Go l E cc nL own R Pf Qf k n pc L (vI x :: st) G D :=
  fun p e s m args below meth c H locs ls h1 h2 h3 h4 h5 h6 h7 h8 h9 h10 h11 => lv_if_ge h1 h2 hd ht (fun h => kt ((leI (by decide) hx).mp h) p e s m args below meth c H locs ls h1 h2 h3 h4 h5 h6 h7 h8 h9 h10 h11) (fun h => kf (Int.not_le.mp (fun q => h ((leI (by decide) hx).mpr q))) p e s m args below meth c H locs ls h1 h2 h3 h4 h5 h6 h7 h8 h9 h10 h11)
theorem go_lcmp_ge {x y off : Int} (tgt : Nat) (hd0 : decode cc pc = .ok (.lcmp, 1)) (hd : decode cc (pc + 1) = .ok (.ifCond .ge off, 3)) (ht : ((pc + 1 : Nat) : Int) + off = (tgt : Int)) (hx : -9223372036854775808 ≤ x ∧ x < 9223372036854775808) (hy : -9223372036854775808 ≤ y ∧ y < 9223372036854775808) (kt : y ≤ x → Go l E cc nL own R Pf Qf k n tgt L st G D) (kf : x < y → Go l E cc nL own R Pf Qf k n (pc + 1 + 3) L st G D) : Go l E cc nL own R Pf Qf k n pc L (vJ y :: vJ x :: st) G D :=
  fun p e s m args below meth c H locs ls h1 h2 h3 h4 h5 h6 h7 h8 h9 h10 h11 => W.lcmp h1 h2 hd0 (lv_if_ge h1 h2 hd ht (fun h => kt (((lg_cmp_ge _ _).trans (leJ hy hx)).mp h) p e s m args below meth c H locs ls h1 h2 h3 h4 h5 h6 h7 h8 h9 h10 h11) (fun h => kf (Int.not_le.mp (fun q => h (((lg_cmp_ge _ _).trans (leJ hy hx)).mpr q))) p e s m args below meth c H locs ls h1 h2 h3 h4 h5 h6 h7 h8 h9 h10 h11))
theorem go_icmp_gt {x y : Int} {off : Int} (tgt : Nat) (hd : decode cc pc = .ok (.if_icmp .gt off, 3)) (ht : (pc : Int) + off = (tgt : Int)) (hx : -2147483648 ≤ x ∧ x < 2147483648) (hy : -2147483648 ≤ y ∧ y < 2147483648) (kt : y < x → Go l E cc nL own R Pf Qf k n tgt L st G D) (kf : x ≤ y → Go l E cc nL own R Pf Qf k n (pc + 3) L st G D) : Go l E cc nL own R Pf Qf k n pc L (vI y :: vI x :: st) G D :=
  fun p e s m args below meth c H locs ls h1 h2 h3 h4 h5 h6 h7 h8 h9 h10 h11 => lv_icmp_gt h1 h2 hd ht (fun h => kt ((ltI hy hx).mp h) p e s m args below meth c H locs ls h1 h2 h3 h4 h5 h6 h7 h8 h9 h10 h11) (fun h => kf (Int.not_lt.mp (fun q => h ((ltI hy hx).mpr q))) p e s m args below meth c H locs ls h1 h2 h3 h4 h5 h6 h7 h8 h9 h10 h11)
theorem go_if_gt {x : Int} {off : Int} (tgt : Nat) (hd : decode cc pc = .ok (.ifCond .gt off, 3)) (ht : (pc : Int) + off = (tgt : Int)) (hx : -2147483648 ≤ x ∧ x < 2147483648) (kt : 0 < x → Go l E cc nL own R Pf Qf k n tgt L st G D) (kf : x ≤ 0 → Go l E cc nL own R Pf Qf k n (pc + 3) L st G D) : Go l E cc nL own R Pf Qf k n pc L (vI x :: st) G D :=
  fun p e s m args below meth c H locs ls h1 h2 h3 h4 h5 h6 h7 h8 h9 h10 h11 => lv_if_gt h1 h2 hd ht (fun h => kt ((ltI (by decide) hx).mp h) p e s m args below meth c H locs ls h1 h2 h3 h4 h5 h6 h7 h8 h9 h10 h11) (fun h => kf (Int.not_lt.mp (fun q => h ((ltI (by decide) hx).mpr q))) p e s m args below meth c H locs ls h1 h2 h3 h4 h5 h6 h7 h8 h9 h10 h11)
theorem go_lcmp_gt {x y off : Int} (tgt : Nat) (hd0 : decode cc pc = .ok (.lcmp, 1)) (hd : decode cc (pc + 1) = .ok (.ifCond .gt off, 3)) (ht : ((pc + 1 : Nat) : Int) + off = (tgt : Int)) (hx : -9223372036854775808 ≤ x ∧ x < 9223372036854775808) (hy : -9223372036854775808 ≤ y ∧ y < 9223372036854775808) (kt : y < x → Go l E cc nL own R Pf Qf k n tgt L st G D) (kf : x ≤ y → Go l E cc nL own R Pf Qf k n (pc + 1 + 3) L st G D) : Go l E cc nL own R Pf Qf k n pc L (vJ y :: vJ x :: st) G D :=
  fun p e s m args below meth c H locs ls h1 h2 h3 h4 h5 h6 h7 h8 h9 h10 h11 => W.lcmp h1 h2 hd0 (lv_if_gt h1 h2 hd ht (fun h => kt (((lg_cmp_gt _ _).trans (ltJ hy hx)).mp h) p e s m args below meth c H locs ls h1 h2 h3 h4 h5 h6 h7 h8 h9 h10 h11) (fun h => kf (Int.not_lt.mp (fun q => h (((lg_cmp_gt _ _).trans (ltJ hy hx)).mpr q))) p e s m args below meth c H locs ls h1 h2 h3 h4 h5 h6 h7 h8 h9 h10 h11))
theorem go_icmp_le {x y : Int} {off : Int} (tgt : Nat) (hd : decode cc pc = .ok (.if_icmp .le off, 3)) (ht : (pc : Int) + off = (tgt : Int)) (hx : -2147483648 ≤ x ∧ x < 2147483648) (hy : -2147483648 ≤ y ∧ y < 2147483648) (kt : x ≤ y → Go l E cc nL own R Pf Qf k n tgt L st G D) (kf : y < x → Go l E cc nL own R Pf Qf k n (pc + 3) L st G D) : Go l E cc nL own R Pf Qf k n pc L (vI y :: vI x :: st) G D :=
  fun p e s m args below meth c H locs ls h1 h2 h3 h4 h5 h6 h7 h8 h9 h10 h11 => lv_icmp_le h1 h2 hd ht (fun h => kt ((leI hx hy).mp h) p e s m args below meth c H locs ls h1 h2 h3 h4 h5 h6 h7 h8 h9 h10 h11) (fun h => kf (Int.not_le.mp (fun q => h ((leI hx hy).mpr q))) p e s m args below meth c H locs ls h1 h2 h3 h4 h5 h6 h7 h8 h9 h10 h11)
theorem go_if_le {x : Int} {off : Int} (tgt : Nat) (hd : decode cc pc = .ok (.ifCond .le off, 3)) (ht : (pc : Int) + off = (tgt : Int)) (hx : -2147483648 ≤ x ∧ x < 2147483648) (kt : x ≤ 0 → Go l E cc nL own R Pf Qf k n tgt L st G D) (kf : 0 < x → Go l E cc nL own R Pf Qf k n (pc + 3) L st G D) : Go l E cc nL own R Pf Qf k n pc L (vI x :: st) G D :=
  fun p e s m args below meth c H locs ls h1 h2 h3 h4 h5 h6 h7 h8 h9 h10 h11 => lv_if_le h1 h2 hd ht (fun h => kt ((leI hx (by decide)).mp h) p e s m args below meth c H locs ls h1 h2 h3 h4 h5 h6 h7 h8 h9 h10 h11) (fun h => kf (Int.not_le.mp (fun q => h ((leI hx (by decide)).mpr q))) p e s m args below meth c H locs ls h1 h2 h3 h4 h5 h6 h7 h8 h9 h10 h11)
theorem go_lcmp_le {x y off : Int} (tgt : Nat) (hd0 : decode cc pc = .ok (.lcmp, 1)) (hd : decode cc (pc + 1) = .ok (.ifCond .le off, 3)) (ht : ((pc + 1 : Nat) : Int) + off = (tgt : Int)) (hx : -9223372036854775808 ≤ x ∧ x < 9223372036854775808) (hy : -9223372036854775808 ≤ y ∧ y < 9223372036854775808) (kt : x ≤ y → Go l E cc nL own R Pf Qf k n tgt L st G D) (kf : y < x → Go l E cc nL own R Pf Qf k n (pc + 1 + 3) L st G D) : Go l E cc nL own R Pf Qf k n pc L (vJ y :: vJ x :: st) G D :=
  fun p e s m args below meth c H locs ls h1 h2 h3 h4 h5 h6 h7 h8 h9 h10 h11 => W.lcmp h1 h2 hd0 (lv_if_le h1 h2 hd ht (fun h => kt (((lg_cmp_le _ _).trans (leJ hx hy)).mp h) p e s m args below meth c H locs ls h1 h2 h3 h4 h5 h6 h7 h8 h9 h10 h11) (fun h => kf (Int.not_le.mp (fun q => h (((lg_cmp_le _ _).trans (leJ hx hy)).mpr q))) p e s m args below meth c H locs ls h1 h2 h3 h4 h5 h6 h7 h8 h9 h10 h11))
theorem go_tableOut {dflt lo hi : Int} {offs : Array Int} {len : Nat} {x : Int} (tgt : Nat) (hd : decode cc pc = .ok (.tableswitch dflt lo hi offs, len)) (hx : -2147483648 ≤ x ∧ x < 2147483648) (h : x < lo ∨ hi < x) (ht : (pc : Int) + dflt = (tgt : Int)) (kk : Go l E cc nL own R Pf Qf k n tgt L st G D) : Go l E cc nL own R Pf Qf k n pc L (vI x :: st) G D :=
  fun p e s m args below meth c H locs ls h1 h2 h3 h4 h5 h6 h7 h8 h9 h10 h11 => lv_tableOut h1 h2 hd (by rw [toI hx]; exact h) ht (kk p e s m args below meth c H locs ls h1 h2 h3 h4 h5 h6 h7 h8 h9 h10 h11)
theorem go_tableIn {dflt lo hi off : Int} {offs : Array Int} {len : Nat} (x : Int) (tgt : Nat) (hd : decode cc pc = .ok (.tableswitch dflt lo hi offs, len)) (hx : -2147483648 ≤ x ∧ x < 2147483648) (h : ¬ x < lo ∧ ¬ hi < x) (ho : offs[(x - lo).toNat]? = some off) (ht : (pc : Int) + off = (tgt : Int)) (kk : Go l E cc nL own R Pf Qf k n tgt L st G D) : Go l E cc nL own R Pf Qf k n pc L (vI x :: st) G D :=
  fun p e s m args below meth c H locs ls h1 h2 h3 h4 h5 h6 h7 h8 h9 h10 h11 => lv_tableIn h1 h2 hd (by rw [toI hx]; exact h.1) (by rw [toI hx]; exact h.2) (by rw [toI hx]; exact ho) ht (kk p e s m args below meth c H locs ls h1 h2 h3 h4 h5 h6 h7 h8 h9 h10 h11)
-- returns
theorem go_ireturn {M : Mt} {mc ms : Nat} {Q : Int → Sh → Dm → Prop} {x : Int} (hk : k ≤ mc) (hn : n ≤ ms) (hr : M.2.2.2.1 = some .int) (hd : decode cc pc = .ok (.ireturn, 1)) (hQ : Q x G D) : Go l E cc nL own R (PfM M) (QfM E 0 mc ms Q) k n pc L [vI x] G D := by
  intro p e s m args below meth c H locs ls h1 h2 h3 h4 h5 h6 h7 h8 h9 h10 h11
  refine W.widen hk hn ?_
  exact W.zret (ty := .int) h1 h2 (h6.1.trans hr) rfl (fun t ht _ => ⟨⟨x, G, D, rfl, hQ, by rw [ht]; exact h10⟩, h9.F ht⟩) h9.2.2 hd h6.2.1
theorem nar01 {x : Int} (h : x = 0 ∨ x = 1) : narrow .boolean (.int (Int32.ofInt x)) = .int (Int32.ofInt x) := by
  rcases h with rfl | rfl <;> rfl
theorem go_zreturn {M : Mt} {mc ms : Nat} {Q : Int → Sh → Dm → Prop} {x : Int} (hk : k ≤ mc) (hn : n ≤ ms) (hr : M.2.2.2.1 = some .boolean) (hx : x = 0 ∨ x = 1) (hd : decode cc pc = .ok (.ireturn, 1)) (hQ : Q x G D) : Go l E cc nL own R (PfM M) (QfM E 0 mc ms Q) k n pc L [vI x] G D := by
  intro p e s m args below meth c H locs ls h1 h2 h3 h4 h5 h6 h7 h8 h9 h10 h11
  refine W.widen hk hn ?_
  exact W.zret (ty := .boolean) h1 h2 (h6.1.trans hr) (nar01 hx) (fun t ht _ => ⟨⟨x, G, D, rfl, hQ, by rw [ht]; exact h10⟩, h9.F ht⟩) h9.2.2 hd h6.2.1
theorem go_lreturn {M : Mt} {mc ms : Nat} {Q : Int → Sh → Dm → Prop} {x : Int} (hk : k ≤ mc) (hn : n ≤ ms) (hr : M.2.2.2.1 = some .long) (hd : decode cc pc = .ok (.lreturn, 1)) (hQ : Q x G D) : Go l E cc nL own R (PfM M) (QfM E 1 mc ms Q) k n pc L [vJ x] G D := by
  intro p e s m args below meth c H locs ls h1 h2 h3 h4 h5 h6 h7 h8 h9 h10 h11
  refine W.widen hk hn ?_
  exact W.lret h1 h2 (h6.1.trans hr) (fun t ht _ => ⟨⟨x, G, D, rfl, hQ, by rw [ht]; exact h10⟩, h9.F ht⟩) h9.2.2 hd h6.2.1
theorem go_return {M : Mt} {mc ms : Nat} {Q : Int → Sh → Dm → Prop} (hk : k ≤ mc) (hn : n ≤ ms) (hr : M.2.2.2.1 = none) (hd : decode cc pc = .ok (.return_, 1)) (hQ : Q 0 G D) : Go l E cc nL own R (PfM M) (QfM E 2 mc ms Q) k n pc L [] G D := by
  intro p e s m args below meth c H locs ls h1 h2 h3 h4 h5 h6 h7 h8 h9 h10 h11
  refine W.widen hk hn ?_
  exact W.vret h1 h2 (h6.1.trans hr) (fun t ht _ => ⟨⟨0, G, D, rfl, hQ, by rw [ht]; exact h10⟩, h9.F ht⟩) h9.2.2 hd h6.2.1
end GO

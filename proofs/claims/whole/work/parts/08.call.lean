/-! ===== calls ===== -/
def mok (M : Mt) (np : Nat) : Prop := M.1.cls ≠ "java/lang/invoke/MethodHandle" ∧ M.1.cls ≠ "java/lang/invoke/VarHandle" ∧ (parseMethodDescriptor M.1.desc).map (fun d => d.parameters.length) = some np
def MwV (own : String) (idx : Nat) (M : Mt) (np : Nat) : Prop := Cond.methodLink own idx M.1 ∈ gT ∧ Cond.code M.1 M.2.1 M.2.2.1 M.2.2.2.1 ∈ gT ∧ Cond.instanceMethod M.1 ∈ gT ∧ Cond.selects M.1.cls M.1 M.1 ∈ gT ∧ Cond.initialized M.1.cls ∈ gT ∧ mok M np
def MwS (own : String) (idx : Nat) (M : Mt) (np : Nat) : Prop := Cond.methodLink own idx M.1 ∈ gT ∧ Cond.code M.1 M.2.1 M.2.2.1 M.2.2.2.1 ∈ gT ∧ Cond.static M.1 ∈ gT ∧ Cond.initialized M.1.cls ∈ gT ∧ mok M np
def MwI (own : String) (idx : Nat) (M : Mt) (np : Nat) : Prop := Cond.methodLink own idx M.1 ∈ gT ∧ Cond.code M.1 M.2.1 M.2.2.1 M.2.2.2.1 ∈ gT ∧ Cond.instanceMethod M.1 ∈ gT ∧ Cond.initialized M.1.cls ∈ gT ∧ M.1.name = "<init>" ∧ M.2.2.2.1 = none ∧ mok M np
def MwN (own : String) (idx : Nat) (M : Mt) (np : Nat) : Prop := (∀ s, Nst s → va_Nw (.methodLinkNest own idx M.1 "HailHill") s) ∧ Cond.code M.1 M.2.1 M.2.2.1 M.2.2.2.1 ∈ gT ∧ Cond.instanceMethod M.1 ∈ gT ∧ Cond.initialized M.1.cls ∈ gT ∧ M.1.name = "<init>" ∧ M.2.2.2.1 = none ∧ mok M np
theorem gIn {M : Mt} (h : Cond.code M.1 M.2.1 M.2.2.1 M.2.2.2.1 ∈ gT) : GoodIn gT (gw M) := by
  intro w hw
  have hw2 : w ∈ gT := by
    rcases List.mem_cons.mp hw with rfl | hw
    · exact h
    · exact hw
  exact ⟨hw2, good_of_word (List.mem_filter.mp hw2).2⟩
def PcO (E : Ev) (as : List Value) (G : Sh) (D : Dm) : Array Value → State → Prop := va_Pc as (fun U => Hp E G D U.heap ∧ Km E U ∧ E.1 ≤ U.heap.size)
theorem PcO.blind {E : Ev} {as : List Value} {G : Sh} {D : Dm} : FrameBlind (PcO E as G D) := fun _ _ _ _ q => ⟨q.1, q.2.1, Km.blind q.2.2.1, q.2.2.2⟩
section GC
variable {l : Launch} {E : Ev} {cc : ByteArray} {nL : Nat} {own : String} {R : Room} {Pf : MethodId → Method → State → Array Value → Prop} {Qf : List Frame → Array Value → State → State → Prop} {k n pc : Nat} {L : List (Nat × Value)} {st : List Value} {G : Sh} {D : Dm}
theorem go_run {κ mc ms : Nat} {Q : Int → Sh → Dm → Prop} {rest : List Value} {a : Array Value}
    (hrun : ∀ (p : Program) (e : Env) (s : State) (m : MethodId) (args : Array Value) (below : List Frame) (meth : Method) (c : Code) (H : Heap) (locs : List Loc) (ls : Array Slot), p.tables.exec = Jvm.exec → c.code = cc → c.maxLocals = nL → s.vm.findClass own = some m.cls → (∀ w ∈ gT, w.before args s = true) → Km E s → E.1 ≤ s.heap.size → va_S (AE E) s.heap H locs → Hp E G D H → lv_has ls nL L →
      va_Run p l e R s m args below meth c H locs k n mc ms (F0 m pc ls st) rest (QcO E κ Q a) (AE E))
    (kk : ∀ r G' D', Q r G' D' → Go l E cc nL own R Pf Qf (k + mc) (n + ms) (pc + 3) L ((rvO κ r).toList ++ rest) G' D') : Go l E cc nL own R Pf Qf k n pc L st G D := by
  intro p e s m args below meth c H locs ls h1 h2 h3 h4 h5 h6 h7 h8 h9 h10 h11 T hT X
  obtain ⟨v, st₀, t, T', L', e0, X', hL, e1, e2, ⟨⟨r, G', D', hv, hQ, hHp⟩, hz, hk⟩, sg⟩ := hrun p e s m args below meth c H locs ls h1 h2 h3 h4 h5 h7 h8 h9 h10 h11 T hT X
  cases hv
  rw [e0] at hz hk
  obtain ⟨t2, a1, b1⟩ := kk r G' D' hQ p e s m args below meth c T'.heap (locs ++ L') ls h1 h2 h3 h4 h5 h6 h7 h8
    ⟨Nat.le_trans h9.1 (by rw [e1]; exact hz), fun q g1 g2 => by rw [e1, hk q (Nat.lt_of_lt_of_le g1 h9.1) g2]; exact h9.2.1 q g1 g2, fun q hq => by
      rcases List.mem_append.mp hq with h | h
      · exact h9.2.2 q h
      · exact hL q h⟩ (by rw [e1]; exact hHp) h11 T' rfl X'
  exact ⟨t2, sg t2 a1, b1⟩
theorem pcTo {as : List Value} {s : State} {H : Heap} {locs : List Loc} (h7 : Km E s) (h9 : va_S (AE E) s.heap H locs) (h10 : Hp E G D H) : PreS s H (PcO E as G D) as :=
  ⟨PcO.blind, fun U hU hW => ⟨rfl, by rw [hU]; exact h10, h7.to h9 hU hW, by rw [hU, h10.1]; exact Nat.le_add_right _ _⟩⟩
theorem cbO {M : Mt} {mc ms np idx : Nat} {s : State} {args : Array Value} (h5 : ∀ w ∈ gT, w.before args s = true) (hl : Cond.methodLink own idx M.1 ∈ gT) (hc : Cond.code M.1 M.2.1 M.2.2.1 M.2.2.2.1 ∈ gT) (hi : Cond.initialized M.1.cls ∈ gT) (hm : mok M np) (hR : M.2.2.2.2.1 + 1 ≤ R.frames ∧ 8 + (M.2.2.1 + 11) + M.2.2.2.2.2 ≤ R.locals) :
    CallB R s args own idx M.1 M.2.1 M.2.2.1 M.2.2.2.1 (gw M) (rmO M mc ms) mc ms np :=
  callB_of np h5 (gIn hc) rfl rfl rfl (h5 _ hi) (h5 _ hl) hm hR
/-- an instance method of an object of ours -/
theorem go_callV {M : Mt} {κ mc ms np idx c ci z : Nat} {Q : Int → Sh → Dm → Prop} {as rest : List Value} (hw : MwV own idx M np) (hc : G.1[c]? = some (ci, z)) (hcl : vwCl[ci]?.map (fun q => q.1) = some M.1.cls) (hci : ci < 100) (hR : M.2.2.2.2.1 + 1 ≤ R.frames ∧ 8 + (M.2.2.1 + 11) + M.2.2.2.2.2 ≤ R.locals) (hf : k + mc ≤ R.cells ∧ n + ms ≤ R.slots) (hn : as.length = np) (hst : st = as.reverse ++ vR E c :: rest) (hcat : (rest.map fun v => v.category).sum ≤ 8) (hd : decode cc pc = .ok (.invokevirtual idx, 3))
    (hct : Ct l E M κ mc ms (vR E c :: as) G D Q) (kk : ∀ r G' D', Q r G' D' → Go l E cc nL own R Pf Qf (k + mc) (n + ms) (pc + 3) L ((rvO κ r).toList ++ rest) G' D') : Go l E cc nL own R Pf Qf k n pc L st G D := by
  refine go_run (κ := κ) (mc := mc) (ms := ms) (Q := Q) (rest := rest) (a := (vR E c :: as).toArray) ?_ kk
  intro p e s m args below meth cd H locs ls h1 h2 h3 h4 h5 h7 h8 h9 h10 h11
  obtain ⟨w1, w2, w3, w4, w5, w6⟩ := hw
  have he := wsO_get (E := E) (D := D) hc
  rw [ceO_obj hci] at he
  obtain ⟨q, hq, hq2⟩ := Option.map_eq_some_iff.mp hcl
  have hrecv := va_recv h7.1 h10.2 hq he
  rw [hq2] at hrecv
  exact va_runV (As := as) (C := M.1.cls) (b := E.1 + c) ⟨h1, h2, h3, h4, h5⟩ hct ⟨cbO h5 w1 w2 w5 w6 hR, h5 _ w3, h5 _ w4⟩ ⟨PcO.blind, hrecv, (pcTo (as := vR E c :: as) h7 h9 h10).2⟩ rfl hn h11.1 hst (lv_room hcat) hd hf
theorem go_callS {M : Mt} {κ mc ms np idx : Nat} {Q : Int → Sh → Dm → Prop} {as rest : List Value} (hw : MwS own idx M np) (hR : M.2.2.2.2.1 + 1 ≤ R.frames ∧ 8 + (M.2.2.1 + 11) + M.2.2.2.2.2 ≤ R.locals) (hf : k + mc ≤ R.cells ∧ n + ms ≤ R.slots) (hn : as.length = np) (hst : st = as.reverse ++ rest) (hcat : (rest.map fun v => v.category).sum ≤ 8) (hd : decode cc pc = .ok (.invokestatic idx, 3))
    (hct : Ct l E M κ mc ms as G D Q) (kk : ∀ r G' D', Q r G' D' → Go l E cc nL own R Pf Qf (k + mc) (n + ms) (pc + 3) L ((rvO κ r).toList ++ rest) G' D') : Go l E cc nL own R Pf Qf k n pc L st G D := by
  refine go_run (κ := κ) (mc := mc) (ms := ms) (Q := Q) (rest := rest) (a := as.toArray) ?_ kk
  intro p e s m args below meth cd H locs ls h1 h2 h3 h4 h5 h7 h8 h9 h10 h11
  obtain ⟨w1, w2, w3, w4, w5⟩ := hw
  exact va_runS (As := as) ⟨h1, h2, h3, h4, h5⟩ hct ⟨cbO h5 w1 w2 w4 w5 hR, h5 _ w3⟩ (pcTo h7 h9 h10) rfl hn h11.1 hst (lv_room hcat) hd hf
theorem go_callI {M : Mt} {mc ms np idx c : Nat} {Q : Int → Sh → Dm → Prop} {as rest : List Value} (hw : MwI own idx M np) (hR : M.2.2.2.2.1 + 1 ≤ R.frames ∧ 8 + (M.2.2.1 + 11) + M.2.2.2.2.2 ≤ R.locals) (hf : k + mc ≤ R.cells ∧ n + ms ≤ R.slots) (hn : as.length = np) (hst : st = as.reverse ++ vR E c :: rest) (hcat : (rest.map fun v => v.category).sum ≤ 8) (hd : decode cc pc = .ok (.invokespecial idx, 3))
    (hct : Ct l E M 2 mc ms (vR E c :: as) G D Q) (kk : ∀ r G' D', Q r G' D' → Go l E cc nL own R Pf Qf (k + mc) (n + ms) (pc + 3) L rest G' D') : Go l E cc nL own R Pf Qf k n pc L st G D := by
  refine go_run (κ := 2) (mc := mc) (ms := ms) (Q := Q) (rest := rest) (a := (vR E c :: as).toArray) ?_ kk
  intro p e s m args below meth cd H locs ls h1 h2 h3 h4 h5 h7 h8 h9 h10 h11
  obtain ⟨w1, w2, w3, w4, w5, w6, w7⟩ := hw
  have hb := cbO (R := R) (mc := mc) (ms := ms) h5 w1 w2 w4 w7 hR
  rw [w6] at hb
  exact va_runI (As := as) (b := E.1 + c) ⟨h1, h2, h3, h4, h5⟩ hct ⟨hb, w5, h5 _ w3⟩ (pcTo (as := vR E c :: as) h7 h9 h10) rfl hn h11.1 hst (lv_room hcat) hd hf
theorem go_callN {M : Mt} {mc ms np idx c : Nat} {Q : Int → Sh → Dm → Prop} {as rest : List Value} (hw : MwN own idx M np) (hR : M.2.2.2.2.1 + 1 ≤ R.frames ∧ 8 + (M.2.2.1 + 11) + M.2.2.2.2.2 ≤ R.locals) (hf : k + mc ≤ R.cells ∧ n + ms ≤ R.slots) (hn : as.length = np) (hst : st = as.reverse ++ vR E c :: rest) (hcat : (rest.map fun v => v.category).sum ≤ 8) (hd : decode cc pc = .ok (.invokespecial idx, 3))
    (hct : Ct l E M 2 mc ms (vR E c :: as) G D Q) (kk : ∀ r G' D', Q r G' D' → Go l E cc nL own R Pf Qf (k + mc) (n + ms) (pc + 3) L rest G' D') : Go l E cc nL own R Pf Qf k n pc L st G D := by
  refine go_run (κ := 2) (mc := mc) (ms := ms) (Q := Q) (rest := rest) (a := (vR E c :: as).toArray) ?_ kk
  intro p e s m args below meth cd H locs ls h1 h2 h3 h4 h5 h7 h8 h9 h10 h11
  obtain ⟨w1, w2, w3, w4, w5, w6, w7⟩ := hw
  have hb : va_CN R s args own idx M.1 "HailHill" M.2.1 M.2.2.1 M.2.2.2.1 (gw M) (rmO M mc ms) mc ms np := va_cnB np h5 (gIn w2) rfl rfl rfl (w1 s h7.2.1) (h5 _ w4) w7 hR
  rw [w6] at hb
  exact va_runIN (As := as) (b := E.1 + c) ⟨h1, h2, h3, h4, h5⟩ hct ⟨hb, w5, h5 _ w3⟩ (pcTo (as := vR E c :: as) h7 h9 h10) rfl hn h11.1 hst (lv_room hcat) hd hf
/-- calls that make nothing -/
theorem go_cv0 {M : Mt} {κ np idx c ci z : Nat} {Q : Int → Sh → Dm → Prop} {as rest : List Value} (hw : MwV own idx M np) (hc : G.1[c]? = some (ci, z)) (hcl : vwCl[ci]?.map (fun q => q.1) = some M.1.cls) (hci : ci < 100) (hR : M.2.2.2.2.1 + 1 ≤ R.frames ∧ 8 + (M.2.2.1 + 11) + M.2.2.2.2.2 ≤ R.locals) (hf : k ≤ R.cells ∧ n ≤ R.slots) (hn : as.length = np) (hst : st = as.reverse ++ vR E c :: rest) (hcat : (rest.map fun v => v.category).sum ≤ 8) (hd : decode cc pc = .ok (.invokevirtual idx, 3))
    (hct : Ct l E M κ 0 0 (vR E c :: as) G D Q) (kk : ∀ r G' D', Q r G' D' → Go l E cc nL own R Pf Qf k n (pc + 3) L ((rvO κ r).toList ++ rest) G' D') : Go l E cc nL own R Pf Qf k n pc L st G D :=
  go_callV hw hc hcl hci hR hf hn hst hcat hd hct kk
theorem go_cs0 {M : Mt} {κ np idx : Nat} {Q : Int → Sh → Dm → Prop} {as rest : List Value} (hw : MwS own idx M np) (hR : M.2.2.2.2.1 + 1 ≤ R.frames ∧ 8 + (M.2.2.1 + 11) + M.2.2.2.2.2 ≤ R.locals) (hf : k ≤ R.cells ∧ n ≤ R.slots) (hn : as.length = np) (hst : st = as.reverse ++ rest) (hcat : (rest.map fun v => v.category).sum ≤ 8) (hd : decode cc pc = .ok (.invokestatic idx, 3))
    (hct : Ct l E M κ 0 0 as G D Q) (kk : ∀ r G' D', Q r G' D' → Go l E cc nL own R Pf Qf k n (pc + 3) L ((rvO κ r).toList ++ rest) G' D') : Go l E cc nL own R Pf Qf k n pc L st G D :=
  go_callS hw hR hf hn hst hcat hd hct kk
/-- a row of rows, a row of objects -/
theorem go_aaload {c κ N : Nat} {i b : Int} {c' : Nat} (hκ : κ = 104 ∨ κ = 105) (hc : G.1[c]? = some (κ, N)) (hb : (N : Int) = b) (hN : N < 2147483648) (hi : 0 ≤ i ∧ i < b) (hr : G.2 c i = some c') (hd : decode cc pc = .ok (.aaload, 1)) (kk : Go l E cc nL own R Pf Qf k n (pc + 1) L (vR E c' :: st) G D) : Go l E cc nL own R Pf Qf k n pc L (vI i :: vR E c :: st) G D := by
  intro p e s m args below meth cd H locs ls h1 h2 h3 h4 h5 h6 h7 h8 h9 h10 h11
  have he := wsO_get (E := E) (D := D) hc
  rw [ceO_ref hκ] at he
  have hin : vp_in (Int32.ofInt i) N := inI hi.1 (by omega) (by omega)
  have hlt : (Int32.ofInt i).toNatClampNeg < N := Nat.not_le.mp fun q => hin (Or.inr q)
  have hcl := clI hi.1 (show i < 2147483648 by omega)
  have hval : va_rf (((fun j : Nat => (G.2 c j).map (fun c => E.1 + c)) (Int32.ofInt i).toNatClampNeg)) = vR E c' := by
    show va_rf ((G.2 c ((Int32.ofInt i).toNatClampNeg : Int)).map _) = _
    rw [hcl, hr]; rfl
  have K := kk p e s m args below meth cd H locs ls h1 h2 h3 h4 h5 h6 h7 h8 h9 h10 h11
  rcases hκ with rfl | rfl
  · refine W.aald (v := va_rf ((fun j : Nat => (G.2 c j).map (fun c => E.1 + c)) (Int32.ofInt i).toNatClampNeg)) (ty := .object "HailHill$Village") h1 h2 (h10.2 c _ he) ((h7.1.2 4 _ rfl).1 N (fun j => va_rf ((G.2 c j).map (fun c => E.1 + c)))) rfl (fun q => by cases q) (by show ¬ (_ ∨ (arrV _ _ _).slots.size ≤ _); rw [arrV_size]; exact hin) (by show (arrV _ _ _).slots[_]? = _; rw [arrV_read _ _ hlt]) rfl rfl hd ?_
    rw [hval]; exact K
  · refine W.aald (v := va_rf ((fun j : Nat => (G.2 c j).map (fun c => E.1 + c)) (Int32.ofInt i).toNatClampNeg)) (ty := .array .long) h1 h2 (h10.2 c _ he) ((h7.1.2 5 _ rfl).1 N (fun j => va_rf ((G.2 c j).map (fun c => E.1 + c)))) rfl (fun q => by cases q) (by show ¬ (_ ∨ (arrV _ _ _).slots.size ≤ _); rw [arrV_size]; exact hin) (by show (arrV _ _ _).slots[_]? = _; rw [arrV_read _ _ hlt]) rfl rfl hd ?_
    rw [hval]; exact K
/-- System.arraycopy -/
def cpy2 (D : Dm) (c0 : Nat) (sp : Int) (c1 : Nat) (dp n : Int) : Dm := fun c j => if c = c1 ∧ dp ≤ j ∧ j < dp + n then D c0 (sp + (j - dp)) else D c j
def CpW (own : String) (idx : Nat) : Prop := Cond.methodLink own idx arraycopyName ∈ gT ∧ Cond.native arraycopyName ∈ gT ∧ Cond.static arraycopyName ∈ gT ∧ Cond.initialized "java/lang/System" ∈ gT
theorem cpI {D : Dm} {c0 c1 : Nat} {sp dp m : Int} {a b d : Nat} (h1 : (a : Int) = sp) (h2 : (b : Int) = dp) (h3 : (d : Int) = m) : va_cpy (fun j : Nat => Int32.ofInt (D c0 j)) (fun j : Nat => Int32.ofInt (D c1 j)) a b d = fun j : Nat => Int32.ofInt (cpy2 D c0 sp c1 dp m c1 j) := by
  funext j
  subst h1 h2 h3
  simp only [va_cpy, cpy2]
  by_cases h : b ≤ j ∧ j < b + d
  · rw [if_pos h, if_pos ⟨trivial, by omega, by omega⟩]
    congr 2; omega
  · rw [if_neg h, if_neg (by omega)]
theorem cpJ {D : Dm} {c0 c1 : Nat} {sp dp m : Int} {a b d : Nat} (h1 : (a : Int) = sp) (h2 : (b : Int) = dp) (h3 : (d : Int) = m) : va_cpy (fun j : Nat => Int64.ofInt (D c0 j)) (fun j : Nat => Int64.ofInt (D c1 j)) a b d = fun j : Nat => Int64.ofInt (cpy2 D c0 sp c1 dp m c1 j) := by
  funext j
  subst h1 h2 h3
  simp only [va_cpy, cpy2]
  by_cases h : b ≤ j ∧ j < b + d
  · rw [if_pos h, if_pos ⟨trivial, by omega, by omega⟩]
    congr 2; omega
  · rw [if_neg h, if_neg (by omega)]
theorem cpy2_cell {D : Dm} {c0 c1 c : Nat} {sp dp m j : Int} (h : c ≠ c1) : cpy2 D c0 sp c1 dp m c j = D c j := by simp [cpy2, h]
theorem nnC {z : Int32} (hz : ¬ z < 0) : z.toInt = (z.toNatClampNeg : Int) := by
  have hz0 : (0 : Int) ≤ z.toInt := by
    have := Int32.not_lt.mp hz
    simpa using Int32.le_iff_toInt_le.mp this
  show z.toInt = ((z.toInt.toNat : Nat) : Int)
  omega
theorem go_copyI {idx c0 c1 n0 n1 : Nat} {sp dp m b0 b1 : Int} (hw : CpW own idx) (hc0 : G.1[c0]? = some (100, n0)) (hc1 : G.1[c1]? = some (100, n1)) (hb0 : (n0 : Int) = b0) (hb1 : (n1 : Int) = b1) (hN : n0 < 2147483648 ∧ n1 < 2147483648) (hi : 0 ≤ sp ∧ 0 ≤ dp ∧ 0 ≤ m ∧ sp + m ≤ b0 ∧ dp + m ≤ b1) (hR : 1 ≤ R.frames ∧ (st.map fun v => v.category).sum + (nativeFrameWords "java/lang/System" "arraycopy" 5 + 11) ≤ R.locals) (hd : decode cc pc = .ok (.invokestatic idx, 3)) (kk : Go l E cc nL own R Pf Qf k n (pc + 3) L st G (cpy2 D c0 sp c1 dp m)) : Go l E cc nL own R Pf Qf k n pc L (vI m :: vI dp :: vR E c1 :: vI sp :: vR E c0 :: st) G D := by
  intro p e s mm args below meth cd H locs ls h1 h2 h3 h4 h5 h6 h7 h8 h9 h10 h11 T hT X
  have he0 := wsO_get (E := E) (D := D) hc0
  have he1 := wsO_get (E := E) (D := D) hc1
  rw [ceO_int (Or.inl rfl)] at he0 he1
  have a0 : H[E.1 + c0]? = some (vp_cell (E.2.2.1 100) (n0, .inl fun j => Int32.ofInt (D c0 j))) := h10.2 c0 _ he0
  have a1 : H[E.1 + c1]? = some (vp_cell (E.2.2.1 100) (n1, .inl fun j => Int32.ofInt (D c1 j))) := h10.2 c1 _ he1
  have s1 := clI hi.1 (show sp < 2147483648 by omega)
  have s2 := clI hi.2.1 (show dp < 2147483648 by omega)
  have s3 := clI hi.2.2.1 (show m < 2147483648 by omega)
  have p1 : ¬ Int32.ofInt sp < 0 := by rw [zI, ltI (by omega) (by omega)]; omega
  have p2 : ¬ Int32.ofInt dp < 0 := by rw [zI, ltI (by omega) (by omega)]; omega
  have p3 : ¬ Int32.ofInt m < 0 := by rw [zI, ltI (by omega) (by omega)]; omega
  obtain ⟨-, k0, hk0, cm0, hkk0⟩ := (h7.1.2 0 _ rfl).1 n0 (fun j => .int (Int32.ofInt (D c0 j)))
  obtain ⟨vm', X', step⟩ := X.arraycopy h1 h4 (h5 _ hw.1) (h5 _ hw.2.1) (h5 _ hw.2.2.1) (h5 _ hw.2.2.2) (src := E.1 + c0) (dst := E.1 + c1) (cs := vp_cell (E.2.2.1 100) (n0, .inl fun j => Int32.ofInt (D c0 j))) (cd := vp_cell (E.2.2.1 100) (n1, .inl fun j => Int32.ofInt (D c1 j))) (srcPos := Int32.ofInt sp) (destPos := Int32.ofInt dp) (n := Int32.ofInt m) (by rw [hT]; exact a0) (by rw [hT]; exact a1)
    (fun _ h => by cases h) (fun _ h => by cases h) (fun h => by cases h) (fun h => by cases h) hk0 hk0 hkk0 hkk0 (by simp [refKind]) p1 p2 p3
    (by rw [nnC p1, nnC p3]; show ¬ _ > ((arrV _ n0 _).slots.size : Int); rw [arrV_size]; omega)
    (by rw [nnC p2, nnC p3]; show ¬ _ > ((arrV _ n1 _).slots.size : Int); rw [arrV_size]; omega)
    (fun vm₁ _ i hi2 => by
      have e9 : (vp_cell (E.2.2.1 100) (n0, .inl fun j => Int32.ofInt (D c0 j))).slots.getD ((Int32.ofInt sp).toNatClampNeg + i) .null = .int (Int32.ofInt (D c0 (((Int32.ofInt sp).toNatClampNeg + i : Nat) : Int))) := by
        show (arrV _ n0 (fun j => .int (Int32.ofInt (D c0 j)))).slots.getD _ _ = _
        rw [Array.getD_eq_getD_getElem?, arrV_read _ _ (by omega)]
        rfl
      refine ⟨?_, ?_⟩
      · rw [e9]; rfl
      · rw [e9]; exact trivial)
    (g := F0 mm pc ls (vI m :: vI dp :: vR E c1 :: vI sp :: vR E c0 :: st)) rfl (by rw [h3]; exact h11.1) (rest := st) rfl (by rw [h2]; exact hd) hR.1 (by show 2 * 0 + _ + _ ≤ _; have := hR.2; omega)
  have e1 : copied (vp_cell (E.2.2.1 100) (n0, .inl fun j => Int32.ofInt (D c0 j))) (vp_cell (E.2.2.1 100) (n1, .inl fun j => Int32.ofInt (D c1 j))) (Int32.ofInt sp) (Int32.ofInt dp) (Int32.ofInt m) = vp_cell (E.2.2.1 100) (n1, .inl fun j => Int32.ofInt (cpy2 D c0 sp c1 dp m c1 j)) := by
    rw [← cpI s1 s2 s3]
    have hb9 : (Int32.ofInt sp).toNatClampNeg + (Int32.ofInt m).toNatClampNeg ≤ n0 := by omega
    exact va_copied (fun z => .int z) (E.2.2.1 100) (E.2.2.1 100) (n1 := n1) (dp := (Int32.ofInt dp).toNatClampNeg) (fun j => Int32.ofInt (D c0 j)) (fun j => Int32.ofInt (D c1 j)) hb9
  rw [e1] at X' step
  have hl : E.1 + c1 < H.size := (Array.getElem?_eq_some_iff.mp a1).1
  generalize hcell : vp_cell (E.2.2.1 100) (n1, .inl fun j : Nat => Int32.ofInt (cpy2 D c0 sp c1 dp m c1 j)) = cl1 at X' step
  have hheap : ((T.setVm vm').setCell (E.1 + c1) cl1).heap = H.setIfInBounds (E.1 + c1) cl1 := by rw [← hT]; rfl
  have oq : ∀ q : Nat, q ≠ E.1 + c1 → (H.setIfInBounds (E.1 + c1) cl1)[q]? = H[q]? := fun q hq => by simp [Array.getElem?_setIfInBounds, Ne.symm hq]
  have hz : (H.setIfInBounds (E.1 + c1) cl1).size = H.size := by simp
  obtain ⟨t, x1, y1⟩ := kk p e s mm args below meth cd (H.setIfInBounds (E.1 + c1) cl1) _ ls h1 h2 h3 h4 h5 h6 h7 h8 ⟨by rw [hz]; exact h9.1, fun q g1 g2 => by
      rw [oq q (fun e9 => g2 (by rw [e9]; exact Nat.le_add_right _ _))]
      exact h9.2.1 q g1 g2, fun q hq => by
      rcases List.mem_append.mp hq with h | h
      · exact h9.2.2 q h
      · obtain ⟨z, -, hz⟩ := List.mem_map.mp h
        rw [← hz]
        exact Nat.le_add_right _ _⟩ (h10.store hc1 hz oq rfl (fun c' t' h _ => ceO_keep (fun j => cpy2_cell h)) (by
          rw [ceO_int (Or.inl rfl)]
          show (H.setIfInBounds (E.1 + c1) _)[E.1 + c1]? = some _
          simp [Array.getElem?_setIfInBounds, hl, hcell])) h11 _ hheap X'
  exact ⟨t, step t x1, y1⟩
theorem go_copyJ {idx c0 c1 n0 n1 : Nat} {sp dp m b0 b1 : Int} (hw : CpW own idx) (hc0 : G.1[c0]? = some (101, n0)) (hc1 : G.1[c1]? = some (101, n1)) (hb0 : (n0 : Int) = b0) (hb1 : (n1 : Int) = b1) (hN : n0 < 2147483648 ∧ n1 < 2147483648) (hi : 0 ≤ sp ∧ 0 ≤ dp ∧ 0 ≤ m ∧ sp + m ≤ b0 ∧ dp + m ≤ b1) (hR : 1 ≤ R.frames ∧ (st.map fun v => v.category).sum + (nativeFrameWords "java/lang/System" "arraycopy" 5 + 11) ≤ R.locals) (hd : decode cc pc = .ok (.invokestatic idx, 3)) (kk : Go l E cc nL own R Pf Qf k n (pc + 3) L st G (cpy2 D c0 sp c1 dp m)) : Go l E cc nL own R Pf Qf k n pc L (vI m :: vI dp :: vR E c1 :: vI sp :: vR E c0 :: st) G D := by
  intro p e s mm args below meth cd H locs ls h1 h2 h3 h4 h5 h6 h7 h8 h9 h10 h11 T hT X
  have he0 := wsO_get (E := E) (D := D) hc0
  have he1 := wsO_get (E := E) (D := D) hc1
  rw [ceO_long] at he0 he1
  have a0 : H[E.1 + c0]? = some (vp_cell (E.2.2.1 101) (n0, .inr (.inl fun j => Int64.ofInt (D c0 j)))) := h10.2 c0 _ he0
  have a1 : H[E.1 + c1]? = some (vp_cell (E.2.2.1 101) (n1, .inr (.inl fun j => Int64.ofInt (D c1 j)))) := h10.2 c1 _ he1
  have s1 := clI hi.1 (show sp < 2147483648 by omega)
  have s2 := clI hi.2.1 (show dp < 2147483648 by omega)
  have s3 := clI hi.2.2.1 (show m < 2147483648 by omega)
  have p1 : ¬ Int32.ofInt sp < 0 := by rw [zI, ltI (by omega) (by omega)]; omega
  have p2 : ¬ Int32.ofInt dp < 0 := by rw [zI, ltI (by omega) (by omega)]; omega
  have p3 : ¬ Int32.ofInt m < 0 := by rw [zI, ltI (by omega) (by omega)]; omega
  obtain ⟨-, k0, hk0, cm0, hkk0⟩ := (h7.1.2 1 _ rfl).1 n0 (fun j => .long (Int64.ofInt (D c0 j)))
  obtain ⟨vm', X', step⟩ := X.arraycopy h1 h4 (h5 _ hw.1) (h5 _ hw.2.1) (h5 _ hw.2.2.1) (h5 _ hw.2.2.2) (src := E.1 + c0) (dst := E.1 + c1) (cs := vp_cell (E.2.2.1 101) (n0, .inr (.inl fun j => Int64.ofInt (D c0 j)))) (cd := vp_cell (E.2.2.1 101) (n1, .inr (.inl fun j => Int64.ofInt (D c1 j)))) (srcPos := Int32.ofInt sp) (destPos := Int32.ofInt dp) (n := Int32.ofInt m) (by rw [hT]; exact a0) (by rw [hT]; exact a1)
    (fun _ h => by cases h) (fun _ h => by cases h) (fun h => by cases h) (fun h => by cases h) hk0 hk0 hkk0 hkk0 (by simp [refKind]) p1 p2 p3
    (by rw [nnC p1, nnC p3]; show ¬ _ > ((arrV _ n0 _).slots.size : Int); rw [arrV_size]; omega)
    (by rw [nnC p2, nnC p3]; show ¬ _ > ((arrV _ n1 _).slots.size : Int); rw [arrV_size]; omega)
    (fun vm₁ _ i hi2 => by
      have e9 : (vp_cell (E.2.2.1 101) (n0, .inr (.inl fun j => Int64.ofInt (D c0 j)))).slots.getD ((Int32.ofInt sp).toNatClampNeg + i) .null = .long (Int64.ofInt (D c0 (((Int32.ofInt sp).toNatClampNeg + i : Nat) : Int))) := by
        show (arrV _ n0 (fun j => .long (Int64.ofInt (D c0 j)))).slots.getD _ _ = _
        rw [Array.getD_eq_getD_getElem?, arrV_read _ _ (by omega)]
        rfl
      refine ⟨?_, ?_⟩
      · rw [e9]; rfl
      · rw [e9]; exact trivial)
    (g := F0 mm pc ls (vI m :: vI dp :: vR E c1 :: vI sp :: vR E c0 :: st)) rfl (by rw [h3]; exact h11.1) (rest := st) rfl (by rw [h2]; exact hd) hR.1 (by show 2 * 0 + _ + _ ≤ _; have := hR.2; omega)
  have e1 : copied (vp_cell (E.2.2.1 101) (n0, .inr (.inl fun j => Int64.ofInt (D c0 j)))) (vp_cell (E.2.2.1 101) (n1, .inr (.inl fun j => Int64.ofInt (D c1 j)))) (Int32.ofInt sp) (Int32.ofInt dp) (Int32.ofInt m) = vp_cell (E.2.2.1 101) (n1, .inr (.inl fun j => Int64.ofInt (cpy2 D c0 sp c1 dp m c1 j))) := by
    rw [← cpJ s1 s2 s3]
    have hb9 : (Int32.ofInt sp).toNatClampNeg + (Int32.ofInt m).toNatClampNeg ≤ n0 := by omega
    exact va_copied (fun z => .long z) (E.2.2.1 101) (E.2.2.1 101) (n1 := n1) (dp := (Int32.ofInt dp).toNatClampNeg) (fun j => Int64.ofInt (D c0 j)) (fun j => Int64.ofInt (D c1 j)) hb9
  rw [e1] at X' step
  have hl : E.1 + c1 < H.size := (Array.getElem?_eq_some_iff.mp a1).1
  generalize hcell : vp_cell (E.2.2.1 101) (n1, .inr (.inl fun j : Nat => Int64.ofInt (cpy2 D c0 sp c1 dp m c1 j))) = cl1 at X' step
  have hheap : ((T.setVm vm').setCell (E.1 + c1) cl1).heap = H.setIfInBounds (E.1 + c1) cl1 := by rw [← hT]; rfl
  have oq : ∀ q : Nat, q ≠ E.1 + c1 → (H.setIfInBounds (E.1 + c1) cl1)[q]? = H[q]? := fun q hq => by simp [Array.getElem?_setIfInBounds, Ne.symm hq]
  have hz : (H.setIfInBounds (E.1 + c1) cl1).size = H.size := by simp
  obtain ⟨t, x1, y1⟩ := kk p e s mm args below meth cd (H.setIfInBounds (E.1 + c1) cl1) _ ls h1 h2 h3 h4 h5 h6 h7 h8 ⟨by rw [hz]; exact h9.1, fun q g1 g2 => by
      rw [oq q (fun e9 => g2 (by rw [e9]; exact Nat.le_add_right _ _))]
      exact h9.2.1 q g1 g2, fun q hq => by
      rcases List.mem_append.mp hq with h | h
      · exact h9.2.2 q h
      · obtain ⟨z, -, hz⟩ := List.mem_map.mp h
        rw [← hz]
        exact Nat.le_add_right _ _⟩ (h10.store hc1 hz oq rfl (fun c' t' h _ => ceO_keep (fun j => cpy2_cell h)) (by
          rw [ceO_long]
          show (H.setIfInBounds (E.1 + c1) _)[E.1 + c1]? = some _
          simp [Array.getElem?_setIfInBounds, hl, hcell])) h11 _ hheap X'
  exact ⟨t, step t x1, y1⟩
end GC

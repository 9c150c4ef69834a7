/-! ===== calls ===== -/
def mok (M : Mt) (np : Nat) : Prop := M.1.cls ≠ "java/lang/invoke/MethodHandle" ∧ M.1.cls ≠ "java/lang/invoke/VarHandle" ∧ (parseMethodDescriptor M.1.desc).map (fun d => d.parameters.length) = some np
def MwV (own : String) (idx : Nat) (M : Mt) (np : Nat) : Prop := Cond.methodLink own idx M.1 ∈ gT ∧ Cond.code M.1 M.2.1 M.2.2.1 M.2.2.2.1 ∈ gT ∧ Cond.instanceMethod M.1 ∈ gT ∧ Cond.selects M.1.cls M.1 M.1 ∈ gT ∧ Cond.initialized M.1.cls ∈ gT ∧ mok M np
def MwS (own : String) (idx : Nat) (M : Mt) (np : Nat) : Prop := Cond.methodLink own idx M.1 ∈ gT ∧ Cond.code M.1 M.2.1 M.2.2.1 M.2.2.2.1 ∈ gT ∧ Cond.static M.1 ∈ gT ∧ Cond.initialized M.1.cls ∈ gT ∧ mok M np
def MwI (own : String) (idx : Nat) (M : Mt) (np : Nat) : Prop := Cond.methodLink own idx M.1 ∈ gT ∧ Cond.code M.1 M.2.1 M.2.2.1 M.2.2.2.1 ∈ gT ∧ Cond.instanceMethod M.1 ∈ gT ∧ Cond.initialized M.1.cls ∈ gT ∧ M.1.name = "<init>" ∧ M.2.2.2.1 = none ∧ mok M np
def MwN (own : String) (idx : Nat) (M : Mt) (np : Nat) : Prop := (∀ s, Nst s → va_Nw (.methodLinkNest own idx M.1 "HailHill") s) ∧ Cond.code M.1 M.2.1 M.2.2.1 M.2.2.2.1 ∈ gT ∧ Cond.instanceMethod M.1 ∈ gT ∧ Cond.initialized M.1.cls ∈ gT ∧ M.1.name = "<init>" ∧ M.2.2.2.1 = none ∧ mok M np
theorem gIn {M : Mt} (h : Cond.code M.1 M.2.1 M.2.2.1 M.2.2.2.1 ∈ gT) : GoodIn gT (gw M) := by
  intro w hw
  have hw2 : w ∈ gT := by
    rcases List.mem_cons.mp hw with rfl | hw
    · exact h
    · exact hw
  exact ⟨hw2, good_of_word (List.mem_filter.mp hw2).2⟩
def PcO (E : Ev) (as : List Value) (G : Sh) (D : Dm) : Array Value → State → Prop := va_Pc as (fun U => Hp E G D U.heap ∧ Km E U ∧ E.1 ≤ U.heap.size)
theorem PcO.blind {E : Ev} {as : List Value} {G : Sh} {D : Dm} : FrameBlind (PcO E as G D) := fun _ _ _ _ q => ⟨q.1, q.2.1, Km.blind q.2.2.1, q.2.2.2⟩
section GC
variable {l : Launch} {E : Ev} {cc : ByteArray} {nL : Nat} {own : String} {R : Room} {Pf : MethodId → Method → State → Array Value → Prop} {Qf : List Frame → Array Value → State → State → Prop} {k n pc : Nat} {L : List (Nat × Value)} {st : List Value} {G : Sh} {D : Dm}
theorem go_run {κ mc ms : Nat} {Q : Int → Sh → Dm → Prop} {rest : List Value} {a : Array Value}
    (hrun : ∀ (p : Program) (e : Env) (s : State) (m : MethodId) (args : Array Value) (below : List Frame) (meth : Method) (c : Code) (H : Heap) (locs : List Loc) (ls : Array Slot), p.tables.exec = Jvm.exec → c.code = cc → c.maxLocals = nL → s.vm.findClass own = some m.cls → (∀ w ∈ gT, w.before args s = true) → Km E s → E.1 ≤ s.heap.size → va_S (AE E) s.heap H locs → Hp E G D H → lv_has ls nL L →
      va_Run p l e R s m args below meth c H locs k n mc ms (F0 m pc ls st) rest (QcO E κ Q a) (AE E))
    (kk : ∀ r G' D', Q r G' D' → Go l E cc nL own R Pf Qf (k + mc) (n + ms) (pc + 3) L ((rvO κ r).toList ++ rest) G' D') : Go l E cc nL own R Pf Qf k n pc L st G D := by
  intro p e s m args below meth c H locs ls h1 h2 h3 h4 h5 h6 h7 h8 h9 h10 h11 T hT X
  obtain ⟨v, st₀, t, T', L', e0, X', hL, e1, e2, ⟨⟨r, G', D', hv, hQ, hHp⟩, hz, hk⟩, sg⟩ := hrun p e s m args below meth c H locs ls h1 h2 h3 h4 h5 h7 h8 h9 h10 h11 T hT X
  cases hv
  rw [e0] at hz hk
  obtain ⟨t2, a1, b1⟩ := kk r G' D' hQ p e s m args below meth c T'.heap (locs ++ L') ls h1 h2 h3 h4 h5 h6 h7 h8
    ⟨Nat.le_trans h9.1 (by rw [e1]; exact hz), fun q g1 g2 => by rw [e1, hk q (Nat.lt_of_lt_of_le g1 h9.1) g2]; exact h9.2.1 q g1 g2, fun q hq => by
      rcases List.mem_append.mp hq with h | h
      · exact h9.2.2 q h
      · exact hL q h⟩ (by rw [e1]; exact hHp) h11 T' rfl X'
  exact ⟨t2, sg t2 a1, b1⟩
theorem pcTo {as : List Value} {s : State} {H : Heap} {locs : List Loc} (h7 : Km E s) (h9 : va_S (AE E) s.heap H locs) (h10 : Hp E G D H) : PreS s H (PcO E as G D) as :=
  ⟨PcO.blind, fun U hU hW => ⟨rfl, by rw [hU]; exact h10, h7.to h9 hU hW, by rw [hU, h10.1]; exact Nat.le_add_right _ _⟩⟩
theorem cbO {M : Mt} {mc ms np idx : Nat} {s : State} {args : Array Value} (h5 : ∀ w ∈ gT, w.before args s = true) (hl : Cond.methodLink own idx M.1 ∈ gT) (hc : Cond.code M.1 M.2.1 M.2.2.1 M.2.2.2.1 ∈ gT) (hi : Cond.initialized M.1.cls ∈ gT) (hm : mok M np) (hR : M.2.2.2.2.1 + 1 ≤ R.frames ∧ 8 + (M.2.2.1 + 11) + M.2.2.2.2.2 ≤ R.locals) :
    CallB R s args own idx M.1 M.2.1 M.2.2.1 M.2.2.2.1 (gw M) (rmO M mc ms) mc ms np :=
  callB_of np h5 (gIn hc) rfl rfl rfl (h5 _ hi) (h5 _ hl) hm hR
/-- an instance method of an object of ours -/
theorem go_callV {M : Mt} {κ mc ms np idx c ci z : Nat} {Q : Int → Sh → Dm → Prop} {as rest : List Value} (hw : MwV own idx M np) (hc : G.1[c]? = some (ci, z)) (hcl : vwCl[ci]?.map (fun q => q.1) = some M.1.cls) (hci : ci < 100) (hR : M.2.2.2.2.1 + 1 ≤ R.frames ∧ 8 + (M.2.2.1 + 11) + M.2.2.2.2.2 ≤ R.locals) (hf : k + mc ≤ R.cells ∧ n + ms ≤ R.slots) (hn : as.length = np) (hst : st = as.reverse ++ vR E c :: rest) (hcat : (rest.map fun v => v.category).sum ≤ 8) (hd : decode cc pc = .ok (.invokevirtual idx, 3))
    (hct : Ct l E M κ mc ms (vR E c :: as) G D Q) (kk : ∀ r G' D', Q r G' D' → Go l E cc nL own R Pf Qf (k + mc) (n + ms) (pc + 3) L ((rvO κ r).toList ++ rest) G' D') : Go l E cc nL own R Pf Qf k n pc L st G D := by
  refine go_run (κ := κ) (mc := mc) (ms := ms) (Q := Q) (rest := rest) (a := (vR E c :: as).toArray) ?_ kk
  intro p e s m args below meth cd H locs ls h1 h2 h3 h4 h5 h7 h8 h9 h10 h11
  obtain ⟨w1, w2, w3, w4, w5, w6⟩ := hw
  have he := wsO_get (E := E) (D := D) hc
  rw [ceO_obj hci] at he
  obtain ⟨q, hq, hq2⟩ := Option.map_eq_some_iff.mp hcl
  have hrecv := va_recv h7.1 h10.2.1 hq he
  rw [hq2] at hrecv
  exact va_runV (As := as) (C := M.1.cls) (b := E.1 + c) ⟨h1, h2, h3, h4, h5⟩ hct ⟨cbO h5 w1 w2 w5 w6 hR, h5 _ w3, h5 _ w4⟩ ⟨PcO.blind, hrecv, (pcTo (as := vR E c :: as) h7 h9 h10).2⟩ rfl hn h11.1 hst (lv_room hcat) hd hf
theorem go_callS {M : Mt} {κ mc ms np idx : Nat} {Q : Int → Sh → Dm → Prop} {as rest : List Value} (hw : MwS own idx M np) (hR : M.2.2.2.2.1 + 1 ≤ R.frames ∧ 8 + (M.2.2.1 + 11) + M.2.2.2.2.2 ≤ R.locals) (hf : k + mc ≤ R.cells ∧ n + ms ≤ R.slots) (hn : as.length = np) (hst : st = as.reverse ++ rest) (hcat : (rest.map fun v => v.category).sum ≤ 8) (hd : decode cc pc = .ok (.invokestatic idx, 3))
    (hct : Ct l E M κ mc ms as G D Q) (kk : ∀ r G' D', Q r G' D' → Go l E cc nL own R Pf Qf (k + mc) (n + ms) (pc + 3) L ((rvO κ r).toList ++ rest) G' D') : Go l E cc nL own R Pf Qf k n pc L st G D := by
  refine go_run (κ := κ) (mc := mc) (ms := ms) (Q := Q) (rest := rest) (a := as.toArray) ?_ kk
  intro p e s m args below meth cd H locs ls h1 h2 h3 h4 h5 h7 h8 h9 h10 h11
  obtain ⟨w1, w2, w3, w4, w5⟩ := hw
  exact va_runS (As := as) ⟨h1, h2, h3, h4, h5⟩ hct ⟨cbO h5 w1 w2 w4 w5 hR, h5 _ w3⟩ (pcTo h7 h9 h10) rfl hn h11.1 hst (lv_room hcat) hd hf
theorem go_callI {M : Mt} {mc ms np idx c : Nat} {Q : Int → Sh → Dm → Prop} {as rest : List Value} (hw : MwI own idx M np) (hR : M.2.2.2.2.1 + 1 ≤ R.frames ∧ 8 + (M.2.2.1 + 11) + M.2.2.2.2.2 ≤ R.locals) (hf : k + mc ≤ R.cells ∧ n + ms ≤ R.slots) (hn : as.length = np) (hst : st = as.reverse ++ vR E c :: rest) (hcat : (rest.map fun v => v.category).sum ≤ 8) (hd : decode cc pc = .ok (.invokespecial idx, 3))
    (hct : Ct l E M 2 mc ms (vR E c :: as) G D Q) (kk : ∀ r G' D', Q r G' D' → Go l E cc nL own R Pf Qf (k + mc) (n + ms) (pc + 3) L rest G' D') : Go l E cc nL own R Pf Qf k n pc L st G D := by
  refine go_run (κ := 2) (mc := mc) (ms := ms) (Q := Q) (rest := rest) (a := (vR E c :: as).toArray) ?_ kk
  intro p e s m args below meth cd H locs ls h1 h2 h3 h4 h5 h7 h8 h9 h10 h11
  obtain ⟨w1, w2, w3, w4, w5, w6, w7⟩ := hw
  have hb := cbO (R := R) (mc := mc) (ms := ms) h5 w1 w2 w4 w7 hR
  rw [w6] at hb
  exact va_runI (As := as) (b := E.1 + c) ⟨h1, h2, h3, h4, h5⟩ hct ⟨hb, w5, h5 _ w3⟩ (pcTo (as := vR E c :: as) h7 h9 h10) rfl hn h11.1 hst (lv_room hcat) hd hf
theorem go_callN {M : Mt} {mc ms np idx c : Nat} {Q : Int → Sh → Dm → Prop} {as rest : List Value} (hw : MwN own idx M np) (hR : M.2.2.2.2.1 + 1 ≤ R.frames ∧ 8 + (M.2.2.1 + 11) + M.2.2.2.2.2 ≤ R.locals) (hf : k + mc ≤ R.cells ∧ n + ms ≤ R.slots) (hn : as.length = np) (hst : st = as.reverse ++ vR E c :: rest) (hcat : (rest.map fun v => v.category).sum ≤ 8) (hd : decode cc pc = .ok (.invokespecial idx, 3))
    (hct : Ct l E M 2 mc ms (vR E c :: as) G D Q) (kk : ∀ r G' D', Q r G' D' → Go l E cc nL own R Pf Qf (k + mc) (n + ms) (pc + 3) L rest G' D') : Go l E cc nL own R Pf Qf k n pc L st G D := by
  refine go_run (κ := 2) (mc := mc) (ms := ms) (Q := Q) (rest := rest) (a := (vR E c :: as).toArray) ?_ kk
  intro p e s m args below meth cd H locs ls h1 h2 h3 h4 h5 h7 h8 h9 h10 h11
  obtain ⟨w1, w2, w3, w4, w5, w6, w7⟩ := hw
  have hb : va_CN R s args own idx M.1 "HailHill" M.2.1 M.2.2.1 M.2.2.2.1 (gw M) (rmO M mc ms) mc ms np := va_cnB np h5 (gIn w2) rfl rfl rfl (w1 s h7.2.1) (h5 _ w4) w7 hR
  rw [w6] at hb
  exact va_runIN (As := as) (b := E.1 + c) ⟨h1, h2, h3, h4, h5⟩ hct ⟨hb, w5, h5 _ w3⟩ (pcTo (as := vR E c :: as) h7 h9 h10) rfl hn h11.1 hst (lv_room hcat) hd hf
/-- calls that make nothing -/
theorem go_cv0 {M : Mt} {κ np idx c ci z : Nat} {Q : Int → Sh → Dm → Prop} {as rest : List Value} (hw : MwV own idx M np) (hc : G.1[c]? = some (ci, z)) (hcl : vwCl[ci]?.map (fun q => q.1) = some M.1.cls) (hci : ci < 100) (hR : M.2.2.2.2.1 + 1 ≤ R.frames ∧ 8 + (M.2.2.1 + 11) + M.2.2.2.2.2 ≤ R.locals) (hf : k ≤ R.cells ∧ n ≤ R.slots) (hn : as.length = np) (hst : st = as.reverse ++ vR E c :: rest) (hcat : (rest.map fun v => v.category).sum ≤ 8) (hd : decode cc pc = .ok (.invokevirtual idx, 3))
    (hct : Ct l E M κ 0 0 (vR E c :: as) G D Q) (kk : ∀ r G' D', Q r G' D' → Go l E cc nL own R Pf Qf k n (pc + 3) L ((rvO κ r).toList ++ rest) G' D') : Go l E cc nL own R Pf Qf k n pc L st G D :=
  go_callV hw hc hcl hci hR hf hn hst hcat hd hct kk
theorem go_cs0 {M : Mt} {κ np idx : Nat} {Q : Int → Sh → Dm → Prop} {as rest : List Value} (hw : MwS own idx M np) (hR : M.2.2.2.2.1 + 1 ≤ R.frames ∧ 8 + (M.2.2.1 + 11) + M.2.2.2.2.2 ≤ R.locals) (hf : k ≤ R.cells ∧ n ≤ R.slots) (hn : as.length = np) (hst : st = as.reverse ++ rest) (hcat : (rest.map fun v => v.category).sum ≤ 8) (hd : decode cc pc = .ok (.invokestatic idx, 3))
    (hct : Ct l E M κ 0 0 as G D Q) (kk : ∀ r G' D', Q r G' D' → Go l E cc nL own R Pf Qf k n (pc + 3) L ((rvO κ r).toList ++ rest) G' D') : Go l E cc nL own R Pf Qf k n pc L st G D :=
  go_callS hw hR hf hn hst hcat hd hct kk
/-- a row of rows, a row of objects -/
theorem go_aaload {c κ N : Nat} {i b : Int} {c' : Nat} (hκ : κ = 104 ∨ κ = 105) (hc : G.1[c]? = some (κ, N)) (hb : (N : Int) = b) (hN : N < 2147483648) (hi : 0 ≤ i ∧ i < b) (hr : G.2 c i = some c') (hd : decode cc pc = .ok (.aaload, 1)) (kk : Go l E cc nL own R Pf Qf k n (pc + 1) L (vR E c' :: st) G D) : Go l E cc nL own R Pf Qf k n pc L (vI i :: vR E c :: st) G D := by
  intro p e s m args below meth cd H locs ls h1 h2 h3 h4 h5 h6 h7 h8 h9 h10 h11
  have he := wsO_get (E := E) (D := D) hc
  rw [ceO_ref hκ] at he
  have hin : vp_in (Int32.ofInt i) N := inI hi.1 (by omega) (by omega)
  have hlt : (Int32.ofInt i).toNatClampNeg < N := Nat.not_le.mp fun q => hin (Or.inr q)
  have hcl := clI hi.1 (show i < 2147483648 by omega)
  have hval : va_rf (((fun j : Nat => (G.2 c j).map (fun c => E.1 + c)) (Int32.ofInt i).toNatClampNeg)) = vR E c' := by
    show va_rf ((G.2 c ((Int32.ofInt i).toNatClampNeg : Int)).map _) = _
    rw [hcl, hr]; rfl
  have K := kk p e s m args below meth cd H locs ls h1 h2 h3 h4 h5 h6 h7 h8 h9 h10 h11
  rcases hκ with rfl | rfl
  · refine W.aald (v := va_rf ((fun j : Nat => (G.2 c j).map (fun c => E.1 + c)) (Int32.ofInt i).toNatClampNeg)) (ty := .object "HailHill$Village") h1 h2 (h10.2.1 c _ he) ((h7.1.2 4 _ rfl).1 N (fun j => va_rf ((G.2 c j).map (fun c => E.1 + c)))) rfl (fun q => by cases q) (by show ¬ (_ ∨ (arrV _ _ _).slots.size ≤ _); rw [arrV_size]; exact hin) (by show (arrV _ _ _).slots[_]? = _; rw [arrV_read _ _ hlt]) rfl rfl hd ?_
    rw [hval]; exact K
  · refine W.aald (v := va_rf ((fun j : Nat => (G.2 c j).map (fun c => E.1 + c)) (Int32.ofInt i).toNatClampNeg)) (ty := .array .long) h1 h2 (h10.2.1 c _ he) ((h7.1.2 5 _ rfl).1 N (fun j => va_rf ((G.2 c j).map (fun c => E.1 + c)))) rfl (fun q => by cases q) (by show ¬ (_ ∨ (arrV _ _ _).slots.size ≤ _); rw [arrV_size]; exact hin) (by show (arrV _ _ _).slots[_]? = _; rw [arrV_read _ _ hlt]) rfl rfl hd ?_
    rw [hval]; exact K
/-- System.arraycopy -/
def cpy2 (D : Dm) (c0 : Nat) (sp : Int) (c1 : Nat) (dp n : Int) : Dm := fun c j => if c = c1 ∧ dp ≤ j ∧ j < dp + n then D c0 (sp + (j - dp)) else D c j
theorem okD_cpy {G : Sh} {D : Dm} {c0 c1 : Nat} {t0 t1 : Tg} {sp dp m : Int} (h : okD G D) (h0 : G.1[c0]? = some t0) (h1 : G.1[c1]? = some t1) (hk : ∀ i j, kd t0 i = kd t1 j) : okD G (cpy2 D c0 sp c1 dp m) := by
  intro c t i hc
  simp only [cpy2]
  by_cases e : c = c1 ∧ dp ≤ i ∧ i < dp + m
  · rw [if_pos e]
    obtain ⟨rfl, -, -⟩ := e
    rw [h1] at hc
    cases hc
    rw [← hk (sp + (i - dp)) i]
    exact h c0 t0 _ h0
  · rw [if_neg e]
    exact h c t i hc
def CpW (own : String) (idx : Nat) : Prop := Cond.methodLink own idx arraycopyName ∈ gT ∧ Cond.native arraycopyName ∈ gT ∧ Cond.static arraycopyName ∈ gT ∧ Cond.initialized "java/lang/System" ∈ gT
theorem cpI {D : Dm} {c0 c1 : Nat} {sp dp m : Int} {a b d : Nat} (h1 : (a : Int) = sp) (h2 : (b : Int) = dp) (h3 : (d : Int) = m) : va_cpy (fun j : Nat => Int32.ofInt (D c0 j)) (fun j : Nat => Int32.ofInt (D c1 j)) a b d = fun j : Nat => Int32.ofInt (cpy2 D c0 sp c1 dp m c1 j) := by
  funext j
  subst h1 h2 h3
  simp only [va_cpy, cpy2]
  by_cases h : b ≤ j ∧ j < b + d
  · rw [if_pos h, if_pos ⟨trivial, by omega, by omega⟩]
    congr 2; omega
  · rw [if_neg h, if_neg (by omega)]
theorem cpJ {D : Dm} {c0 c1 : Nat} {sp dp m : Int} {a b d : Nat} (h1 : (a : Int) = sp) (h2 : (b : Int) = dp) (h3 : (d : Int) = m) : va_cpy (fun j : Nat => Int64.ofInt (D c0 j)) (fun j : Nat => Int64.ofInt (D c1 j)) a b d = fun j : Nat => Int64.ofInt (cpy2 D c0 sp c1 dp m c1 j) := by
  funext j
  subst h1 h2 h3
  simp only [va_cpy, cpy2]
  by_cases h : b ≤ j ∧ j < b + d
  · rw [if_pos h, if_pos ⟨trivial, by omega, by omega⟩]
    congr 2; omega
  · rw [if_neg h, if_neg (by omega)]
theorem cpy2_cell {D : Dm} {c0 c1 c : Nat} {sp dp m j : Int} (h : c ≠ c1) : cpy2 D c0 sp c1 dp m c j = D c j := by simp [cpy2, h]
theorem nnC {z : Int32} (hz : ¬ z < 0) : z.toInt = (z.toNatClampNeg : Int) := by
  have hz0 : (0 : Int) ≤ z.toInt := by
    have := Int32.not_lt.mp hz
    simpa using Int32.le_iff_toInt_le.mp this
  show z.toInt = ((z.toInt.toNat : Nat) : Int)
  omega
theorem go_copyI {idx c0 c1 n0 n1 : Nat} {sp dp m b0 b1 : Int} (hw : CpW own idx) (hc0 : G.1[c0]? = some (100, n0)) (hc1 : G.1[c1]? = some (100, n1)) (hb0 : (n0 : Int) = b0) (hb1 : (n1 : Int) = b1) (hN : n0 < 2147483648 ∧ n1 < 2147483648) (hi : 0 ≤ sp ∧ 0 ≤ dp ∧ 0 ≤ m ∧ sp + m ≤ b0 ∧ dp + m ≤ b1) (hR : 1 ≤ R.frames ∧ (st.map fun v => v.category).sum + (nativeFrameWords "java/lang/System" "arraycopy" 5 + 11) ≤ R.locals) (hd : decode cc pc = .ok (.invokestatic idx, 3)) (kk : Go l E cc nL own R Pf Qf k n (pc + 3) L st G (cpy2 D c0 sp c1 dp m)) : Go l E cc nL own R Pf Qf k n pc L (vI m :: vI dp :: vR E c1 :: vI sp :: vR E c0 :: st) G D := by
  intro p e s mm args below meth cd H locs ls h1 h2 h3 h4 h5 h6 h7 h8 h9 h10 h11 T hT X
  have he0 := wsO_get (E := E) (D := D) hc0
  have he1 := wsO_get (E := E) (D := D) hc1
  rw [ceO_int (Or.inl rfl)] at he0 he1
  have a0 : H[E.1 + c0]? = some (vp_cell (E.2.2.1 100) (n0, .inl fun j => Int32.ofInt (D c0 j))) := h10.2.1 c0 _ he0
  have a1 : H[E.1 + c1]? = some (vp_cell (E.2.2.1 100) (n1, .inl fun j => Int32.ofInt (D c1 j))) := h10.2.1 c1 _ he1
  have s1 := clI hi.1 (show sp < 2147483648 by omega)
  have s2 := clI hi.2.1 (show dp < 2147483648 by omega)
  have s3 := clI hi.2.2.1 (show m < 2147483648 by omega)
  have p1 : ¬ Int32.ofInt sp < 0 := by rw [zI, ltI (by omega) (by omega)]; omega
  have p2 : ¬ Int32.ofInt dp < 0 := by rw [zI, ltI (by omega) (by omega)]; omega
  have p3 : ¬ Int32.ofInt m < 0 := by rw [zI, ltI (by omega) (by omega)]; omega
  obtain ⟨-, k0, hk0, cm0, hkk0⟩ := (h7.1.2 0 _ rfl).1 n0 (fun j => .int (Int32.ofInt (D c0 j)))
  obtain ⟨vm', X', step⟩ := X.arraycopy h1 h4 (h5 _ hw.1) (h5 _ hw.2.1) (h5 _ hw.2.2.1) (h5 _ hw.2.2.2) (src := E.1 + c0) (dst := E.1 + c1) (cs := vp_cell (E.2.2.1 100) (n0, .inl fun j => Int32.ofInt (D c0 j))) (cd := vp_cell (E.2.2.1 100) (n1, .inl fun j => Int32.ofInt (D c1 j))) (srcPos := Int32.ofInt sp) (destPos := Int32.ofInt dp) (n := Int32.ofInt m) (by rw [hT]; exact a0) (by rw [hT]; exact a1)
    (fun _ h => by cases h) (fun _ h => by cases h) (fun h => by cases h) (fun h => by cases h) hk0 hk0 hkk0 hkk0 (by simp [refKind]) p1 p2 p3
    (by rw [nnC p1, nnC p3]; show ¬ _ > ((arrV _ n0 _).slots.size : Int); rw [arrV_size]; omega)
    (by rw [nnC p2, nnC p3]; show ¬ _ > ((arrV _ n1 _).slots.size : Int); rw [arrV_size]; omega)
    (fun vm₁ _ i hi2 => by
      have e9 : (vp_cell (E.2.2.1 100) (n0, .inl fun j => Int32.ofInt (D c0 j))).slots.getD ((Int32.ofInt sp).toNatClampNeg + i) .null = .int (Int32.ofInt (D c0 (((Int32.ofInt sp).toNatClampNeg + i : Nat) : Int))) := by
        show (arrV _ n0 (fun j => .int (Int32.ofInt (D c0 j)))).slots.getD _ _ = _
        rw [Array.getD_eq_getD_getElem?, arrV_read _ _ (by omega)]
        rfl
      refine ⟨?_, ?_⟩
      · rw [e9]; rfl
      · rw [e9]; exact trivial)
    (g := F0 mm pc ls (vI m :: vI dp :: vR E c1 :: vI sp :: vR E c0 :: st)) rfl (by rw [h3]; exact h11.1) (rest := st) rfl (by rw [h2]; exact hd) hR.1 (by show 2 * 0 + _ + _ ≤ _; have := hR.2; omega)
  have e1 : copied (vp_cell (E.2.2.1 100) (n0, .inl fun j => Int32.ofInt (D c0 j))) (vp_cell (E.2.2.1 100) (n1, .inl fun j => Int32.ofInt (D c1 j))) (Int32.ofInt sp) (Int32.ofInt dp) (Int32.ofInt m) = vp_cell (E.2.2.1 100) (n1, .inl fun j => Int32.ofInt (cpy2 D c0 sp c1 dp m c1 j)) := by
    rw [← cpI s1 s2 s3]
    have hb9 : (Int32.ofInt sp).toNatClampNeg + (Int32.ofInt m).toNatClampNeg ≤ n0 := by omega
    exact va_copied (fun z => .int z) (E.2.2.1 100) (E.2.2.1 100) (n1 := n1) (dp := (Int32.ofInt dp).toNatClampNeg) (fun j => Int32.ofInt (D c0 j)) (fun j => Int32.ofInt (D c1 j)) hb9
  rw [e1] at X' step
  have hl : E.1 + c1 < H.size := (Array.getElem?_eq_some_iff.mp a1).1
  generalize hcell : vp_cell (E.2.2.1 100) (n1, .inl fun j : Nat => Int32.ofInt (cpy2 D c0 sp c1 dp m c1 j)) = cl1 at X' step
  have hheap : ((T.setVm vm').setCell (E.1 + c1) cl1).heap = H.setIfInBounds (E.1 + c1) cl1 := by rw [← hT]; rfl
  have oq : ∀ q : Nat, q ≠ E.1 + c1 → (H.setIfInBounds (E.1 + c1) cl1)[q]? = H[q]? := fun q hq => by simp [Array.getElem?_setIfInBounds, Ne.symm hq]
  have hz : (H.setIfInBounds (E.1 + c1) cl1).size = H.size := by simp
  obtain ⟨t, x1, y1⟩ := kk p e s mm args below meth cd (H.setIfInBounds (E.1 + c1) cl1) _ ls h1 h2 h3 h4 h5 h6 h7 h8 ⟨by rw [hz]; exact h9.1, fun q g1 g2 => by
      rw [oq q (fun e9 => g2 (by rw [e9]; exact Nat.le_add_right _ _))]
      exact h9.2.1 q g1 g2, fun q hq => by
      rcases List.mem_append.mp hq with h | h
      · exact h9.2.2 q h
      · obtain ⟨z, -, hz⟩ := List.mem_map.mp h
        rw [← hz]
        exact Nat.le_add_right _ _⟩ (h10.store hc1 hz oq rfl (fun c' t' h _ => ceO_keep (fun j => cpy2_cell h)) (by
          rw [ceO_int (Or.inl rfl)]
          show (H.setIfInBounds (E.1 + c1) _)[E.1 + c1]? = some _
          simp [Array.getElem?_setIfInBounds, hl, hcell]) (okD_cpy h10.2.2 hc0 hc1 (fun _ _ => rfl))) h11 _ hheap X'
  exact ⟨t, step t x1, y1⟩
theorem go_copyJ {idx c0 c1 n0 n1 : Nat} {sp dp m b0 b1 : Int} (hw : CpW own idx) (hc0 : G.1[c0]? = some (101, n0)) (hc1 : G.1[c1]? = some (101, n1)) (hb0 : (n0 : Int) = b0) (hb1 : (n1 : Int) = b1) (hN : n0 < 2147483648 ∧ n1 < 2147483648) (hi : 0 ≤ sp ∧ 0 ≤ dp ∧ 0 ≤ m ∧ sp + m ≤ b0 ∧ dp + m ≤ b1) (hR : 1 ≤ R.frames ∧ (st.map fun v => v.category).sum + (nativeFrameWords "java/lang/System" "arraycopy" 5 + 11) ≤ R.locals) (hd : decode cc pc = .ok (.invokestatic idx, 3)) (kk : Go l E cc nL own R Pf Qf k n (pc + 3) L st G (cpy2 D c0 sp c1 dp m)) : Go l E cc nL own R Pf Qf k n pc L (vI m :: vI dp :: vR E c1 :: vI sp :: vR E c0 :: st) G D := by
  intro p e s mm args below meth cd H locs ls h1 h2 h3 h4 h5 h6 h7 h8 h9 h10 h11 T hT X
  have he0 := wsO_get (E := E) (D := D) hc0
  have he1 := wsO_get (E := E) (D := D) hc1
  rw [ceO_long] at he0 he1
  have a0 : H[E.1 + c0]? = some (vp_cell (E.2.2.1 101) (n0, .inr (.inl fun j => Int64.ofInt (D c0 j)))) := h10.2.1 c0 _ he0
  have a1 : H[E.1 + c1]? = some (vp_cell (E.2.2.1 101) (n1, .inr (.inl fun j => Int64.ofInt (D c1 j)))) := h10.2.1 c1 _ he1
  have s1 := clI hi.1 (show sp < 2147483648 by omega)
  have s2 := clI hi.2.1 (show dp < 2147483648 by omega)
  have s3 := clI hi.2.2.1 (show m < 2147483648 by omega)
  have p1 : ¬ Int32.ofInt sp < 0 := by rw [zI, ltI (by omega) (by omega)]; omega
  have p2 : ¬ Int32.ofInt dp < 0 := by rw [zI, ltI (by omega) (by omega)]; omega
  have p3 : ¬ Int32.ofInt m < 0 := by rw [zI, ltI (by omega) (by omega)]; omega
  obtain ⟨-, k0, hk0, cm0, hkk0⟩ := (h7.1.2 1 _ rfl).1 n0 (fun j => .long (Int64.ofInt (D c0 j)))
  obtain ⟨vm', X', step⟩ := X.arraycopy h1 h4 (h5 _ hw.1) (h5 _ hw.2.1) (h5 _ hw.2.2.1) (h5 _ hw.2.2.2) (src := E.1 + c0) (dst := E.1 + c1) (cs := vp_cell (E.2.2.1 101) (n0, .inr (.inl fun j => Int64.ofInt (D c0 j)))) (cd := vp_cell (E.2.2.1 101) (n1, .inr (.inl fun j => Int64.ofInt (D c1 j)))) (srcPos := Int32.ofInt sp) (destPos := Int32.ofInt dp) (n := Int32.ofInt m) (by rw [hT]; exact a0) (by rw [hT]; exact a1)
    (fun _ h => by cases h) (fun _ h => by cases h) (fun h => by cases h) (fun h => by cases h) hk0 hk0 hkk0 hkk0 (by simp [refKind]) p1 p2 p3
    (by rw [nnC p1, nnC p3]; show ¬ _ > ((arrV _ n0 _).slots.size : Int); rw [arrV_size]; omega)
    (by rw [nnC p2, nnC p3]; show ¬ _ > ((arrV _ n1 _).slots.size : Int); rw [arrV_size]; omega)
    (fun vm₁ _ i hi2 => by
      have e9 : (vp_cell (E.2.2.1 101) (n0, .inr (.inl fun j => Int64.ofInt (D c0 j)))).slots.getD ((Int32.ofInt sp).toNatClampNeg + i) .null = .long (Int64.ofInt (D c0 (((Int32.ofInt sp).toNatClampNeg + i : Nat) : Int))) := by
        show (arrV _ n0 (fun j => .long (Int64.ofInt (D c0 j)))).slots.getD _ _ = _
        rw [Array.getD_eq_getD_getElem?, arrV_read _ _ (by omega)]
        rfl
      refine ⟨?_, ?_⟩
      · rw [e9]; rfl
      · rw [e9]; exact trivial)
    (g := F0 mm pc ls (vI m :: vI dp :: vR E c1 :: vI sp :: vR E c0 :: st)) rfl (by rw [h3]; exact h11.1) (rest := st) rfl (by rw [h2]; exact hd) hR.1 (by show 2 * 0 + _ + _ ≤ _; have := hR.2; omega)
  have e1 : copied (vp_cell (E.2.2.1 101) (n0, .inr (.inl fun j => Int64.ofInt (D c0 j)))) (vp_cell (E.2.2.1 101) (n1, .inr (.inl fun j => Int64.ofInt (D c1 j)))) (Int32.ofInt sp) (Int32.ofInt dp) (Int32.ofInt m) = vp_cell (E.2.2.1 101) (n1, .inr (.inl fun j => Int64.ofInt (cpy2 D c0 sp c1 dp m c1 j))) := by
    rw [← cpJ s1 s2 s3]
    have hb9 : (Int32.ofInt sp).toNatClampNeg + (Int32.ofInt m).toNatClampNeg ≤ n0 := by omega
    exact va_copied (fun z => .long z) (E.2.2.1 101) (E.2.2.1 101) (n1 := n1) (dp := (Int32.ofInt dp).toNatClampNeg) (fun j => Int64.ofInt (D c0 j)) (fun j => Int64.ofInt (D c1 j)) hb9
  rw [e1] at X' step
  have hl : E.1 + c1 < H.size := (Array.getElem?_eq_some_iff.mp a1).1
  generalize hcell : vp_cell (E.2.2.1 101) (n1, .inr (.inl fun j : Nat => Int64.ofInt (cpy2 D c0 sp c1 dp m c1 j))) = cl1 at X' step
  have hheap : ((T.setVm vm').setCell (E.1 + c1) cl1).heap = H.setIfInBounds (E.1 + c1) cl1 := by rw [← hT]; rfl
  have oq : ∀ q : Nat, q ≠ E.1 + c1 → (H.setIfInBounds (E.1 + c1) cl1)[q]? = H[q]? := fun q hq => by simp [Array.getElem?_setIfInBounds, Ne.symm hq]
  have hz : (H.setIfInBounds (E.1 + c1) cl1).size = H.size := by simp
  obtain ⟨t, x1, y1⟩ := kk p e s mm args below meth cd (H.setIfInBounds (E.1 + c1) cl1) _ ls h1 h2 h3 h4 h5 h6 h7 h8 ⟨by rw [hz]; exact h9.1, fun q g1 g2 => by
      rw [oq q (fun e9 => g2 (by rw [e9]; exact Nat.le_add_right _ _))]
      exact h9.2.1 q g1 g2, fun q hq => by
      rcases List.mem_append.mp hq with h | h
      · exact h9.2.2 q h
      · obtain ⟨z, -, hz⟩ := List.mem_map.mp h
        rw [← hz]
        exact Nat.le_add_right _ _⟩ (h10.store hc1 hz oq rfl (fun c' t' h _ => ceO_keep (fun j => cpy2_cell h)) (by
          rw [ceO_long]
          show (H.setIfInBounds (E.1 + c1) _)[E.1 + c1]? = some _
          simp [Array.getElem?_setIfInBounds, hl, hcell]) (okD_cpy h10.2.2 hc0 hc1 (fun _ _ => rfl))) h11 _ hheap X'
  exact ⟨t, step t x1, y1⟩
end GC
/-! ===== calls by kind of answer; answers that are conditions ===== -/
def C0 (l : Launch) (E : Ev) (M : Mt) (κ : Nat) (as : List Value) (G : Sh) (D : Dm) (P : Int → Dm → Prop) : Prop := Ct l E M κ 0 0 as G D (fun r G' D' => G' = G ∧ P r D')
section GD
variable {l : Launch} {E : Ev} {cc : ByteArray} {nL : Nat} {own : String} {R : Room} {Pf : MethodId → Method → State → Array Value → Prop} {Qf : List Frame → Array Value → State → State → Prop} {k n pc : Nat} {L : List (Nat × Value)} {st : List Value} {G : Sh} {D : Dm}
theorem go_vI {M : Mt} {np idx c ci z : Nat} {P : Int → Dm → Prop} (as rest : List Value) (hw : MwV own idx M np) (hc : G.1[c]? = some (ci, z)) (hcl : vwCl[ci]?.map (fun q => q.1) = some M.1.cls) (hci : ci < 100) (hR : M.2.2.2.2.1 + 1 ≤ R.frames ∧ 8 + (M.2.2.1 + 11) + M.2.2.2.2.2 ≤ R.locals) (hf : k ≤ R.cells ∧ n ≤ R.slots) (hn : as.length = np) (hst : st = as.reverse ++ vR E c :: rest) (hcat : (rest.map fun v => v.category).sum ≤ 8) (hd : decode cc pc = .ok (.invokevirtual idx, 3))
    (hct : C0 l E M 0 (vR E c :: as) G D P) (kk : ∀ r D', P r D' → Go l E cc nL own R Pf Qf k n (pc + 3) L (vI r :: rest) G D') : Go l E cc nL own R Pf Qf k n pc L st G D :=
  go_cv0 (κ := 0) hw hc hcl hci hR hf hn hst hcat hd hct (fun r G' D' h => by obtain ⟨rfl, h⟩ := h; exact kk r D' h)
theorem go_vJ {M : Mt} {np idx c ci z : Nat} {P : Int → Dm → Prop} (as rest : List Value) (hw : MwV own idx M np) (hc : G.1[c]? = some (ci, z)) (hcl : vwCl[ci]?.map (fun q => q.1) = some M.1.cls) (hci : ci < 100) (hR : M.2.2.2.2.1 + 1 ≤ R.frames ∧ 8 + (M.2.2.1 + 11) + M.2.2.2.2.2 ≤ R.locals) (hf : k ≤ R.cells ∧ n ≤ R.slots) (hn : as.length = np) (hst : st = as.reverse ++ vR E c :: rest) (hcat : (rest.map fun v => v.category).sum ≤ 8) (hd : decode cc pc = .ok (.invokevirtual idx, 3))
    (hct : C0 l E M 1 (vR E c :: as) G D P) (kk : ∀ r D', P r D' → Go l E cc nL own R Pf Qf k n (pc + 3) L (vJ r :: rest) G D') : Go l E cc nL own R Pf Qf k n pc L st G D :=
  go_cv0 (κ := 1) hw hc hcl hci hR hf hn hst hcat hd hct (fun r G' D' h => by obtain ⟨rfl, h⟩ := h; exact kk r D' h)
theorem go_vV {M : Mt} {np idx c ci z : Nat} {P : Int → Dm → Prop} (as rest : List Value) (hw : MwV own idx M np) (hc : G.1[c]? = some (ci, z)) (hcl : vwCl[ci]?.map (fun q => q.1) = some M.1.cls) (hci : ci < 100) (hR : M.2.2.2.2.1 + 1 ≤ R.frames ∧ 8 + (M.2.2.1 + 11) + M.2.2.2.2.2 ≤ R.locals) (hf : k ≤ R.cells ∧ n ≤ R.slots) (hn : as.length = np) (hst : st = as.reverse ++ vR E c :: rest) (hcat : (rest.map fun v => v.category).sum ≤ 8) (hd : decode cc pc = .ok (.invokevirtual idx, 3))
    (hct : C0 l E M 2 (vR E c :: as) G D P) (kk : ∀ r D', P r D' → Go l E cc nL own R Pf Qf k n (pc + 3) L rest G D') : Go l E cc nL own R Pf Qf k n pc L st G D :=
  go_cv0 (κ := 2) hw hc hcl hci hR hf hn hst hcat hd hct (fun r G' D' h => by obtain ⟨rfl, h⟩ := h; exact kk r D' h)
theorem go_sI {M : Mt} {np idx : Nat} {P : Int → Dm → Prop} (as rest : List Value) (hw : MwS own idx M np) (hR : M.2.2.2.2.1 + 1 ≤ R.frames ∧ 8 + (M.2.2.1 + 11) + M.2.2.2.2.2 ≤ R.locals) (hf : k ≤ R.cells ∧ n ≤ R.slots) (hn : as.length = np) (hst : st = as.reverse ++ rest) (hcat : (rest.map fun v => v.category).sum ≤ 8) (hd : decode cc pc = .ok (.invokestatic idx, 3))
    (hct : C0 l E M 0 as G D P) (kk : ∀ r D', P r D' → Go l E cc nL own R Pf Qf k n (pc + 3) L (vI r :: rest) G D') : Go l E cc nL own R Pf Qf k n pc L st G D :=
  go_cs0 (κ := 0) hw hR hf hn hst hcat hd hct (fun r G' D' h => by obtain ⟨rfl, h⟩ := h; exact kk r D' h)
theorem go_sJ {M : Mt} {np idx : Nat} {P : Int → Dm → Prop} (as rest : List Value) (hw : MwS own idx M np) (hR : M.2.2.2.2.1 + 1 ≤ R.frames ∧ 8 + (M.2.2.1 + 11) + M.2.2.2.2.2 ≤ R.locals) (hf : k ≤ R.cells ∧ n ≤ R.slots) (hn : as.length = np) (hst : st = as.reverse ++ rest) (hcat : (rest.map fun v => v.category).sum ≤ 8) (hd : decode cc pc = .ok (.invokestatic idx, 3))
    (hct : C0 l E M 1 as G D P) (kk : ∀ r D', P r D' → Go l E cc nL own R Pf Qf k n (pc + 3) L (vJ r :: rest) G D') : Go l E cc nL own R Pf Qf k n pc L st G D :=
  go_cs0 (κ := 1) hw hR hf hn hst hcat hd hct (fun r G' D' h => by obtain ⟨rfl, h⟩ := h; exact kk r D' h)
theorem go_sV {M : Mt} {np idx : Nat} {P : Int → Dm → Prop} (as rest : List Value) (hw : MwS own idx M np) (hR : M.2.2.2.2.1 + 1 ≤ R.frames ∧ 8 + (M.2.2.1 + 11) + M.2.2.2.2.2 ≤ R.locals) (hf : k ≤ R.cells ∧ n ≤ R.slots) (hn : as.length = np) (hst : st = as.reverse ++ rest) (hcat : (rest.map fun v => v.category).sum ≤ 8) (hd : decode cc pc = .ok (.invokestatic idx, 3))
    (hct : C0 l E M 2 as G D P) (kk : ∀ r D', P r D' → Go l E cc nL own R Pf Qf k n (pc + 3) L rest G D') : Go l E cc nL own R Pf Qf k n pc L st G D :=
  go_cs0 (κ := 2) hw hR hf hn hst hcat hd hct (fun r G' D' h => by obtain ⟨rfl, h⟩ := h; exact kk r D' h)
theorem go_vIp {M : Mt} {np idx c ci z : Nat} {e0 : Int} {D0 : Dm} (as rest : List Value) (hw : MwV own idx M np) (hc : G.1[c]? = some (ci, z)) (hcl : vwCl[ci]?.map (fun q => q.1) = some M.1.cls) (hci : ci < 100) (hR : M.2.2.2.2.1 + 1 ≤ R.frames ∧ 8 + (M.2.2.1 + 11) + M.2.2.2.2.2 ≤ R.locals) (hf : k ≤ R.cells ∧ n ≤ R.slots) (hn : as.length = np) (hst : st = as.reverse ++ vR E c :: rest) (hcat : (rest.map fun v => v.category).sum ≤ 8) (hd : decode cc pc = .ok (.invokevirtual idx, 3))
    (hct : C0 l E M 0 (vR E c :: as) G D (fun r D' => r = e0 ∧ D' = D0)) (kk : Go l E cc nL own R Pf Qf k n (pc + 3) L (vI e0 :: rest) G D0) : Go l E cc nL own R Pf Qf k n pc L st G D :=
  go_vI as rest hw hc hcl hci hR hf hn hst hcat hd hct (fun r D' h => by obtain ⟨rfl, rfl⟩ := h; exact kk)
theorem go_vJp {M : Mt} {np idx c ci z : Nat} {e0 : Int} {D0 : Dm} (as rest : List Value) (hw : MwV own idx M np) (hc : G.1[c]? = some (ci, z)) (hcl : vwCl[ci]?.map (fun q => q.1) = some M.1.cls) (hci : ci < 100) (hR : M.2.2.2.2.1 + 1 ≤ R.frames ∧ 8 + (M.2.2.1 + 11) + M.2.2.2.2.2 ≤ R.locals) (hf : k ≤ R.cells ∧ n ≤ R.slots) (hn : as.length = np) (hst : st = as.reverse ++ vR E c :: rest) (hcat : (rest.map fun v => v.category).sum ≤ 8) (hd : decode cc pc = .ok (.invokevirtual idx, 3))
    (hct : C0 l E M 1 (vR E c :: as) G D (fun r D' => r = e0 ∧ D' = D0)) (kk : Go l E cc nL own R Pf Qf k n (pc + 3) L (vJ e0 :: rest) G D0) : Go l E cc nL own R Pf Qf k n pc L st G D :=
  go_vJ as rest hw hc hcl hci hR hf hn hst hcat hd hct (fun r D' h => by obtain ⟨rfl, rfl⟩ := h; exact kk)
theorem go_vVp {M : Mt} {np idx c ci z : Nat} {e0 : Int} {D0 : Dm} (as rest : List Value) (hw : MwV own idx M np) (hc : G.1[c]? = some (ci, z)) (hcl : vwCl[ci]?.map (fun q => q.1) = some M.1.cls) (hci : ci < 100) (hR : M.2.2.2.2.1 + 1 ≤ R.frames ∧ 8 + (M.2.2.1 + 11) + M.2.2.2.2.2 ≤ R.locals) (hf : k ≤ R.cells ∧ n ≤ R.slots) (hn : as.length = np) (hst : st = as.reverse ++ vR E c :: rest) (hcat : (rest.map fun v => v.category).sum ≤ 8) (hd : decode cc pc = .ok (.invokevirtual idx, 3))
    (hct : C0 l E M 2 (vR E c :: as) G D (fun r D' => r = e0 ∧ D' = D0)) (kk : Go l E cc nL own R Pf Qf k n (pc + 3) L (rest) G D0) : Go l E cc nL own R Pf Qf k n pc L st G D :=
  go_vV as rest hw hc hcl hci hR hf hn hst hcat hd hct (fun r D' h => by obtain ⟨rfl, rfl⟩ := h; exact kk)
theorem go_sIp {M : Mt} {np idx : Nat} {e0 : Int} {D0 : Dm} (as rest : List Value) (hw : MwS own idx M np) (hR : M.2.2.2.2.1 + 1 ≤ R.frames ∧ 8 + (M.2.2.1 + 11) + M.2.2.2.2.2 ≤ R.locals) (hf : k ≤ R.cells ∧ n ≤ R.slots) (hn : as.length = np) (hst : st = as.reverse ++ rest) (hcat : (rest.map fun v => v.category).sum ≤ 8) (hd : decode cc pc = .ok (.invokestatic idx, 3))
    (hct : C0 l E M 0 as G D (fun r D' => r = e0 ∧ D' = D0)) (kk : Go l E cc nL own R Pf Qf k n (pc + 3) L (vI e0 :: rest) G D0) : Go l E cc nL own R Pf Qf k n pc L st G D :=
  go_sI as rest hw hR hf hn hst hcat hd hct (fun r D' h => by obtain ⟨rfl, rfl⟩ := h; exact kk)
theorem go_sJp {M : Mt} {np idx : Nat} {e0 : Int} {D0 : Dm} (as rest : List Value) (hw : MwS own idx M np) (hR : M.2.2.2.2.1 + 1 ≤ R.frames ∧ 8 + (M.2.2.1 + 11) + M.2.2.2.2.2 ≤ R.locals) (hf : k ≤ R.cells ∧ n ≤ R.slots) (hn : as.length = np) (hst : st = as.reverse ++ rest) (hcat : (rest.map fun v => v.category).sum ≤ 8) (hd : decode cc pc = .ok (.invokestatic idx, 3))
    (hct : C0 l E M 1 as G D (fun r D' => r = e0 ∧ D' = D0)) (kk : Go l E cc nL own R Pf Qf k n (pc + 3) L (vJ e0 :: rest) G D0) : Go l E cc nL own R Pf Qf k n pc L st G D :=
  go_sJ as rest hw hR hf hn hst hcat hd hct (fun r D' h => by obtain ⟨rfl, rfl⟩ := h; exact kk)
theorem go_sVp {M : Mt} {np idx : Nat} {e0 : Int} {D0 : Dm} (as rest : List Value) (hw : MwS own idx M np) (hR : M.2.2.2.2.1 + 1 ≤ R.frames ∧ 8 + (M.2.2.1 + 11) + M.2.2.2.2.2 ≤ R.locals) (hf : k ≤ R.cells ∧ n ≤ R.slots) (hn : as.length = np) (hst : st = as.reverse ++ rest) (hcat : (rest.map fun v => v.category).sum ≤ 8) (hd : decode cc pc = .ok (.invokestatic idx, 3))
    (hct : C0 l E M 2 as G D (fun r D' => r = e0 ∧ D' = D0)) (kk : Go l E cc nL own R Pf Qf k n (pc + 3) L (rest) G D0) : Go l E cc nL own R Pf Qf k n pc L st G D :=
  go_sV as rest hw hR hf hn hst hcat hd hct (fun r D' h => by obtain ⟨rfl, rfl⟩ := h; exact kk)
/-- a call that may make something, of a method without an answer -/
theorem go_vM {M : Mt} {mc ms np idx c ci z : Nat} {Q : Int → Sh → Dm → Prop} (as rest : List Value) (hw : MwV own idx M np) (hc : G.1[c]? = some (ci, z)) (hcl : vwCl[ci]?.map (fun q => q.1) = some M.1.cls) (hci : ci < 100) (hR : M.2.2.2.2.1 + 1 ≤ R.frames ∧ 8 + (M.2.2.1 + 11) + M.2.2.2.2.2 ≤ R.locals) (hf : k + mc ≤ R.cells ∧ n + ms ≤ R.slots) (hn : as.length = np) (hst : st = as.reverse ++ vR E c :: rest) (hcat : (rest.map fun v => v.category).sum ≤ 8) (hd : decode cc pc = .ok (.invokevirtual idx, 3))
    (hct : Ct l E M 2 mc ms (vR E c :: as) G D Q) (kk : ∀ r G' D', Q r G' D' → Go l E cc nL own R Pf Qf (k + mc) (n + ms) (pc + 3) L rest G' D') : Go l E cc nL own R Pf Qf k n pc L st G D :=
  go_callV (κ := 2) hw hc hcl hci hR hf hn hst hcat hd hct kk
theorem go_ifb_eq {c : Prop} [Decidable c] {off : Int} (tgt : Nat) (hd : decode cc pc = .ok (.ifCond .eq off, 3)) (ht : (pc : Int) + off = (tgt : Int)) (kt : ¬ c → Go l E cc nL own R Pf Qf k n tgt L st G D) (kf : c → Go l E cc nL own R Pf Qf k n (pc + 3) L st G D) : Go l E cc nL own R Pf Qf k n pc L (vI (if c then 1 else 0) :: st) G D := by
  by_cases h : c
  · rw [if_pos h]
    exact go_if_eq tgt hd ht (by decide) (fun q => absurd q (by decide)) (fun _ => kf h)
  · rw [if_neg h]
    exact go_if_eq tgt hd ht (by decide) (fun _ => kt h) (fun q => absurd rfl q)
theorem go_ifb_ne {c : Prop} [Decidable c] {off : Int} (tgt : Nat) (hd : decode cc pc = .ok (.ifCond .ne off, 3)) (ht : (pc : Int) + off = (tgt : Int)) (kt : c → Go l E cc nL own R Pf Qf k n tgt L st G D) (kf : ¬ c → Go l E cc nL own R Pf Qf k n (pc + 3) L st G D) : Go l E cc nL own R Pf Qf k n pc L (vI (if c then 1 else 0) :: st) G D := by
  by_cases h : c
  · rw [if_pos h]
    exact go_if_ne tgt hd ht (by decide) (fun _ => kt h) (fun q => absurd q (by decide))
  · rw [if_neg h]
    exact go_if_ne tgt hd ht (by decide) (fun q => absurd rfl q) (fun _ => kf h)
end GD
theorem b01 (c : Prop) [Decidable c] : (if c then (1 : Int) else 0) = 0 ∨ (if c then (1 : Int) else 0) = 1 := by by_cases h : c <;> simp [h]
theorem rB (c : Prop) [Decidable c] : -2147483648 ≤ (if c then (1 : Int) else 0) ∧ (if c then (1 : Int) else 0) < 2147483648 := by rcases b01 c with h | h <;> rw [h] <;> decide
theorem r32 (x : Int32) : -2147483648 ≤ x.toInt ∧ x.toInt < 2147483648 := by
  have h1 := x.minValue_le_toInt
  have h2 := x.toInt_le
  have e1 : Int32.minValue.toInt = -2147483648 := by decide
  have e2 : Int32.maxValue.toInt = 2147483647 := by decide
  omega
theorem r64 (x : Int64) : -9223372036854775808 ≤ x.toInt ∧ x.toInt < 9223372036854775808 := by
  have h1 := x.minValue_le_toInt
  have h2 := x.toInt_le
  have e1 : Int64.minValue.toInt = -9223372036854775808 := by decide
  have e2 : Int64.maxValue.toInt = 9223372036854775807 := by decide
  omega
theorem rb8 (x : Int) : -128 ≤ b8 x ∧ b8 x < 128 := by
  have h1 := (Int8.ofInt x).minValue_le_toInt
  have h2 := (Int8.ofInt x).toInt_le
  have e1 : Int8.minValue.toInt = -128 := by decide
  have e2 : Int8.maxValue.toInt = 127 := by decide
  unfold b8
  omega
theorem rs16 (x : Int) : -32768 ≤ s16 x ∧ s16 x < 32768 := by
  have h1 := (Int16.ofInt x).minValue_le_toInt
  have h2 := (Int16.ofInt x).toInt_le
  have e1 : Int16.minValue.toInt = -32768 := by decide
  have e2 : Int16.maxValue.toInt = 32767 := by decide
  unfold s16
  omega
theorem rb8I (x : Int) : -2147483648 ≤ b8 x ∧ b8 x < 2147483648 := by have := rb8 x; omega
theorem rs16I (x : Int) : -2147483648 ≤ s16 x ∧ s16 x < 2147483648 := by have := rs16 x; omega
theorem rIJ {x : Int} (h : -2147483648 ≤ x ∧ x < 2147483648) : -9223372036854775808 ≤ x ∧ x < 9223372036854775808 := by omega
theorem wt {i : Nat} {w : Cond} (h : lw_tbl[i]? = some w) (g : goodWord w = true) : w ∈ gT := List.mem_filter.mpr ⟨List.mem_of_getElem? h, g⟩
theorem uwOf {C : String} {T : u_T} {N : Nat} (ps : List Nat) (h : u_ws C T N = ps.filterMap (fun i => lw_tbl[i]?)) (g : (u_ws C T N).all goodWord = true) : ∀ w ∈ u_ws C T N, w ∈ gT := by
  intro w hw
  have g1 := List.all_eq_true.mp g w hw
  rw [h] at hw
  obtain ⟨i, -, hi⟩ := List.mem_filterMap.mp hw
  exact wt hi g1
/-! ===== Math ===== -/
def MtW (own : String) (idx : Nat) (y : MethodName) (code : ByteArray) (ml : Nat) (ret : Option FieldType) : Prop := Cond.methodLink own idx y ∈ gT ∧ Cond.static y ∈ gT ∧ Cond.initialized "java/lang/Math" ∈ gT ∧ Cond.code y code ml ret ∈ gT
section GX
variable {l : Launch} {E : Ev} {cc : ByteArray} {nL : Nat} {own : String} {R : Room} {Pf : MethodId → Method → State → Array Value → Prop} {Qf : List Frame → Array Value → State → State → Prop} {k n pc : Nat} {L : List (Nat × Value)} {st : List Value} {G : Sh} {D : Dm}
theorem go_mmax {idx : Nat} {x y : Int} (hw : MtW own idx Lib.Math.max.name Lib.Math.max.code 2 (some .int)) (hx : -2147483648 ≤ x ∧ x < 2147483648) (hy : -2147483648 ≤ y ∧ y < 2147483648) (hR : 1 ≤ R.frames ∧ (st.map fun v => v.category).sum + 13 ≤ R.locals) (hf : k ≤ R.cells ∧ n ≤ R.slots) (hd : decode cc pc = .ok (.invokestatic idx, 3)) (kk : Go l E cc nL own R Pf Qf k n (pc + 3) L (vI (max x y) :: st) G D) : Go l E cc nL own R Pf Qf k n pc L (vI y :: vI x :: st) G D := by
  intro p e s m args below meth cd H locs ls h1 h2 h3 h4 h5 h6 h7 h8 h9 h10 h11
  refine va_mmax h1 h2 (h3.trans h11.1.symm) h4 (h5 _ hw.1) (h5 _ hw.2.1) (h5 _ hw.2.2.1) (h5 _ hw.2.2.2) hR.1 hR.2 hf.1 hf.2 hd ?_
  have e9 : (if Int32.ofInt x < Int32.ofInt y then Int32.ofInt y else Int32.ofInt x) = Int32.ofInt (max x y) := by
    by_cases h : x < y
    · rw [if_pos ((ltI hx hy).mpr h), Int.max_eq_right (by omega)]
    · rw [if_neg (fun q => h ((ltI hx hy).mp q)), Int.max_eq_left (by omega)]
  rw [e9]
  exact kk p e s m args below meth cd H locs ls h1 h2 h3 h4 h5 h6 h7 h8 h9 h10 h11
theorem go_mmin {idx : Nat} {x y : Int} (hw : MtW own idx Lib.Math.min.name Lib.Math.min.code 2 (some .int)) (hx : -2147483648 ≤ x ∧ x < 2147483648) (hy : -2147483648 ≤ y ∧ y < 2147483648) (hR : 1 ≤ R.frames ∧ (st.map fun v => v.category).sum + 13 ≤ R.locals) (hf : k ≤ R.cells ∧ n ≤ R.slots) (hd : decode cc pc = .ok (.invokestatic idx, 3)) (kk : Go l E cc nL own R Pf Qf k n (pc + 3) L (vI (min x y) :: st) G D) : Go l E cc nL own R Pf Qf k n pc L (vI y :: vI x :: st) G D := by
  intro p e s m args below meth cd H locs ls h1 h2 h3 h4 h5 h6 h7 h8 h9 h10 h11
  refine va_mmin h1 h2 (h3.trans h11.1.symm) h4 (h5 _ hw.1) (h5 _ hw.2.1) (h5 _ hw.2.2.1) (h5 _ hw.2.2.2) hR.1 hR.2 hf.1 hf.2 hd ?_
  have e9 : (if Int32.ofInt y < Int32.ofInt x then Int32.ofInt y else Int32.ofInt x) = Int32.ofInt (min x y) := by
    by_cases h : y < x
    · rw [if_pos ((ltI hy hx).mpr h), Int.min_eq_right (by omega)]
    · rw [if_neg (fun q => h ((ltI hy hx).mp q)), Int.min_eq_left (by omega)]
  rw [e9]
  exact kk p e s m args below meth cd H locs ls h1 h2 h3 h4 h5 h6 h7 h8 h9 h10 h11
theorem go_mabs {idx : Nat} {x : Int} (hw : MtW own idx Lib.Math.abs.name Lib.Math.abs.code 1 (some .int)) (hx : -2147483648 < x ∧ x < 2147483648) (hR : 1 ≤ R.frames ∧ (st.map fun v => v.category).sum + 13 ≤ R.locals) (hf : k ≤ R.cells ∧ n ≤ R.slots) (hd : decode cc pc = .ok (.invokestatic idx, 3)) (kk : Go l E cc nL own R Pf Qf k n (pc + 3) L (vI ((Int.natAbs x : Nat) : Int) :: st) G D) : Go l E cc nL own R Pf Qf k n pc L (vI x :: st) G D := by
  intro p e s m args below meth cd H locs ls h1 h2 h3 h4 h5 h6 h7 h8 h9 h10 h11
  refine va_mabs h1 h2 (h3.trans h11.1.symm) h4 (h5 _ hw.1) (h5 _ hw.2.1) (h5 _ hw.2.2.1) (h5 _ hw.2.2.2) hR.1 hR.2 hf.1 hf.2 hd ?_
  have e9 : (if 0 ≤ Int32.ofInt x then Int32.ofInt x else 0 - Int32.ofInt x) = Int32.ofInt ((Int.natAbs x : Nat) : Int) := by
    rw [zI]
    by_cases h : 0 ≤ x
    · rw [if_pos ((leI (by decide) (by omega)).mpr h)]
      congr 1; omega
    · rw [if_neg (fun q => h ((leI (by decide) (by omega)).mp q)), ← Int32.ofInt_sub]
      congr 1; omega
  rw [e9]
  exact kk p e s m args below meth cd H locs ls h1 h2 h3 h4 h5 h6 h7 h8 h9 h10 h11
theorem go_mabsJ {idx : Nat} {x : Int} (hw : MtW own idx Lib.MathLoose.abs_long.x Lib.MathLoose.abs_long.code 2 (some .long)) (hx : -9223372036854775808 < x ∧ x < 9223372036854775808) (hR : 1 ≤ R.frames ∧ (st.map fun v => v.category).sum + 13 ≤ R.locals) (hf : k ≤ R.cells ∧ n ≤ R.slots) (hd : decode cc pc = .ok (.invokestatic idx, 3)) (kk : Go l E cc nL own R Pf Qf k n (pc + 3) L (vJ ((Int.natAbs x : Nat) : Int) :: st) G D) : Go l E cc nL own R Pf Qf k n pc L (vJ x :: st) G D := by
  intro p e s m args below meth cd H locs ls h1 h2 h3 h4 h5 h6 h7 h8 h9 h10 h11
  refine va_mabs_long h1 h2 (h3.trans h11.1.symm) h4 (h5 _ hw.1) (h5 _ hw.2.1) (h5 _ hw.2.2.1) (h5 _ hw.2.2.2) hR.1 hR.2 hf.1 hf.2 hd ?_
  have e9 : (if 0 < Int64.ofInt x then Int64.ofInt x else -Int64.ofInt x) = Int64.ofInt ((Int.natAbs x : Nat) : Int) := by
    rw [zJ]
    by_cases h : 0 < x
    · rw [if_pos ((ltJ (by decide) (by omega)).mpr h)]
      congr 1; omega
    · rw [if_neg (fun q => h ((ltJ (by decide) (by omega)).mp q)), ← Int64.ofInt_neg]
      congr 1; omega
  rw [e9]
  exact kk p e s m args below meth cd H locs ls h1 h2 h3 h4 h5 h6 h7 h8 h9 h10 h11
theorem go_mmaxJ {idx : Nat} {x y : Int} (hw : MtW own idx Lib.MathLoose.max_long.x Lib.MathLoose.max_long.code 4 (some .long)) (hx : -9223372036854775808 ≤ x ∧ x < 9223372036854775808) (hy : -9223372036854775808 ≤ y ∧ y < 9223372036854775808) (hR : 1 ≤ R.frames ∧ (st.map fun v => v.category).sum + 15 ≤ R.locals) (hf : k ≤ R.cells ∧ n ≤ R.slots) (hd : decode cc pc = .ok (.invokestatic idx, 3)) (kk : Go l E cc nL own R Pf Qf k n (pc + 3) L (vJ (max x y) :: st) G D) : Go l E cc nL own R Pf Qf k n pc L (vJ y :: vJ x :: st) G D := by
  intro p e s m args below meth cd H locs ls h1 h2 h3 h4 h5 h6 h7 h8 h9 h10 h11
  refine va_mmax_long h1 h2 (h3.trans h11.1.symm) h4 (h5 _ hw.1) (h5 _ hw.2.1) (h5 _ hw.2.2.1) (h5 _ hw.2.2.2) hR.1 hR.2 hf.1 hf.2 hd ?_
  have e9 : (if Int64.ofInt y < Int64.ofInt x then Int64.ofInt x else Int64.ofInt y) = Int64.ofInt (max x y) := by
    by_cases h : y < x
    · rw [if_pos ((ltJ hy hx).mpr h), Int.max_eq_left (by omega)]
    · rw [if_neg (fun q => h ((ltJ hy hx).mp q)), Int.max_eq_right (by omega)]
  rw [e9]
  exact kk p e s m args below meth cd H locs ls h1 h2 h3 h4 h5 h6 h7 h8 h9 h10 h11
end GX

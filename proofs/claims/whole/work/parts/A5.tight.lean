/-! ===== a call's room is counted as it was used ===== -/
theorem Ct.fr {l : Launch} {E : Ev} {M : Mt} {κ mc ms : Nat} {as : List Value} {G : Sh} {D : Dm} {Q : Int → Sh → Dm → Prop} (h : Ct l E M κ mc ms as G D Q) : Met l M.1 (gw M) (rmO M mc ms) (PcO E as G D) (fun a st o t => QcO E κ Q a st o t ∧ ∃ L, FrameEnd st o t L mc ms) mc ms (AE E) := by
  intro p e ha hc hk s m args below hf hap hP hT
  obtain ⟨n, o, h1, h2, h3, hq, L, e1, e2⟩ := h p e ha hc hk s m args below hf hap hP hT
  exact ⟨n, o, h1, h2, h3, ⟨hq, L, e1⟩, L, e1, e2⟩
theorem Ct.len {l : Launch} {E : Ev} {M : Mt} {κ mc ms : Nat} {as : List Value} {G : Sh} {D : Dm} {Q : Int → Sh → Dm → Prop} (h : Ct l E M κ mc ms as G D Q) : Ct l E M κ mc ms as G D (fun r G' D' => Q r G' D' ∧ G'.1.length ≤ G.1.length + mc) := by
  intro p e ha hc hk s m args below hf hap hP hT
  obtain ⟨n, o, h1, h2, h3, ⟨⟨r, G', D', a, b, c⟩, d⟩, L, e1, e2⟩ := h p e ha hc hk s m args below hf hap hP hT
  have hz : o = o := rfl
  have h0 := hP.2.1.1
  have h9 := c.1
  have hs := e1.2.2.2.2.1
  refine ⟨n, o, h1, h2, h3, ⟨⟨r, G', D', a, ⟨b, ?_⟩, c⟩, d⟩, L, e1, e2⟩
  have h8 : (stepsAlone p.tables e n s).heap.size ≤ s.heap.size + mc := hs
  omega
theorem stand_tight {p : Program} {l : Launch} {e : Env} {R : Room} {s : State} {m : MethodId} {args : Array Value} {below : List Frame} {meth : Method} {c : Code} {T T' : State} {locs locs' : List Loc} {k n k' n' : Nat} (X : Stand p l e R s m args below meth c T locs k n) (X' : Stand p l e R s m args below meth c T' locs' k' n') (hz : T'.heap.size = T.heap.size) (hs : ∀ (a : Nat) (c : Cell), T.heap[a]? = some c → ∃ c', T'.heap[a]? = some c' ∧ c'.slots.size = c.slots.size) : Stand p l e R s m args below meth c T' locs' k n := by
  have h1 := X.same
  have h2 := X'.same
  have hm : (T'.heap.toList.drop s.heap.size).map (fun c => c.slots.size) = (T.heap.toList.drop s.heap.size).map (fun c => c.slots.size) := by
    apply List.ext_getElem?
    intro i
    rw [List.getElem?_map, List.getElem?_map, List.getElem?_drop, List.getElem?_drop, Array.getElem?_toList, Array.getElem?_toList]
    cases hg : T.heap[s.heap.size + i]? with
    | none =>
      have : T'.heap[s.heap.size + i]? = none := by
        rw [Array.getElem?_eq_none_iff] at hg ⊢
        omega
      rw [this]
    | some q =>
      obtain ⟨q', e1, e2⟩ := hs _ _ hg
      rw [e1]
      simp [e2]
  refine ⟨X'.admits, X'.cas, X'.clock, X'.frames, X'.room, X'.hears, X'.method, X'.code, X'.here, X'.tail, X'.warmed, X'.limits, X'.bytes, h2.1, h2.2.1, ?_, h2.2.2.2.1, ?_, h2.2.2.2.2.2⟩
  · show T'.heap.size ≤ _
    rw [hz]
    exact h1.2.2.1
  · show ((T'.heap.toList.drop s.heap.size).map (fun c => c.slots.size)).sum ≤ n
    rw [hm]
    exact h1.2.2.2.2.1
section GT
variable {l : Launch} {E : Ev} {cc : ByteArray} {nL : Nat} {own : String} {R : Room} {Pf : MethodId → Method → State → Array Value → Prop} {Qf : List Frame → Array Value → State → State → Prop} {k n pc : Nat} {L : List (Nat × Value)} {st : List Value} {G : Sh} {D : Dm}
theorem go_callT {M : Mt} {κ mc ms np idx c ci z : Nat} {Q : Int → Sh → Dm → Prop} {as rest : List Value} (hw : MwV own idx M np) (hc : G.1[c]? = some (ci, z)) (hcl : vwCl[ci]?.map (fun q => q.1) = some M.1.cls) (hci : ci < 100) (hR : M.2.2.2.2.1 + 1 ≤ R.frames ∧ 8 + (M.2.2.1 + 11) + M.2.2.2.2.2 ≤ R.locals) (hf : k + mc ≤ R.cells ∧ n + ms ≤ R.slots) (hn : as.length = np) (hst : st = as.reverse ++ vR E c :: rest) (hcat : (rest.map fun v => v.category).sum ≤ 8) (hd : decode cc pc = .ok (.invokevirtual idx, 3))
    (hct : Ct l E M κ mc ms (vR E c :: as) G D Q) (kk : ∀ r G' D', Q r G' D' → ∃ k' n', ((G'.1.length = G.1.length ∧ k' = k ∧ n' = n) ∨ (k' = k + mc ∧ n' = n + ms)) ∧ Go l E cc nL own R Pf Qf k' n' (pc + 3) L ((rvO κ r).toList ++ rest) G' D') : Go l E cc nL own R Pf Qf k n pc L st G D := by
  intro p e s m args below meth cd H locs ls h1 h2 h3 h4 h5 h6 h7 h8 h9 h10 h11 T hT X
  obtain ⟨w1, w2, w3, w4, w5, w6⟩ := hw
  have he := wsO_get (E := E) (D := D) hc
  rw [ceO_obj hci] at he
  obtain ⟨q, hq, hq2⟩ := Option.map_eq_some_iff.mp hcl
  have hrecv := va_recv h7.1 h10.2.1 hq he
  rw [hq2] at hrecv
  have hrun := va_runV (p := p) (e := e) (meth := meth) (below := below) (locs := locs) (cells := k) (slots := n) (As := as) (rest := rest) (g := F0 m pc ls st) (C := M.1.cls) (b := E.1 + c) ⟨h1, h2, h3, h4, h5⟩ hct.fr ⟨cbO h5 w1 w2 w5 w6 hR, h5 _ w3, h5 _ w4⟩ ⟨PcO.blind, hrecv, (pcTo (as := vR E c :: as) h7 h9 h10).2⟩ rfl hn h11.1 hst (lv_room (rest := st) hcat) hd hf
  obtain ⟨v, st₀, t, T', L', e0, X', hL, e1, e2, ⟨⟨⟨r, G', D', hv, hQ, hHp⟩, hz, hk⟩, L2, fe⟩, sg⟩ := hrun T hT X
  cases hv
  rw [e0] at hz hk
  obtain ⟨k', n', hkn, hgo⟩ := kk r G' D' hQ
  have X2 : Stand p l e R s m args below meth cd T' (locs ++ L') k' n' := by
    rcases hkn with ⟨hlen, rfl, rfl⟩ | ⟨rfl, rfl⟩
    · refine stand_tight X X' (by rw [e1, hHp.1, hT, h10.1, hlen]) (fun a c0 ha => ?_)
      have hs := fe.2.2.2.2.2.2.2 a c0 (by rw [e0, ← hT]; exact ha)
      obtain ⟨c', g1, _, g3, _⟩ := hs
      exact ⟨c', by rw [e1]; exact g1, g3⟩
    · exact X'
  obtain ⟨t2, a1, b1⟩ := hgo p e s m args below meth cd T'.heap (locs ++ L') ls h1 h2 h3 h4 h5 h6 h7 h8
    ⟨Nat.le_trans h9.1 (by rw [e1]; exact hz), fun q g1 g2 => by rw [e1, hk q (Nat.lt_of_lt_of_le g1 h9.1) g2]; exact h9.2.1 q g1 g2, fun q hq => by
      rcases List.mem_append.mp hq with h | h
      · exact h9.2.2 q h
      · exact hL q h⟩ (by rw [e1]; exact hHp) h11 T' rfl X2
  exact ⟨t2, sg t2 a1, b1⟩
/-- two answers that are the same -/
theorem go_sameI {x off : Int} (tgt : Nat) (hd : decode cc pc = .ok (.if_icmp .eq off, 3)) (ht : (pc : Int) + off = (tgt : Int)) (kt : Go l E cc nL own R Pf Qf k n tgt L st G D) : Go l E cc nL own R Pf Qf k n pc L (vI x :: vI x :: st) G D :=
  fun p e s m args below meth c H locs ls h1 h2 h3 h4 h5 h6 h7 h8 h9 h10 h11 => lv_icmp_eq h1 h2 hd ht (fun _ => kt p e s m args below meth c H locs ls h1 h2 h3 h4 h5 h6 h7 h8 h9 h10 h11) (fun h => absurd rfl h)
theorem go_sameJ {x off : Int} (tgt : Nat) (hd0 : decode cc pc = .ok (.lcmp, 1)) (hd : decode cc (pc + 1) = .ok (.ifCond .eq off, 3)) (ht : ((pc + 1 : Nat) : Int) + off = (tgt : Int)) (kt : Go l E cc nL own R Pf Qf k n tgt L st G D) : Go l E cc nL own R Pf Qf k n pc L (vJ x :: vJ x :: st) G D :=
  fun p e s m args below meth c H locs ls h1 h2 h3 h4 h5 h6 h7 h8 h9 h10 h11 => W.lcmp h1 h2 hd0 (lv_if_eq h1 h2 hd ht (fun _ => kt p e s m args below meth c H locs ls h1 h2 h3 h4 h5 h6 h7 h8 h9 h10 h11) (fun h => absurd ((lg_cmp_eq _ _).mpr rfl) h))
end GT
/-! ===== inside the law ===== -/
def PfL (b Lx : Nat) (xs : Nat → Int32) (B : Nat) : MethodId → Method → State → Array Value → Prop := fun _ meth s args => args = #[Value.ref b] ∧ va_X b Lx xs s s.heap ∧ b < s.heap.size ∧ s.heap.size = B ∧ meth.sig.returnType = ret ∧ meth.locks = false
section GL
variable {l : Launch} {E : Ev} {cc : ByteArray} {nL : Nat} {own : String} {R : Room} {Qf : List Frame → Array Value → State → State → Prop} {k n pc : Nat} {L : List (Nat × Value)} {st : List Value} {G : Sh} {D : Dm} {b Lx : Nat} {xs : Nat → Int32}
theorem go_sld {i : Int} (hL : Lx ≤ 3584) (hi : 0 ≤ i ∧ i < Lx) (hd : decode cc pc = .ok (.iaload, 1)) (kk : Go l E cc nL own R (PfL b Lx xs E.1) Qf k n (pc + 1) L (vI (xs i.toNat).toInt :: st) G D) : Go l E cc nL own R (PfL b Lx xs E.1) Qf k n pc L (vI i :: .ref b :: st) G D := by
  intro p e s m args below meth cd H locs ls h1 h2 h3 h4 h5 h6 h7 h8 h9 h10 h11
  refine va_sld h1 h2 h6.2.1 h6.2.2.1 (fun q => ?_) h9 (inI hi.1 hi.2 (by omega)) hd ?_
  · have q2 : E.1 ≤ b := q
    have := h6.2.2.1
    have := h6.2.2.2.1
    omega
  · have e9 : (Int32.ofInt i).toNatClampNeg = i.toNat := by have := clI hi.1 (show i < 2147483648 by omega); omega
    rw [e9, vI_of]
    exact kk p e s m args below meth cd H locs ls h1 h2 h3 h4 h5 h6 h7 h8 h9 h10 h11
theorem go_slen (hd : decode cc pc = .ok (.arraylength, 1)) (kk : Go l E cc nL own R (PfL b Lx xs E.1) Qf k n (pc + 1) L (vI Lx :: st) G D) : Go l E cc nL own R (PfL b Lx xs E.1) Qf k n pc L (.ref b :: st) G D := by
  intro p e s m args below meth cd H locs ls h1 h2 h3 h4 h5 h6 h7 h8 h9 h10 h11
  refine va_slen h1 h2 h6.2.1 h6.2.2.1 (fun q => ?_) h9 hd ?_
  · have q2 : E.1 ≤ b := q
    have := h6.2.2.1
    have := h6.2.2.2.1
    omega
  · have e9 : (Value.int (Int32.ofNat Lx)) = vI (Lx : Int) := by unfold vI; rw [Int32.ofInt_eq_ofNat]
    rw [e9]
    exact kk p e s m args below meth cd H locs ls h1 h2 h3 h4 h5 h6 h7 h8 h9 h10 h11
end GL
/-! ===== what the law starts with ===== -/
def GA : Sh := gr ([], fun _ _ => none) 0 (9, 17)
def DA : Dm := newD (fun _ _ => 0) 0
def GC : Sh := gr (g_X9_init GA) 107 (10, 38)
def DC : Dm := newD (d_X9_init DA) 107
def GZ : Sh := g_X10_init GC
def DZ : Dm := d_X10_init DC
theorem GA_len : GA.1.length = 1 := rfl
theorem GB_len : (g_X9_init GA).1.length = 107 := gl_X9_init GA_len
theorem GC_len : GC.1.length = 108 := gr_len GB_len
theorem GZ_T : GZ.1 = T0 := by decide +kernel
theorem GZ_R : ((List.range 125).all fun c => (List.range 40).all fun j => (R0f c j).isNone || GZ.2 c j == R0f c j) = true := by decide +kernel
theorem R0_short : R0.all (fun r => decide (r.length ≤ 40)) = true := by decide +kernel
theorem R0f_short {c : Nat} {i : Int} {r : Nat} (h : R0f c i = some r) : i.toNat < 40 := by
  rcases Nat.lt_or_ge i.toNat 40 with q | q
  · exact q
  · exfalso
    have hl : (R0.getD c []).length ≤ 40 := by
      rw [List.getD_eq_getElem?_getD]
      cases hg : R0[c]? with
      | none => simp
      | some x =>
        have := List.all_eq_true.mp R0_short x (List.mem_of_getElem? hg)
        simpa using this
    have e : R0f c i = none := by
      unfold R0f
      rw [List.getD_eq_getElem?_getD, List.getElem?_eq_none (by omega)]; rfl
    rw [e] at h
    cases h
theorem GZ_rd : GZ.2 42 8 = some 47 := by decide +kernel
theorem GZ_wy : GZ.2 42 9 = some 48 := by decide +kernel
theorem GZ_rdc : rdc GZ = 47 := by unfold rdc; rw [GZ_rd]; rfl
theorem GZ_wyc : wyc GZ = 48 := by unfold wyc; rw [GZ_wy]; rfl
theorem GZ_rdl : rdl GZ = 0 := by unfold rdl; rw [GZ_rdc, GZ_T]; rfl
theorem GZ_wyl : wyl GZ = 0 := by unfold wyl; rw [GZ_wyc, GZ_T]; rfl
theorem GZ_lay : Lay GZ := by
  refine ⟨fun c t h => by rw [GZ_T]; exact h, fun c i r h h0 => ?_, by rw [GZ_rdc]; exact GZ_rd, by rw [GZ_wyc]; exact GZ_wy, by rw [GZ_rdc, GZ_rdl, GZ_T]; rfl, by rw [GZ_wyc, GZ_wyl, GZ_T]; rfl, by rw [GZ_rdl]; decide, by rw [GZ_wyl]; decide, Or.inl ⟨GZ_rdc, GZ_wyc⟩, by rw [GZ_T]; decide +kernel⟩
  have hc := R0f_lt h
  have hi := R0f_short h
  have h1 := List.all_eq_true.mp GZ_R c (List.mem_range.mpr hc)
  have h2 := List.all_eq_true.mp h1 i.toNat (List.mem_range.mpr hi)
  have e : ((i.toNat : Nat) : Int) = i := by omega
  rw [e, h] at h2
  simpa using h2

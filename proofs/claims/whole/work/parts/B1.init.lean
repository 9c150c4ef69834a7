/-! ===== the law's first state, and its end ===== -/
theorem DZ_108 : DZ 108 0 = 0 ∧ DZ 108 1 = 0 ∧ DZ 108 2 = 0 ∧ DZ 108 3 = 10 ∧ DZ 108 4 = 1 := by decide +kernel
theorem DZ_1 : DZ 1 0 = 0 ∧ DZ 1 1 = 0 ∧ DZ 1 2 = 0 ∧ DZ 1 3 = 10 ∧ DZ 1 4 = 1 := by decide +kernel
theorem DZ_0 : (DZ 0 2 = 0 ∧ DZ 0 11 = 0 ∧ DZ 0 12 = 0 ∧ DZ 0 13 = 1) ∧ DZ 0 14 = -1 ∧ DZ 0 15 = -1 ∧ DZ 0 16 = -1 := by decide +kernel
theorem DZ_107 : (DZ 107 37 = 0 ∧ DZ 107 1 = 0 ∧ DZ 107 2 = 0 ∧ DZ 107 3 = 1) ∧ (DZ 107 15 = -1 ∧ DZ 107 16 = -1 ∧ DZ 107 24 = -1) ∧ DZ 107 20 = 0 ∧ DZ 107 9 = 0 ∧ DZ 107 33 = -1 := by decide +kernel
theorem DZ_c : DZ 42 5 = 0 ∧ DZ 23 1 = 0 ∧ DZ 60 7 = -1 := by decide +kernel
theorem DZ_t : (List.range 4).all (fun t => decide (DZ 21 t = 0 ∧ DZ 22 t = -1 ∧ DZ 109 t = 0 ∧ DZ 110 t = -1)) = true := by decide +kernel
theorem DZ_J : J 125 66357 GZ DZ := by
  obtain ⟨v0, v1, v2, v3, v4⟩ := DZ_108
  obtain ⟨c0, c1, c2, c3, c4⟩ := DZ_1
  obtain ⟨⟨a2, a11, a12, a13⟩, a14, a15, a16⟩ := DZ_0
  obtain ⟨⟨m37, m1, m2, m3⟩, ⟨m15, m16, m24⟩, m20, m9, m33⟩ := DZ_107
  obtain ⟨d42, d23, d60⟩ := DZ_c
  refine ⟨⟨GZ_lay, ⟨by rw [GZ_wyl, GZ_rdl], Or.inl d42⟩, ⟨by rw [a11, m1], by rw [a12, m2], by rw [a13, m3]⟩, m20, ⟨?_, ?_, ?_⟩, ⟨by rw [a14, m15], by rw [a15, m16], by rw [a16, m24]⟩, fun t p q => ?_, ⟨by rw [d23, m9], by rw [m9]; decide, fun i p q => by rw [m9] at q; omega⟩, ⟨by rw [a2, m37], by rw [m37]; decide, fun j p q => by rw [m37] at q; omega⟩, ⟨by rw [d60, m33], by rw [m33]; decide, fun s p q => by rw [m33] at q; omega⟩⟩, Or.inl GZ_rdl, by rw [GZ_rdl]; decide, by rw [GZ_rdl]; decide⟩
  · exact ⟨by rw [v0]; decide, by rw [v1]; decide, by rw [v2]; decide, by rw [v3]; decide, by rw [v4]; decide, fun s p q => by rw [v0] at q; omega, fun s p q => by rw [v1] at q; omega, fun s p q => by rw [v2] at q; omega⟩
  · exact ⟨by rw [c0, v0], by rw [c1, v1], by rw [c2, v2], by rw [c3, v3], by rw [c4, v4], fun s p q => by rw [v0] at q; omega, fun s p q => by rw [v1] at q; omega, fun s p q => by rw [v2] at q; omega⟩
  · exact fun s p q => by rw [v1] at q; omega
  · have h := List.all_eq_true.mp DZ_t t.toNat (List.mem_range.mpr (by omega))
    have h2 := of_decide_eq_true h
    rw [show ((t.toNat : Nat) : Int) = t by omega] at h2
    obtain ⟨h3, h4, h5, h6⟩ := h2
    refine ⟨⟨by rw [h3, h5], by rw [h4, h6]⟩, ⟨by rw [h5]; decide, by rw [h6]; decide⟩, fun p p0 p1 => by rw [h6] at p1; omega⟩
def R_law : String := "HailHillLaw"
def lw_P (b : Addr) (xs : List Int32) (args : Array Value) (s : State) : Prop := args = #[.ref b] ∧ s.IntsAt b xs ∧ xs.length ≤ 3584 ∧ (Jvm.Cond.and given_1 narrow_1).before args s = true
def lw_Q (_ : Array Value) (s : State) (o : Outcome) (t : State) : Prop := o = .returned (some (.int 1)) ∧ Framed s o t [] 600000 7302250
def lw_Z (below : List Frame) (a : Array Value) (s : State) : State → Prop := fun t => ∃ o, t.status = .running ∧ Ended t below o ∧ lw_Q a s o t
/-- the law's own end, with 1 on the stack, nothing written that was there before, its room as the claim has it -/
theorem lw_ret {p : Program} {l : Launch} {e : Env} {s : State} {m : MethodId} {below : List Frame} {meth : Method} {c : Code} {b : Nat} (hx : p.tables.exec = Jvm.exec) (hb : c.code = code) (hr : meth.sig.returnType = ret) (hlocks : meth.locks = false) {pc : Nat} {H : Heap} {ls : Array Slot} (hdg : decode code pc = .ok (.ireturn, 1)) : W p l e room_1 s m #[Value.ref b] below meth c H [] 600000 7302250 (lw_Z below #[Value.ref b] s) (F0 m pc ls [.int 1]) := by
  intro T hT X
  obtain ⟨fs, hret, hrun, hended, hW, hframe⟩ := X.leave (v := some (.int 1)) (hlocks := hlocks) (fun h => by rw [hr] at h; cases h)
  have hmeth' : T.vm.method? m = some meth := X.method'
  refine ⟨T.setFrames fs, ?_, .returned (some (.int 1)), hrun, hended, rfl, ⟨_, rfl⟩, hW, hframe⟩
  jvm_step X.here [X.here.top, hx, hb, hdg, hmeth', hr, ret, narrow_b1]
  (try refine ⟨rfl, ?_⟩); (try refine ⟨rfl, ?_⟩)
  first | (intro acts; rw [hret _ acts rfl rfl rfl]) | rw [hret _ _ rfl rfl rfl]
  exact Steps.refl _
/-- what holds at the law's entry -/
def lw_At (p : Program) (s : State) (m : MethodId) (meth : Method) (c : Code) (b L : Nat) (xs : Nat → Int32) : Prop :=
  p.tables.exec = Jvm.exec ∧ c.code = code ∧ meth.sig.returnType = ret ∧ c.maxLocals = 4 ∧ s.vm.findClass R_law = some m.cls ∧ (∀ w ∈ lw_tbl, w.before #[Value.ref b] s = true) ∧ va_X b L xs s s.heap ∧ b < s.heap.size ∧ meth.locks = false ∧ (Jvm.Cond.and given_1 narrow_1).before #[Value.ref b] s = true
def lwZ : List Frame → Array Value → State → State → Prop := fun below args s => lw_Z below args s
abbrev LG (l : Launch) (E : Ev) (b Lx : Nat) (xs : Nat → Int32) (k n pc : Nat) (i : Int) (st : List Value) (G : Sh) (D : Dm) : Prop := Go l E cL_law 4 RL room_1 (PfL b Lx xs E.1) lwZ k n pc [(0, .ref b), (1, vR E 0), (2, vR E 107), (3, vI i)] st G D
theorem lg_end {l : Launch} {E : Ev} {b Lx : Nat} {xs : Nat → Int32} {k n : Nat} {L : List (Nat × Value)} {G : Sh} {D : Dm} (hk : k ≤ 600000 ∧ n ≤ 7302250) : Go l E cL_law 4 RL room_1 (PfL b Lx xs E.1) lwZ k n 1655 L [vI 1] G D := by
  intro p e s m args below meth c H locs ls h1 h2 h3 h4 h5 h6 h7 h8 h9 h10 h11
  obtain ⟨rfl, g2, g3, g4, g5, g6⟩ := h6
  refine va_forget (fun q hq => ?_) (W.widen hk.1 hk.2 ?_)
  · have := h9.2.2 q hq
    rw [g4]; exact this
  · exact lw_ret h1 h2 g5 g6 dL_law_1655
theorem sc_b (x : Int32) : iRg x.toInt := by
  have h1 := Int32.le_toInt x
  have h2 := Int32.toInt_lt x
  exact ⟨by omega, by omega⟩
theorem jO_b (x y : Int) : -9223372036854775808 ≤ jO x y ∧ jO x y < 9223372036854775808 := by
  have h1 := Int64.le_toInt (Int64.ofInt x ||| Int64.ofInt y)
  have h2 := Int64.toInt_lt (Int64.ofInt x ||| Int64.ofInt y)
  unfold jO
  exact ⟨by omega, by omega⟩
theorem a63 (x : Int) : 0 ≤ iA x 63 ∧ iA x 63 ≤ 63 := by
  have e : iA x 63 = (Int32.ofInt x &&& 63).toInt := rfl
  rw [e]
  have h : ∀ b : BitVec 32, 0 ≤ (b &&& 63#32).toInt ∧ (b &&& 63#32).toInt ≤ 63 := by
    intro b
    have h1 : b &&& 63#32 = BitVec.ofNat 32 (b.toNat % 64) := by
      apply BitVec.eq_of_toNat_eq
      have h2 : b.toNat &&& 63 = b.toNat % 64 := Nat.and_two_pow_sub_one_eq_mod b.toNat 6
      simp [BitVec.toNat_and, h2]
      omega
    have hlt : b.toNat % 64 < 64 := Nat.mod_lt _ (by decide)
    rw [h1]
    generalize b.toNat % 64 = q at hlt
    have h3 : (BitVec.ofNat 32 q).toNat = q := by simp; omega
    rw [BitVec.toInt_eq_toNat_of_lt (by rw [h3]; omega), h3]
    omega
  exact h (Int32.ofInt x).toBitVec

/-! ===== fields, arrays, calls ===== -/
def fty (κ : Nat) (ty : FieldType) : Prop := match κ with
  | 0 => ty = .int
  | 1 => ty = .long
  | 3 => ty = .boolean
  | _ => refKind ty = true
/-- what is decided of a field's use at an entry of a class's constants -/
def FW (own : String) (idx ci k κ : Nat) (fin : Bool) : Prop := ∃ (C : String) (T : u_T) (N : Nat) (ty : Nat → FieldType), vwCl[ci]? = some (C, T, N) ∧ k < N ∧ Cond.fieldLink own idx (T k).1 (T k).2.1 (T k).2.2.1 ∈ gT ∧ (∀ w ∈ u_ws C T N, w ∈ gT) ∧ (fkd ci)[k]? = some κ ∧ ci < 100 ∧ (T k).2.2.2 = fin ∧ (∀ k, k < N → parseFieldDescriptor (T k).2.2.1 = some (ty k)) ∧ fty κ (ty k) ∧ (∀ a, a < N → ∀ b, b < N → a ≠ b → (T a).2.1 ≠ (T b).2.1) ∧ (T k).1 = C ∧ (fkd ci).length = N
theorem Hp.store {E : Ev} {G G' : Sh} {D D' : Dm} {H H' : Heap} {c : Nat} {t : Tg} (h : Hp E G D H) (hc : G.1[c]? = some t) (hz : H'.size = H.size) (ho : ∀ q : Nat, q ≠ E.1 + c → H'[q]? = H[q]?) (hG : G'.1 = G.1) (hw : ∀ c' t', c' ≠ c → G.1[c']? = some t' → ceO E G' D' c' t' = ceO E G D c' t') (hn : va_at E.2.1 vwCl (E.1 + c, ceO E G' D' c t) H') (hok : okD G' D') : Hp E G' D' H' := by
  refine ⟨by rw [hz, hG]; exact h.1, ?_, hok⟩
  rw [← wsO_ext (E := E) (D := D) (D' := D') hc hG hw]
  exact h.2.1.set (wsO_D E G D) (wsO_get hc) hn ho
theorem vset {fs : List Value} {k : Nat} {v : Value} (hl : k < fs.length) (j : Nat) : updV (vp_V fs) k v j = vp_V (fs.set k v) j := vp_updV_set hl v j
section GM
variable {l : Launch} {E : Ev} {cc : ByteArray} {nL : Nat} {own : String} {R : Room} {Pf : MethodId → Method → State → Array Value → Prop} {Qf : List Frame → Array Value → State → State → Prop} {k n pc : Nat} {L : List (Nat × Value)} {st : List Value} {G : Sh} {D : Dm}
theorem go_getV {c ci z f κ idx : Nat} {fin : Bool} {v : Value} (hf : FW own idx ci f κ fin) (hc : G.1[c]? = some (ci, z)) (hv : fvl E κ (D c f) (G.2 c f) = v) (hd : decode cc pc = .ok (.getfield idx, 3)) (kk : Go l E cc nL own R Pf Qf k n (pc + 3) L (v :: st) G D) : Go l E cc nL own R Pf Qf k n pc L (vR E c :: st) G D := by
  intro p e s m args below meth cd H locs ls h1 h2 h3 h4 h5 h6 h7 h8 h9 h10 h11
  obtain ⟨C, T, N, ty, a1, a2, a3, a4, a5, a6, a7, a8, a9, a10, a11, a12⟩ := hf
  have he := wsO_get (E := E) (D := D) hc
  rw [ceO_obj a6] at he
  exact va_get h1 h2 h5 a4 h4 h7.1 h10.2.1 c he a1 f a2 (h5 _ a3) (fun x hx => hx) (by rw [fsO_get a5, hv]) hd (kk p e s m args below meth cd H locs ls h1 h2 h3 h4 h5 h6 h7 h8 h9 h10 h11)
theorem go_getI {c ci z idx : Nat} (f : Nat) {i : Int} {fin : Bool} (hf : FW own idx ci f 0 fin) (hi : (f : Int) = i) (hc : G.1[c]? = some (ci, z)) (hd : decode cc pc = .ok (.getfield idx, 3)) (kk : Go l E cc nL own R Pf Qf k n (pc + 3) L (vI (D c i) :: st) G D) : Go l E cc nL own R Pf Qf k n pc L (vR E c :: st) G D :=
  go_getV hf hc (by rw [hi]; rfl) hd kk
theorem go_getZ {c ci z idx : Nat} (f : Nat) {i : Int} {fin : Bool} (hf : FW own idx ci f 3 fin) (hi : (f : Int) = i) (hc : G.1[c]? = some (ci, z)) (hd : decode cc pc = .ok (.getfield idx, 3)) (kk : Go l E cc nL own R Pf Qf k n (pc + 3) L (vI (D c i) :: st) G D) : Go l E cc nL own R Pf Qf k n pc L (vR E c :: st) G D :=
  go_getV hf hc (by rw [hi]; rfl) hd kk
theorem go_getJ {c ci z idx : Nat} (f : Nat) {i : Int} {fin : Bool} (hf : FW own idx ci f 1 fin) (hi : (f : Int) = i) (hc : G.1[c]? = some (ci, z)) (hd : decode cc pc = .ok (.getfield idx, 3)) (kk : Go l E cc nL own R Pf Qf k n (pc + 3) L (vJ (D c i) :: st) G D) : Go l E cc nL own R Pf Qf k n pc L (vR E c :: st) G D :=
  go_getV hf hc (by rw [hi]; rfl) hd kk
theorem go_getR {c ci z idx : Nat} (f : Nat) {i : Int} {c' : Nat} {fin : Bool} (hf : FW own idx ci f 2 fin) (hi : (f : Int) = i) (hc : G.1[c]? = some (ci, z)) (hr : G.2 c i = some c') (hd : decode cc pc = .ok (.getfield idx, 3)) (kk : Go l E cc nL own R Pf Qf k n (pc + 3) L (vR E c' :: st) G D) : Go l E cc nL own R Pf Qf k n pc L (vR E c :: st) G D :=
  go_getV hf hc (by rw [hi, hr]; rfl) hd kk
theorem go_putV {c ci z f κ idx : Nat} {fin : Bool} {v : Value} {G' : Sh} {D' : Dm} (hf : FW own idx ci f κ fin) (hfin : fin = false ∨ (vwCl[ci]?.map (fun q => q.1) = some own ∧ ∀ m meth s a, Pf m meth s a → meth.name = "<init>")) (hc : G.1[c]? = some (ci, z)) (hG : G'.1 = G.1)
    (hn : ∀ ty, fty κ ty → narrow ty v = v ∧ fits ty v = true) (hok : okD G D → okD G' D') (hfs : (fsO E G D c ci).set f v = fsO E G' D' c ci) (hw : ∀ c' t', c' ≠ c → G.1[c']? = some t' → ceO E G' D' c' t' = ceO E G D c' t') (hd : decode cc pc = .ok (.putfield idx, 3)) (kk : Go l E cc nL own R Pf Qf k n (pc + 3) L st G' D') : Go l E cc nL own R Pf Qf k n pc L (v :: vR E c :: st) G D := by
  intro p e s m args below meth cd H locs ls h1 h2 h3 h4 h5 h6 h7 h8 h9 h10 h11
  obtain ⟨C, T, N, ty, a1, a2, a3, a4, a5, a6, a7, a8, a9, a10, a11, a12⟩ := hf
  have he := wsO_get (E := E) (D := D) hc
  rw [ceO_obj a6] at he
  have hl : f < (fsO E G D c ci).length := by simp [fsO, a12]; exact a2
  have hap := va_apart (own := own) h5 a4 ty a8 a10 h7.1 a1
  obtain ⟨r, b1, cell, q1, q2, q3, q4⟩ := h10.2.1 c _ he
  have hr : r = (C, T, N) := Option.some.inj (b1.symm.trans a1)
  subst hr
  obtain ⟨hS, hfc, kC, hkC, hkind⟩ := h7.1.1 ci _ a1
  obtain ⟨cf, kf, fi, fd, hi, hsl⟩ := hS f a2
  have hlay := h5 _ (a4 _ (u_in_lay a2))
  unfold u_lay at hlay
  have hst := (u_facts hfc hkC (u_lays h5 a4 a2) hi).1
  have key : ∀ H' : Heap, H'[E.1 + c]? = some (cell.setSlot fd.slot v) → H'.size = H.size → (∀ q, q ≠ E.1 + c → H'[q]? = H[q]?) → W p l e R s m args below meth cd H' (locs ++ [⟨E.1 + c, fd.slot⟩]) k n (Qf below args s) (F0 m (pc + 3) ls st) := by
    intro H' e1 e2 e3
    refine kk p e s m args below meth cd H' _ ls h1 h2 h3 h4 h5 h6 h7 h8 (h9.put e2 e3 (Nat.le_add_right _ _)) ?_ h11
    refine h10.store hc e2 e3 hG hw ?_ (hok h10.2.2)
    rw [ceO_obj a6, ← hfs]
    rw [hsl] at e1
    exact ⟨_, a1, t_OB.to (V := updV (vp_V (fsO E G D c ci)) f v) ⟨_, e1, q2, q3, t_set q4 hap a2 v⟩ (fun j _ => vset hl j)⟩
  by_cases hfn : fin = false
  · rw [if_neg (by rw [a7, hfn]; decide)] at hlay
    have h6' := u_store hfc hkC hkind hlay hi (a8 f a2) (hn _ a9).1 (hn _ a9).2
    exact W.putK h1 h2 (f := fd) ⟨h4, h5 _ a3, ⟨_, _, _, hi⟩, hst⟩ (by rw [q2]; exact h6') q1 q3 (by rw [hsl]; exact k2_hasslot (q4 f a2)) rfl rfl hd key
  · obtain ⟨o1, o2⟩ := hfin.resolve_left hfn
    have hft : fin = true := by cases fin <;> simp_all
    rw [if_pos (by rw [a7, hft])] at hlay
    have hown2 : C = own := by rw [a1] at o1; exact Option.some.inj o1
    have hcf : m.cls = cf := by
      obtain ⟨_, _, c', _, _, _, -, -, hf', -, -, -, hown3, -⟩ := Cond.laysFinal_spec hlay
      have e1 : c' = cf := by have := hi.symm.trans hf'; simp at this; exact this.1.symm
      rw [a11, hown2] at hown3
      rw [← e1]; exact Option.some.inj (h4.symm.trans hown3)
    have h6' := u_fits hfc hkC hkind (Or.inr hlay) hi (a8 f a2) (hn _ a9).1 (hn _ a9).2
    exact W.putFinK h1 h2 h4 (h5 _ a3) hi hst hcf (o2 _ _ _ _ h6) (by rw [q2]; exact h6') q1 q3 (by rw [hsl]; exact k2_hasslot (q4 f a2)) rfl rfl hd key
theorem nfI {x : Int} : ∀ ty, fty 0 ty → narrow ty (vI x) = vI x ∧ fits ty (vI x) = true := by
  intro ty h
  have : ty = .int := h
  subst this
  exact ⟨rfl, rfl⟩
theorem nfJ {x : Int} : ∀ ty, fty 1 ty → narrow ty (vJ x) = vJ x ∧ fits ty (vJ x) = true := by
  intro ty h
  have : ty = .long := h
  subst this
  exact ⟨rfl, rfl⟩
theorem nfZ {x : Int} (hx : x = 0 ∨ x = 1) : ∀ ty, fty 3 ty → narrow ty (vI x) = vI x ∧ fits ty (vI x) = true := by
  intro ty h
  have : ty = .boolean := h
  subst this
  rcases hx with rfl | rfl <;> exact ⟨rfl, rfl⟩
theorem nfR {E : Ev} {c : Nat} : ∀ ty, fty 2 ty → narrow ty (vR E c) = vR E c ∧ fits ty (vR E c) = true := by
  intro ty h
  have h : refKind ty = true := h
  cases ty <;> first | (simp [refKind] at h; done) | exact ⟨rfl, rfl⟩
theorem go_putI {c ci z idx : Nat} (f : Nat) {i x : Int} (hx : -2147483648 ≤ x ∧ x < 2147483648) (hf : FW own idx ci f 0 false) (hi : (f : Int) = i) (hc : G.1[c]? = some (ci, z)) (hd : decode cc pc = .ok (.putfield idx, 3)) (kk : Go l E cc nL own R Pf Qf k n (pc + 3) L st G (upd2 D c i x)) : Go l E cc nL own R Pf Qf k n pc L (vI x :: vR E c :: st) G D := by
  subst hi
  exact go_putV hf (Or.inl rfl) hc rfl nfI (fun h => okD_upd rfl h hc (by obtain ⟨_, _, _, _, _, _, _, _, a5, a6, _⟩ := hf; rw [kdF a6 a5]; exact okI (by decide) hx)) (by obtain ⟨_, _, _, _, _, _, _, _, a5, _⟩ := hf; exact fsO_set (κ := 0) a5) (fun c' t' h _ => ceO_keep (fun j => upd2_cell D _ x j h)) hd kk
theorem go_putZ {c ci z idx : Nat} (f : Nat) {i x : Int} (hx : x = 0 ∨ x = 1) (hf : FW own idx ci f 3 false) (hi : (f : Int) = i) (hc : G.1[c]? = some (ci, z)) (hd : decode cc pc = .ok (.putfield idx, 3)) (kk : Go l E cc nL own R Pf Qf k n (pc + 3) L st G (upd2 D c i x)) : Go l E cc nL own R Pf Qf k n pc L (vI x :: vR E c :: st) G D := by
  subst hi
  exact go_putV hf (Or.inl rfl) hc rfl (nfZ hx) (fun h => okD_upd rfl h hc (by obtain ⟨_, _, _, _, _, _, _, _, a5, a6, _⟩ := hf; rw [kdF a6 a5]; exact okI (by decide) (by omega))) (by obtain ⟨_, _, _, _, _, _, _, _, a5, _⟩ := hf; exact fsO_set (κ := 3) a5) (fun c' t' h _ => ceO_keep (fun j => upd2_cell D _ x j h)) hd kk
theorem go_putJ {c ci z idx : Nat} (f : Nat) {i x : Int} (hx : -9223372036854775808 ≤ x ∧ x < 9223372036854775808) (hf : FW own idx ci f 1 false) (hi : (f : Int) = i) (hc : G.1[c]? = some (ci, z)) (hd : decode cc pc = .ok (.putfield idx, 3)) (kk : Go l E cc nL own R Pf Qf k n (pc + 3) L st G (upd2 D c i x)) : Go l E cc nL own R Pf Qf k n pc L (vJ x :: vR E c :: st) G D := by
  subst hi
  exact go_putV hf (Or.inl rfl) hc rfl nfJ (fun h => okD_upd rfl h hc (by obtain ⟨_, _, _, _, _, _, _, _, a5, a6, _⟩ := hf; rw [kdF a6 a5]; exact okJ hx)) (by obtain ⟨_, _, _, _, _, _, _, _, a5, _⟩ := hf; exact fsO_set (κ := 1) a5) (fun c' t' h _ => ceO_keep (fun j => upd2_cell D _ x j h)) hd kk
theorem go_putR {c ci z idx : Nat} (f : Nat) {i : Int} {c' : Nat} (hf : FW own idx ci f 2 false) (hi : (f : Int) = i) (hc : G.1[c]? = some (ci, z)) (hd : decode cc pc = .ok (.putfield idx, 3)) (kk : Go l E cc nL own R Pf Qf k n (pc + 3) L st (G.1, updR G.2 c i (some c')) D) : Go l E cc nL own R Pf Qf k n pc L (vR E c' :: vR E c :: st) G D := by
  subst hi
  exact go_putV (G' := (G.1, updR G.2 c f (some c'))) hf (Or.inl rfl) hc rfl nfR (fun h => h) (by obtain ⟨_, _, _, _, _, _, _, _, a5, _⟩ := hf; exact fsO_setR (x := some c') a5) (fun c2 t' h _ => ceO_keepR (fun j => by simp [updR, h])) hd kk
/-- a final field, in a constructor -/
theorem go_putF {M : Mt} {c ci z idx : Nat} (f : Nat) {i : Int} {c' : Nat} (hf : FW own idx ci f 2 true) (hi : (f : Int) = i) (hM : M.1.name = "<init>") (ho : vwCl[ci]?.map (fun q => q.1) = some own) (hc : G.1[c]? = some (ci, z)) (hd : decode cc pc = .ok (.putfield idx, 3)) (kk : Go l E cc nL own R (PfM M) Qf k n (pc + 3) L st (G.1, updR G.2 c i (some c')) D) : Go l E cc nL own R (PfM M) Qf k n pc L (vR E c' :: vR E c :: st) G D := by
  subst hi
  exact go_putV (G' := (G.1, updR G.2 c f (some c'))) hf (Or.inr ⟨ho, fun m meth s a h => h.2.2.trans hM⟩) hc rfl nfR (fun h => h) (by obtain ⟨_, _, _, _, _, _, _, _, a5, _⟩ := hf; exact fsO_setR (x := some c') a5) (fun c2 t' h _ => ceO_keepR (fun j => by simp [updR, h])) hd kk
theorem go_rngI {c : Nat} {i : Int} {t : Tg} (hc : G.1[c]? = some t) (hk : (kd t i == 1) = false) (kk : -2147483648 ≤ D c i ∧ D c i < 2147483648 → Go l E cc nL own R Pf Qf k n pc L st G D) : Go l E cc nL own R Pf Qf k n pc L st G D := by
  intro p e s m args below meth cd H locs ls h1 h2 h3 h4 h5 h6 h7 h8 h9 h10 h11
  have h := h10.2.2 c t i hc
  simp only [okv, if_neg (show ¬ kd t i = 1 by simpa using hk)] at h
  exact kk h p e s m args below meth cd H locs ls h1 h2 h3 h4 h5 h6 h7 h8 h9 h10 h11
theorem go_rngJ {c : Nat} {i : Int} {t : Tg} (hc : G.1[c]? = some t) (hk : kd t i = 1) (kk : -9223372036854775808 ≤ D c i ∧ D c i < 9223372036854775808 → Go l E cc nL own R Pf Qf k n pc L st G D) : Go l E cc nL own R Pf Qf k n pc L st G D := by
  intro p e s m args below meth cd H locs ls h1 h2 h3 h4 h5 h6 h7 h8 h9 h10 h11
  have h := h10.2.2 c t i hc
  rw [hk] at h
  exact kk h p e s m args below meth cd H locs ls h1 h2 h3 h4 h5 h6 h7 h8 h9 h10 h11
/-- the memory's numbers are of their kinds -/
theorem go_ok (kk : okD G D → Go l E cc nL own R Pf Qf k n pc L st G D) : Go l E cc nL own R Pf Qf k n pc L st G D :=
  fun p e s m args below meth cd H locs ls h1 h2 h3 h4 h5 h6 h7 h8 h9 h10 h11 => kk h10.2.2 p e s m args below meth cd H locs ls h1 h2 h3 h4 h5 h6 h7 h8 h9 h10 h11
-- arrays
theorem go_iaload {c N : Nat} {i b : Int} (hc : G.1[c]? = some (100, N)) (hb : (N : Int) = b) (hN : N < 2147483648) (hi : 0 ≤ i ∧ i < b) (hd : decode cc pc = .ok (.iaload, 1)) (kk : Go l E cc nL own R Pf Qf k n (pc + 1) L (vI (D c i) :: st) G D) : Go l E cc nL own R Pf Qf k n pc L (vI i :: vR E c :: st) G D := by
  intro p e s m args below meth cd H locs ls h1 h2 h3 h4 h5 h6 h7 h8 h9 h10 h11
  have he := wsO_get (E := E) (D := D) hc
  rw [ceO_int (Or.inl rfl)] at he
  refine va_iald h1 h2 h7.1 h10.2.1 c 0 he rfl (inI hi.1 (by omega) (by omega)) hd ?_
  rw [clI hi.1 (by omega)]
  exact kk p e s m args below meth cd H locs ls h1 h2 h3 h4 h5 h6 h7 h8 h9 h10 h11
theorem go_baload {c N : Nat} {i b : Int} (hc : G.1[c]? = some (102, N)) (hb : (N : Int) = b) (hN : N < 2147483648) (hi : 0 ≤ i ∧ i < b) (hd : decode cc pc = .ok (.baload, 1)) (kk : Go l E cc nL own R Pf Qf k n (pc + 1) L (vI (D c i) :: st) G D) : Go l E cc nL own R Pf Qf k n pc L (vI i :: vR E c :: st) G D := by
  intro p e s m args below meth cd H locs ls h1 h2 h3 h4 h5 h6 h7 h8 h9 h10 h11
  have he := wsO_get (E := E) (D := D) hc
  rw [ceO_int (Or.inr (Or.inl rfl))] at he
  refine va_bald h1 h2 h7.1 h10.2.1 c 2 he rfl (inI hi.1 (by omega) (by omega)) hd ?_
  rw [clI hi.1 (by omega)]
  exact kk p e s m args below meth cd H locs ls h1 h2 h3 h4 h5 h6 h7 h8 h9 h10 h11
theorem go_zaload {c N : Nat} {i b : Int} (hc : G.1[c]? = some (103, N)) (hb : (N : Int) = b) (hN : N < 2147483648) (hi : 0 ≤ i ∧ i < b) (hd : decode cc pc = .ok (.baload, 1)) (kk : Go l E cc nL own R Pf Qf k n (pc + 1) L (vI (D c i) :: st) G D) : Go l E cc nL own R Pf Qf k n pc L (vI i :: vR E c :: st) G D := by
  intro p e s m args below meth cd H locs ls h1 h2 h3 h4 h5 h6 h7 h8 h9 h10 h11
  have he := wsO_get (E := E) (D := D) hc
  rw [ceO_int (Or.inr (Or.inr rfl))] at he
  refine va_zald h1 h2 h7.1 h10.2.1 c 3 he rfl (inI hi.1 (by omega) (by omega)) hd ?_
  rw [clI hi.1 (by omega)]
  exact kk p e s m args below meth cd H locs ls h1 h2 h3 h4 h5 h6 h7 h8 h9 h10 h11
theorem go_laload {c N : Nat} {i b : Int} (hc : G.1[c]? = some (101, N)) (hb : (N : Int) = b) (hN : N < 2147483648) (hi : 0 ≤ i ∧ i < b) (hd : decode cc pc = .ok (.laload, 1)) (kk : Go l E cc nL own R Pf Qf k n (pc + 1) L (vJ (D c i) :: st) G D) : Go l E cc nL own R Pf Qf k n pc L (vI i :: vR E c :: st) G D := by
  intro p e s m args below meth cd H locs ls h1 h2 h3 h4 h5 h6 h7 h8 h9 h10 h11
  have he := wsO_get (E := E) (D := D) hc
  rw [ceO_long] at he
  refine va_lald h1 h2 h7.1 h10.2.1 c 1 he rfl (inI hi.1 (by omega) (by omega)) hd ?_
  rw [clI hi.1 (by omega)]
  exact kk p e s m args below meth cd H locs ls h1 h2 h3 h4 h5 h6 h7 h8 h9 h10 h11
theorem upI {D : Dm} {c : Nat} {i x : Int} {j : Nat} (h : (j : Int) = i) : upd (fun j : Nat => Int32.ofInt (D c j)) j (Int32.ofInt x) = fun j : Nat => Int32.ofInt (upd2 D c i x c j) := by
  funext q
  subst h
  by_cases hq : q = j
  · subst hq; simp [upd, upd2]
  · have : ¬ (q : Int) = (j : Int) := by omega
    simp [upd, upd2, hq, this]
theorem upJ {D : Dm} {c : Nat} {i x : Int} {j : Nat} (h : (j : Int) = i) : vp_updL (fun j : Nat => Int64.ofInt (D c j)) j (Int64.ofInt x) = fun j : Nat => Int64.ofInt (upd2 D c i x c j) := by
  funext q
  subst h
  by_cases hq : q = j
  · subst hq; simp [vp_updL, upd2]
  · have : ¬ (q : Int) = (j : Int) := by omega
    simp [vp_updL, upd2, hq, this]
theorem arI {cA : ClassId} {N : Nat} {f : Nat → Int32} {j : Nat} {x : Int32} : (vp_cell cA (N, .inl f)).setSlot j (.int x) = vp_cell cA (N, .inl (upd f j x)) := by
  rw [vp_cell_i, vp_cell_i, arrV_store]
  congr 2
  funext q
  by_cases hq : q = j
  · subst hq; simp [updV, upd]
  · simp [updV, upd, hq]
theorem arJ {cA : ClassId} {N : Nat} {f : Nat → Int64} {j : Nat} {x : Int64} : (vp_cell cA (N, .inr (.inl f))).setSlot j (.long x) = vp_cell cA (N, .inr (.inl (vp_updL f j x))) := by
  rw [vp_cell_l, vp_cell_l, arrV_store]
  congr 2
  funext q
  by_cases hq : q = j
  · subst hq; simp [updV, vp_updL]
  · simp [updV, vp_updL, hq]
theorem go_iastore {c N : Nat} {i b x : Int} (hc : G.1[c]? = some (100, N)) (hb : (N : Int) = b) (hN : N < 2147483648) (hi : 0 ≤ i ∧ i < b) (hx : -2147483648 ≤ x ∧ x < 2147483648) (hd : decode cc pc = .ok (.iastore, 1)) (kk : Go l E cc nL own R Pf Qf k n (pc + 1) L st G (upd2 D c i x)) : Go l E cc nL own R Pf Qf k n pc L (vI x :: vI i :: vR E c :: st) G D := by
  intro p e s m args below meth cd H locs ls h1 h2 h3 h4 h5 h6 h7 h8 h9 h10 h11
  have he := wsO_get (E := E) (D := D) hc
  rw [ceO_int (Or.inl rfl)] at he
  have hat : H[E.1 + c]? = some (vp_cell (E.2.2.1 100) (N, .inl fun j => Int32.ofInt (D c j))) := h10.2.1 c _ he
  refine W.iast h1 h2 hat ((h7.1.2 0 _ rfl).1 N _) (fun q => by cases q) (by show ¬ (_ ∨ (arrV _ _ _).slots.size ≤ _); rw [arrV_size]; exact inI hi.1 (by omega) (by omega)) rfl rfl hd fun H1 e1 z oq => ?_
  refine kk p e s m args below meth cd H1 _ ls h1 h2 h3 h4 h5 h6 h7 h8 (h9.put z oq (Nat.le_add_right _ _)) (h10.store hc z oq rfl (fun c' t' h _ => ceO_keep (fun j => upd2_cell D i x j h)) ?_ (okD_upd rfl h10.2.2 hc (okI (by simp [kd]) hx))) h11
  rw [ceO_int (Or.inl rfl)]
  show H1[E.1 + c]? = _
  rw [e1, arI, upI (clI hi.1 (by omega))]
theorem go_lastore {c N : Nat} {i b x : Int} (hc : G.1[c]? = some (101, N)) (hb : (N : Int) = b) (hN : N < 2147483648) (hi : 0 ≤ i ∧ i < b) (hx : -9223372036854775808 ≤ x ∧ x < 9223372036854775808) (hd : decode cc pc = .ok (.lastore, 1)) (kk : Go l E cc nL own R Pf Qf k n (pc + 1) L st G (upd2 D c i x)) : Go l E cc nL own R Pf Qf k n pc L (vJ x :: vI i :: vR E c :: st) G D := by
  intro p e s m args below meth cd H locs ls h1 h2 h3 h4 h5 h6 h7 h8 h9 h10 h11
  have he := wsO_get (E := E) (D := D) hc
  rw [ceO_long] at he
  have hat : H[E.1 + c]? = some (vp_cell (E.2.2.1 101) (N, .inr (.inl fun j => Int64.ofInt (D c j)))) := h10.2.1 c _ he
  refine W.last h1 h2 hat ((h7.1.2 1 _ rfl).1 N _) (fun q => by cases q) (by show ¬ (_ ∨ (arrV _ _ _).slots.size ≤ _); rw [arrV_size]; exact inI hi.1 (by omega) (by omega)) rfl rfl hd fun H1 e1 z oq => ?_
  refine kk p e s m args below meth cd H1 _ ls h1 h2 h3 h4 h5 h6 h7 h8 (h9.put z oq (Nat.le_add_right _ _)) (h10.store hc z oq rfl (fun c' t' h _ => ceO_keep (fun j => upd2_cell D i x j h)) ?_ (okD_upd rfl h10.2.2 hc (okJ hx))) h11
  rw [ceO_long]
  show H1[E.1 + c]? = _
  rw [e1, arJ, upJ (clI hi.1 (by omega))]
theorem narB {x : Int} (h : -128 ≤ x ∧ x < 128) : narrow .byte (.int (Int32.ofInt x)) = .int (Int32.ofInt x) := by
  show Value.int (Int32.ofInt x).toInt8.toInt32 = _
  rw [Int32.toInt8_ofInt]
  congr 1
  rw [← Int32.toInt_inj, Int8.toInt_toInt32, Int8.toInt_ofInt_of_le (by omega) (by omega), toI (by omega)]
theorem go_bastore {c N : Nat} {i b x : Int} (hc : G.1[c]? = some (102, N)) (hb : (N : Int) = b) (hN : N < 2147483648) (hi : 0 ≤ i ∧ i < b) (hx : -128 ≤ x ∧ x < 128) (hd : decode cc pc = .ok (.bastore, 1)) (kk : Go l E cc nL own R Pf Qf k n (pc + 1) L st G (upd2 D c i x)) : Go l E cc nL own R Pf Qf k n pc L (vI x :: vI i :: vR E c :: st) G D := by
  intro p e s m args below meth cd H locs ls h1 h2 h3 h4 h5 h6 h7 h8 h9 h10 h11
  have he := wsO_get (E := E) (D := D) hc
  rw [ceO_int (Or.inr (Or.inl rfl))] at he
  have hat : H[E.1 + c]? = some (vp_cell (E.2.2.1 102) (N, .inl fun j => Int32.ofInt (D c j))) := h10.2.1 c _ he
  refine W.bast h1 h2 hat ((h7.1.2 2 _ rfl).1 N _) (fun q => by cases q) (by show ¬ (_ ∨ (arrV _ _ _).slots.size ≤ _); rw [arrV_size]; exact inI hi.1 (by omega) (by omega)) rfl rfl hd fun H1 e1 z oq => ?_
  refine kk p e s m args below meth cd H1 _ ls h1 h2 h3 h4 h5 h6 h7 h8 (h9.put z oq (Nat.le_add_right _ _)) (h10.store hc z oq rfl (fun c' t' h _ => ceO_keep (fun j => upd2_cell D i x j h)) ?_ (okD_upd rfl h10.2.2 hc (okI (by simp [kd]) (by omega)))) h11
  rw [ceO_int (Or.inr (Or.inl rfl))]
  show H1[E.1 + c]? = _
  rw [narB hx] at e1
  rw [e1, arI, upI (clI hi.1 (by omega))]
theorem go_zastore {c N : Nat} {i b x : Int} (hc : G.1[c]? = some (103, N)) (hb : (N : Int) = b) (hN : N < 2147483648) (hi : 0 ≤ i ∧ i < b) (hx : x = 0 ∨ x = 1) (hd : decode cc pc = .ok (.bastore, 1)) (kk : Go l E cc nL own R Pf Qf k n (pc + 1) L st G (upd2 D c i x)) : Go l E cc nL own R Pf Qf k n pc L (vI x :: vI i :: vR E c :: st) G D := by
  intro p e s m args below meth cd H locs ls h1 h2 h3 h4 h5 h6 h7 h8 h9 h10 h11
  have he := wsO_get (E := E) (D := D) hc
  rw [ceO_int (Or.inr (Or.inr rfl))] at he
  have hat : H[E.1 + c]? = some (vp_cell (E.2.2.1 103) (N, .inl fun j => Int32.ofInt (D c j))) := h10.2.1 c _ he
  refine W.zast h1 h2 hat ((h7.1.2 3 _ rfl).1 N _) (fun q => by cases q) (by show ¬ (_ ∨ (arrV _ _ _).slots.size ≤ _); rw [arrV_size]; exact inI hi.1 (by omega) (by omega)) rfl rfl hd fun H1 e1 z oq => ?_
  refine kk p e s m args below meth cd H1 _ ls h1 h2 h3 h4 h5 h6 h7 h8 (h9.put z oq (Nat.le_add_right _ _)) (h10.store hc z oq rfl (fun c' t' h _ => ceO_keep (fun j => upd2_cell D i x j h)) ?_ (okD_upd rfl h10.2.2 hc (okI (by simp [kd]) (by omega)))) h11
  rw [ceO_int (Or.inr (Or.inr rfl))]
  show H1[E.1 + c]? = _
  rw [nar01 hx] at e1
  rw [e1, arI, upI (clI hi.1 (by omega))]
theorem go_alen {c κ N : Nat} {b : Int} (t0 : Nat) {ty : FieldType} (hc : G.1[c]? = some (κ, N)) (hκ : 100 ≤ κ) (ht : (tysO E)[t0]? = some (E.2.2.1 κ, ty)) (hb : (N : Int) = b) (hd : decode cc pc = .ok (.arraylength, 1)) (kk : Go l E cc nL own R Pf Qf k n (pc + 1) L (vI b :: st) G D) : Go l E cc nL own R Pf Qf k n pc L (vR E c :: st) G D := by
  intro p e s m args below meth cd H locs ls h1 h2 h3 h4 h5 h6 h7 h8 h9 h10 h11
  have he := wsO_get (E := E) (D := D) hc
  have hlt : ¬ κ < 100 := by omega
  simp only [ceO, hlt, if_false] at he
  have hN : (arO E G D c (κ, N)).1 = N := by simp only [arO]; split <;> try rfl
                                             split <;> rfl
  refine va_alen h1 h2 h7.1 h10.2.1 c t0 he ht (v := Int32.ofInt b) (by rw [hN, ← hb, Int32.ofInt_eq_ofNat]) hd ?_
  exact kk p e s m args below meth cd H locs ls h1 h2 h3 h4 h5 h6 h7 h8 h9 h10 h11
-- the static row of words
theorem go_nnget {idx : Nat} (hw : Cond.fieldLink own idx "HailHill$Scribe" "NO_NAMES" "[J" ∈ gT) (hd : decode cc pc = .ok (.getstatic idx, 3)) (kk : Go l E cc nL own R Pf Qf k n (pc + 3) L (.ref E.2.2.2.1 :: st) G D) : Go l E cc nL own R Pf Qf k n pc L st G D := by
  intro p e s m args below meth cd H locs ls h1 h2 h3 h4 h5 h6 h7 h8 h9 h10 h11
  exact va_gets h1 h2 h7.2.2.1 h9 h4 (h5 _ hw) (fun x h => h) hd (kk p e s m args below meth cd H locs ls h1 h2 h3 h4 h5 h6 h7 h8 h9 h10 h11)
theorem go_nnlen (hd : decode cc pc = .ok (.arraylength, 1)) (kk : Go l E cc nL own R Pf Qf k n (pc + 1) L (vI 15 :: st) G D) : Go l E cc nL own R Pf Qf k n pc L (.ref E.2.2.2.1 :: st) G D := by
  intro p e s m args below meth cd H locs ls h1 h2 h3 h4 h5 h6 h7 h8 h9 h10 h11
  exact va_tlen h1 h2 h7.2.2.2.1 h9 rfl hd (kk p e s m args below meth cd H locs ls h1 h2 h3 h4 h5 h6 h7 h8 h9 h10 h11)
theorem go_nnload {i : Int} (hi : 0 ≤ i ∧ i < 15) (hd : decode cc pc = .ok (.laload, 1)) (kk : Go l E cc nL own R Pf Qf k n (pc + 1) L (vJ (nnL.getD i.toNat 0) :: st) G D) : Go l E cc nL own R Pf Qf k n pc L (vI i :: .ref E.2.2.2.1 :: st) G D := by
  intro p e s m args below meth cd H locs ls h1 h2 h3 h4 h5 h6 h7 h8 h9 h10 h11
  refine va_tl h1 h2 h7.2.2.2.1 h9 (inI hi.1 (by omega) (by omega)) ?_ hd (kk p e s m args below meth cd H locs ls h1 h2 h3 h4 h5 h6 h7 h8 h9 h10 h11)
  have := clI hi.1 (show i < 2147483648 by omega)
  congr 2
  omega
end GM

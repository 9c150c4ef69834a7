-- the key words
def ksT (j : Nat) : Int := [1, 7, 12, 18, 22, 29, 36, 39, 45, 50, 53, 58, 64, 70, 75].getD j 0
def keT (j : Nat) : Int := ksT (j + 1) - 1
theorem ks_b : ∀ j : Fin 14, 1 ≤ ksT j.val ∧ ksT j.val < keT j.val ∧ keT j.val < 75 ∧ keT j.val - ksT j.val ≤ 8 ∧ ksB.getD (keT j.val).toNat 0 = 32 := by decide
theorem ks_l : ∀ (j : Fin 14) (p : Fin 75), ksT j.val ≤ (p.val : Int) → (p.val : Int) < keT j.val → 97 ≤ ksB.getD p.val 0 ∧ ksB.getD p.val 0 ≤ 122 := by decide +kernel
theorem ks_r : ∀ p : Fin 75, -2147483648 ≤ ksB.getD p.val 0 ∧ ksB.getD p.val 0 < 2147483648 := by decide
def kwP (T : Int → Int) (s e : Int) (j : Nat) : Prop := keT j - ksT j = e - s ∧ ∀ i : Int, 0 ≤ i → i < keT j - ksT j → ksB.getD (ksT j + i).toNat 0 = T (s + i)
noncomputable def kwB (T : Int → Int) (s e : Int) (j : Int) : Bool := @decide (kwP T s e j.toNat) (Classical.propDecidable _)
noncomputable def kwF (T : Int → Int) (s e : Int) : Int := fstF (kwB T s e) 0 14
theorem kwB_t {T : Int → Int} {s e : Int} {j : Int} (h : kwP T s e j.toNat) : kwB T s e j = true := by unfold kwB; exact @decide_eq_true _ (Classical.propDecidable _) h
theorem kwB_f {T : Int → Int} {s e : Int} {j : Int} (h : ¬ kwP T s e j.toNat) : kwB T s e j = false := by unfold kwB; exact @decide_eq_false _ (Classical.propDecidable _) h
section
variable {l : Launch} {E : Ev} {G : Sh} {D : Dm}
abbrev KKey (l : Launch) (E : Ev) (Q : Int → Sh → Dm → Prop) (pc : Nat) (L : List (Nat × Value)) (G : Sh) (D : Dm) : Prop := Go l E cX10_keyWord 6 RX10 (rmO MX10_keyWord 0 0) (PfM MX10_keyWord) (QfM E 0 0 0 Q) 0 0 pc L [] G D
theorem c_X10_keyWord (hL : Lay G) {n s e : Int} (hn : 0 ≤ n ∧ n ≤ 600) (h10 : D 107 10 = n) (hT : TB (D 113) n) (hs : 0 ≤ s) (hse : s ≤ e) (hen : e ≤ n) (h12 : D 107 12 = s) (h13 : D 107 11 = 2 → D 107 13 = e) (hlet : D 107 11 = 2 → ∀ i, s ≤ i → i < e → leB (D 113) i = true) : C0 l E MX10_keyWord 0 [vR E 107] G D (fun r D' => r = (if D 107 11 = 2 then kwF (D 113) s e else -1) ∧ D' = D) := by
  generalize hT' : D 113 = T at *
  refine Ct.of (by decide) (Nat.le_of_ble_eq_true rfl) ?_
  show KKey l E _ 0 [(0, vR E 107)] G D
  refine go_aload_n 0 dX10_keyWord_0 rfl rfl ?_
  refine go_getI 11 (i := 11) f_X10_128 rfl (hL.1 107 _ rfl) dX10_keyWord_1 ?_
  refine go_iconst dX10_keyWord_4 ?_
  refine go_rngI (c := 107) (i := 11) (hL.1 107 _ rfl) rfl (fun (q2 : -2147483648 ≤ (D 107 11) ∧ (D 107 11) < 2147483648) => ?_)
  refine go_icmp_eq 10 dX10_keyWord_5 (by decide) q2 (by decide) (fun c2 => ?_) (fun c2 => ?_)
  rotate_left
  · refine go_iconst dX10_keyWord_8 ?_
    exact go_ireturn (Nat.le_refl _) (Nat.le_refl _) rfl dX10_keyWord_9 ⟨rfl, by rw [if_neg c2], rfl⟩
  have h13' := h13 c2
  have hlet' := hlet c2
  rw [if_pos c2]
  refine go_iconst dX10_keyWord_10 ?_
  refine go_istore_n [1, 0] (L' := [(0, vR E 107), (1, vI 0)]) dX10_keyWord_11 rfl (by decide) rfl ?_
  refine go_iconst dX10_keyWord_12 ?_
  refine go_istore_n [1, 2, 0] (L' := [(0, vR E 107), (1, vI 0), (2, vI 1)]) dX10_keyWord_13 rfl (by decide) rfl ?_
  generalize hQ : (fun (r : Int) (G' : Sh) (D' : Dm) => G' = G ∧ r = kwF T s e ∧ D' = D) = Q
  have outer : ∀ (m j : Nat), j + m = 14 → fstF (kwB T s e) j m = kwF T s e → KKey l E Q 14 [(0, vR E 107), (1, vI j), (2, vI (ksT j))] G D := by
    intro m
    induction m with
    | zero =>
      intro j hj hf
      have ej : j = 14 := by omega
      subst ej
      refine go_iload_n 2 dX10_keyWord_14 rfl rfl ?_
      refine go_ldcS rfl dX10_keyWord_15 ?_
      refine go_sS (M := MJ0_length_8abf5) [] [vI (ksT 14)] mv_X10_144 rfl ⟨Nat.le_of_ble_eq_true rfl, Nat.le_of_ble_eq_true rfl⟩ ⟨Nat.le_refl _, Nat.le_refl _⟩ rfl rfl (Nat.le_of_ble_eq_true rfl) dX10_keyWord_17 c_J0_length ?_
      rintro r D1 ⟨rfl, rfl⟩
      refine go_icmp_ge 131 dX10_keyWord_20 (by decide) (by decide) (by decide) (fun _ => ?_) (fun z => absurd z (by decide))
      refine go_iconst dX10_keyWord_131 ?_
      refine go_ireturn (Nat.le_refl _) (Nat.le_refl _) rfl dX10_keyWord_132 ?_
      rw [← hQ]
      exact ⟨rfl, by rw [← hf]; rfl, rfl⟩
    | succ m ihm =>
      intro j hj hf
      have hjb := ks_b ⟨j, by omega⟩
      dsimp only at hjb
      have hjl := ks_l ⟨j, by omega⟩
      dsimp only at hjl
      have lett : ∀ p : Int, ksT j ≤ p → p < keT j → 97 ≤ ksB.getD p.toNat 0 ∧ ksB.getD p.toNat 0 ≤ 122 := fun p a b => by
        have := hjl ⟨p.toNat, by omega⟩ (by dsimp only; omega) (by dsimp only; omega)
        exact this
      refine go_iload_n 2 dX10_keyWord_14 rfl rfl ?_
      refine go_ldcS rfl dX10_keyWord_15 ?_
      refine go_sS (M := MJ0_length_8abf5) [] [vI (ksT j)] mv_X10_144 rfl ⟨Nat.le_of_ble_eq_true rfl, Nat.le_of_ble_eq_true rfl⟩ ⟨Nat.le_refl _, Nat.le_refl _⟩ rfl rfl (Nat.le_of_ble_eq_true rfl) dX10_keyWord_17 c_J0_length ?_
      rintro r D1 ⟨rfl, rfl⟩
      refine go_icmp_ge 131 dX10_keyWord_20 (by decide) (by omega) (by decide) (fun z => absurd z (by omega)) (fun _ => ?_)
      refine go_iload_n 2 dX10_keyWord_23 rfl rfl ?_
      refine go_istore_n [1, 2, 3, 0] (L' := [(0, vR E 107), (1, vI j), (2, vI (ksT j)), (3, vI (ksT j))]) dX10_keyWord_24 rfl (by decide) rfl ?_
      -- the end of the key
      refine up_from (P := fun p => KKey l E Q 25 [(0, vR E 107), (1, vI j), (2, vI (ksT j)), (3, vI p)] G D1) (lo := ksT j) (n := keT j) (by omega) ?_ ?_
      rotate_left
      · intro p p0 p1 ih
        have hlp := lett p p0 p1
        refine go_ldcS rfl dX10_keyWord_25 ?_
        refine go_iload_n 3 dX10_keyWord_27 rfl rfl ?_
        refine go_sS (M := MJ0_charAt_5068e) [vI p] [] mv_X10_150 rfl ⟨Nat.le_of_ble_eq_true rfl, Nat.le_of_ble_eq_true rfl⟩ ⟨Nat.le_refl _, Nat.le_refl _⟩ rfl rfl (Nat.le_of_ble_eq_true rfl) dX10_keyWord_28 (c_J0_charAt (by omega)) ?_
        rintro r D2 ⟨rfl, rfl⟩
        refine go_bipush dX10_keyWord_31 (by decide) ?_
        refine go_icmp_eq 42 dX10_keyWord_33 (by decide) (by omega) (by decide) (fun z => absurd z (by omega)) (fun _ => ?_)
        refine go_iinc 3 [1, 2, 3, 0] (L' := [(0, vR E 107), (1, vI j), (2, vI (ksT j)), (3, vI (p + 1))]) dX10_keyWord_36 (by decide) rfl rfl ?_
        exact go_goto 25 dX10_keyWord_39 (by decide) ih
      refine go_ldcS rfl dX10_keyWord_25 ?_
      refine go_iload_n 3 dX10_keyWord_27 rfl rfl ?_
      refine go_sS (M := MJ0_charAt_5068e) [vI (keT j)] [] mv_X10_150 rfl ⟨Nat.le_of_ble_eq_true rfl, Nat.le_of_ble_eq_true rfl⟩ ⟨Nat.le_refl _, Nat.le_refl _⟩ rfl rfl (Nat.le_of_ble_eq_true rfl) dX10_keyWord_28 (c_J0_charAt (by omega)) ?_
      rintro r D2 ⟨rfl, rfl⟩
      rw [hjb.2.2.2.2]
      refine go_bipush dX10_keyWord_31 (by decide) ?_
      refine go_icmp_eq 42 dX10_keyWord_33 (by decide) (by decide) (by decide) (fun _ => ?_) (fun z => absurd rfl z)
      -- the answer where it is known whether this key is the word
      have tail : ∀ (b i : Int), (b = 1 ∧ kwP T s e j) ∨ (b = 0 ∧ ¬ kwP T s e j) → KKey l E Q 114 [(0, vR E 107), (1, vI j), (2, vI (ksT j)), (3, vI (keT j)), (4, vI b), (5, vI i)] G D2 := by
        intro b i hb
        refine go_iload 4 dX10_keyWord_114 rfl ?_
        refine go_if_eq 121 dX10_keyWord_116 (by decide) (by omega) (fun z => ?_) (fun z => ?_)
        · have hno : ¬ kwP T s e j := by rcases hb with h | h <;> first | exact h.2 | omega
          refine go_iinc 1 [1, 0, 2, 3] (L' := [(0, vR E 107), (1, vI (((j + 1 : Nat) : Int))), (2, vI (ksT j)), (3, vI (keT j))]) dX10_keyWord_121 (by decide) rfl rfl ?_
          refine go_iload_n 3 dX10_keyWord_124 rfl rfl ?_
          refine go_iconst dX10_keyWord_125 ?_
          refine go_iadd dX10_keyWord_126 ?_
          have e5 : keT j + 1 = ksT (j + 1) := by unfold keT; omega
          rw [e5]
          refine go_istore_n [1, 2, 0] (L' := [(0, vR E 107), (1, vI (((j + 1 : Nat) : Int))), (2, vI (ksT (j + 1)))]) dX10_keyWord_127 rfl (by decide) rfl ?_
          refine go_goto 14 dX10_keyWord_128 (by decide) ?_
          rw [fstF, if_neg (by rw [kwB_f (by rw [Int.toNat_natCast]; exact hno)]; decide)] at hf
          exact ihm (j + 1) (by omega) hf
        · have hyes : kwP T s e j := by rcases hb with h | h <;> first | exact h.2 | omega
          refine go_iload_n 1 dX10_keyWord_119 rfl rfl ?_
          refine go_ireturn (Nat.le_refl _) (Nat.le_refl _) rfl dX10_keyWord_120 ?_
          rw [fstF, if_pos (by rw [kwB_t (by rw [Int.toNat_natCast]; exact hyes)])] at hf
          rw [← hQ]
          exact ⟨rfl, hf, rfl⟩
      refine go_iload_n 3 dX10_keyWord_42 rfl rfl ?_
      refine go_iload_n 2 dX10_keyWord_43 rfl rfl ?_
      refine go_isub dX10_keyWord_44 ?_
      refine go_aload_n 0 dX10_keyWord_45 rfl rfl ?_
      refine go_getI 13 (i := 13) f_X10_115 rfl (hL.1 107 _ rfl) dX10_keyWord_46 ?_
      refine go_aload_n 0 dX10_keyWord_49 rfl rfl ?_
      refine go_getI 12 (i := 12) f_X10_122 rfl (hL.1 107 _ rfl) dX10_keyWord_50 ?_
      refine go_isub dX10_keyWord_53 ?_
      rw [h12, h13']
      refine go_icmp_ne 61 dX10_keyWord_54 (by decide) (by omega) (by omega) (fun z => ?_) (fun z => ?_)
      · refine go_iconst dX10_keyWord_61 ?_
        refine go_istore [1, 2, 3, 4, 0] (L' := [(0, vR E 107), (1, vI j), (2, vI (ksT j)), (3, vI (keT j)), (4, vI 0)]) dX10_keyWord_62 (by decide) rfl ?_
        refine go_iload_n 2 dX10_keyWord_64 rfl rfl ?_
        refine go_istore [1, 2, 3, 4, 5, 0] (L' := [(0, vR E 107), (1, vI j), (2, vI (ksT j)), (3, vI (keT j)), (4, vI 0), (5, vI (ksT j))]) dX10_keyWord_65 (by decide) rfl ?_
        refine go_iload 5 dX10_keyWord_67 rfl ?_
        refine go_iload_n 3 dX10_keyWord_69 rfl rfl ?_
        refine go_icmp_ge 114 dX10_keyWord_70 (by decide) (by omega) (by omega) (fun y => absurd y (by omega)) (fun _ => ?_)
        refine go_iload 4 dX10_keyWord_73 rfl ?_
        refine go_if_eq 114 dX10_keyWord_75 (by decide) (by decide) (fun _ => ?_) (fun y => absurd rfl y)
        exact tail 0 _ (Or.inr ⟨rfl, fun h => z h.1⟩)
      · refine go_iconst dX10_keyWord_57 ?_
        refine go_goto 62 dX10_keyWord_58 (by decide) ?_
        refine go_istore [1, 2, 3, 4, 0] (L' := [(0, vR E 107), (1, vI j), (2, vI (ksT j)), (3, vI (keT j)), (4, vI 1)]) dX10_keyWord_62 (by decide) rfl ?_
        refine go_iload_n 2 dX10_keyWord_64 rfl rfl ?_
        refine go_istore [1, 2, 3, 4, 5, 0] (L' := [(0, vR E 107), (1, vI j), (2, vI (ksT j)), (3, vI (keT j)), (4, vI 1), (5, vI (ksT j))]) dX10_keyWord_65 (by decide) rfl ?_
        -- letter by letter
        refine up_from (P := fun i => (∀ q : Int, 0 ≤ q → q < i - ksT j → ksB.getD (ksT j + q).toNat 0 = T (s + q)) → KKey l E Q 67 [(0, vR E 107), (1, vI j), (2, vI (ksT j)), (3, vI (keT j)), (4, vI 1), (5, vI i)] G D2) (lo := ksT j) (n := keT j) (by omega) ?_ ?_ (fun q a b => by omega)
        · intro hq
          refine go_iload 5 dX10_keyWord_67 rfl ?_
          refine go_iload_n 3 dX10_keyWord_69 rfl rfl ?_
          refine go_icmp_ge 114 dX10_keyWord_70 (by decide) (by omega) (by omega) (fun _ => ?_) (fun y => absurd y (by omega))
          exact tail 1 _ (Or.inl ⟨rfl, z, hq⟩)
        · intro i i0 i1 ih hq
          have hli := lett i i0 i1
          have hTi : leB T (s + (i - ksT j)) = true := hlet' _ (by omega) (by omega)
          have hTi' : 97 ≤ T (s + (i - ksT j)) ∧ T (s + (i - ksT j)) ≤ 122 := by unfold leB at hTi; exact of_decide_eq_true hTi
          have hby : byS T n (s + (i - ksT j)) = T (s + (i - ksT j)) := by unfold byS; rw [if_pos (by omega), if_neg (by omega)]
          refine go_iload 5 dX10_keyWord_67 rfl ?_
          refine go_iload_n 3 dX10_keyWord_69 rfl rfl ?_
          refine go_icmp_ge 114 dX10_keyWord_70 (by decide) (by omega) (by omega) (fun y => absurd y (by omega)) (fun _ => ?_)
          refine go_iload 4 dX10_keyWord_73 rfl ?_
          refine go_if_eq 114 dX10_keyWord_75 (by decide) (by decide) (fun y => absurd y (by decide)) (fun _ => ?_)
          refine go_ldcS rfl dX10_keyWord_78 ?_
          refine go_iload 5 dX10_keyWord_80 rfl ?_
          refine go_sS (M := MJ0_charAt_5068e) [vI i] [] mv_X10_150 rfl ⟨Nat.le_of_ble_eq_true rfl, Nat.le_of_ble_eq_true rfl⟩ ⟨Nat.le_refl _, Nat.le_refl _⟩ rfl rfl (Nat.le_of_ble_eq_true rfl) dX10_keyWord_82 (c_J0_charAt (by omega)) ?_
          rintro r D3 ⟨rfl, rfl⟩
          refine go_aload_n 0 dX10_keyWord_85 rfl rfl ?_
          refine go_aload_n 0 dX10_keyWord_86 rfl rfl ?_
          refine go_getI 12 (i := 12) f_X10_122 rfl (hL.1 107 _ rfl) dX10_keyWord_87 ?_
          refine go_iload 5 dX10_keyWord_90 rfl ?_
          refine go_iadd dX10_keyWord_92 ?_
          refine go_iload_n 2 dX10_keyWord_93 rfl rfl ?_
          refine go_isub dX10_keyWord_94 ?_
          rw [h12, show s + i - ksT j = s + (i - ksT j) by omega]
          have hcall := c_X10_byteAt (l := l) (E := E) (D := D3) hL hn h10 (by rw [hT']; exact hT) (p := s + (i - ksT j)) (by omega)
          rw [hT', hby] at hcall
          refine go_vI (M := MX10_byteAt) [vI (s + (i - ksT j))] [vI (ksB.getD i.toNat 0)] mv_X10_118 (hL.1 107 _ rfl) rfl (by decide) ⟨Nat.le_of_ble_eq_true rfl, Nat.le_of_ble_eq_true rfl⟩ ⟨Nat.le_refl _, Nat.le_refl _⟩ rfl rfl (Nat.le_of_ble_eq_true rfl) dX10_keyWord_95 hcall ?_
          rintro r D4 ⟨rfl, rfl⟩
          refine go_icmp_ne 105 dX10_keyWord_98 (by decide) (by omega) (by omega) (fun y => ?_) (fun y => ?_)
          · refine go_iconst dX10_keyWord_105 ?_
            refine go_istore [1, 2, 3, 4, 0, 5] (L' := [(0, vR E 107), (1, vI j), (2, vI (ksT j)), (3, vI (keT j)), (4, vI 0), (5, vI i)]) dX10_keyWord_106 (by decide) rfl ?_
            refine go_iinc 5 [1, 2, 3, 4, 5, 0] (L' := [(0, vR E 107), (1, vI j), (2, vI (ksT j)), (3, vI (keT j)), (4, vI 0), (5, vI (i + 1))]) dX10_keyWord_108 (by decide) rfl rfl ?_
            refine go_goto 67 dX10_keyWord_111 (by decide) ?_
            have hno : ¬ kwP T s e j := fun h => y (by
              have := h.2 (i - ksT j) (by omega) (by omega)
              rw [show ksT j + (i - ksT j) = i by omega] at this
              exact this)
            refine go_iload 5 dX10_keyWord_67 rfl ?_
            refine go_iload_n 3 dX10_keyWord_69 rfl rfl ?_
            refine go_icmp_ge 114 dX10_keyWord_70 (by decide) (by omega) (by omega) (fun _ => tail 0 _ (Or.inr ⟨rfl, hno⟩)) (fun _ => ?_)
            refine go_iload 4 dX10_keyWord_73 rfl ?_
            exact go_if_eq 114 dX10_keyWord_75 (by decide) (by decide) (fun _ => tail 0 _ (Or.inr ⟨rfl, hno⟩)) (fun y => absurd rfl y)
          · refine go_iconst dX10_keyWord_101 ?_
            refine go_goto 106 dX10_keyWord_102 (by decide) ?_
            refine go_istore [1, 2, 3, 4, 0, 5] (L' := [(0, vR E 107), (1, vI j), (2, vI (ksT j)), (3, vI (keT j)), (4, vI 1), (5, vI i)]) dX10_keyWord_106 (by decide) rfl ?_
            refine go_iinc 5 [1, 2, 3, 4, 5, 0] (L' := [(0, vR E 107), (1, vI j), (2, vI (ksT j)), (3, vI (keT j)), (4, vI 1), (5, vI (i + 1))]) dX10_keyWord_108 (by decide) rfl rfl ?_
            refine go_goto 67 dX10_keyWord_111 (by decide) (ih (fun q a b => ?_))
            by_cases y2 : q = i - ksT j
            · subst y2
              rw [show ksT j + (i - ksT j) = i by omega]
              exact y
            · exact hq q a (by omega)
  exact outer 14 0 rfl rfl
end

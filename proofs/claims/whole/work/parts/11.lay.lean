/-! ===== the layout that the constructors leave ===== -/
def T0 : List Tg := [(9, 17), (8, 17), (100, 10), (100, 10), (100, 10), (100, 10), (100, 10), (100, 6), (100, 6), (100, 6), (100, 6), (100, 4), (100, 4), (100, 4), (104, 3), (7, 3), (105, 4), (101, 60), (101, 60), (101, 60), (101, 60), (100, 4), (100, 4), (6, 15), (102, 600), (8, 17), (100, 10), (100, 10), (100, 10), (100, 10), (100, 10), (100, 6), (100, 6), (100, 6), (100, 6), (100, 4), (100, 4), (100, 4), (101, 10), (101, 4), (100, 6), (100, 6), (5, 10), (101, 64), (100, 64), (100, 640), (100, 100), (100, 0), (100, 0), (1, 8), (100, 252), (101, 252), (101, 252), (0, 4), (100, 64), (100, 64), (4, 5), (100, 3), (100, 4), (101, 4), (3, 8), (101, 768), (101, 768), (100, 8), (100, 3), (100, 8), (2, 5), (100, 10), (8, 17), (100, 10), (100, 10), (100, 10), (100, 10), (100, 10), (100, 6), (100, 6), (100, 6), (100, 6), (100, 4), (100, 4), (100, 4), (8, 17), (100, 10), (100, 10), (100, 10), (100, 10), (100, 10), (100, 6), (100, 6), (100, 6), (100, 6), (100, 4), (100, 4), (100, 4), (8, 17), (100, 10), (100, 10), (100, 10), (100, 10), (100, 10), (100, 6), (100, 6), (100, 6), (100, 6), (100, 4), (100, 4), (100, 4), (10, 38), (100, 500), (100, 4), (100, 4), (101, 240), (102, 600), (102, 600), (101, 10), (101, 4), (100, 10240), (100, 64), (100, 64), (103, 49152), (100, 10), (100, 10), (100, 4), (100, 10), (100, 4)]
def R0 : List (List (Option Nat)) := [[some 1, some 14, none, some 15, some 23, some 42, some 49, some 53, some 56, some 60, some 66], [none, none, none, none, none, some 2, some 3, some 4, some 5, some 6, some 7, some 8, some 9, some 10, some 11, some 12, some 13], [], [], [], [], [], [], [], [], [], [], [], [], [some 68, some 81, some 94], [some 16, some 21, some 22], [some 17, some 18, some 19, some 20], [], [], [], [], [], [], [some 24, none, some 25, none, none, none, none, none, none, none, none, some 38, some 39, some 40, some 41], [], [none, none, none, none, none, some 26, some 27, some 28, some 29, some 30, some 31, some 32, some 33, some 34, some 35, some 36, some 37], [], [], [], [], [], [], [], [], [], [], [], [], [], [], [], [], [some 1, some 43, some 44, none, none, none, some 45, some 46, none, none], [], [], [], [], [], [], [some 1, some 42, some 50, some 51, some 52], [], [], [], [some 1, some 42, some 54, some 55], [], [], [some 1, some 42, some 57, some 58, some 59], [], [], [], [some 1, some 42, some 61, some 62, some 63, some 64, some 65], [], [], [], [], [], [some 1, some 42, some 67], [], [none, none, none, none, none, some 69, some 70, some 71, some 72, some 73, some 74, some 75, some 76, some 77, some 78, some 79, some 80], [], [], [], [], [], [], [], [], [], [], [], [], [none, none, none, none, none, some 82, some 83, some 84, some 85, some 86, some 87, some 88, some 89, some 90, some 91, some 92, some 93], [], [], [], [], [], [], [], [], [], [], [], [], [none, none, none, none, none, some 95, some 96, some 97, some 98, some 99, some 100, some 101, some 102, some 103, some 104, some 105, some 106], [], [], [], [], [], [], [], [], [], [], [], [], [some 108, none, none, none, some 109, some 110, some 111, some 112, some 113, none, none, none, none, none, none, none, none, none, some 114, some 115, none, some 116, none, none, none, some 117, some 118, none, none, some 119, some 120, some 121, some 122, none, some 123, some 124], [], [], [], [], [], [], [], [], [], [], [], [], [], [], [], [], []]
def R0f (c : Nat) (i : Int) : Option Nat := (R0.getD c []).getD i.toNat none
def rdc (G : Sh) : Nat := (G.2 42 8).getD 0
def wyc (G : Sh) : Nat := (G.2 42 9).getD 0
def rdl (G : Sh) : Nat := ((G.1[rdc G]?).getD (0, 0)).2
def wyl (G : Sh) : Nat := ((G.1[wyc G]?).getD (0, 0)).2
def Lay (G : Sh) : Prop := (∀ (c : Nat) (t : Tg), T0[c]? = some t → G.1[c]? = some t) ∧ (∀ (c : Nat) (i : Int) (r : Nat), R0f c i = some r → 0 ≤ i → G.2 c i = some r)
  ∧ G.2 42 8 = some (rdc G) ∧ G.2 42 9 = some (wyc G) ∧ G.1[rdc G]? = some (100, rdl G) ∧ G.1[wyc G]? = some (100, wyl G) ∧ rdl G < 2147483648 ∧ wyl G < 2147483648
  ∧ ((rdc G = 47 ∧ wyc G = 48) ∨ (125 ≤ rdc G ∧ 125 ≤ wyc G ∧ rdc G ≠ wyc G)) ∧ 125 ≤ G.1.length
theorem lay_rd {G : Sh} (h : Lay G) : G.2 42 8 = some (rdc G) := h.2.2.1
theorem lay_wy {G : Sh} (h : Lay G) : G.2 42 9 = some (wyc G) := h.2.2.2.1
theorem lay_rdT {G : Sh} (h : Lay G) : G.1[rdc G]? = some (100, rdl G) := h.2.2.2.2.1
theorem lay_wyT {G : Sh} (h : Lay G) : G.1[wyc G]? = some (100, wyl G) := h.2.2.2.2.2.1
theorem lay_rdN {G : Sh} (h : Lay G) : rdl G < 2147483648 := h.2.2.2.2.2.2.1
theorem lay_wyN {G : Sh} (h : Lay G) : wyl G < 2147483648 := h.2.2.2.2.2.2.2.1
theorem lay_row {G : Sh} (h : Lay G) {i : Int} (hi : 0 ≤ i ∧ i < 4) : G.2 16 i = some (17 + Int.toNat i) := by
  refine h.2.1 16 i _ ?_ hi.1
  rcases (show i = 0 ∨ i = 1 ∨ i = 2 ∨ i = 3 by omega) with rfl | rfl | rfl | rfl <;> rfl
theorem lay_rowT {G : Sh} (h : Lay G) {i : Int} (hi : 0 ≤ i ∧ i < 4) : G.1[17 + Int.toNat i]? = some (101, 60) := by
  refine h.1 _ _ ?_
  rcases (show i = 0 ∨ i = 1 ∨ i = 2 ∨ i = 3 by omega) with rfl | rfl | rfl | rfl <;> rfl
/-- a village: its twelve rows stand behind it -/
def vlen (j : Nat) : Nat := if j < 5 then 10 else if j < 9 then 6 else 4
def isVil (G : Sh) (c : Nat) : Prop := G.1[c]? = some (8, 17) ∧ ∀ j, j < 12 → G.2 c ((5 + j : Nat) : Int) = some (c + (1 + j)) ∧ G.1[c + (1 + j)]? = some (100, vlen j)
theorem vil_of {G : Sh} (h : Lay G) (c : Nat) (hc : T0[c]? = some (8, 17)) (h2 : (List.range 12).all (fun j => decide (R0f c ((5 + j : Nat) : Int) = some (c + (1 + j))) && decide (T0[c + (1 + j)]? = some (100, vlen j))) = true) : isVil G c := by
  refine ⟨h.1 _ _ hc, fun j hj => ?_⟩
  have h3 := List.all_eq_true.mp h2 j (List.mem_range.mpr hj)
  simp only [Bool.and_eq_true, decide_eq_true_eq] at h3
  exact ⟨h.2.1 _ _ _ h3.1 (by omega), h.1 _ _ h3.2⟩
theorem vil_R {G : Sh} {c : Nat} (h : isVil G c) (j : Nat) (hj : j < 12) : G.2 c ((5 + j : Nat) : Int) = some (c + (1 + j)) := (h.2 j hj).1
theorem vil_T {G : Sh} {c : Nat} (h : isVil G c) (j : Nat) (hj : j < 12) : G.1[c + (1 + j)]? = some (100, vlen j) := (h.2 j hj).2
theorem lay_vil1 {G : Sh} (h : Lay G) : isVil G 1 := vil_of h 1 rfl (by decide +kernel)
theorem lay_vil25 {G : Sh} (h : Lay G) : isVil G 25 := vil_of h 25 rfl (by decide +kernel)
theorem lay_mark {G : Sh} (h : Lay G) {i : Int} (hi : 0 ≤ i ∧ i < 3) : G.2 14 i = some (68 + 13 * Int.toNat i) := by
  refine h.2.1 14 i _ ?_ hi.1
  rcases (show i = 0 ∨ i = 1 ∨ i = 2 by omega) with rfl | rfl | rfl <;> rfl
theorem lay_markV {G : Sh} (h : Lay G) {i : Int} (hi : 0 ≤ i ∧ i < 3) : isVil G (68 + 13 * Int.toNat i) := by
  rcases (show i = 0 ∨ i = 1 ∨ i = 2 by omega) with rfl | rfl | rfl
  · exact vil_of h 68 rfl (by decide +kernel)
  · exact vil_of h 81 rfl (by decide +kernel)
  · exact vil_of h 94 rfl (by decide +kernel)
theorem rnn (i : Nat) : -9223372036854775808 ≤ nnL.getD i 0 ∧ nnL.getD i 0 < 9223372036854775808 := by
  by_cases h : i < 15
  · have : ∀ j, j < 15 → -9223372036854775808 ≤ nnL.getD j 0 ∧ nnL.getD j 0 < 9223372036854775808 := by decide
    exact this i h
  · have e : nnL.getD i 0 = 0 := by rw [List.getD_eq_getElem?_getD, List.getElem?_eq_none (by simp [nnL]; omega)]; rfl
    rw [e]; decide
theorem go_eqI {l : Launch} {E : Ev} {cc : ByteArray} {nL : Nat} {own : String} {R : Room} {Pf : MethodId → Method → State → Array Value → Prop} {Qf : List Frame → Array Value → State → State → Prop} {k n pc : Nat} {L : List (Nat × Value)} {st : List Value} {G : Sh} {D : Dm} {x y : Int} (h : x = y) (kk : Go l E cc nL own R Pf Qf k n pc L (vI y :: st) G D) : Go l E cc nL own R Pf Qf k n pc L (vI x :: st) G D := h ▸ kk
theorem go_eqJ {l : Launch} {E : Ev} {cc : ByteArray} {nL : Nat} {own : String} {R : Room} {Pf : MethodId → Method → State → Array Value → Prop} {Qf : List Frame → Array Value → State → State → Prop} {k n pc : Nat} {L : List (Nat × Value)} {st : List Value} {G : Sh} {D : Dm} {x y : Int} (h : x = y) (kk : Go l E cc nL own R Pf Qf k n pc L (vJ y :: st) G D) : Go l E cc nL own R Pf Qf k n pc L (vJ x :: st) G D := h ▸ kk


-- settle of the class
section
variable {l : Launch} {E : Ev} {G : Sh} {D : Dm} {v : Vl}
theorem Rd_own {s f : Int} (hL : Lay G) (hv : wfV v) (hs : 0 ≤ s ∧ s < v 0) (hR : Rd v G D) : Rd (upV v ((8 + (5 * s)) + 4) f) G (upd2 D 6 s f) := by
  have hS := wfS hv
  have hH := wfH hv
  have hr := rdc_ne hL
  have key : ∀ k : Int, k ≠ (8 + (5 * s)) + 4 → upV v ((8 + (5 * s)) + 4) f k = v k := fun k hk => by simp only [upV]; rw [if_neg hk]
  have hag : agt v (upV v ((8 + (5 * s)) + 4) f) := fun j hj => key j (by omega)
  refine ⟨CV_own hv hs hR.1, fun lot l0 l1 => ?_, hag.rt hv (hR.2.2.same (funext fun i => upd2_cell _ _ _ _ (by decide)) (funext fun i => upd2_cell _ _ _ _ (by omega)))⟩
  rw [key 1 (by omega)] at l1
  rw [upd2_cell _ _ _ _ (by decide), hR.2.1 lot l0 l1]
  unfold wtS
  rw [key 1 (by omega)]
  refine fz_congr (fun i x i0 i1 => ?_)
  unfold wtF
  rw [key ((58 + (5 * i)) + 4) (by omega)]
def zS (D D' : Dm) : Prop := ∀ c i, ¬ scrY c i → ¬ (1 ≤ c ∧ c ≤ 13) → D' c i = D c i
theorem yS.z {D D' : Dm} (h : yS D D') : zS D D' := fun c i a _ => h c i a
theorem zS.tr {D D1 D2 : Dm} (h : zS D D1) (h2 : zS D1 D2) : zS D D2 := fun c i a b => (h2 c i a b).trans (h c i a b)
theorem zS.up {D D1 : Dm} (h : zS D D1) (i x : Int) : zS D (upd2 D1 6 i x) := fun c j a b => by
  rw [upd2_cell _ _ _ _ (by omega)]; exact h c j a b
theorem cU.mk {w : Vl} {a : Ans} {r s : Int} {G' : Sh} {D' : Dm} (hL : Lay G') (hC : CV 1 w D') (hO : CVo 1 w D') (hI : RI w G' D') (ha : a = aNo s r) (hz : zS D D') (hG : G' = G ∨ G' = newG G w) : cU w G D a r G' (upd2 D' 0 11 s) := by
  refine ⟨fun c => if 1 ≤ c ∧ c ≤ 13 then D' c else D c, fun c h => if_neg h, ?_, ?_, cP.no hL hI ha (fun c i hc => ?_) hG⟩
  · exact hC.same (fun j hj => if_pos (by omega))
  · exact hO.same (fun j hj => if_pos (by omega))
  · by_cases q : 1 ≤ c ∧ c ≤ 13
    · rw [if_pos q]
    · rw [if_neg q]; exact hz c i hc q
theorem st_0 (v : Vl) : stV v 0 = v 0 := by
  unfold stV swV upV
  rw [if_neg (by omega), if_neg (by omega)]
theorem sl_0 : ∀ (k : Nat) (v : Vl), (slF k v).1 0 = v 0
  | 0, v => rfl
  | k + 1, v => by
    rw [slF]
    split
    · rfl
    · exact (sl_0 k (stV v)).trans (st_0 v)
theorem newG_0 {w : Vl} (h : w 0 = v 0) : newG G w = newG G v := by unfold newG; rw [h]
theorem c_X9_settle (hL : Lay G) (hv : wfV v) (hC : CV 1 v D) (hO : CVo 1 v D) (hI : RI v G D) {a : Ans} (ha : a = q_settle v) : Ct l E MX9_settle 0 (mcR G v) (msR G v) [vR E 0] G D (cU (slF 100 v).1 G D a) := by
  refine s_X9_settle hL ?_
  refine (c_X5_ready hL hv hC hO hI).mono ?_
  rintro - G1 D2 ⟨hG1, hL1, hR1, hI1, hx1⟩
  refine ⟨hL1, ?_⟩
  refine up_from (P := fun i => ∀ (w : Vl) (D' : Dm), wfV w → Rd w G1 D' → CVo 1 w D' → RI w G1 D' → zS D D' → (slF (100 - i).toNat w).1 = (slF 100 v).1 → i + ((slF (100 - i).toNat w).2 : Nat) = ((slF 100 v).2 : Nat) → KX9_settle l E _ _ _ _ _ 9 [(0, vR E 0), (1, vI i)] G1 D') (lo := 0) (n := 100) (by omega) ?_ ?_ v D2 hv hR1 (hx1.y.lando hO) hI1 hx1.y.z rfl (by rw [Int.zero_add]; rfl)
  · intro w D' hw hR' hO' hI' hz h1 h2
    have e0 : ((100 : Int) - 100).toNat = 0 := rfl
    rw [e0, slF] at h1 h2
    dsimp only at h1 h2
    refine s_X9_settle_9 hL1 (by omega) (by omega) ⟨by omega, fun _ => ?_, fun z => absurd z (by omega)⟩
    rw [← h1]
    exact cU.mk hL1 hR'.1 hO' hI' (by rw [ha, q_settle, ← h2]; rfl) hz (Or.inr (by rw [hG1]; exact (newG_0 (by rw [h1]; exact sl_0 100 v)).symm))
  · intro i i0 i1 ih w D' hw hR' hO' hI' hz h1 h2
    have e1 : (100 - i).toNat = (100 - (i + 1)).toNat + 1 := by omega
    rw [e1, slF] at h1 h2
    refine s_X9_settle_9 hL1 (by omega) (by omega) ⟨by omega, fun z => absurd z (by omega), fun _ => ?_⟩
    refine C0.use (c_X4_swapFirst hL1 hw hR') ?_
    rintro r D3 hc
    try dsimp only
    rcases hc with ⟨c1, rfl, c2⟩ | ⟨c1, rfl, ⟨c3, c4, c5, c6⟩, D4, c7, rfl⟩
    · rw [if_pos c1] at h1 h2
      dsimp only at h1 h2
      refine ⟨by omega, fun _ => ?_, fun z => absurd rfl z⟩
      rw [← h1]
      exact cU.mk hL1 (c2.ready hL1 hR').1 (c2.y.lando hO') (hI'.cs hL1 c2) (by rw [ha, q_settle, ← h2]; simp) (hz.tr c2.y.z) (Or.inr (by rw [hG1]; exact (newG_0 (by rw [h1]; exact sl_0 100 v)).symm))
    · rw [if_neg c1] at h1 h2
      dsimp only at h1 h2
      refine ⟨by omega, fun z => absurd z (by decide), fun _ => ?_⟩
      have hR4 := c7.ready hL1 hR'
      have hO4 := c7.y.lando hO'
      have hI4 := hI'.cs hL1 c7
      have w1 := wfV_own hw (s := stX w) (f := stF w % 10) c3 (by omega)
      have k0 : upV w ((8 + (5 * stX w)) + 4) (stF w % 10) 0 = w 0 := by simp only [upV]; rw [if_neg (by omega)]
      have c4' : 0 ≤ stY w ∧ stY w < upV w ((8 + (5 * stX w)) + 4) (stF w % 10) 0 := by rw [k0]; exact c4
      exact ih (stV w) _ (wfV_st hw c1) (Rd_own hL1 w1 c4' (Rd_own hL1 hw c3 hR4)) (CVo_own w1 c4' (CVo_own hw c3 hO4)) (RI_own hL1 w1 c4' (RI_own hL1 hw c3 hI4)) (((hz.tr c7.y.z).up _ _).up _ _) h1 (by omega)
end

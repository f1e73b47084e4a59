/-! the law's loop -/
def Rel (B t : Nat) (I : HI) (J : HJ) : Prop := ∃ A : Al, WfA t A ∧ ClsR I B A ∧ RefR I (B + 338) A ∧ J B = J (B + 338)
theorem j_end {L : Nat} {zs : Nat → Int32} {I : HI} {J : HJ} {B m i : Nat} {k : HI → HJ → Int32 → Option Int32} : L_law_J1127 L zs I J B m (nI i) k = k I J (nI (i + 5)) := by
  unfold L_law_J1127
  rw [i_5, nadd, lt1s]
section Step
variable {B t L i : Nat} {zs : Nat → Int32} {I : HI} {J : HJ}
theorem law_pre (hL : L ≤ 2560) (hi : i + 5 ≤ L) : ¬ (Int32.ofNat L) - (5 : Int32) < nI i := by
  show ¬ nI L - nI 5 < nI i
  rw [nsub (by omega), nlt (by omega) (by omega)]
  omega
theorem gLaw {d : Nat} (hL : L ≤ 2560) (hi : i + d < L) (x : Option Int32) : gd (vp_in (nI i + nI d) L) x = x := by
  rw [nadd]
  exact gv hi (by omega)
theorem l_write (hL : L ≤ 2560) (hi : i + 5 ≤ L) (ht : t + 200 < 1000000) (h : Rel B t I J) (hop : zs (nI i).toNatClampNeg &&& (31 : Int32) = 0) : ∃ I' J', Rel B (t + 100) I' J' ∧ ∀ k, L_law_B18 L zs B (B + 338) k I J (nI i) = k I' J' (nI (i + 5)) := by
  obtain ⟨A, hw, hc, hr, hJ⟩ := h
  obtain ⟨a, A', I1, I2, e1, e2, w1, w2, w3⟩ := s_write (v := (zs (nI i + 1).toNatClampNeg)) hw hc hr
  have e1' : f_X7_write I B (zs (nI i + 1).toNatClampNeg) = some (a, I1) := e1
  have e2' : f_X8_write I1 (B + 338) (zs (nI i + 1).toNatClampNeg) = some (a, I2) := e2
  have g1 : ∀ x : Option Int32, gd (vp_in (nI i + 1) L) x = x := gLaw (d := 1) hL (by omega)
  refine ⟨I2, J, ⟨A', w1, w2, w3, hJ⟩, fun k => ?_⟩
  unfold L_law_B18
  rw [if_neg (law_pre hL hi), gv (by omega) (by omega), hop, if_pos (show (0 : Int32) = 0 from rfl)]
  rw [g1, e1', bd2s, g1, e2', bd2s, if_pos rfl]
  exact j_end
theorem l_wipe (hL : L ≤ 2560) (hi : i + 5 ≤ L) (ht : t + 200 < 1000000) (h : Rel B t I J) (hop : zs (nI i).toNatClampNeg &&& (31 : Int32) = 1) : ∃ I' J', Rel B (t + 100) I' J' ∧ ∀ k, L_law_B18 L zs B (B + 338) k I J (nI i) = k I' J' (nI (i + 5)) := by
  obtain ⟨A, hw, hc, hr, hJ⟩ := h
  obtain ⟨a, A', I1, I2, e1, e2, w1, w2, w3⟩ := s_wipe  hw hc hr
  have e1' : f_X7_wipe I B  = some (a, I1) := e1
  have e2' : f_X8_wipe I1 (B + 338)  = some (a, I2) := e2
  refine ⟨I2, J, ⟨A', w1, w2, w3, hJ⟩, fun k => ?_⟩
  unfold L_law_B18
  rw [if_neg (law_pre hL hi), gv (by omega) (by omega), hop, if_neg (show ¬ (1 : Int32) = 0 by decide), if_pos (show (1 : Int32) = 1 from rfl)]
  rw [e1', bd2s, e2', bd2s, if_pos rfl]
  exact j_end
theorem l_fault (hL : L ≤ 2560) (hi : i + 5 ≤ L) (ht : t + 200 < 1000000) (h : Rel B t I J) (hop : zs (nI i).toNatClampNeg &&& (31 : Int32) = 2) : ∃ I' J', Rel B (t + 100) I' J' ∧ ∀ k, L_law_B18 L zs B (B + 338) k I J (nI i) = k I' J' (nI (i + 5)) := by
  obtain ⟨A, hw, hc, hr, hJ⟩ := h
  obtain ⟨a, A', I1, I2, e1, e2, w1, w2, w3⟩ := s_fault  hw hc hr
  have e1' : f_X7_fault I B  = some (a, I1) := e1
  have e2' : f_X8_fault I1 (B + 338)  = some (a, I2) := e2
  refine ⟨I2, J, ⟨A', w1, w2, w3, hJ⟩, fun k => ?_⟩
  unfold L_law_B18
  rw [if_neg (law_pre hL hi), gv (by omega) (by omega), hop, if_neg (show ¬ (2 : Int32) = 0 by decide), if_neg (show ¬ (2 : Int32) = 1 by decide), if_pos (show (2 : Int32) = 2 from rfl)]
  rw [e1', bd2s, e2', bd2s, if_pos rfl]
  exact j_end
theorem l_net (hL : L ≤ 2560) (hi : i + 5 ≤ L) (ht : t + 200 < 1000000) (h : Rel B t I J) (hop : zs (nI i).toNatClampNeg &&& (31 : Int32) = 3) : ∃ I' J', Rel B (t + 100) I' J' ∧ ∀ k, L_law_B18 L zs B (B + 338) k I J (nI i) = k I' J' (nI (i + 5)) := by
  obtain ⟨A, hw, hc, hr, hJ⟩ := h
  obtain ⟨a, A', I1, I2, e1, e2, w1, w2, w3⟩ := s_net  hw hc hr
  have e1' : f_X7_net I B  = some (a, I1) := e1
  have e2' : f_X8_net I1 (B + 338)  = some (a, I2) := e2
  refine ⟨I2, J, ⟨A', w1, w2, w3, hJ⟩, fun k => ?_⟩
  unfold L_law_B18
  rw [if_neg (law_pre hL hi), gv (by omega) (by omega), hop, if_neg (show ¬ (3 : Int32) = 0 by decide), if_neg (show ¬ (3 : Int32) = 1 by decide), if_neg (show ¬ (3 : Int32) = 2 by decide), if_pos (show (3 : Int32) = 3 from rfl)]
  rw [e1', bd2s, e2', bd2s, if_pos rfl]
  exact j_end
theorem l_proxy (hL : L ≤ 2560) (hi : i + 5 ≤ L) (ht : t + 200 < 1000000) (h : Rel B t I J) (hop : zs (nI i).toNatClampNeg &&& (31 : Int32) = 4) : ∃ I' J', Rel B (t + 100) I' J' ∧ ∀ k, L_law_B18 L zs B (B + 338) k I J (nI i) = k I' J' (nI (i + 5)) := by
  obtain ⟨A, hw, hc, hr, hJ⟩ := h
  obtain ⟨a, A', I2, e1, e2, w1, w2, w3⟩ := s_proxy (v := (zs (nI i + 1).toNatClampNeg)) (p := (zs (nI i + 2).toNatClampNeg)) hw hc hr
  have e1' : f_X7_proxy I B (zs (nI i + 1).toNatClampNeg) (zs (nI i + 2).toNatClampNeg) = some a := e1
  have e2' : f_X8_proxy I (B + 338) (zs (nI i + 1).toNatClampNeg) (zs (nI i + 2).toNatClampNeg) = some (a, I2) := e2
  have g1 : ∀ x : Option Int32, gd (vp_in (nI i + 1) L) x = x := gLaw (d := 1) hL (by omega)
  have g2 : ∀ x : Option Int32, gd (vp_in (nI i + 2) L) x = x := gLaw (d := 2) hL (by omega)
  refine ⟨I2, J, ⟨A', w1, w2, w3, hJ⟩, fun k => ?_⟩
  unfold L_law_B18
  rw [if_neg (law_pre hL hi), gv (by omega) (by omega), hop, if_neg (show ¬ (4 : Int32) = 0 by decide), if_neg (show ¬ (4 : Int32) = 1 by decide), if_neg (show ¬ (4 : Int32) = 2 by decide), if_neg (show ¬ (4 : Int32) = 3 by decide), if_pos (show (4 : Int32) = 4 from rfl)]
  rw [g1, g2, e1', bd1s, g1, g2, e2', bd2s, if_pos rfl]
  exact j_end
theorem l_page (hL : L ≤ 2560) (hi : i + 5 ≤ L) (ht : t + 200 < 1000000) (h : Rel B t I J) (hop : zs (nI i).toNatClampNeg &&& (31 : Int32) = 5) : ∃ I' J', Rel B (t + 100) I' J' ∧ ∀ k, L_law_B18 L zs B (B + 338) k I J (nI i) = k I' J' (nI (i + 5)) := by
  obtain ⟨A, hw, hc, hr, hJ⟩ := h
  obtain ⟨a, A', I2, e1, e2, w1, w2, w3⟩ := s_page (v := (zs (nI i + 1).toNatClampNeg)) (p := (zs (nI i + 2).toNatClampNeg)) hw hc hr
  have e1' : f_X7_page I B (zs (nI i + 1).toNatClampNeg) (zs (nI i + 2).toNatClampNeg) = some a := e1
  have e2' : f_X8_page I (B + 338) (zs (nI i + 1).toNatClampNeg) (zs (nI i + 2).toNatClampNeg) = some (a, I2) := e2
  have g1 : ∀ x : Option Int32, gd (vp_in (nI i + 1) L) x = x := gLaw (d := 1) hL (by omega)
  have g2 : ∀ x : Option Int32, gd (vp_in (nI i + 2) L) x = x := gLaw (d := 2) hL (by omega)
  refine ⟨I2, J, ⟨A', w1, w2, w3, hJ⟩, fun k => ?_⟩
  unfold L_law_B18
  rw [if_neg (law_pre hL hi), gv (by omega) (by omega), hop, if_neg (show ¬ (5 : Int32) = 0 by decide), if_neg (show ¬ (5 : Int32) = 1 by decide), if_neg (show ¬ (5 : Int32) = 2 by decide), if_neg (show ¬ (5 : Int32) = 3 by decide), if_neg (show ¬ (5 : Int32) = 4 by decide), if_pos (show (5 : Int32) = 5 from rfl)]
  rw [g1, g2, e1', bd1s, g1, g2, e2', bd2s, if_pos rfl]
  exact j_end
theorem l_counter (hL : L ≤ 2560) (hi : i + 5 ≤ L) (ht : t + 200 < 1000000) (h : Rel B t I J) (hop : zs (nI i).toNatClampNeg &&& (31 : Int32) = 6) : ∃ I' J', Rel B (t + 100) I' J' ∧ ∀ k, L_law_B18 L zs B (B + 338) k I J (nI i) = k I' J' (nI (i + 5)) := by
  obtain ⟨A, hw, hc, hr, hJ⟩ := h
  obtain ⟨a, A', I2, e1, e2, w1, w2, w3⟩ := s_counter (v := (zs (nI i + 1).toNatClampNeg)) (p := (zs (nI i + 2).toNatClampNeg)) hw hc hr
  have e1' : f_X7_counter I B (zs (nI i + 1).toNatClampNeg) (zs (nI i + 2).toNatClampNeg) = some a := e1
  have e2' : f_X8_counter I (B + 338) (zs (nI i + 1).toNatClampNeg) (zs (nI i + 2).toNatClampNeg) = some (a, I2) := e2
  have g1 : ∀ x : Option Int32, gd (vp_in (nI i + 1) L) x = x := gLaw (d := 1) hL (by omega)
  have g2 : ∀ x : Option Int32, gd (vp_in (nI i + 2) L) x = x := gLaw (d := 2) hL (by omega)
  refine ⟨I2, J, ⟨A', w1, w2, w3, hJ⟩, fun k => ?_⟩
  unfold L_law_B18
  rw [if_neg (law_pre hL hi), gv (by omega) (by omega), hop, if_neg (show ¬ (6 : Int32) = 0 by decide), if_neg (show ¬ (6 : Int32) = 1 by decide), if_neg (show ¬ (6 : Int32) = 2 by decide), if_neg (show ¬ (6 : Int32) = 3 by decide), if_neg (show ¬ (6 : Int32) = 4 by decide), if_neg (show ¬ (6 : Int32) = 5 by decide), if_pos (show (6 : Int32) = 6 from rfl)]
  rw [g1, g2, e1', bd1s, g1, g2, e2', bd2s, if_pos rfl]
  exact j_end
theorem l_hash (hL : L ≤ 2560) (hi : i + 5 ≤ L) (ht : t + 200 < 1000000) (h : Rel B t I J) (hop : zs (nI i).toNatClampNeg &&& (31 : Int32) = 7) : ∃ I' J', Rel B (t + 100) I' J' ∧ ∀ k, L_law_B18 L zs B (B + 338) k I J (nI i) = k I' J' (nI (i + 5)) := by
  obtain ⟨A, hw, hc, hr, hJ⟩ := h
  obtain ⟨a, A', I2, e1, e2, w1, w2, w3⟩ := s_hash (v := (zs (nI i + 1).toNatClampNeg)) (p := (zs (nI i + 2).toNatClampNeg)) (k := (zs (nI i + 3).toNatClampNeg)) hw hc hr
  have e1' : f_X7_hash I B (zs (nI i + 1).toNatClampNeg) (zs (nI i + 2).toNatClampNeg) (zs (nI i + 3).toNatClampNeg) = some a := e1
  have e2' : f_X8_hash I (B + 338) (zs (nI i + 1).toNatClampNeg) (zs (nI i + 2).toNatClampNeg) (zs (nI i + 3).toNatClampNeg) = some (a, I2) := e2
  have g1 : ∀ x : Option Int32, gd (vp_in (nI i + 1) L) x = x := gLaw (d := 1) hL (by omega)
  have g2 : ∀ x : Option Int32, gd (vp_in (nI i + 2) L) x = x := gLaw (d := 2) hL (by omega)
  have g3 : ∀ x : Option Int32, gd (vp_in (nI i + 3) L) x = x := gLaw (d := 3) hL (by omega)
  refine ⟨I2, J, ⟨A', w1, w2, w3, hJ⟩, fun k => ?_⟩
  unfold L_law_B18
  rw [if_neg (law_pre hL hi), gv (by omega) (by omega), hop, if_neg (show ¬ (7 : Int32) = 0 by decide), if_neg (show ¬ (7 : Int32) = 1 by decide), if_neg (show ¬ (7 : Int32) = 2 by decide), if_neg (show ¬ (7 : Int32) = 3 by decide), if_neg (show ¬ (7 : Int32) = 4 by decide), if_neg (show ¬ (7 : Int32) = 5 by decide), if_neg (show ¬ (7 : Int32) = 6 by decide), if_pos (show (7 : Int32) = 7 from rfl)]
  rw [g1, g2, g3, e1', bd1s, g1, g2, g3, e2', bd2s, if_pos rfl]
  exact j_end
theorem l_ask (hL : L ≤ 2560) (hi : i + 5 ≤ L) (ht : t + 200 < 1000000) (h : Rel B t I J) (hop : zs (nI i).toNatClampNeg &&& (31 : Int32) = 9) : ∃ I' J', Rel B (t + 100) I' J' ∧ ∀ k, L_law_B18 L zs B (B + 338) k I J (nI i) = k I' J' (nI (i + 5)) := by
  obtain ⟨A, hw, hc, hr, hJ⟩ := h
  obtain ⟨a, A', I1, I2, e1, e2, w1, w2, w3⟩ := s_ask (v := (zs (nI i + 1).toNatClampNeg)) (p := (zs (nI i + 2).toNatClampNeg)) ht hw hc hr
  have e1' : f_X7_ask I B (zs (nI i + 1).toNatClampNeg) (zs (nI i + 2).toNatClampNeg) = some (a, I1) := e1
  have e2' : f_X8_ask I1 (B + 338) (zs (nI i + 1).toNatClampNeg) (zs (nI i + 2).toNatClampNeg) = some (a, I2) := e2
  have g1 : ∀ x : Option Int32, gd (vp_in (nI i + 1) L) x = x := gLaw (d := 1) hL (by omega)
  have g2 : ∀ x : Option Int32, gd (vp_in (nI i + 2) L) x = x := gLaw (d := 2) hL (by omega)
  refine ⟨I2, J, ⟨A', w1, w2, w3, hJ⟩, fun k => ?_⟩
  unfold L_law_B18
  rw [if_neg (law_pre hL hi), gv (by omega) (by omega), hop, if_neg (show ¬ (9 : Int32) = 0 by decide), if_neg (show ¬ (9 : Int32) = 1 by decide), if_neg (show ¬ (9 : Int32) = 2 by decide), if_neg (show ¬ (9 : Int32) = 3 by decide), if_neg (show ¬ (9 : Int32) = 4 by decide), if_neg (show ¬ (9 : Int32) = 5 by decide), if_neg (show ¬ (9 : Int32) = 6 by decide), if_neg (show ¬ (9 : Int32) = 7 by decide), if_neg (show ¬ (9 : Int32) = 8 by decide), if_pos (show (9 : Int32) = 9 from rfl)]
  rw [g1, g2, e1', bd2s, g1, g2, e2', bd2s, if_pos rfl]
  exact j_end
theorem l_drop (hL : L ≤ 2560) (hi : i + 5 ≤ L) (ht : t + 200 < 1000000) (h : Rel B t I J) (hop : zs (nI i).toNatClampNeg &&& (31 : Int32) = 10) : ∃ I' J', Rel B (t + 100) I' J' ∧ ∀ k, L_law_B18 L zs B (B + 338) k I J (nI i) = k I' J' (nI (i + 5)) := by
  obtain ⟨A, hw, hc, hr, hJ⟩ := h
  obtain ⟨a, A', I1, I2, e1, e2, w1, w2, w3⟩ := s_drop (v := (zs (nI i + 1).toNatClampNeg)) (p := (zs (nI i + 2).toNatClampNeg)) ht hw hc hr
  have e1' : f_X7_drop I B (zs (nI i + 1).toNatClampNeg) (zs (nI i + 2).toNatClampNeg) = some (a, I1) := e1
  have e2' : f_X8_drop I1 (B + 338) (zs (nI i + 1).toNatClampNeg) (zs (nI i + 2).toNatClampNeg) = some (a, I2) := e2
  have g1 : ∀ x : Option Int32, gd (vp_in (nI i + 1) L) x = x := gLaw (d := 1) hL (by omega)
  have g2 : ∀ x : Option Int32, gd (vp_in (nI i + 2) L) x = x := gLaw (d := 2) hL (by omega)
  refine ⟨I2, J, ⟨A', w1, w2, w3, hJ⟩, fun k => ?_⟩
  unfold L_law_B18
  rw [if_neg (law_pre hL hi), gv (by omega) (by omega), hop, if_neg (show ¬ (10 : Int32) = 0 by decide), if_neg (show ¬ (10 : Int32) = 1 by decide), if_neg (show ¬ (10 : Int32) = 2 by decide), if_neg (show ¬ (10 : Int32) = 3 by decide), if_neg (show ¬ (10 : Int32) = 4 by decide), if_neg (show ¬ (10 : Int32) = 5 by decide), if_neg (show ¬ (10 : Int32) = 6 by decide), if_neg (show ¬ (10 : Int32) = 7 by decide), if_neg (show ¬ (10 : Int32) = 8 by decide), if_neg (show ¬ (10 : Int32) = 9 by decide), if_pos (show (10 : Int32) = 10 from rfl)]
  rw [g1, g2, e1', bd2s, g1, g2, e2', bd2s, if_pos rfl]
  exact j_end
theorem l_send (hL : L ≤ 2560) (hi : i + 5 ≤ L) (ht : t + 200 < 1000000) (h : Rel B t I J) (hop : zs (nI i).toNatClampNeg &&& (31 : Int32) = 11) : ∃ I' J', Rel B (t + 100) I' J' ∧ ∀ k, L_law_B18 L zs B (B + 338) k I J (nI i) = k I' J' (nI (i + 5)) := by
  obtain ⟨A, hw, hc, hr, hJ⟩ := h
  obtain ⟨a, A', I1, I2, e1, e2, w1, w2, w3⟩ := s_send (v := (zs (nI i + 1).toNatClampNeg)) hw hc hr
  have e1' : f_X7_send I B (zs (nI i + 1).toNatClampNeg) = some (a, I1) := e1
  have e2' : f_X8_send I1 (B + 338) (zs (nI i + 1).toNatClampNeg) = some (a, I2) := e2
  have g1 : ∀ x : Option Int32, gd (vp_in (nI i + 1) L) x = x := gLaw (d := 1) hL (by omega)
  refine ⟨I2, J, ⟨A', w1, w2, w3, hJ⟩, fun k => ?_⟩
  unfold L_law_B18
  rw [if_neg (law_pre hL hi), gv (by omega) (by omega), hop, if_neg (show ¬ (11 : Int32) = 0 by decide), if_neg (show ¬ (11 : Int32) = 1 by decide), if_neg (show ¬ (11 : Int32) = 2 by decide), if_neg (show ¬ (11 : Int32) = 3 by decide), if_neg (show ¬ (11 : Int32) = 4 by decide), if_neg (show ¬ (11 : Int32) = 5 by decide), if_neg (show ¬ (11 : Int32) = 6 by decide), if_neg (show ¬ (11 : Int32) = 7 by decide), if_neg (show ¬ (11 : Int32) = 8 by decide), if_neg (show ¬ (11 : Int32) = 9 by decide), if_neg (show ¬ (11 : Int32) = 10 by decide), if_pos (show (11 : Int32) = 11 from rfl)]
  rw [g1, e1', bd2s, g1, e2', bd2s, if_pos rfl]
  exact j_end
theorem l_threshold (hL : L ≤ 2560) (hi : i + 5 ≤ L) (ht : t + 200 < 1000000) (h : Rel B t I J) (hop : zs (nI i).toNatClampNeg &&& (31 : Int32) = 12) : ∃ I' J', Rel B (t + 100) I' J' ∧ ∀ k, L_law_B18 L zs B (B + 338) k I J (nI i) = k I' J' (nI (i + 5)) := by
  obtain ⟨A, hw, hc, hr, hJ⟩ := h
  obtain ⟨a, A', I1, I2, e1, e2, w1, w2, w3⟩ := s_threshold (v := (zs (nI i + 1).toNatClampNeg)) (p := (zs (nI i + 2).toNatClampNeg)) hw hc hr
  have e1' : f_X7_threshold I B (zs (nI i + 1).toNatClampNeg) (zs (nI i + 2).toNatClampNeg) = some (a, I1) := e1
  have e2' : f_X8_threshold I1 (B + 338) (zs (nI i + 1).toNatClampNeg) (zs (nI i + 2).toNatClampNeg) = some (a, I2) := e2
  have g1 : ∀ x : Option Int32, gd (vp_in (nI i + 1) L) x = x := gLaw (d := 1) hL (by omega)
  have g2 : ∀ x : Option Int32, gd (vp_in (nI i + 2) L) x = x := gLaw (d := 2) hL (by omega)
  refine ⟨I2, J, ⟨A', w1, w2, w3, hJ⟩, fun k => ?_⟩
  unfold L_law_B18
  rw [if_neg (law_pre hL hi), gv (by omega) (by omega), hop, if_neg (show ¬ (12 : Int32) = 0 by decide), if_neg (show ¬ (12 : Int32) = 1 by decide), if_neg (show ¬ (12 : Int32) = 2 by decide), if_neg (show ¬ (12 : Int32) = 3 by decide), if_neg (show ¬ (12 : Int32) = 4 by decide), if_neg (show ¬ (12 : Int32) = 5 by decide), if_neg (show ¬ (12 : Int32) = 6 by decide), if_neg (show ¬ (12 : Int32) = 7 by decide), if_neg (show ¬ (12 : Int32) = 8 by decide), if_neg (show ¬ (12 : Int32) = 9 by decide), if_neg (show ¬ (12 : Int32) = 10 by decide), if_neg (show ¬ (12 : Int32) = 11 by decide), if_pos (show (12 : Int32) = 12 from rfl)]
  rw [g1, g2, e1', bd2s, g1, g2, e2', bd2s, if_pos rfl]
  exact j_end
theorem l_use (hL : L ≤ 2560) (hi : i + 5 ≤ L) (ht : t + 200 < 1000000) (h : Rel B t I J) (hop : zs (nI i).toNatClampNeg &&& (31 : Int32) = 13) : ∃ I' J', Rel B (t + 100) I' J' ∧ ∀ k, L_law_B18 L zs B (B + 338) k I J (nI i) = k I' J' (nI (i + 5)) := by
  obtain ⟨A, hw, hc, hr, hJ⟩ := h
  obtain ⟨a, A', I1, I2, e1, e2, w1, w2, w3⟩ := s_use (v := (zs (nI i + 1).toNatClampNeg)) hw hc hr
  have e1' : f_X7_use I B (zs (nI i + 1).toNatClampNeg) = some (a, I1) := e1
  have e2' : f_X8_use I1 (B + 338) (zs (nI i + 1).toNatClampNeg) = some (a, I2) := e2
  have g1 : ∀ x : Option Int32, gd (vp_in (nI i + 1) L) x = x := gLaw (d := 1) hL (by omega)
  refine ⟨I2, J, ⟨A', w1, w2, w3, hJ⟩, fun k => ?_⟩
  unfold L_law_B18
  rw [if_neg (law_pre hL hi), gv (by omega) (by omega), hop, if_neg (show ¬ (13 : Int32) = 0 by decide), if_neg (show ¬ (13 : Int32) = 1 by decide), if_neg (show ¬ (13 : Int32) = 2 by decide), if_neg (show ¬ (13 : Int32) = 3 by decide), if_neg (show ¬ (13 : Int32) = 4 by decide), if_neg (show ¬ (13 : Int32) = 5 by decide), if_neg (show ¬ (13 : Int32) = 6 by decide), if_neg (show ¬ (13 : Int32) = 7 by decide), if_neg (show ¬ (13 : Int32) = 8 by decide), if_neg (show ¬ (13 : Int32) = 9 by decide), if_neg (show ¬ (13 : Int32) = 10 by decide), if_neg (show ¬ (13 : Int32) = 11 by decide), if_neg (show ¬ (13 : Int32) = 12 by decide), if_pos (show (13 : Int32) = 13 from rfl)]
  rw [g1, e1', bd2s, g1, e2', bd2s, if_pos rfl]
  exact j_end
theorem l_undo (hL : L ≤ 2560) (hi : i + 5 ≤ L) (ht : t + 200 < 1000000) (h : Rel B t I J) (hop : zs (nI i).toNatClampNeg &&& (31 : Int32) = 14) : ∃ I' J', Rel B (t + 100) I' J' ∧ ∀ k, L_law_B18 L zs B (B + 338) k I J (nI i) = k I' J' (nI (i + 5)) := by
  obtain ⟨A, hw, hc, hr, hJ⟩ := h
  obtain ⟨a, A', I1, I2, e1, e2, w1, w2, w3⟩ := s_undo  hw hc hr
  have e1' : f_X7_undo I B  = some (a, I1) := e1
  have e2' : f_X8_undo I1 (B + 338)  = some (a, I2) := e2
  refine ⟨I2, J, ⟨A', w1, w2, w3, hJ⟩, fun k => ?_⟩
  unfold L_law_B18
  rw [if_neg (law_pre hL hi), gv (by omega) (by omega), hop, if_neg (show ¬ (14 : Int32) = 0 by decide), if_neg (show ¬ (14 : Int32) = 1 by decide), if_neg (show ¬ (14 : Int32) = 2 by decide), if_neg (show ¬ (14 : Int32) = 3 by decide), if_neg (show ¬ (14 : Int32) = 4 by decide), if_neg (show ¬ (14 : Int32) = 5 by decide), if_neg (show ¬ (14 : Int32) = 6 by decide), if_neg (show ¬ (14 : Int32) = 7 by decide), if_neg (show ¬ (14 : Int32) = 8 by decide), if_neg (show ¬ (14 : Int32) = 9 by decide), if_neg (show ¬ (14 : Int32) = 10 by decide), if_neg (show ¬ (14 : Int32) = 11 by decide), if_neg (show ¬ (14 : Int32) = 12 by decide), if_neg (show ¬ (14 : Int32) = 13 by decide), if_pos (show (14 : Int32) = 14 from rfl)]
  rw [e1', bd2s, e2', bd2s, if_pos rfl]
  exact j_end
theorem l_weight (hL : L ≤ 2560) (hi : i + 5 ≤ L) (ht : t + 200 < 1000000) (h : Rel B t I J) (hop : zs (nI i).toNatClampNeg &&& (31 : Int32) = 15) : ∃ I' J', Rel B (t + 100) I' J' ∧ ∀ k, L_law_B18 L zs B (B + 338) k I J (nI i) = k I' J' (nI (i + 5)) := by
  obtain ⟨A, hw, hc, hr, hJ⟩ := h
  obtain ⟨a, A', I2, e1, e2, w1, w2, w3⟩ := s_weight (v := (zs (nI i + 1).toNatClampNeg)) hw hc hr
  have e1' : f_X7_weight I B (zs (nI i + 1).toNatClampNeg) = some a := e1
  have e2' : f_X8_weight I (B + 338) (zs (nI i + 1).toNatClampNeg) = some (a, I2) := e2
  have g1 : ∀ x : Option Int32, gd (vp_in (nI i + 1) L) x = x := gLaw (d := 1) hL (by omega)
  refine ⟨I2, J, ⟨A', w1, w2, w3, hJ⟩, fun k => ?_⟩
  unfold L_law_B18
  rw [if_neg (law_pre hL hi), gv (by omega) (by omega), hop, if_neg (show ¬ (15 : Int32) = 0 by decide), if_neg (show ¬ (15 : Int32) = 1 by decide), if_neg (show ¬ (15 : Int32) = 2 by decide), if_neg (show ¬ (15 : Int32) = 3 by decide), if_neg (show ¬ (15 : Int32) = 4 by decide), if_neg (show ¬ (15 : Int32) = 5 by decide), if_neg (show ¬ (15 : Int32) = 6 by decide), if_neg (show ¬ (15 : Int32) = 7 by decide), if_neg (show ¬ (15 : Int32) = 8 by decide), if_neg (show ¬ (15 : Int32) = 9 by decide), if_neg (show ¬ (15 : Int32) = 10 by decide), if_neg (show ¬ (15 : Int32) = 11 by decide), if_neg (show ¬ (15 : Int32) = 12 by decide), if_neg (show ¬ (15 : Int32) = 13 by decide), if_neg (show ¬ (15 : Int32) = 14 by decide), if_pos (show (15 : Int32) = 15 from rfl)]
  rw [g1, e1', bd1s, g1, e2', bd2s, if_pos rfl]
  exact j_end
theorem l_best (hL : L ≤ 2560) (hi : i + 5 ≤ L) (ht : t + 200 < 1000000) (h : Rel B t I J) (hop : zs (nI i).toNatClampNeg &&& (31 : Int32) = 16) : ∃ I' J', Rel B (t + 100) I' J' ∧ ∀ k, L_law_B18 L zs B (B + 338) k I J (nI i) = k I' J' (nI (i + 5)) := by
  obtain ⟨A, hw, hc, hr, hJ⟩ := h
  obtain ⟨a, A', I2, e1, e2, w1, w2, w3⟩ := s_best (v := (zs (nI i + 1).toNatClampNeg)) (p := (zs (nI i + 2).toNatClampNeg)) hw hc hr
  have e1' : f_X7_best I B (zs (nI i + 1).toNatClampNeg) (zs (nI i + 2).toNatClampNeg) = some a := e1
  have e2' : f_X8_best I (B + 338) (zs (nI i + 1).toNatClampNeg) (zs (nI i + 2).toNatClampNeg) = some (a, I2) := e2
  have g1 : ∀ x : Option Int32, gd (vp_in (nI i + 1) L) x = x := gLaw (d := 1) hL (by omega)
  have g2 : ∀ x : Option Int32, gd (vp_in (nI i + 2) L) x = x := gLaw (d := 2) hL (by omega)
  refine ⟨I2, J, ⟨A', w1, w2, w3, hJ⟩, fun k => ?_⟩
  unfold L_law_B18
  rw [if_neg (law_pre hL hi), gv (by omega) (by omega), hop, if_neg (show ¬ (16 : Int32) = 0 by decide), if_neg (show ¬ (16 : Int32) = 1 by decide), if_neg (show ¬ (16 : Int32) = 2 by decide), if_neg (show ¬ (16 : Int32) = 3 by decide), if_neg (show ¬ (16 : Int32) = 4 by decide), if_neg (show ¬ (16 : Int32) = 5 by decide), if_neg (show ¬ (16 : Int32) = 6 by decide), if_neg (show ¬ (16 : Int32) = 7 by decide), if_neg (show ¬ (16 : Int32) = 8 by decide), if_neg (show ¬ (16 : Int32) = 9 by decide), if_neg (show ¬ (16 : Int32) = 10 by decide), if_neg (show ¬ (16 : Int32) = 11 by decide), if_neg (show ¬ (16 : Int32) = 12 by decide), if_neg (show ¬ (16 : Int32) = 13 by decide), if_neg (show ¬ (16 : Int32) = 14 by decide), if_neg (show ¬ (16 : Int32) = 15 by decide), if_pos (show (16 : Int32) = 16 from rfl)]
  rw [g1, g2, e1', bd1s, g1, g2, e2', bd2s, if_pos rfl]
  exact j_end
theorem l_plan (hL : L ≤ 2560) (hi : i + 5 ≤ L) (ht : t + 200 < 1000000) (h : Rel B t I J) (hop : zs (nI i).toNatClampNeg &&& (31 : Int32) = 17) : ∃ I' J', Rel B (t + 100) I' J' ∧ ∀ k, L_law_B18 L zs B (B + 338) k I J (nI i) = k I' J' (nI (i + 5)) := by
  obtain ⟨A, hw, hc, hr, hJ⟩ := h
  obtain ⟨a, A', I1, I2, e1, e2, w1, w2, w3⟩ := s_plan (v := (zs (nI i + 1).toNatClampNeg)) (p := (zs (nI i + 2).toNatClampNeg)) (k := (zs (nI i + 3).toNatClampNeg)) ht hw hc hr
  have e1' : f_X7_plan I B (zs (nI i + 1).toNatClampNeg) (zs (nI i + 2).toNatClampNeg) (zs (nI i + 3).toNatClampNeg) = some (a, I1) := e1
  have e2' : f_X8_plan I1 (B + 338) (zs (nI i + 1).toNatClampNeg) (zs (nI i + 2).toNatClampNeg) (zs (nI i + 3).toNatClampNeg) = some (a, I2) := e2
  have g1 : ∀ x : Option Int32, gd (vp_in (nI i + 1) L) x = x := gLaw (d := 1) hL (by omega)
  have g2 : ∀ x : Option Int32, gd (vp_in (nI i + 2) L) x = x := gLaw (d := 2) hL (by omega)
  have g3 : ∀ x : Option Int32, gd (vp_in (nI i + 3) L) x = x := gLaw (d := 3) hL (by omega)
  refine ⟨I2, J, ⟨A', w1, w2, w3, hJ⟩, fun k => ?_⟩
  unfold L_law_B18
  rw [if_neg (law_pre hL hi), gv (by omega) (by omega), hop, if_neg (show ¬ (17 : Int32) = 0 by decide), if_neg (show ¬ (17 : Int32) = 1 by decide), if_neg (show ¬ (17 : Int32) = 2 by decide), if_neg (show ¬ (17 : Int32) = 3 by decide), if_neg (show ¬ (17 : Int32) = 4 by decide), if_neg (show ¬ (17 : Int32) = 5 by decide), if_neg (show ¬ (17 : Int32) = 6 by decide), if_neg (show ¬ (17 : Int32) = 7 by decide), if_neg (show ¬ (17 : Int32) = 8 by decide), if_neg (show ¬ (17 : Int32) = 9 by decide), if_neg (show ¬ (17 : Int32) = 10 by decide), if_neg (show ¬ (17 : Int32) = 11 by decide), if_neg (show ¬ (17 : Int32) = 12 by decide), if_neg (show ¬ (17 : Int32) = 13 by decide), if_neg (show ¬ (17 : Int32) = 14 by decide), if_neg (show ¬ (17 : Int32) = 15 by decide), if_neg (show ¬ (17 : Int32) = 16 by decide), if_pos (show (17 : Int32) = 17 from rfl)]
  rw [g1, g2, g3, e1', bd2s, g1, g2, g3, e2', bd2s, if_pos rfl]
  exact j_end
theorem l_order (hL : L ≤ 2560) (hi : i + 5 ≤ L) (ht : t + 200 < 1000000) (h : Rel B t I J) (hop : zs (nI i).toNatClampNeg &&& (31 : Int32) = 18) : ∃ I' J', Rel B (t + 100) I' J' ∧ ∀ k, L_law_B18 L zs B (B + 338) k I J (nI i) = k I' J' (nI (i + 5)) := by
  obtain ⟨A, hw, hc, hr, hJ⟩ := h
  obtain ⟨a, A', I1, I2, e1, e2, w1, w2, w3⟩ := s_order (v := (zs (nI i + 1).toNatClampNeg)) (p := (zs (nI i + 2).toNatClampNeg)) (k := (zs (nI i + 3).toNatClampNeg)) ht hw hc hr
  have e1' : f_X7_order I B (zs (nI i + 1).toNatClampNeg) (zs (nI i + 2).toNatClampNeg) (zs (nI i + 3).toNatClampNeg) = some (a, I1) := e1
  have e2' : f_X8_order I1 (B + 338) (zs (nI i + 1).toNatClampNeg) (zs (nI i + 2).toNatClampNeg) (zs (nI i + 3).toNatClampNeg) = some (a, I2) := e2
  have g1 : ∀ x : Option Int32, gd (vp_in (nI i + 1) L) x = x := gLaw (d := 1) hL (by omega)
  have g2 : ∀ x : Option Int32, gd (vp_in (nI i + 2) L) x = x := gLaw (d := 2) hL (by omega)
  have g3 : ∀ x : Option Int32, gd (vp_in (nI i + 3) L) x = x := gLaw (d := 3) hL (by omega)
  refine ⟨I2, J, ⟨A', w1, w2, w3, hJ⟩, fun k => ?_⟩
  unfold L_law_B18
  rw [if_neg (law_pre hL hi), gv (by omega) (by omega), hop, if_neg (show ¬ (18 : Int32) = 0 by decide), if_neg (show ¬ (18 : Int32) = 1 by decide), if_neg (show ¬ (18 : Int32) = 2 by decide), if_neg (show ¬ (18 : Int32) = 3 by decide), if_neg (show ¬ (18 : Int32) = 4 by decide), if_neg (show ¬ (18 : Int32) = 5 by decide), if_neg (show ¬ (18 : Int32) = 6 by decide), if_neg (show ¬ (18 : Int32) = 7 by decide), if_neg (show ¬ (18 : Int32) = 8 by decide), if_neg (show ¬ (18 : Int32) = 9 by decide), if_neg (show ¬ (18 : Int32) = 10 by decide), if_neg (show ¬ (18 : Int32) = 11 by decide), if_neg (show ¬ (18 : Int32) = 12 by decide), if_neg (show ¬ (18 : Int32) = 13 by decide), if_neg (show ¬ (18 : Int32) = 14 by decide), if_neg (show ¬ (18 : Int32) = 15 by decide), if_neg (show ¬ (18 : Int32) = 16 by decide), if_neg (show ¬ (18 : Int32) = 17 by decide), if_pos (show (18 : Int32) = 18 from rfl)]
  rw [g1, g2, g3, e1', bd2s, g1, g2, g3, e2', bd2s, if_pos rfl]
  exact j_end
theorem l_judge (hL : L ≤ 2560) (hi : i + 5 ≤ L) (ht : t + 200 < 1000000) (h : Rel B t I J) (hop : zs (nI i).toNatClampNeg &&& (31 : Int32) = 19) : ∃ I' J', Rel B (t + 100) I' J' ∧ ∀ k, L_law_B18 L zs B (B + 338) k I J (nI i) = k I' J' (nI (i + 5)) := by
  obtain ⟨A, hw, hc, hr, hJ⟩ := h
  obtain ⟨a, A', I1, I2, e1, e2, w1, w2, w3⟩ := s_judge (v := (zs (nI i + 1).toNatClampNeg)) (y := ((zs (nI i + 2).toNatClampNeg).toInt64 <<< (((32 : Int32)).toInt64 &&& 63) ||| ((zs (nI i + 3).toNatClampNeg).toInt64 &&& (4294967295 : Int64)))) ht hw hc hr
  have e1' : f_X7_judge I B (zs (nI i + 1).toNatClampNeg) ((zs (nI i + 2).toNatClampNeg).toInt64 <<< (((32 : Int32)).toInt64 &&& 63) ||| ((zs (nI i + 3).toNatClampNeg).toInt64 &&& (4294967295 : Int64))) = some (a, I1) := e1
  have e2' : f_X8_judge I1 (B + 338) (zs (nI i + 1).toNatClampNeg) ((zs (nI i + 2).toNatClampNeg).toInt64 <<< (((32 : Int32)).toInt64 &&& 63) ||| ((zs (nI i + 3).toNatClampNeg).toInt64 &&& (4294967295 : Int64))) = some (a, I2) := e2
  have g1 : ∀ x : Option Int32, gd (vp_in (nI i + 1) L) x = x := gLaw (d := 1) hL (by omega)
  have g2 : ∀ x : Option Int32, gd (vp_in (nI i + 2) L) x = x := gLaw (d := 2) hL (by omega)
  have g3 : ∀ x : Option Int32, gd (vp_in (nI i + 3) L) x = x := gLaw (d := 3) hL (by omega)
  refine ⟨I2, J, ⟨A', w1, w2, w3, hJ⟩, fun k => ?_⟩
  unfold L_law_B18
  rw [if_neg (law_pre hL hi), gv (by omega) (by omega), hop, if_neg (show ¬ (19 : Int32) = 0 by decide), if_neg (show ¬ (19 : Int32) = 1 by decide), if_neg (show ¬ (19 : Int32) = 2 by decide), if_neg (show ¬ (19 : Int32) = 3 by decide), if_neg (show ¬ (19 : Int32) = 4 by decide), if_neg (show ¬ (19 : Int32) = 5 by decide), if_neg (show ¬ (19 : Int32) = 6 by decide), if_neg (show ¬ (19 : Int32) = 7 by decide), if_neg (show ¬ (19 : Int32) = 8 by decide), if_neg (show ¬ (19 : Int32) = 9 by decide), if_neg (show ¬ (19 : Int32) = 10 by decide), if_neg (show ¬ (19 : Int32) = 11 by decide), if_neg (show ¬ (19 : Int32) = 12 by decide), if_neg (show ¬ (19 : Int32) = 13 by decide), if_neg (show ¬ (19 : Int32) = 14 by decide), if_neg (show ¬ (19 : Int32) = 15 by decide), if_neg (show ¬ (19 : Int32) = 16 by decide), if_neg (show ¬ (19 : Int32) = 17 by decide), if_neg (show ¬ (19 : Int32) = 18 by decide), if_pos (show (19 : Int32) = 19 from rfl)]
  rw [g1, g2, g3, e1', bd2s, g1, g2, g3, e2', bd2s, if_pos rfl]
  exact j_end
theorem l_see (hL : L ≤ 2560) (hi : i + 5 ≤ L) (ht : t + 200 < 1000000) (h : Rel B t I J) (hop : zs (nI i).toNatClampNeg &&& (31 : Int32) = 20) : ∃ I' J', Rel B (t + 100) I' J' ∧ ∀ k, L_law_B18 L zs B (B + 338) k I J (nI i) = k I' J' (nI (i + 5)) := by
  obtain ⟨A, hw, hc, hr, hJ⟩ := h
  obtain ⟨a, A', I1, I2, e1, e2, w1, w2, w3⟩ := s_see (v := (zs (nI i + 1).toNatClampNeg)) (p := (zs (nI i + 2).toNatClampNeg)) (k := (zs (nI i + 3).toNatClampNeg)) hw hc hr
  have e1' : f_X7_see I B (zs (nI i + 1).toNatClampNeg) (zs (nI i + 2).toNatClampNeg) (zs (nI i + 3).toNatClampNeg) = some (a, I1) := e1
  have e2' : f_X8_see I1 (B + 338) (zs (nI i + 1).toNatClampNeg) (zs (nI i + 2).toNatClampNeg) (zs (nI i + 3).toNatClampNeg) = some (a, I2) := e2
  have g1 : ∀ x : Option Int32, gd (vp_in (nI i + 1) L) x = x := gLaw (d := 1) hL (by omega)
  have g2 : ∀ x : Option Int32, gd (vp_in (nI i + 2) L) x = x := gLaw (d := 2) hL (by omega)
  have g3 : ∀ x : Option Int32, gd (vp_in (nI i + 3) L) x = x := gLaw (d := 3) hL (by omega)
  refine ⟨I2, J, ⟨A', w1, w2, w3, hJ⟩, fun k => ?_⟩
  unfold L_law_B18
  rw [if_neg (law_pre hL hi), gv (by omega) (by omega), hop, if_neg (show ¬ (20 : Int32) = 0 by decide), if_neg (show ¬ (20 : Int32) = 1 by decide), if_neg (show ¬ (20 : Int32) = 2 by decide), if_neg (show ¬ (20 : Int32) = 3 by decide), if_neg (show ¬ (20 : Int32) = 4 by decide), if_neg (show ¬ (20 : Int32) = 5 by decide), if_neg (show ¬ (20 : Int32) = 6 by decide), if_neg (show ¬ (20 : Int32) = 7 by decide), if_neg (show ¬ (20 : Int32) = 8 by decide), if_neg (show ¬ (20 : Int32) = 9 by decide), if_neg (show ¬ (20 : Int32) = 10 by decide), if_neg (show ¬ (20 : Int32) = 11 by decide), if_neg (show ¬ (20 : Int32) = 12 by decide), if_neg (show ¬ (20 : Int32) = 13 by decide), if_neg (show ¬ (20 : Int32) = 14 by decide), if_neg (show ¬ (20 : Int32) = 15 by decide), if_neg (show ¬ (20 : Int32) = 16 by decide), if_neg (show ¬ (20 : Int32) = 17 by decide), if_neg (show ¬ (20 : Int32) = 18 by decide), if_neg (show ¬ (20 : Int32) = 19 by decide), if_pos (show (20 : Int32) = 20 from rfl)]
  rw [g1, g2, g3, e1', bd2s, g1, g2, g3, e2', bd2s, if_pos rfl]
  exact j_end
theorem l_unsee (hL : L ≤ 2560) (hi : i + 5 ≤ L) (ht : t + 200 < 1000000) (h : Rel B t I J) (hop : zs (nI i).toNatClampNeg &&& (31 : Int32) = 21) : ∃ I' J', Rel B (t + 100) I' J' ∧ ∀ k, L_law_B18 L zs B (B + 338) k I J (nI i) = k I' J' (nI (i + 5)) := by
  obtain ⟨A, hw, hc, hr, hJ⟩ := h
  obtain ⟨a, A', I1, I2, e1, e2, w1, w2, w3⟩ := s_unsee  hw hc hr
  have e1' : f_X7_unsee I B  = some (a, I1) := e1
  have e2' : f_X8_unsee I1 (B + 338)  = some (a, I2) := e2
  refine ⟨I2, J, ⟨A', w1, w2, w3, hJ⟩, fun k => ?_⟩
  unfold L_law_B18
  rw [if_neg (law_pre hL hi), gv (by omega) (by omega), hop, if_neg (show ¬ (21 : Int32) = 0 by decide), if_neg (show ¬ (21 : Int32) = 1 by decide), if_neg (show ¬ (21 : Int32) = 2 by decide), if_neg (show ¬ (21 : Int32) = 3 by decide), if_neg (show ¬ (21 : Int32) = 4 by decide), if_neg (show ¬ (21 : Int32) = 5 by decide), if_neg (show ¬ (21 : Int32) = 6 by decide), if_neg (show ¬ (21 : Int32) = 7 by decide), if_neg (show ¬ (21 : Int32) = 8 by decide), if_neg (show ¬ (21 : Int32) = 9 by decide), if_neg (show ¬ (21 : Int32) = 10 by decide), if_neg (show ¬ (21 : Int32) = 11 by decide), if_neg (show ¬ (21 : Int32) = 12 by decide), if_neg (show ¬ (21 : Int32) = 13 by decide), if_neg (show ¬ (21 : Int32) = 14 by decide), if_neg (show ¬ (21 : Int32) = 15 by decide), if_neg (show ¬ (21 : Int32) = 16 by decide), if_neg (show ¬ (21 : Int32) = 17 by decide), if_neg (show ¬ (21 : Int32) = 18 by decide), if_neg (show ¬ (21 : Int32) = 19 by decide), if_neg (show ¬ (21 : Int32) = 20 by decide), if_pos (show (21 : Int32) = 21 from rfl)]
  rw [e1', bd2s, e2', bd2s, if_pos rfl]
  exact j_end
theorem l_which (hL : L ≤ 2560) (hi : i + 5 ≤ L) (ht : t + 200 < 1000000) (h : Rel B t I J) (hop : zs (nI i).toNatClampNeg &&& (31 : Int32) = 22) : ∃ I' J', Rel B (t + 100) I' J' ∧ ∀ k, L_law_B18 L zs B (B + 338) k I J (nI i) = k I' J' (nI (i + 5)) := by
  obtain ⟨A, hw, hc, hr, hJ⟩ := h
  obtain ⟨a, A', I2, e1, e2, w1, w2, w3⟩ := s_which  hw hc hr
  have e1' : f_X7_which I B  = some a := e1
  have e2' : f_X8_which I (B + 338)  = some (a, I2) := e2
  refine ⟨I2, J, ⟨A', w1, w2, w3, hJ⟩, fun k => ?_⟩
  unfold L_law_B18
  rw [if_neg (law_pre hL hi), gv (by omega) (by omega), hop, if_neg (show ¬ (22 : Int32) = 0 by decide), if_neg (show ¬ (22 : Int32) = 1 by decide), if_neg (show ¬ (22 : Int32) = 2 by decide), if_neg (show ¬ (22 : Int32) = 3 by decide), if_neg (show ¬ (22 : Int32) = 4 by decide), if_neg (show ¬ (22 : Int32) = 5 by decide), if_neg (show ¬ (22 : Int32) = 6 by decide), if_neg (show ¬ (22 : Int32) = 7 by decide), if_neg (show ¬ (22 : Int32) = 8 by decide), if_neg (show ¬ (22 : Int32) = 9 by decide), if_neg (show ¬ (22 : Int32) = 10 by decide), if_neg (show ¬ (22 : Int32) = 11 by decide), if_neg (show ¬ (22 : Int32) = 12 by decide), if_neg (show ¬ (22 : Int32) = 13 by decide), if_neg (show ¬ (22 : Int32) = 14 by decide), if_neg (show ¬ (22 : Int32) = 15 by decide), if_neg (show ¬ (22 : Int32) = 16 by decide), if_neg (show ¬ (22 : Int32) = 17 by decide), if_neg (show ¬ (22 : Int32) = 18 by decide), if_neg (show ¬ (22 : Int32) = 19 by decide), if_neg (show ¬ (22 : Int32) = 20 by decide), if_neg (show ¬ (22 : Int32) = 21 by decide), if_pos (show (22 : Int32) = 22 from rfl)]
  rw [e1', bd1s, e2', bd2s, if_pos rfl]
  exact j_end
theorem l_keep (hL : L ≤ 2560) (hi : i + 5 ≤ L) (ht : t + 200 < 1000000) (h : Rel B t I J) (hop : zs (nI i).toNatClampNeg &&& (31 : Int32) = 27) : ∃ I' J', Rel B (t + 100) I' J' ∧ ∀ k, L_law_B18 L zs B (B + 338) k I J (nI i) = k I' J' (nI (i + 5)) := by
  obtain ⟨A, hw, hc, hr, hJ⟩ := h
  obtain ⟨a, A', I1, I2, e1, e2, w1, w2, w3⟩ := s_keep (v := (zs (nI i + 1).toNatClampNeg)) hw hc hr
  have e1' : f_X7_keep I B (zs (nI i + 1).toNatClampNeg) = some (a, I1) := e1
  have e2' : f_X8_keep I1 (B + 338) (zs (nI i + 1).toNatClampNeg) = some (a, I2) := e2
  have g1 : ∀ x : Option Int32, gd (vp_in (nI i + 1) L) x = x := gLaw (d := 1) hL (by omega)
  refine ⟨I2, J, ⟨A', w1, w2, w3, hJ⟩, fun k => ?_⟩
  unfold L_law_B18
  rw [if_neg (law_pre hL hi), gv (by omega) (by omega), hop, if_neg (show ¬ (27 : Int32) = 0 by decide), if_neg (show ¬ (27 : Int32) = 1 by decide), if_neg (show ¬ (27 : Int32) = 2 by decide), if_neg (show ¬ (27 : Int32) = 3 by decide), if_neg (show ¬ (27 : Int32) = 4 by decide), if_neg (show ¬ (27 : Int32) = 5 by decide), if_neg (show ¬ (27 : Int32) = 6 by decide), if_neg (show ¬ (27 : Int32) = 7 by decide), if_neg (show ¬ (27 : Int32) = 8 by decide), if_neg (show ¬ (27 : Int32) = 9 by decide), if_neg (show ¬ (27 : Int32) = 10 by decide), if_neg (show ¬ (27 : Int32) = 11 by decide), if_neg (show ¬ (27 : Int32) = 12 by decide), if_neg (show ¬ (27 : Int32) = 13 by decide), if_neg (show ¬ (27 : Int32) = 14 by decide), if_neg (show ¬ (27 : Int32) = 15 by decide), if_neg (show ¬ (27 : Int32) = 16 by decide), if_neg (show ¬ (27 : Int32) = 17 by decide), if_neg (show ¬ (27 : Int32) = 18 by decide), if_neg (show ¬ (27 : Int32) = 19 by decide), if_neg (show ¬ (27 : Int32) = 20 by decide), if_neg (show ¬ (27 : Int32) = 21 by decide), if_neg (show ¬ (27 : Int32) = 22 by decide), if_neg (show ¬ (27 : Int32) = 23 by decide), if_neg (show ¬ (27 : Int32) = 24 by decide), if_neg (show ¬ (27 : Int32) = 25 by decide), if_neg (show ¬ (27 : Int32) = 26 by decide), if_pos (show (27 : Int32) = 27 from rfl)]
  rw [g1, e1', bd2s, g1, e2', bd2s, if_pos rfl]
  exact j_end
theorem l_again (hL : L ≤ 2560) (hi : i + 5 ≤ L) (ht : t + 200 < 1000000) (h : Rel B t I J) (hop : zs (nI i).toNatClampNeg &&& (31 : Int32) = 28) : ∃ I' J', Rel B (t + 100) I' J' ∧ ∀ k, L_law_B18 L zs B (B + 338) k I J (nI i) = k I' J' (nI (i + 5)) := by
  obtain ⟨A, hw, hc, hr, hJ⟩ := h
  obtain ⟨a, A', I1, I2, e1, e2, w1, w2, w3⟩ := s_again (v := (zs (nI i + 1).toNatClampNeg)) hw hc hr
  have e1' : f_X7_again I B (zs (nI i + 1).toNatClampNeg) = some (a, I1) := e1
  have e2' : f_X8_again I1 (B + 338) (zs (nI i + 1).toNatClampNeg) = some (a, I2) := e2
  have g1 : ∀ x : Option Int32, gd (vp_in (nI i + 1) L) x = x := gLaw (d := 1) hL (by omega)
  refine ⟨I2, J, ⟨A', w1, w2, w3, hJ⟩, fun k => ?_⟩
  unfold L_law_B18
  rw [if_neg (law_pre hL hi), gv (by omega) (by omega), hop, if_neg (show ¬ (28 : Int32) = 0 by decide), if_neg (show ¬ (28 : Int32) = 1 by decide), if_neg (show ¬ (28 : Int32) = 2 by decide), if_neg (show ¬ (28 : Int32) = 3 by decide), if_neg (show ¬ (28 : Int32) = 4 by decide), if_neg (show ¬ (28 : Int32) = 5 by decide), if_neg (show ¬ (28 : Int32) = 6 by decide), if_neg (show ¬ (28 : Int32) = 7 by decide), if_neg (show ¬ (28 : Int32) = 8 by decide), if_neg (show ¬ (28 : Int32) = 9 by decide), if_neg (show ¬ (28 : Int32) = 10 by decide), if_neg (show ¬ (28 : Int32) = 11 by decide), if_neg (show ¬ (28 : Int32) = 12 by decide), if_neg (show ¬ (28 : Int32) = 13 by decide), if_neg (show ¬ (28 : Int32) = 14 by decide), if_neg (show ¬ (28 : Int32) = 15 by decide), if_neg (show ¬ (28 : Int32) = 16 by decide), if_neg (show ¬ (28 : Int32) = 17 by decide), if_neg (show ¬ (28 : Int32) = 18 by decide), if_neg (show ¬ (28 : Int32) = 19 by decide), if_neg (show ¬ (28 : Int32) = 20 by decide), if_neg (show ¬ (28 : Int32) = 21 by decide), if_neg (show ¬ (28 : Int32) = 22 by decide), if_neg (show ¬ (28 : Int32) = 23 by decide), if_neg (show ¬ (28 : Int32) = 24 by decide), if_neg (show ¬ (28 : Int32) = 25 by decide), if_neg (show ¬ (28 : Int32) = 26 by decide), if_neg (show ¬ (28 : Int32) = 27 by decide), if_pos (show (28 : Int32) = 28 from rfl)]
  rw [g1, e1', bd2s, g1, e2', bd2s, if_pos rfl]
  exact j_end
theorem l_count (hL : L ≤ 2560) (hi : i + 5 ≤ L) (ht : t + 200 < 1000000) (h : Rel B t I J) (hop : zs (nI i).toNatClampNeg &&& (31 : Int32) = 29) : ∃ I' J', Rel B (t + 100) I' J' ∧ ∀ k, L_law_B18 L zs B (B + 338) k I J (nI i) = k I' J' (nI (i + 5)) := by
  obtain ⟨A, hw, hc, hr, hJ⟩ := h
  obtain ⟨a, A', I2, e1, e2, w1, w2, w3⟩ := s_count (v := (zs (nI i + 1).toNatClampNeg)) hw hc hr
  have e1' : f_X7_count I B (zs (nI i + 1).toNatClampNeg) = some a := e1
  have e2' : f_X8_count I (B + 338) (zs (nI i + 1).toNatClampNeg) = some (a, I2) := e2
  have g1 : ∀ x : Option Int32, gd (vp_in (nI i + 1) L) x = x := gLaw (d := 1) hL (by omega)
  refine ⟨I2, J, ⟨A', w1, w2, w3, hJ⟩, fun k => ?_⟩
  unfold L_law_B18
  rw [if_neg (law_pre hL hi), gv (by omega) (by omega), hop, if_neg (show ¬ (29 : Int32) = 0 by decide), if_neg (show ¬ (29 : Int32) = 1 by decide), if_neg (show ¬ (29 : Int32) = 2 by decide), if_neg (show ¬ (29 : Int32) = 3 by decide), if_neg (show ¬ (29 : Int32) = 4 by decide), if_neg (show ¬ (29 : Int32) = 5 by decide), if_neg (show ¬ (29 : Int32) = 6 by decide), if_neg (show ¬ (29 : Int32) = 7 by decide), if_neg (show ¬ (29 : Int32) = 8 by decide), if_neg (show ¬ (29 : Int32) = 9 by decide), if_neg (show ¬ (29 : Int32) = 10 by decide), if_neg (show ¬ (29 : Int32) = 11 by decide), if_neg (show ¬ (29 : Int32) = 12 by decide), if_neg (show ¬ (29 : Int32) = 13 by decide), if_neg (show ¬ (29 : Int32) = 14 by decide), if_neg (show ¬ (29 : Int32) = 15 by decide), if_neg (show ¬ (29 : Int32) = 16 by decide), if_neg (show ¬ (29 : Int32) = 17 by decide), if_neg (show ¬ (29 : Int32) = 18 by decide), if_neg (show ¬ (29 : Int32) = 19 by decide), if_neg (show ¬ (29 : Int32) = 20 by decide), if_neg (show ¬ (29 : Int32) = 21 by decide), if_neg (show ¬ (29 : Int32) = 22 by decide), if_neg (show ¬ (29 : Int32) = 23 by decide), if_neg (show ¬ (29 : Int32) = 24 by decide), if_neg (show ¬ (29 : Int32) = 25 by decide), if_neg (show ¬ (29 : Int32) = 26 by decide), if_neg (show ¬ (29 : Int32) = 27 by decide), if_neg (show ¬ (29 : Int32) = 28 by decide), if_pos (show (29 : Int32) = 29 from rfl)]
  rw [g1, e1', bd1s, g1, e2', bd2s, if_pos rfl]
  exact j_end
theorem l_says (hL : L ≤ 2560) (hi : i + 5 ≤ L) (ht : t + 200 < 1000000) (h : Rel B t I J) (hop : zs (nI i).toNatClampNeg &&& (31 : Int32) = 8) : ∃ I' J', Rel B (t + 100) I' J' ∧ ∀ k, L_law_B18 L zs B (B + 338) k I J (nI i) = k I' J' (nI (i + 5)) := by
  obtain ⟨A, hw, hc, hr, hJ⟩ := h
  have g1 : ∀ x : Option Int32, gd (vp_in (nI i + 1) L) x = x := gLaw (d := 1) hL (by omega)
  have g2 : ∀ x : Option Int32, gd (vp_in (nI i + 2) L) x = x := gLaw (d := 2) hL (by omega)
  have g3 : ∀ x : Option Int32, gd (vp_in (nI i + 3) L) x = x := gLaw (d := 3) hL (by omega)
  have main : ∀ c : Int32, ∃ I2, Rel B (t + 100) I2 J ∧ ∃ a, f_X7_says I B (zs (nI i + 1).toNatClampNeg) (zs (nI i + 2).toNatClampNeg) c = some a ∧ f_X8_says I (B + 338) (zs (nI i + 1).toNatClampNeg) (zs (nI i + 2).toNatClampNeg) c = some (a, I2) := by
    intro c
    obtain ⟨a, A', I2, e1, e2, w1, w2, w3⟩ := s_says (v := (zs (nI i + 1).toNatClampNeg)) (p := (zs (nI i + 2).toNatClampNeg)) (k := c) hw hc hr
    exact ⟨I2, ⟨A', w1, w2, w3, hJ⟩, a, e1, e2⟩
  by_cases hb : (zs (nI i + 3).toNatClampNeg) = 0
  · obtain ⟨I2, r, a, e1, e2⟩ := main 0
    refine ⟨I2, J, r, fun k => ?_⟩
    unfold L_law_B18
    rw [if_neg (law_pre hL hi), gv (by omega) (by omega), hop, if_neg (show ¬ (8 : Int32) = 0 by decide), if_neg (show ¬ (8 : Int32) = 1 by decide), if_neg (show ¬ (8 : Int32) = 2 by decide), if_neg (show ¬ (8 : Int32) = 3 by decide), if_neg (show ¬ (8 : Int32) = 4 by decide), if_neg (show ¬ (8 : Int32) = 5 by decide), if_neg (show ¬ (8 : Int32) = 6 by decide), if_neg (show ¬ (8 : Int32) = 7 by decide), if_pos (show (8 : Int32) = 8 from rfl)]
    rw [g1, g2, g3, if_pos hb]
    unfold L_law_J396 L_law_J423
    rw [e1, bd1s, g1, g2, g3, if_pos hb, e2, bd2s, if_pos rfl]
    exact j_end
  · obtain ⟨I2, r, a, e1, e2⟩ := main 1
    refine ⟨I2, J, r, fun k => ?_⟩
    unfold L_law_B18
    rw [if_neg (law_pre hL hi), gv (by omega) (by omega), hop, if_neg (show ¬ (8 : Int32) = 0 by decide), if_neg (show ¬ (8 : Int32) = 1 by decide), if_neg (show ¬ (8 : Int32) = 2 by decide), if_neg (show ¬ (8 : Int32) = 3 by decide), if_neg (show ¬ (8 : Int32) = 4 by decide), if_neg (show ¬ (8 : Int32) = 5 by decide), if_neg (show ¬ (8 : Int32) = 6 by decide), if_neg (show ¬ (8 : Int32) = 7 by decide), if_pos (show (8 : Int32) = 8 from rfl)]
    rw [g1, g2, g3, if_neg hb]
    unfold L_law_J396 L_law_J423
    rw [e1, bd1s, g1, g2, g3, if_neg hb, e2, bd2s, if_pos rfl]
    exact j_end
theorem l_share (hL : L ≤ 2560) (hi : i + 5 ≤ L) (ht : t + 200 < 1000000) (h : Rel B t I J) (hop : zs (nI i).toNatClampNeg &&& (31 : Int32) = 23) : ∃ I' J', Rel B (t + 100) I' J' ∧ ∀ k, L_law_B18 L zs B (B + 338) k I J (nI i) = k I' J' (nI (i + 5)) := by
  obtain ⟨A, hw, hc, hr, hJ⟩ := h
  have g1 : ∀ x : Option Int32, gd (vp_in (nI i + 1) L) x = x := gLaw (d := 1) hL (by omega)
  have g2 : ∀ x : Option Int32, gd (vp_in (nI i + 2) L) x = x := gLaw (d := 2) hL (by omega)
  have main : ∀ c : Int32, ∃ I2, Rel B (t + 100) I2 J ∧ ∃ a, f_X7_share I B (zs (nI i + 1).toNatClampNeg) c = some a ∧ f_X8_share I (B + 338) (zs (nI i + 1).toNatClampNeg) c = some (a, I2) := by
    intro c
    obtain ⟨a, A', I2, e1, e2, w1, w2, w3⟩ := s_share (v := (zs (nI i + 1).toNatClampNeg)) (p := c) hw hc hr
    exact ⟨I2, ⟨A', w1, w2, w3, hJ⟩, a, e1, e2⟩
  by_cases hb : (zs (nI i + 2).toNatClampNeg) = 0
  · obtain ⟨I2, r, a, e1, e2⟩ := main 0
    refine ⟨I2, J, r, fun k => ?_⟩
    unfold L_law_B18
    rw [if_neg (law_pre hL hi), gv (by omega) (by omega), hop, if_neg (show ¬ (23 : Int32) = 0 by decide), if_neg (show ¬ (23 : Int32) = 1 by decide), if_neg (show ¬ (23 : Int32) = 2 by decide), if_neg (show ¬ (23 : Int32) = 3 by decide), if_neg (show ¬ (23 : Int32) = 4 by decide), if_neg (show ¬ (23 : Int32) = 5 by decide), if_neg (show ¬ (23 : Int32) = 6 by decide), if_neg (show ¬ (23 : Int32) = 7 by decide), if_neg (show ¬ (23 : Int32) = 8 by decide), if_neg (show ¬ (23 : Int32) = 9 by decide), if_neg (show ¬ (23 : Int32) = 10 by decide), if_neg (show ¬ (23 : Int32) = 11 by decide), if_neg (show ¬ (23 : Int32) = 12 by decide), if_neg (show ¬ (23 : Int32) = 13 by decide), if_neg (show ¬ (23 : Int32) = 14 by decide), if_neg (show ¬ (23 : Int32) = 15 by decide), if_neg (show ¬ (23 : Int32) = 16 by decide), if_neg (show ¬ (23 : Int32) = 17 by decide), if_neg (show ¬ (23 : Int32) = 18 by decide), if_neg (show ¬ (23 : Int32) = 19 by decide), if_neg (show ¬ (23 : Int32) = 20 by decide), if_neg (show ¬ (23 : Int32) = 21 by decide), if_neg (show ¬ (23 : Int32) = 22 by decide), if_pos (show (23 : Int32) = 23 from rfl)]
    rw [g1, g2, if_pos hb]
    unfold L_law_J882 L_law_J904
    rw [e1, bd1s, g1, g2, if_pos hb, e2, bd2s, if_pos rfl]
    exact j_end
  · obtain ⟨I2, r, a, e1, e2⟩ := main 1
    refine ⟨I2, J, r, fun k => ?_⟩
    unfold L_law_B18
    rw [if_neg (law_pre hL hi), gv (by omega) (by omega), hop, if_neg (show ¬ (23 : Int32) = 0 by decide), if_neg (show ¬ (23 : Int32) = 1 by decide), if_neg (show ¬ (23 : Int32) = 2 by decide), if_neg (show ¬ (23 : Int32) = 3 by decide), if_neg (show ¬ (23 : Int32) = 4 by decide), if_neg (show ¬ (23 : Int32) = 5 by decide), if_neg (show ¬ (23 : Int32) = 6 by decide), if_neg (show ¬ (23 : Int32) = 7 by decide), if_neg (show ¬ (23 : Int32) = 8 by decide), if_neg (show ¬ (23 : Int32) = 9 by decide), if_neg (show ¬ (23 : Int32) = 10 by decide), if_neg (show ¬ (23 : Int32) = 11 by decide), if_neg (show ¬ (23 : Int32) = 12 by decide), if_neg (show ¬ (23 : Int32) = 13 by decide), if_neg (show ¬ (23 : Int32) = 14 by decide), if_neg (show ¬ (23 : Int32) = 15 by decide), if_neg (show ¬ (23 : Int32) = 16 by decide), if_neg (show ¬ (23 : Int32) = 17 by decide), if_neg (show ¬ (23 : Int32) = 18 by decide), if_neg (show ¬ (23 : Int32) = 19 by decide), if_neg (show ¬ (23 : Int32) = 20 by decide), if_neg (show ¬ (23 : Int32) = 21 by decide), if_neg (show ¬ (23 : Int32) = 22 by decide), if_pos (show (23 : Int32) = 23 from rfl)]
    rw [g1, g2, if_neg hb]
    unfold L_law_J882 L_law_J904
    rw [e1, bd1s, g1, g2, if_neg hb, e2, bd2s, if_pos rfl]
    exact j_end
theorem l_lost (hL : L ≤ 2560) (hi : i + 5 ≤ L) (ht : t + 200 < 1000000) (h : Rel B t I J) (hop : zs (nI i).toNatClampNeg &&& (31 : Int32) = 24) : ∃ I' J', Rel B (t + 100) I' J' ∧ ∀ k, L_law_B18 L zs B (B + 338) k I J (nI i) = k I' J' (nI (i + 5)) := by
  obtain ⟨A, hw, hc, hr, hJ⟩ := h
  have g1 : ∀ x : Option Int32, gd (vp_in (nI i + 1) L) x = x := gLaw (d := 1) hL (by omega)
  have g2 : ∀ x : Option Int32, gd (vp_in (nI i + 2) L) x = x := gLaw (d := 2) hL (by omega)
  have g3 : ∀ x : Option Int32, gd (vp_in (nI i + 3) L) x = x := gLaw (d := 3) hL (by omega)
  have g4 : ∀ x : Option Int32, gd (vp_in (nI i + 4) L) x = x := gLaw (d := 4) hL (by omega)
  have main : ∀ c : Int32, ∃ I2, Rel B (t + 100) I2 J ∧ ∃ a, f_X7_lost I B (zs (nI i + 1).toNatClampNeg) (zs (nI i + 2).toNatClampNeg) (zs (nI i + 3).toNatClampNeg) c = some a ∧ f_X8_lost I (B + 338) (zs (nI i + 1).toNatClampNeg) (zs (nI i + 2).toNatClampNeg) (zs (nI i + 3).toNatClampNeg) c = some (a, I2) := by
    intro c
    obtain ⟨a, A', I2, e1, e2, w1, w2, w3⟩ := s_lost (v := (zs (nI i + 1).toNatClampNeg)) (p := (zs (nI i + 2).toNatClampNeg)) (k := (zs (nI i + 3).toNatClampNeg)) (u := c) ht hw hc hr
    exact ⟨I2, ⟨A', w1, w2, w3, hJ⟩, a, e1, e2⟩
  by_cases hb : (zs (nI i + 4).toNatClampNeg) = 0
  · obtain ⟨I2, r, a, e1, e2⟩ := main 0
    refine ⟨I2, J, r, fun k => ?_⟩
    unfold L_law_B18
    rw [if_neg (law_pre hL hi), gv (by omega) (by omega), hop, if_neg (show ¬ (24 : Int32) = 0 by decide), if_neg (show ¬ (24 : Int32) = 1 by decide), if_neg (show ¬ (24 : Int32) = 2 by decide), if_neg (show ¬ (24 : Int32) = 3 by decide), if_neg (show ¬ (24 : Int32) = 4 by decide), if_neg (show ¬ (24 : Int32) = 5 by decide), if_neg (show ¬ (24 : Int32) = 6 by decide), if_neg (show ¬ (24 : Int32) = 7 by decide), if_neg (show ¬ (24 : Int32) = 8 by decide), if_neg (show ¬ (24 : Int32) = 9 by decide), if_neg (show ¬ (24 : Int32) = 10 by decide), if_neg (show ¬ (24 : Int32) = 11 by decide), if_neg (show ¬ (24 : Int32) = 12 by decide), if_neg (show ¬ (24 : Int32) = 13 by decide), if_neg (show ¬ (24 : Int32) = 14 by decide), if_neg (show ¬ (24 : Int32) = 15 by decide), if_neg (show ¬ (24 : Int32) = 16 by decide), if_neg (show ¬ (24 : Int32) = 17 by decide), if_neg (show ¬ (24 : Int32) = 18 by decide), if_neg (show ¬ (24 : Int32) = 19 by decide), if_neg (show ¬ (24 : Int32) = 20 by decide), if_neg (show ¬ (24 : Int32) = 21 by decide), if_neg (show ¬ (24 : Int32) = 22 by decide), if_neg (show ¬ (24 : Int32) = 23 by decide), if_pos (show (24 : Int32) = 24 from rfl)]
    rw [g1, g2, g3, g4, if_pos hb]
    unfold L_law_J941 L_law_J973
    rw [e1, bd1s, g1, g2, g3, g4, if_pos hb, e2, bd2s, if_pos rfl]
    exact j_end
  · obtain ⟨I2, r, a, e1, e2⟩ := main 1
    refine ⟨I2, J, r, fun k => ?_⟩
    unfold L_law_B18
    rw [if_neg (law_pre hL hi), gv (by omega) (by omega), hop, if_neg (show ¬ (24 : Int32) = 0 by decide), if_neg (show ¬ (24 : Int32) = 1 by decide), if_neg (show ¬ (24 : Int32) = 2 by decide), if_neg (show ¬ (24 : Int32) = 3 by decide), if_neg (show ¬ (24 : Int32) = 4 by decide), if_neg (show ¬ (24 : Int32) = 5 by decide), if_neg (show ¬ (24 : Int32) = 6 by decide), if_neg (show ¬ (24 : Int32) = 7 by decide), if_neg (show ¬ (24 : Int32) = 8 by decide), if_neg (show ¬ (24 : Int32) = 9 by decide), if_neg (show ¬ (24 : Int32) = 10 by decide), if_neg (show ¬ (24 : Int32) = 11 by decide), if_neg (show ¬ (24 : Int32) = 12 by decide), if_neg (show ¬ (24 : Int32) = 13 by decide), if_neg (show ¬ (24 : Int32) = 14 by decide), if_neg (show ¬ (24 : Int32) = 15 by decide), if_neg (show ¬ (24 : Int32) = 16 by decide), if_neg (show ¬ (24 : Int32) = 17 by decide), if_neg (show ¬ (24 : Int32) = 18 by decide), if_neg (show ¬ (24 : Int32) = 19 by decide), if_neg (show ¬ (24 : Int32) = 20 by decide), if_neg (show ¬ (24 : Int32) = 21 by decide), if_neg (show ¬ (24 : Int32) = 22 by decide), if_neg (show ¬ (24 : Int32) = 23 by decide), if_pos (show (24 : Int32) = 24 from rfl)]
    rw [g1, g2, g3, g4, if_neg hb]
    unfold L_law_J941 L_law_J973
    rw [e1, bd1s, g1, g2, g3, g4, if_neg hb, e2, bd2s, if_pos rfl]
    exact j_end
theorem l_seed (hL : L ≤ 2560) (hi : i + 5 ≤ L) (ht : t + 200 < 1000000) (h : Rel B t I J) (hop : zs (nI i).toNatClampNeg &&& (31 : Int32) = 25) : ∃ I' J', Rel B (t + 100) I' J' ∧ ∀ k, L_law_B18 L zs B (B + 338) k I J (nI i) = k I' J' (nI (i + 5)) := by
  obtain ⟨A, hw, hc, hr, hJ⟩ := h
  have g1 : ∀ x : Option Int32, gd (vp_in (nI i + 1) L) x = x := gLaw (d := 1) hL (by omega)
  have g2 : ∀ x : Option Int32, gd (vp_in (nI i + 2) L) x = x := gLaw (d := 2) hL (by omega)
  refine ⟨sI I (B + 338) 0 0, sJ (sJ J B ((zs (nI i + 1).toNatClampNeg).toInt64 <<< (((32 : Int32)).toInt64 &&& 63) ||| ((zs (nI i + 2).toNatClampNeg).toInt64 &&& (4294967295 : Int64)))) (B + 338) ((zs (nI i + 1).toNatClampNeg).toInt64 <<< (((32 : Int32)).toInt64 &&& 63) ||| ((zs (nI i + 2).toNatClampNeg).toInt64 &&& (4294967295 : Int64))), ⟨A, hw.up, hc.low hw.1 fun z hz => sI_ne (by omega), hr.z, by rw [sJ_ne (by omega), sJ_eq, sJ_eq]⟩, fun k => ?_⟩
  unfold L_law_B18
  rw [if_neg (law_pre hL hi), gv (by omega) (by omega), hop, if_neg (show ¬ (25 : Int32) = 0 by decide), if_neg (show ¬ (25 : Int32) = 1 by decide), if_neg (show ¬ (25 : Int32) = 2 by decide), if_neg (show ¬ (25 : Int32) = 3 by decide), if_neg (show ¬ (25 : Int32) = 4 by decide), if_neg (show ¬ (25 : Int32) = 5 by decide), if_neg (show ¬ (25 : Int32) = 6 by decide), if_neg (show ¬ (25 : Int32) = 7 by decide), if_neg (show ¬ (25 : Int32) = 8 by decide), if_neg (show ¬ (25 : Int32) = 9 by decide), if_neg (show ¬ (25 : Int32) = 10 by decide), if_neg (show ¬ (25 : Int32) = 11 by decide), if_neg (show ¬ (25 : Int32) = 12 by decide), if_neg (show ¬ (25 : Int32) = 13 by decide), if_neg (show ¬ (25 : Int32) = 14 by decide), if_neg (show ¬ (25 : Int32) = 15 by decide), if_neg (show ¬ (25 : Int32) = 16 by decide), if_neg (show ¬ (25 : Int32) = 17 by decide), if_neg (show ¬ (25 : Int32) = 18 by decide), if_neg (show ¬ (25 : Int32) = 19 by decide), if_neg (show ¬ (25 : Int32) = 20 by decide), if_neg (show ¬ (25 : Int32) = 21 by decide), if_neg (show ¬ (25 : Int32) = 22 by decide), if_neg (show ¬ (25 : Int32) = 23 by decide), if_neg (show ¬ (25 : Int32) = 24 by decide), if_pos (show (25 : Int32) = 25 from rfl)]
  rw [g1, g2, x7_seed, bd2s, g1, g2, r8_seed, bd3s, sJ_ne (show B + 338 ≠ B by omega), hJ, if_pos ((lg_cmp_eq _ _).mpr rfl)]
  exact j_end
theorem l_drawn (hL : L ≤ 2560) (hi : i + 5 ≤ L) (ht : t + 200 < 1000000) (h : Rel B t I J) (hop : zs (nI i).toNatClampNeg &&& (31 : Int32) = 26) : ∃ I' J', Rel B (t + 100) I' J' ∧ ∀ k, L_law_B18 L zs B (B + 338) k I J (nI i) = k I' J' (nI (i + 5)) := by
  obtain ⟨A, hw, hc, hr, hJ⟩ := h
  have g1 : ∀ x : Option Int32, gd (vp_in (nI i + 1) L) x = x := gLaw (d := 1) hL (by omega)
  obtain ⟨I1, a1, a2⟩ := x7_drawn (J := J) (k := (zs (nI i + 1).toNatClampNeg)) hw.1 (by omega) hc.1 hw.2.1
  have hr1 := hr.high (I' := I1) fun z hz => a1 z (by omega)
  obtain ⟨r, b⟩ := r8_drawn (J := sJ J B (aDrawn (aC A) (zs (nI i + 1).toNatClampNeg) (J B) (aS A)).2) (k := (zs (nI i + 1).toNatClampNeg)) hw.1 (by omega) hr1.1 hw.2.1
  rw [sJ_ne (show B + 338 ≠ B by omega), ← hJ] at b
  refine ⟨_, sJ (sJ J B (aDrawn (aC A) (zs (nI i + 1).toNatClampNeg) (J B) (aS A)).2) (B + 338) (aDrawn (aC A) (zs (nI i + 1).toNatClampNeg) (J B) (aS A)).2, ⟨A, hw.up, ((hc.t7 hw.1 (OffT7.of a1)).low (I' := rowS (sI I1 (B + 338) 0 0) (B + 338 + 10) r) hw.1 fun z hz => by rw [rowS_ne (by omega), sI_ne (by omega)]), hr1.z.tr r, ?_⟩, fun k => ?_⟩
  rotate_left 1
  · unfold L_law_B18
    rw [if_neg (law_pre hL hi), gv (by omega) (by omega), hop, if_neg (show ¬ (26 : Int32) = 0 by decide), if_neg (show ¬ (26 : Int32) = 1 by decide), if_neg (show ¬ (26 : Int32) = 2 by decide), if_neg (show ¬ (26 : Int32) = 3 by decide), if_neg (show ¬ (26 : Int32) = 4 by decide), if_neg (show ¬ (26 : Int32) = 5 by decide), if_neg (show ¬ (26 : Int32) = 6 by decide), if_neg (show ¬ (26 : Int32) = 7 by decide), if_neg (show ¬ (26 : Int32) = 8 by decide), if_neg (show ¬ (26 : Int32) = 9 by decide), if_neg (show ¬ (26 : Int32) = 10 by decide), if_neg (show ¬ (26 : Int32) = 11 by decide), if_neg (show ¬ (26 : Int32) = 12 by decide), if_neg (show ¬ (26 : Int32) = 13 by decide), if_neg (show ¬ (26 : Int32) = 14 by decide), if_neg (show ¬ (26 : Int32) = 15 by decide), if_neg (show ¬ (26 : Int32) = 16 by decide), if_neg (show ¬ (26 : Int32) = 17 by decide), if_neg (show ¬ (26 : Int32) = 18 by decide), if_neg (show ¬ (26 : Int32) = 19 by decide), if_neg (show ¬ (26 : Int32) = 20 by decide), if_neg (show ¬ (26 : Int32) = 21 by decide), if_neg (show ¬ (26 : Int32) = 22 by decide), if_neg (show ¬ (26 : Int32) = 23 by decide), if_neg (show ¬ (26 : Int32) = 24 by decide), if_neg (show ¬ (26 : Int32) = 25 by decide), if_pos (show (26 : Int32) = 26 from rfl)]
    rw [g1, a2, bd3s, g1, b, bd3s, if_pos rfl]
    exact j_end
  · rw [sJ_ne (by omega), sJ_eq, sJ_eq]
theorem l_none (hL : L ≤ 2560) (hi : i + 5 ≤ L) (h : Rel B t I J) (hop : ∀ j, j < 30 → ¬ zs (nI i).toNatClampNeg &&& (31 : Int32) = nI j) : ∃ I' J', Rel B (t + 100) I' J' ∧ ∀ k, L_law_B18 L zs B (B + 338) k I J (nI i) = k I' J' (nI (i + 5)) := by
  obtain ⟨A, hw, hc, hr, hJ⟩ := h
  refine ⟨I, J, ⟨A, hw.up, hc, hr, hJ⟩, fun k => ?_⟩
  unfold L_law_B18
  rw [if_neg (law_pre hL hi), gv (by omega) (by omega), if_neg (show ¬ zs (nI i).toNatClampNeg &&& (31 : Int32) = 0 from hop 0 (by omega)), if_neg (show ¬ zs (nI i).toNatClampNeg &&& (31 : Int32) = 1 from hop 1 (by omega)), if_neg (show ¬ zs (nI i).toNatClampNeg &&& (31 : Int32) = 2 from hop 2 (by omega)), if_neg (show ¬ zs (nI i).toNatClampNeg &&& (31 : Int32) = 3 from hop 3 (by omega)), if_neg (show ¬ zs (nI i).toNatClampNeg &&& (31 : Int32) = 4 from hop 4 (by omega)), if_neg (show ¬ zs (nI i).toNatClampNeg &&& (31 : Int32) = 5 from hop 5 (by omega)), if_neg (show ¬ zs (nI i).toNatClampNeg &&& (31 : Int32) = 6 from hop 6 (by omega)), if_neg (show ¬ zs (nI i).toNatClampNeg &&& (31 : Int32) = 7 from hop 7 (by omega)), if_neg (show ¬ zs (nI i).toNatClampNeg &&& (31 : Int32) = 8 from hop 8 (by omega)), if_neg (show ¬ zs (nI i).toNatClampNeg &&& (31 : Int32) = 9 from hop 9 (by omega)), if_neg (show ¬ zs (nI i).toNatClampNeg &&& (31 : Int32) = 10 from hop 10 (by omega)), if_neg (show ¬ zs (nI i).toNatClampNeg &&& (31 : Int32) = 11 from hop 11 (by omega)), if_neg (show ¬ zs (nI i).toNatClampNeg &&& (31 : Int32) = 12 from hop 12 (by omega)), if_neg (show ¬ zs (nI i).toNatClampNeg &&& (31 : Int32) = 13 from hop 13 (by omega)), if_neg (show ¬ zs (nI i).toNatClampNeg &&& (31 : Int32) = 14 from hop 14 (by omega)), if_neg (show ¬ zs (nI i).toNatClampNeg &&& (31 : Int32) = 15 from hop 15 (by omega)), if_neg (show ¬ zs (nI i).toNatClampNeg &&& (31 : Int32) = 16 from hop 16 (by omega)), if_neg (show ¬ zs (nI i).toNatClampNeg &&& (31 : Int32) = 17 from hop 17 (by omega)), if_neg (show ¬ zs (nI i).toNatClampNeg &&& (31 : Int32) = 18 from hop 18 (by omega)), if_neg (show ¬ zs (nI i).toNatClampNeg &&& (31 : Int32) = 19 from hop 19 (by omega)), if_neg (show ¬ zs (nI i).toNatClampNeg &&& (31 : Int32) = 20 from hop 20 (by omega)), if_neg (show ¬ zs (nI i).toNatClampNeg &&& (31 : Int32) = 21 from hop 21 (by omega)), if_neg (show ¬ zs (nI i).toNatClampNeg &&& (31 : Int32) = 22 from hop 22 (by omega)), if_neg (show ¬ zs (nI i).toNatClampNeg &&& (31 : Int32) = 23 from hop 23 (by omega)), if_neg (show ¬ zs (nI i).toNatClampNeg &&& (31 : Int32) = 24 from hop 24 (by omega)), if_neg (show ¬ zs (nI i).toNatClampNeg &&& (31 : Int32) = 25 from hop 25 (by omega)), if_neg (show ¬ zs (nI i).toNatClampNeg &&& (31 : Int32) = 26 from hop 26 (by omega)), if_neg (show ¬ zs (nI i).toNatClampNeg &&& (31 : Int32) = 27 from hop 27 (by omega)), if_neg (show ¬ zs (nI i).toNatClampNeg &&& (31 : Int32) = 28 from hop 28 (by omega)), if_neg (show ¬ zs (nI i).toNatClampNeg &&& (31 : Int32) = 29 from hop 29 (by omega))]
  exact j_end
theorem law_step (hL : L ≤ 2560) (hi : i + 5 ≤ L) (ht : t + 200 < 1000000) (h : Rel B t I J) : ∃ I' J', Rel B (t + 100) I' J' ∧ ∀ k, L_law_B18 L zs B (B + 338) k I J (nI i) = k I' J' (nI (i + 5)) := by
  by_cases h0 : zs (nI i).toNatClampNeg &&& (31 : Int32) = 0
  · exact l_write hL hi ht h h0
  by_cases h1 : zs (nI i).toNatClampNeg &&& (31 : Int32) = 1
  · exact l_wipe hL hi ht h h1
  by_cases h2 : zs (nI i).toNatClampNeg &&& (31 : Int32) = 2
  · exact l_fault hL hi ht h h2
  by_cases h3 : zs (nI i).toNatClampNeg &&& (31 : Int32) = 3
  · exact l_net hL hi ht h h3
  by_cases h4 : zs (nI i).toNatClampNeg &&& (31 : Int32) = 4
  · exact l_proxy hL hi ht h h4
  by_cases h5 : zs (nI i).toNatClampNeg &&& (31 : Int32) = 5
  · exact l_page hL hi ht h h5
  by_cases h6 : zs (nI i).toNatClampNeg &&& (31 : Int32) = 6
  · exact l_counter hL hi ht h h6
  by_cases h7 : zs (nI i).toNatClampNeg &&& (31 : Int32) = 7
  · exact l_hash hL hi ht h h7
  by_cases h8 : zs (nI i).toNatClampNeg &&& (31 : Int32) = 8
  · exact l_says hL hi ht h h8
  by_cases h9 : zs (nI i).toNatClampNeg &&& (31 : Int32) = 9
  · exact l_ask hL hi ht h h9
  by_cases h10 : zs (nI i).toNatClampNeg &&& (31 : Int32) = 10
  · exact l_drop hL hi ht h h10
  by_cases h11 : zs (nI i).toNatClampNeg &&& (31 : Int32) = 11
  · exact l_send hL hi ht h h11
  by_cases h12 : zs (nI i).toNatClampNeg &&& (31 : Int32) = 12
  · exact l_threshold hL hi ht h h12
  by_cases h13 : zs (nI i).toNatClampNeg &&& (31 : Int32) = 13
  · exact l_use hL hi ht h h13
  by_cases h14 : zs (nI i).toNatClampNeg &&& (31 : Int32) = 14
  · exact l_undo hL hi ht h h14
  by_cases h15 : zs (nI i).toNatClampNeg &&& (31 : Int32) = 15
  · exact l_weight hL hi ht h h15
  by_cases h16 : zs (nI i).toNatClampNeg &&& (31 : Int32) = 16
  · exact l_best hL hi ht h h16
  by_cases h17 : zs (nI i).toNatClampNeg &&& (31 : Int32) = 17
  · exact l_plan hL hi ht h h17
  by_cases h18 : zs (nI i).toNatClampNeg &&& (31 : Int32) = 18
  · exact l_order hL hi ht h h18
  by_cases h19 : zs (nI i).toNatClampNeg &&& (31 : Int32) = 19
  · exact l_judge hL hi ht h h19
  by_cases h20 : zs (nI i).toNatClampNeg &&& (31 : Int32) = 20
  · exact l_see hL hi ht h h20
  by_cases h21 : zs (nI i).toNatClampNeg &&& (31 : Int32) = 21
  · exact l_unsee hL hi ht h h21
  by_cases h22 : zs (nI i).toNatClampNeg &&& (31 : Int32) = 22
  · exact l_which hL hi ht h h22
  by_cases h23 : zs (nI i).toNatClampNeg &&& (31 : Int32) = 23
  · exact l_share hL hi ht h h23
  by_cases h24 : zs (nI i).toNatClampNeg &&& (31 : Int32) = 24
  · exact l_lost hL hi ht h h24
  by_cases h25 : zs (nI i).toNatClampNeg &&& (31 : Int32) = 25
  · exact l_seed hL hi ht h h25
  by_cases h26 : zs (nI i).toNatClampNeg &&& (31 : Int32) = 26
  · exact l_drawn hL hi ht h h26
  by_cases h27 : zs (nI i).toNatClampNeg &&& (31 : Int32) = 27
  · exact l_keep hL hi ht h h27
  by_cases h28 : zs (nI i).toNatClampNeg &&& (31 : Int32) = 28
  · exact l_again hL hi ht h h28
  by_cases h29 : zs (nI i).toNatClampNeg &&& (31 : Int32) = 29
  · exact l_count hL hi ht h h29
  refine l_none hL hi h fun j hj => ?_
  rcases (show j = 0 ∨ j = 1 ∨ j = 2 ∨ j = 3 ∨ j = 4 ∨ j = 5 ∨ j = 6 ∨ j = 7 ∨ j = 8 ∨ j = 9 ∨ j = 10 ∨ j = 11 ∨ j = 12 ∨ j = 13 ∨ j = 14 ∨ j = 15 ∨ j = 16 ∨ j = 17 ∨ j = 18 ∨ j = 19 ∨ j = 20 ∨ j = 21 ∨ j = 22 ∨ j = 23 ∨ j = 24 ∨ j = 25 ∨ j = 26 ∨ j = 27 ∨ j = 28 ∨ j = 29 by omega) with rfl | rfl | rfl | rfl | rfl | rfl | rfl | rfl | rfl | rfl | rfl | rfl | rfl | rfl | rfl | rfl | rfl | rfl | rfl | rfl | rfl | rfl | rfl | rfl | rfl | rfl | rfl | rfl | rfl | rfl
  · exact h0
  · exact h1
  · exact h2
  · exact h3
  · exact h4
  · exact h5
  · exact h6
  · exact h7
  · exact h8
  · exact h9
  · exact h10
  · exact h11
  · exact h12
  · exact h13
  · exact h14
  · exact h15
  · exact h16
  · exact h17
  · exact h18
  · exact h19
  · exact h20
  · exact h21
  · exact h22
  · exact h23
  · exact h24
  · exact h25
  · exact h26
  · exact h27
  · exact h28
  · exact h29
theorem law_stop (hL : L ≤ 2560) (hi : L < i + 5) (hi2 : i ≤ 2560) (k : HI → HJ → Int32 → Option Int32) : L_law_B18 L zs B (B + 338) k I J (nI i) = some 1 := by
  unfold L_law_B18
  rw [if_pos ?_]
  show nI L - nI 5 < nI i
  rw [Int32.lt_iff_toInt_lt, Int32.toInt_sub]
  have e1 : (nI L).toInt = L := nI_toInt (by omega)
  have e2 : (nI 5).toInt = 5 := by decide
  have e3 : (nI i).toInt = i := nI_toInt (by omega)
  rw [e1, e2, e3, Int.bmod_eq_of_le (by omega) (by omega)]
  omega
end Step
theorem law_loop {B L : Nat} {zs : Nat → Int32} (hL : L ≤ 2560) : ∀ (n i M t : Nat) (I : HI) (J : HJ), L < i + 5 * n + 5 → i ≤ L → n < M → t + 100 * n + 200 < 1000000 → Rel B t I J → wl3 (L_law_B18 L zs B (B + 338)) M I J (nI i) = some 1
  | 0, i, M, t, I, J, h1, h2, h3, h4, h => by
    obtain ⟨M, rfl⟩ : ∃ K, M = K + 1 := ⟨M - 1, by omega⟩
    rw [wl3_0]
    exact law_stop hL (by omega) (by omega) _
  | n + 1, i, M, t, I, J, h1, h2, h3, h4, h => by
    obtain ⟨M, rfl⟩ : ∃ K, M = K + 1 := ⟨M - 1, by omega⟩
    rw [wl3_0]
    by_cases hi : i + 5 ≤ L
    · obtain ⟨I', J', a1, a2⟩ := law_step (zs := zs) hL hi (by omega) h
      rw [a2]
      exact law_loop hL n (i + 5) M (t + 100) I' J' (by omega) (by omega) (by omega) (by omega) a1
    · exact law_stop hL (by omega) (by omega) _
theorem rel_start {B : Nat} {I2 : HI} {P : Nat → Prx} (hn : NtAt I2 (B + 20) (fin (cf0 8 2)) (Nz P)) (ho : ∀ z, ¬ (B + 20 ≤ z ∧ z < B + 37) → ∀ k, I2 z k = 0) : Rel B 0 (iS B I2) (fun _ => 0) := by
  have lo : ∀ z, z < B + 338 → iS B I2 z = I2 z := fun z hz => if_pos hz
  have hC : WfC (fin (cf0 8 2)) := (fin_wf (cf0_wf (M := 8) (K := 2) (by omega) (by omega))).1
  refine ⟨(fin (cf0 8 2), (Nz P, 0, fun _ => Nz P), (0, fun _ => 0), (0, (fun _ => 0), (fun _ => 0), fun _ => 0), noK), ⟨hC, ⟨⟨by show 0 < 1; omega, fun x hx => absurd (show x < 0 from hx) (Nat.not_lt_zero _)⟩, fun k hk => absurd (show k < 0 from hk) (Nat.not_lt_zero _)⟩, ⟨Nat.zero_le _, fun k hk => absurd (show k < 0 from hk) (Nat.not_lt_zero _)⟩, ⟨Nat.zero_le _, fun k hk => absurd (show k < 0 from hk) (Nat.not_lt_zero _)⟩, fun k _ N e => by cases e⟩, ⟨⟨?_, 0, by omega, Nat.zero_le _, ?_, ?_, fun k hk => absurd (show k < 0 from hk) (Nat.not_lt_zero _)⟩, ⟨?_, fun k hk => absurd (show k < 0 from hk) (Nat.not_lt_zero _)⟩, ⟨?_, fun k hk => absurd (show k < 0 from hk) (Nat.not_lt_zero _)⟩, fun k hk => ⟨fun _ => ?_, fun N e => by cases e⟩⟩, ⟨⟨⟨?_, ?_, ?_, ?_, fun f hf => ?_, fun f hf => ?_, fun x hx => absurd (show x < 0 from hx) (Nat.not_lt_zero _)⟩, ⟨fun x hx => absurd (show x < 0 from hx) (Nat.not_lt_zero _), ?_, ?_, ?_, ?_, ?_⟩, ⟨?_, Nat.zero_le _, fun k hk => absurd (show k < 0 from hk) (Nat.not_lt_zero _)⟩⟩, ⟨?_, fun k hk => absurd (show k < 0 from hk) (Nat.not_lt_zero _)⟩, ⟨?_, fun k hk => absurd (show k < 0 from hk) (Nat.not_lt_zero _)⟩, fun k hk => ⟨fun _ => ?_, fun N e => by cases e⟩⟩, rfl⟩
  · exact hn.kept hC.2.2.2.2.1 fun z h1 h2 => lo z (by omega)
  · rw [lo _ (by omega)]; exact ho _ (by omega) _
  · rw [lo _ (by omega)]; exact ho _ (by omega) _
  · rw [lo _ (by omega)]; exact ho _ (by omega) _
  · rw [lo _ (by omega)]; exact ho _ (by omega) _
  · rw [lo _ (by omega)]; exact ho _ (by omega) _
  · exact congrFun (iS_m B I2 0) 4
  · exact congrFun (iS_m B I2 0) 5
  · exact congrFun (iS_m B I2 0) 6
  · exact congrFun (iS_m B I2 0) 9
  · have hf' : f < 1 := hf
    have e : f = 0 := by omega
    subst e
    exact congrFun (iS_m B I2 2) 0
  · have hf' : f < 1 := hf
    have e : f = 0 := by omega
    subst e
    exact congrFun (iS_m B I2 3) 0
  · exact congrFun (iS_m B I2 9) 116
  · exact congrFun (iS_m B I2 9) 117
  · exact congrFun (iS_m B I2 9) 118
  · exact congrFun (iS_m B I2 9) 119
  · exact congrFun (iS_m B I2 9) 120
  · exact congrFun (iS_m B I2 0) 22
  · exact congrFun (iS_m B I2 0) 2
  · exact congrFun (iS_m B I2 0) 25
  · exact congrFun (iS_m B I2 13) k
theorem pure_law (B L : Nat) (zs : Nat → Int32) (hL : L ≤ 2560) : ∃ I1 I2 : HI, f_X1_begin (fun _ _ => 0) (B + 20) 8 2 = some I1 ∧ f_X1_complete I1 (B + 20) = some I2 ∧ f_L_law L zs (iS B I2) (fun _ => 0) B (B + 338) = some 1 := by
  obtain ⟨I1, ⟨a1, a2⟩, a3⟩ := x1_begin (I := fun _ _ => 0) (n := B + 20) (M := 8) (K := 2)
  obtain ⟨I2, ⟨b1, b2⟩, b3⟩ := x1_complete (cf0_wf (M := 8) (K := 2) (by omega) (by omega)) a1
  refine ⟨I1, I2, a3, b3, ?_⟩
  have h := rel_start b1 fun z hz k => by rw [b2 z (by omega), a2 z (by omega)]
  unfold f_L_law
  exact law_loop hL 520 0 5000 0 _ _ (by omega) (by omega) (by omega) (by omega) h

/-! the seed and what is drawn, on both sides -/
theorem sJ_eq (J : HJ) (a : Nat) (v : Int64) : sJ J a v a = v := if_pos rfl
theorem sJ_ne {J : HJ} {a q : Nat} {v : Int64} (h : q ≠ a) : sJ J a v q = J q := if_neg h
theorem sJ_id (J : HJ) (a : Nat) : sJ J a (J a) = J := by
  funext q
  by_cases h : q = a
  · subst h; exact sJ_eq _ _ _
  · exact sJ_ne h
theorem sJ_sJ (J : HJ) (a : Nat) (v w : Int64) : sJ (sJ J a v) a w = sJ J a w := by
  funext q
  by_cases h : q = a
  · subst h; rw [sJ_eq, sJ_eq]
  · rw [sJ_ne h, sJ_ne h, sJ_ne h]
theorem x7_seed (J : HJ) (B : Nat) (y : Int64) : f_X7_seed J B y = some (J B, sJ J B y) := rfl
theorem r8_seed (I : HI) (J : HJ) (m : Nat) (y : Int64) : f_X8_seed I J m y = some (J m, sI I m 0 0, sJ J m y) := rfl
def sd (y : Int64) : Nat → Int64
  | 0 => y
  | i + 1 => sd y i * (6364136223846793005 : Int64) + (1442695040888963407 : Int64)
/-- what is drawn of a seed -/
def vvU (y : Int64) : UInt64 := y.toUInt64 >>> (((33 : Int32)).toInt64.toUInt64 &&& Int64.toUInt64 63)
def vv (y : Int64) : Nat := (vvU y).toNat
theorem vv_lt (y : Int64) : vv y < 2147483648 := by
  unfold vv vvU
  rw [UInt64.toNat_shiftRight]
  have e : ((((33 : Int32)).toInt64.toUInt64 &&& Int64.toUInt64 63)).toNat % 64 = 33 := by decide +kernel
  rw [e, Nat.shiftRight_eq_div_pow]
  have := y.toUInt64.toNat_lt
  omega
theorem vv_eq (y : Int64) : ((vvU y).toInt64).toInt32 = nI (vv y) := by
  have e : (vvU y).toInt64 = nL (vv y) := by
    refine Int64.toBitVec_inj.mp ?_
    show (vvU y).toBitVec = BitVec.ofNat 64 (vvU y).toNat
    rw [← UInt64.toNat_toBitVec, BitVec.ofNat_toNat, BitVec.setWidth_eq]
  rw [e, nL_I]
/-- i requests of those that are drawn -/
def dAs (C : Cf) (N : Nt) (y : Int64) (i : Nat) : Nt := if cN C = 0 then N else asks C (fun k => vv (sd y (k + 1)) % cN C) (fun k => vv (sd y (k + 1)) / 8 % 32) N i
theorem dAs_wf {C : Cf} {N : Nt} {y : Int64} {t i : Nat} (hC : WfC C) (hw : WfN C t N) (ht : t + 6 * i < 1000000) : WfN C (t + 6 * i) (dAs C N y i) := by
  unfold dAs
  by_cases h0 : cN C = 0
  · rw [if_pos h0]; exact hw.mono (by omega)
  · rw [if_neg h0]; exact asks_wf hC hw (fun j _ => ⟨Nat.mod_lt _ (by omega), Nat.mod_lt _ (by omega)⟩) ht
def aDrawn (C : Cf) (k : Int32) (y : Int64) (S : St) : Int32 × Int64 := if is14 k 20 = true then (cst (dAs C S.1 y k.toNatClampNeg) - cst S.1, sd y k.toNatClampNeg) else (-2, y)
theorem x7_drawn {I : HI} {J : HJ} {B t : Nat} {C : Cf} {S : St} {k : Int32} (hC : WfC C) (ht : t + 120 < 1000000) (h : ClAt I B C S) (hw : WfS C t S) : ∃ I', Off I I' (B + 37) 17 ∧ f_X7_drawn I J B k = some ((aDrawn C k (J B) S).1, I', sJ J B (aDrawn C k (J B) S).2) := by
  have hn := hC.2.2.2.2.1
  have e1i : (1 : Int32).toInt = 1 := by decide
  have e4i : (20 : Int32).toInt = 20 := by decide
  have i20 : (20 : Int32) = nI 20 := rfl
  unfold f_X7_drawn aDrawn
  cases hl : is14 k 20 with
  | false =>
    have h1 := of_decide_eq_false hl
    rw [if_neg (show ¬ false = true by decide)]
    by_cases h2 : k < 1
    · rw [if_pos h2]; exact ⟨I, Off.rf, by rw [sJ_id]⟩
    · rw [if_neg h2, if_pos (show (20 : Int32) < k by rw [Int32.lt_iff_toInt_lt] at h2 ⊢; omega)]
      exact ⟨I, Off.rf, by rw [sJ_id]⟩
  | true =>
    obtain ⟨n, n1, n4, rfl⟩ := is14_of hl (by omega)
    obtain ⟨I1, ⟨a1, a2⟩, a3⟩ := x1_take (I := I) (a := B + 37) (b := B + 20) hC (by omega) h.1 hw.1
    rw [if_pos rfl, ncl (by omega), if_neg (show ¬ nI n < 1 by rw [i_1, nlt (by omega) (by omega)]; omega), if_neg (show ¬ (20 : Int32) < nI n by rw [i20, nlt (by omega) (by omega)]; omega), a3, bd1s]
    have key := wl3_inv (F := X7_drawn_B27 B (nI n)) (Post := fun r => ∃ I', Off I I' (B + 37) 17 ∧ r = (cst (dAs C S.1 (J B) n) - cst S.1, I', sJ J B (sd (J B) n))) (Inv := fun i (I2 : HI) (J2 : HJ) (z : Int32) => NtAt I2 (B + 37) C (dAs C S.1 (J B) i) ∧ Off I I2 (B + 37) 17 ∧ J2 = sJ J B (sd (J B) i) ∧ z = nI i) (m := n) ?_ ?_ n 0 5000 I1 J (nI 0) (by omega) (by omega) ⟨?_, a2, by rw [sd, sJ_id], rfl⟩
    · obtain ⟨r, ⟨I', b, rfl⟩, e⟩ := key
      exact ⟨I', b, e⟩
    · rintro i I2 J2 z hi ⟨b1, b2, rfl, rfl⟩
      have hw1 : WfN C (t + 6 * i) (dAs C S.1 (J B) i) := dAs_wf hC hw.1 (by omega)
      have es : sJ (sJ J B (sd (J B) i)) B ((sJ J B (sd (J B) i) B) * (6364136223846793005 : Int64) + (1442695040888963407 : Int64)) = sJ J B (sd (J B) (i + 1)) := by
        rw [sJ_eq, sJ_sJ]; rfl
      have ev : (((sJ J B (sd (J B) (i + 1)) B).toUInt64 >>> (((33 : Int32)).toInt64.toUInt64 &&& Int64.toUInt64 63)).toInt64).toInt32 = nI (vv (sd (J B) (i + 1))) := by
        rw [sJ_eq]; exact vv_eq _
      have hv := vv_lt (sd (J B) (i + 1))
      by_cases h0 : cN C = 0
      · refine Or.inl ⟨I2, sJ J B (sd (J B) (i + 1)), nI (i + 1), ⟨?_, b2, rfl, rfl⟩, fun kk => ?_⟩
        · unfold dAs at b1 ⊢
          rw [if_pos h0] at b1 ⊢
          exact b1
        · unfold X7_drawn_B27 X7_drawn_J91
          rw [if_pos (show nI i < nI n by rw [nlt (by omega) (by omega)]; exact hi), es, lt1s, ev, lt1s, b1.2.1, if_neg (show ¬ 0 < nI (cN C) by rw [n0pos (by omega)]; omega), lt1s, ninc]
      · have e1 : jrem (nI (vv (sd (J B) (i + 1)))) (nI (cN C)) = nI (vv (sd (J B) (i + 1)) % cN C) := rem_n hv (by omega) (by omega)
        have e2 : jrem (nI (vv (sd (J B) (i + 1))) / (8 : Int32)) (32 : Int32) = nI (vv (sd (J B) (i + 1)) / 8 % 32) := by
          rw [i_8, i_32, div_n hv (by omega), rem_n (by omega) (by omega) (by omega)]
        have hxc : vv (sd (J B) (i + 1)) % cN C < cN C := Nat.mod_lt _ (by omega)
        have hpc : vv (sd (J B) (i + 1)) / 8 % 32 < 32 := Nat.mod_lt _ (by omega)
        obtain ⟨I3, ⟨c1, c2, -⟩, c3⟩ := x1_request hC hpc hxc (by omega) b1 hw1
        refine Or.inl ⟨I3, sJ J B (sd (J B) (i + 1)), nI (i + 1), ⟨?_, b2.tr c2, rfl, rfl⟩, fun kk => ?_⟩
        · unfold dAs at c1 ⊢
          rw [if_neg h0] at c1 ⊢
          exact c1
        · unfold X7_drawn_B27 X7_drawn_J91
          rw [if_pos (show nI i < nI n by rw [nlt (by omega) (by omega)]; exact hi), es, lt1s, ev, lt1s, b1.2.1, if_pos (show 0 < nI (cN C) by rw [n0pos (by omega)]; omega), gdt (show ¬ nI (cN C) = 0 by rw [n0eq (by omega)]; exact h0), e1, e2, c3, bd2s, lt1s, ninc]
    · rintro I2 J2 z ⟨b1, b2, rfl, rfl⟩
      refine ⟨_, ⟨I2, b2, rfl⟩, fun kk => ?_⟩
      unfold X7_drawn_B27
      have h01 : NtAt I2 (B + 20) C S.1 := h.1.kept hn fun q _ _ => b2 q (by omega)
      rw [if_neg (show ¬ nI n < nI n by rw [nlt (by omega) (by omega)]; omega), x1_cost b1, bd1s, x1_cost h01, bd1s]
    · unfold dAs
      by_cases h0 : cN C = 0
      · rw [if_pos h0]; exact a1
      · rw [if_neg h0]; exact a1
theorem r8_drawn {I : HI} {J : HJ} {m t : Nat} {C : Cf} {S : St} {k : Int32} (hC : WfC C) (ht : t + 120 < 1000000) (h : RfAt I m C S) (hw : WfS C t S) : ∃ r, f_X8_drawn I J m k = some ((aDrawn C k (J m) S).1, rowS (sI I m 0 0) (m + 10) r, sJ J m (aDrawn C k (J m) S).2) := by
  have hn := hC.2.2.2.2.1
  have hz := h.z
  unfold f_X8_drawn aDrawn
  rw [lt1s, show (20 : Int64) = nL 20 from rfl, r8_inK k (by omega), bd1s]
  cases hl : is14 k 20 with
  | false =>
    rw [if_pos bZf, if_neg (show ¬ false = true by decide)]
    exact ⟨sI I m 0 0 (m + 10), by rw [rowS_id, sJ_id]⟩
  | true =>
    obtain ⟨n, n1, n4, rfl⟩ := is14_of hl (by omega)
    obtain ⟨r0, c1, c2⟩ := r8_layTrial hC hz.2.1
    rw [if_neg bZt, if_pos rfl, ncl (by omega), c2, bd1s]
    generalize sI I m 0 0 = I0 at hz c2
    have key := wl3_inv (F := X8_drawn_B26 m (nI n)) (Post := fun o => ∃ r, o = (cst (dAs C S.1 (J m) n) - cst S.1, rowS I0 (m + 10) r, sJ J m (sd (J m) n))) (Inv := fun i (I2 : HI) (J2 : HJ) (z : Int32) => (∃ r, RnAt r C (dAs C S.1 (J m) i) ∧ I2 = rowS I0 (m + 10) r) ∧ J2 = sJ J m (sd (J m) i) ∧ z = nI i) (m := n) ?_ ?_ n 0 5000 (rowS I0 (m + 10) r0) J (nI 0) (by omega) (by omega) ⟨⟨r0, ?_, rfl⟩, by rw [sd, sJ_id], rfl⟩
    · obtain ⟨o, ⟨r, rfl⟩, e⟩ := key
      exact ⟨r, e⟩
    · rintro i I2 J2 z hi ⟨⟨r1, b1, rfl⟩, rfl, rfl⟩
      have hw1 : WfN C (t + 6 * i) (dAs C S.1 (J m) i) := dAs_wf hC hw.1 (by omega)
      have e9 : rowS I0 (m + 10) r1 m 9 = nI (cN C) := (hz.1.row (by omega) r1).2.2.2.1
      have es : sJ (sJ J m (sd (J m) i)) m ((sJ J m (sd (J m) i) m) * (6364136223846793005 : Int64) + (1442695040888963407 : Int64)) = sJ J m (sd (J m) (i + 1)) := by
        rw [sJ_eq, sJ_sJ]; rfl
      have ev : (((sJ J m (sd (J m) (i + 1)) m).toUInt64 >>> (((33 : Int32)).toInt64.toUInt64 &&& Int64.toUInt64 63)).toInt64).toInt32 = nI (vv (sd (J m) (i + 1))) := by
        rw [sJ_eq]; exact vv_eq _
      have hv := vv_lt (sd (J m) (i + 1))
      by_cases h0 : cN C = 0
      · refine Or.inl ⟨_, sJ J m (sd (J m) (i + 1)), nI (i + 1), ⟨⟨r1, ?_, rfl⟩, rfl, rfl⟩, fun kk => ?_⟩
        · unfold dAs at b1 ⊢
          rw [if_pos h0] at b1 ⊢
          exact b1
        · unfold X8_drawn_B26 X8_drawn_J85
          rw [if_pos (show nI i < nI n by rw [nlt (by omega) (by omega)]; exact hi), es, lt1s, ev, lt1s, e9, if_neg (show ¬ 0 < nI (cN C) by rw [n0pos (by omega)]; omega), lt1s, ninc]
      · have e1 : jrem (nI (vv (sd (J m) (i + 1)))) (nI (cN C)) = nI (vv (sd (J m) (i + 1)) % cN C) := rem_n hv (by omega) (by omega)
        have e2 : jrem (nI (vv (sd (J m) (i + 1))) / (8 : Int32)) (32 : Int32) = nI (vv (sd (J m) (i + 1)) / 8 % 32) := by
          rw [i_8, i_32, div_n hv (by omega), rem_n (by omega) (by omega) (by omega)]
        have hxc : vv (sd (J m) (i + 1)) % cN C < cN C := Nat.mod_lt _ (by omega)
        have hpc : vv (sd (J m) (i + 1)) / 8 % 32 < 32 := Nat.mod_lt _ (by omega)
        obtain ⟨r2, f1, f2⟩ := r8_askOn (I := I0) (w := m + 10) hC hz.1 (by omega) (by omega) b1 hw1 hxc hpc
        refine Or.inl ⟨rowS I0 (m + 10) r2, sJ J m (sd (J m) (i + 1)), nI (i + 1), ⟨⟨r2, ?_, rfl⟩, rfl, rfl⟩, fun kk => ?_⟩
        · unfold dAs at f1 ⊢
          rw [if_neg h0] at f1 ⊢
          exact f1
        · unfold X8_drawn_B26 X8_drawn_J85
          rw [if_pos (show nI i < nI n by rw [nlt (by omega) (by omega)]; exact hi), es, lt1s, ev, lt1s, e9, if_pos (show 0 < nI (cN C) by rw [n0pos (by omega)]; omega), gdt (show ¬ nI (cN C) = 0 by rw [n0eq (by omega)]; exact h0), e1, e2, f2, bd2s, lt1s, ninc]
    · rintro I2 J2 z ⟨⟨r1, b1, rfl⟩, rfl, rfl⟩
      refine ⟨_, ⟨r1, rfl⟩, fun kk => ?_⟩
      unfold X8_drawn_B26
      have g1 : RnAt (rowS I0 (m + 10) r1 (m + 10)) C (dAs C S.1 (J m) n) := by rw [rowS_at]; exact b1
      have g2 : RnAt (rowS I0 (m + 10) r1 (m + 9)) C S.1 := by rw [rowS_ne (by omega)]; exact hz.2.1
      rw [if_neg (show ¬ nI n < nI n by rw [nlt (by omega) (by omega)]; omega), r8_costOf g1, bd1s, r8_costOf g2, bd1s]
    · unfold dAs
      by_cases h0 : cN C = 0
      · rw [if_pos h0]; exact c1
      · rw [if_neg h0]; exact c1

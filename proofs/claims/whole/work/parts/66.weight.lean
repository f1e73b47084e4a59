/-! the weight, on both sides -/
def nnB (z : UInt32) : Bool := decide (z &&& 0x7fffffff ≤ 0x7f800000)
theorem nnB_n {z : UInt32} (h : nnB z = true) : vf_n32 z := of_decide_eq_true (p := z &&& 0x7fffffff ≤ 0x7f800000) h
def fbJ (z : UInt32) (x : Int32) : Option Int32 := if nnB (FP.fsub z FP.fconst1) = true ∧ nnB (FP.fmul (FP.fsub z FP.fconst1) 1258291200) = true then some ((x <<< ((23 : Int32) &&& 31)) + (FP.f2i (FP.fmul (FP.fsub z FP.fconst1) 1258291200))) else none
def fbF : Nat → UInt32 → Int32 → Option Int32
  | 0, _, _ => none
  | n + 1, z, x => if (Op.cmpValue (FP.fcmp z FP.fconst1) .g) < 0 then (if (1 : Int32) < x then (if nnB (FP.fmul z FP.fconst2) = true then fbF n (FP.fmul z FP.fconst2) (x + (-1 : Int32)) else none) else fbJ z x) else fbJ z x
def fbT (z : UInt32) : Option Int32 := if 0 < (Op.cmpValue (FP.fcmp z FP.fconst0) .g) then fbF 20 z 127 else some 0
theorem fbJ_eq {z : UInt32} {x v : Int32} (h : fbJ z x = some v) : X7_floatBits_J34 z x = some v := by
  unfold fbJ at h
  by_cases hc : nnB (FP.fsub z FP.fconst1) = true ∧ nnB (FP.fmul (FP.fsub z FP.fconst1) 1258291200) = true
  · rw [if_pos hc] at h
    unfold X7_floatBits_J34
    rw [gdt (nnB_n hc.1), gdt (nnB_n hc.2)]
    exact h
  · rw [if_neg hc] at h; cases h
theorem fbF_eq : ∀ {n N : Nat} {z : UInt32} {x v : Int32}, fbF n z x = some v → n ≤ N → wl2 X7_floatBits_B13 N z x = some v
  | 0, _, _, _, _, h, _ => by cases h
  | n + 1, N, z, x, v, h, hN => by
    obtain ⟨N, rfl⟩ : ∃ M, N = M + 1 := ⟨N - 1, by omega⟩
    rw [wl2_0]
    unfold X7_floatBits_B13
    rw [fbF] at h
    by_cases h1 : (Op.cmpValue (FP.fcmp z FP.fconst1) .g) < 0
    · rw [if_pos h1] at h ⊢
      by_cases h2 : (1 : Int32) < x
      · rw [if_pos h2] at h ⊢
        by_cases h3 : nnB (FP.fmul z FP.fconst2) = true
        · rw [if_pos h3] at h
          rw [gdt (nnB_n h3), lt1s, lt1s]
          exact fbF_eq h (by omega)
        · rw [if_neg h3] at h; cases h
      · rw [if_neg h2] at h ⊢
        exact fbJ_eq h
    · rw [if_neg h1] at h ⊢
      exact fbJ_eq h
theorem fbT_eq {z : UInt32} {v : Int32} (h : fbT z = some v) : f_X7_floatBits z = some v := by
  unfold fbT at h
  unfold f_X7_floatBits
  by_cases h1 : 0 < (Op.cmpValue (FP.fcmp z FP.fconst0) .g)
  · rw [if_pos h1] at h ⊢
    exact fbF_eq h (by omega)
  · rw [if_neg h1] at h ⊢
    exact h
/-- w of M cells -/
def wz (M w : Nat) : UInt32 := FP.fdiv (FP.i2f (nI w)) (FP.i2f (nI M))
def wgt (M w K : Nat) : UInt32 := if K = 1 then wz M w else if K = 2 then FP.fmul (wz M w) (wz M w) else FP.fmul (FP.fmul (wz M w) (wz M w)) (wz M w)
def wok (M w K : Nat) : Bool := nnB (wz M w) && (nnB (FP.fmul (wz M w) (wz M w)) && (nnB (FP.fmul (FP.fmul (wz M w) (wz M w)) (wz M w)) && (decide (fbT (wgt M w K) = some (wgt M w K).toInt32) && decide ((Op.cmpValue (FP.fcmp (wgt M w K) (wgt M w K)) .l) = 0))))
theorem wok_all : ∀ M, M < 17 → 4 ≤ M → ∀ w, w < M + 1 → ∀ K, K < 4 → 1 ≤ K → wok M w K = true := by decide +kernel
theorem wokE {C : Cf} (hC : WfC C) {w : Nat} (hw : w ≤ cM C) : vf_n32 (wz (cM C) w) ∧ vf_n32 (FP.fmul (wz (cM C) w) (wz (cM C) w)) ∧ vf_n32 (FP.fmul (FP.fmul (wz (cM C) w) (wz (cM C) w)) (wz (cM C) w)) ∧ fbT (wgt (cM C) w (cK C)) = some (wgt (cM C) w (cK C)).toInt32 ∧ (Op.cmpValue (FP.fcmp (wgt (cM C) w (cK C)) (wgt (cM C) w (cK C))) .l) = 0 := by
  have hM := hC.1
  have hK := hC.2.1
  have h := wok_all (cM C) (by omega) hM.1 w (by omega) (cK C) (by omega) hK.1
  unfold wok at h
  rw [Bool.and_eq_true, Bool.and_eq_true, Bool.and_eq_true, Bool.and_eq_true] at h
  exact ⟨nnB_n h.1, nnB_n h.2.1, nnB_n h.2.2.1, of_decide_eq_true h.2.2.2.1, of_decide_eq_true h.2.2.2.2⟩
theorem cnt_bound {f : Nat → Bool} {M : Nat} : ∀ {n : Nat}, (∀ c, M ≤ c → c < n → f c = false) → cntB f n ≤ M
  | 0, _ => Nat.zero_le _
  | n + 1, h => by
    have ih := cnt_bound (f := f) (M := M) (n := n) (fun c h1 h2 => h c h1 (by omega))
    rw [cntB]
    by_cases hn : M ≤ n
    · rw [h n hn (by omega), if_neg (by decide)]; omega
    · have := cnt_le f n
      cases f n
      · rw [if_neg (by decide)]; omega
      · rw [if_pos rfl]; omega
theorem pop_flt {C : Cf} {t : Nat} {cn : Nat → Int32} (hC : WfC C) (h : Cnt (cM C) t cn) : pop (flt cn 16) ≤ cM C := by
  refine cnt_bound fun c h1 h2 => ?_
  rw [flt_bit h2 (by omega)]
  by_cases h3 : c < 16
  · rw [h.2 c h1 h3]; simp
  · rw [decide_eq_false h3]; rfl
def aWgt (C : Cf) (v : Int32) (S : St) : Int32 := if isIn v (cN C) = true then (wgt (cM C) (pop (flt (pC (nP S.1 v.toNatClampNeg)) 16)) (cK C)).toInt32 else -1
theorem aWgt_in {C : Cf} {x : Nat} {S : St} (hC : WfC C) (hx : x < cN C) : aWgt C (nI x) S = (wgt (cM C) (pop (flt (pC (nP S.1 x)) 16)) (cK C)).toInt32 := by
  have hn := hC.2.2.2.2.1
  unfold aWgt
  rw [if_pos (isIn_nI hx (by omega)), ncl (by omega)]
theorem x7_weight {I : HI} {B t : Nat} {C : Cf} {S : St} {v : Int32} (hC : WfC C) (h : ClAt I B C S) (hw : WfS C t S) : f_X7_weight I B v = some (aWgt C v S) := by
  have hn := hC.2.2.2.2.1
  have hM := hC.1
  have hK := hC.2.1
  unfold f_X7_weight
  rcases x1_proxyIn hC h.1 v with ⟨x, hx, rfl, e1, e2⟩ | ⟨e1, e2⟩
  · have hpx := h.1.2.2.2.2.2.2 x hx
    obtain ⟨n1, n2, n3, hb, -⟩ := wokE hC (pop_flt hC (hw.1.2 x hx).2)
    rw [e2, bd1s, mNs, aWgt_in hC hx, h.1.1.1, if_pos (by rw [n0pos (by omega)]; omega), x4_filterSet hpx, bd1s, j6_pop, bd1s]
    generalize pop (flt (pC (nP S.1 x)) 16) = w at n1 n2 n3 hb
    show gd (vf_n32 (wz (cM C) w)) (lt1 (wz (cM C) w) fun z_11 => wl2 (X7_weight_B55 I B z_11) 5000 z_11 1) = _
    rw [gdt n1, lt1s]
    have hend : ∀ (z : UInt32) (k : UInt32 → Int32 → Option Int32), f_X7_floatBits z = some z.toInt32 → X7_weight_B55 I B (wz (cM C) w) k z (nI (cK C)) = some z.toInt32 := by
      intro z k hz
      unfold X7_weight_B55
      rw [h.1.1.2.1, if_neg (show ¬ nI (cK C) < nI (cK C) by rw [nlt (by omega) (by omega)]; omega), hz, bd1s]
    have hst : ∀ (z : UInt32) (j : Nat) (k : UInt32 → Int32 → Option Int32), j < cK C → vf_n32 (FP.fmul z (wz (cM C) w)) → X7_weight_B55 I B (wz (cM C) w) k z (nI j) = k (FP.fmul z (wz (cM C) w)) (nI (j + 1)) := by
      intro z j k hj hz
      unfold X7_weight_B55
      rw [h.1.1.2.1, if_pos (show nI j < nI (cK C) by rw [nlt (by omega) (by omega)]; exact hj), gdt hz, lt1s, lt1s, ninc]
    have hfb := fbT_eq hb
    have hk : cK C = 1 ∨ cK C = 2 ∨ cK C = 3 := by omega
    show wl2 (X7_weight_B55 I B (wz (cM C) w)) (4999 + 1) (wz (cM C) w) (nI 1) = _
    rw [wl2_0]
    rcases hk with hk | hk | hk
    · rw [show nI 1 = nI (cK C) by rw [hk]]
      have e : wgt (cM C) w (cK C) = wz (cM C) w := by unfold wgt; rw [if_pos hk]
      rw [e] at hfb ⊢
      exact hend _ _ hfb
    · rw [hst _ 1 _ (by omega) n2]
      show wl2 (X7_weight_B55 I B (wz (cM C) w)) (4998 + 1) _ (nI 2) = _
      rw [wl2_0, show nI 2 = nI (cK C) by rw [hk]]
      have e : wgt (cM C) w (cK C) = FP.fmul (wz (cM C) w) (wz (cM C) w) := by unfold wgt; rw [if_neg (by omega), if_pos hk]
      rw [e] at hfb ⊢
      exact hend _ _ hfb
    · rw [hst _ 1 _ (by omega) n2]
      show wl2 (X7_weight_B55 I B (wz (cM C) w)) (4998 + 1) _ (nI 2) = _
      rw [wl2_0, hst _ 2 _ (by omega) n3]
      show wl2 (X7_weight_B55 I B (wz (cM C) w)) (4997 + 1) _ (nI 3) = _
      rw [wl2_0, show nI 3 = nI (cK C) by rw [hk]]
      have e : wgt (cM C) w (cK C) = FP.fmul (FP.fmul (wz (cM C) w) (wz (cM C) w)) (wz (cM C) w) := by unfold wgt; rw [if_neg (by omega), if_neg (by omega)]
      rw [e] at hfb ⊢
      exact hend _ _ hfb
  · have ea : aWgt C v S = -1 := if_neg (by rw [e1]; simp)
    rw [e2, bd1s, mNn, ea]
theorem r8_fltS {I : HI} {m x t : Nat} {C : Cf} {S : St} (hC : WfC C) (h : RfAt I m C S) (hw : WfS C t S) (hx : x < cN C) : f_X8_filterOf I m (m + 9) (nI x) = some (flt (pC (nP S.1 x)) 16) := by
  have hn := hC.2.2.2.2.1
  have hf := r8_filterOf (I := I) (w := m + 9) hC h.1 (by omega) (h.2.1.1 x hx) (hw.1.2 x hx).2 (by omega)
  rw [rowS_id] at hf
  exact hf
theorem r8_weight {I : HI} {m t : Nat} {C : Cf} {S : St} {v : Int32} (hC : WfC C) (h : RfAt I m C S) (hw : WfS C t S) : f_X8_weight I m v = some (aWgt C v S, sI I m 0 0) := by
  have hn := hC.2.2.2.2.1
  have hM := hC.1
  have hK := hC.2.1
  unfold f_X8_weight
  rw [lt1s, r8_noProxy hC h.z.1.2.2.2.1, bd1s]
  cases e1 : isIn v (cN C) with
  | false =>
    have ea : aWgt C v S = -1 := if_neg (by rw [e1]; simp)
    rw [if_neg (show ¬ bZ (!false) = 0 from bZt), ea]
  | true =>
    obtain ⟨x, hx, rfl⟩ := isIn_of e1 (by omega)
    obtain ⟨n1, n2, n3, -, hq⟩ := wokE hC (pop_flt hC (hw.1.2 x hx).2)
    rw [if_pos (show bZ (!true) = 0 from bZf), aWgt_in hC hx, r8_fltS hC h.z hw hx, bd1s, r8_ones, bd1s, h.z.1.1, h.z.1.2.1]
    generalize pop (flt (pC (nP S.1 x)) 16) = w at n1 n2 n3 hq
    show gd (vf_n32 (wz (cM C) w)) (lt1 (wz (cM C) w) fun z_10 => _) = _
    rw [gdt n1, lt1s]
    have hend : X8_weight_J66 (sI I m 0 0) (wgt (cM C) w (cK C)) = some ((wgt (cM C) w (cK C)).toInt32, sI I m 0 0) := by
      unfold X8_weight_J66 f_Jxf58ca_floatToIntBits_5c35a f_Jxf58ca_isNaN_12338
      rw [if_pos hq, bd1s, if_pos rfl, bd1s]
    have hk : cK C = 1 ∨ cK C = 2 ∨ cK C = 3 := by omega
    rcases hk with hk | hk | hk
    · have e : wgt (cM C) w (cK C) = wz (cM C) w := by unfold wgt; rw [if_pos hk]
      rw [if_pos (show nI (cK C) = 1 by rw [hk]; rfl)]
      rw [e] at hend ⊢
      exact hend
    · have e : wgt (cM C) w (cK C) = FP.fmul (wz (cM C) w) (wz (cM C) w) := by unfold wgt; rw [if_neg (by omega), if_pos hk]
      rw [if_neg (show ¬ nI (cK C) = 1 by rw [hk]; decide), if_pos (show nI (cK C) = 2 by rw [hk]; rfl), gdt n2]
      rw [e] at hend ⊢
      exact hend
    · have e : wgt (cM C) w (cK C) = FP.fmul (FP.fmul (wz (cM C) w) (wz (cM C) w)) (wz (cM C) w) := by unfold wgt; rw [if_neg (by omega), if_neg (by omega)]
      rw [if_neg (show ¬ nI (cK C) = 1 by rw [hk]; decide), if_neg (show ¬ nI (cK C) = 2 by rw [hk]; decide), gdt n2, gdt n3]
      rw [e] at hend ⊢
      exact hend

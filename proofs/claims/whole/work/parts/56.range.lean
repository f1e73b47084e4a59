/-! ranges, on both sides -/
theorem r8_in (v : Int32) (lo hi : Int64) : f_X8_in v.toInt64 lo hi = some (bZ (decide (lo.toInt ≤ v.toInt ∧ v.toInt ≤ hi.toInt))) := by
  unfold f_X8_in
  by_cases h1 : v.toInt < lo.toInt
  · rw [if_pos ((lg_cmp_lt _ _).mpr (Int64.lt_iff_toInt_lt.mpr (by rw [Int32.toInt_toInt64]; exact h1))), decide_eq_false (by omega)]; rfl
  · rw [if_neg (fun h => h1 (by have := Int64.lt_iff_toInt_lt.mp ((lg_cmp_lt _ _).mp h); rwa [Int32.toInt_toInt64] at this))]
    by_cases h2 : hi.toInt < v.toInt
    · rw [if_pos ((lg_cmp_gt _ _).mpr (Int64.lt_iff_toInt_lt.mpr (by rw [Int32.toInt_toInt64]; exact h2))), decide_eq_false (by omega)]; rfl
    · rw [if_neg (fun h => h2 (by have := Int64.lt_iff_toInt_lt.mp ((lg_cmp_gt _ _).mp h); rwa [Int32.toInt_toInt64] at this)), decide_eq_true (by omega)]; rfl
theorem t_pred {n : Nat} (h : n < 1000) : (nI n - 1).toInt64.toInt = (n : Int) - 1 := by
  rw [Int32.toInt_toInt64]
  have e1 : (1 : Int32).toInt = 1 := by decide
  have e2 : (nI n).toInt = n := nI_toInt (by omega)
  rw [Int32.toInt_sub, e1, e2]
  exact Int.bmod_eq_of_le (by omega) (by omega)
/-- v is one of n places, or it is not -/
def isIn (v : Int32) (n : Nat) : Bool := decide (0 ≤ v.toInt ∧ v.toInt < n)
theorem isIn_nI {x n : Nat} (h : x < n) (hn : n < 2147483648) : isIn (nI x) n = true := by
  have e2 : (nI x).toInt = x := nI_toInt (by omega)
  exact decide_eq_true (by rw [e2]; omega)
theorem isIn_of {v : Int32} {n : Nat} (h : isIn v n = true) (hn : n < 2147483648) : ∃ x, x < n ∧ v = nI x := by
  have h1 := of_decide_eq_true h
  obtain ⟨j, hj, rfl⟩ := nI_of (x := v) (by rw [Int32.lt_iff_toInt_lt]; have : (0 : Int32).toInt = 0 := by decide
                                            omega)
  have e2 : (nI j).toInt = j := nI_toInt (by omega)
  rw [e2] at h1
  exact ⟨j, by omega, rfl⟩
theorem isIn_no {v : Int32} {n : Nat} (hn : n < 2147483648) (h : v < 0 ∨ nI n ≤ v) : isIn v n = false := by
  refine decide_eq_false fun h1 => ?_
  have e0 : (0 : Int32).toInt = 0 := by decide
  have e2 : (nI n).toInt = n := nI_toInt (by omega)
  rcases h with h | h
  · rw [Int32.lt_iff_toInt_lt] at h; omega
  · rw [Int32.le_iff_toInt_le] at h; omega
theorem r8_inN (v : Int32) {n : Nat} (h : n < 1000) : f_X8_in v.toInt64 0 (nI n - 1).toInt64 = some (bZ (isIn v n)) := by
  rw [r8_in, t_pred h]
  have e0 : (0 : Int64).toInt = 0 := by decide
  rw [e0]
  unfold isIn
  congr 2
  exact decide_eq_decide.mpr (by omega)
theorem r8_in31 (v : Int32) : f_X8_in v.toInt64 0 31 = some (bZ (isIn v 32)) := by
  rw [r8_in]
  have e0 : (0 : Int64).toInt = 0 := by decide
  have e1 : (31 : Int64).toInt = 31 := by decide
  rw [e0, e1]
  unfold isIn
  congr 2
  exact decide_eq_decide.mpr (by omega)
theorem r8_in8 (v : Int32) : f_X8_in v.toInt64 0 8 = some (bZ (isIn v 9)) := by
  rw [r8_in]
  have e0 : (0 : Int64).toInt = 0 := by decide
  have e1 : (8 : Int64).toInt = 8 := by decide
  rw [e0, e1]
  unfold isIn
  congr 2
  exact decide_eq_decide.mpr (by omega)
theorem r8_noProxy {I : HI} {m : Nat} {C : Cf} (hC : WfC C) (h9 : I m 9 = nI (cN C)) (v : Int32) : f_X8_noProxy I m v = some (bZ (!isIn v (cN C))) := by
  have hn := hC.2.2.2.2.1
  unfold f_X8_noProxy
  rw [h9, r8_inN v (by omega), bd1s]
  cases isIn v (cN C) with
  | false => rw [if_pos bZf]; rfl
  | true => rw [if_neg bZt]; rfl
theorem r8_noPage (v : Int32) : f_X8_noPage v = some (bZ (!isIn v 32)) := by
  unfold f_X8_noPage
  rw [r8_in31, bd1s]
  cases isIn v 32 with
  | false => rw [if_pos bZf]; rfl
  | true => rw [if_neg bZt]; rfl
theorem x1_proxyIn {I : HI} {n : Nat} {C : Cf} {N : Nt} (hC : WfC C) (h : NtAt I n C N) (v : Int32) : (∃ x, x < cN C ∧ v = nI x ∧ isIn v (cN C) = true ∧ f_X1_proxyAt I n v = some (some (n + 4 + 1 + 3 * x))) ∨ (isIn v (cN C) = false ∧ f_X1_proxyAt I n v = some none) := by
  have hn := hC.2.2.2.2.1
  rcases x1_proxyAt' hn h v with ⟨x, hx, rfl, e⟩ | ⟨h1, e⟩
  · exact Or.inl ⟨x, hx, rfl, isIn_nI hx (by omega), e⟩
  · exact Or.inr ⟨isIn_no (by omega) h1, e⟩
theorem x7_isPage (v : Int32) : f_X7_isPage v = some (bZ (isIn v 32)) := by
  unfold f_X7_isPage
  by_cases h0 : v < 0
  · rw [if_pos h0, isIn_no (by omega) (Or.inl h0)]; rfl
  · rw [if_neg h0]
    obtain ⟨j, hj, rfl⟩ := nI_of h0
    by_cases h1 : j < 32
    · rw [if_pos (show nI j < (32 : Int32) by rw [i_32, nlt (by omega) (by omega)]; exact h1), isIn_nI h1 (by omega)]; rfl
    · rw [if_neg (show ¬ nI j < (32 : Int32) by rw [i_32, nlt (by omega) (by omega)]; exact h1), isIn_no (by omega) (Or.inr (nI_le (by omega) hj))]; rfl
theorem x0_familyIn {I : HI} {h fam : Nat} {C : Cf} (hC : WfC C) (hh : HsAt I h C fam) (v : Int32) : f_X0_isFamily I h v = some (bZ (isIn v (cF C))) := by
  have hF := hC.2.2.1
  rcases x0_isFamily hC hh v with ⟨f, hf, rfl, e⟩ | ⟨h1, e⟩
  · rw [e, isIn_nI hf (by omega)]; rfl
  · rw [e, isIn_no (by omega) h1]; rfl

/-! page and says, on both sides -/
def aPg (C : Cf) (v k : Int32) (S : St) : Int32 := if isIn v (cN C) = true then (if isIn k 9 = true then (if k.toNatClampNeg < pN (nP S.1 v.toNatClampNeg) then nI (pS (nP S.1 v.toNatClampNeg) k.toNatClampNeg) else m9) else -2) else -1
theorem aPg_2 {C : Cf} {v k : Int32} {S : St} (h1 : isIn v (cN C) = true) (h2 : isIn k 9 = false) : aPg C v k S = -2 := by
  unfold aPg
  rw [if_pos h1, if_neg (by rw [h2]; simp)]
theorem aPg_x {C : Cf} {x j : Nat} {S : St} (hC : WfC C) (hx : x < cN C) (hj : j < 9) : aPg C (nI x) (nI j) S = if j < pN (nP S.1 x) then nI (pS (nP S.1 x) j) else m9 := by
  have hn := hC.2.2.2.2.1
  unfold aPg
  rw [if_pos (isIn_nI hx (by omega)), if_pos (isIn_nI hj (by omega)), ncl (by omega), ncl (by omega)]
theorem x7_page {I : HI} {B t : Nat} {C : Cf} {S : St} {v k : Int32} (hC : WfC C) (h : ClAt I B C S) (hw : WfS C t S) : f_X7_page I B v k = some (aPg C v k S) := by
  have hn := hC.2.2.2.2.1
  unfold f_X7_page
  rcases x1_proxyIn hC h.1 v with ⟨x, hx, rfl, e1, e2⟩ | ⟨e1, e2⟩
  · rw [e2, bd1s, mNs]
    by_cases h0 : k < 0
    · rw [if_pos h0, aPg_2 e1 (isIn_no (by omega) (Or.inl h0))]
    · obtain ⟨j, hj, rfl⟩ := nI_of h0
      rw [if_neg h0]
      by_cases hj9 : j < 9
      · rw [if_pos (show nI j < (9 : Int32) by rw [i_9, nlt (by omega) (by omega)]; exact hj9), aPg_x hC hx hj9]
        by_cases hl : j < pN (nP S.1 x)
        · rw [x4_pageAt (h.1.2.2.2.2.2.2 x hx) (hw.1.shf hx) hl, bd1s, if_pos hl]
        · have hs := hw.1.shf hx
          have h9 : pN (nP S.1 x) ≤ 9 := Nat.le_trans hs.1 hs.2.1
          unfold f_X4_pageAt
          rw [if_neg h0, (h.1.2.2.2.2.2.2 x hx).2.2.1, if_neg (show ¬ nI j < nI (pN (nP S.1 x)) by rw [nlt (by omega) (by omega)]; exact hl), bd1s, if_neg hl]
          rfl
      · rw [if_neg (show ¬ nI j < (9 : Int32) by rw [i_9, nlt (by omega) (by omega)]; exact hj9), aPg_2 e1 (isIn_no (by omega) (Or.inr (nI_le (by omega) hj)))]
  · have ea : aPg C v k S = -1 := if_neg (by rw [e1]; simp)
    rw [e2, bd1s, mNn, ea]
theorem r8_page {I : HI} {m t : Nat} {C : Cf} {S : St} {v k : Int32} (hC : WfC C) (h : RfAt I m C S) (hw : WfS C t S) : f_X8_page I m v k = some (aPg C v k S, sI I m 0 0) := by
  have hn := hC.2.2.2.2.1
  unfold f_X8_page
  rw [lt1s, r8_noProxy hC h.z.1.2.2.2.1, bd1s]
  cases e1 : isIn v (cN C) with
  | false =>
    have ea : aPg C v k S = -1 := if_neg (by rw [e1]; simp)
    rw [if_neg (show ¬ bZ (!false) = 0 from bZt), ea]
  | true =>
    rw [if_pos (show bZ (!true) = 0 from bZf), r8_in8, bd1s]
    cases e2 : isIn k 9 with
    | false => rw [if_pos bZf, aPg_2 e1 e2]
    | true =>
      obtain ⟨x, hx, rfl⟩ := isIn_of e1 (by omega)
      obtain ⟨j, hj, rfl⟩ := isIn_of e2 (by omega)
      have hr := h.z.2.1.1 x hx
      have h9 : pN (nP S.1 x) ≤ 9 := hr.2.2.2.2.2.2
      rw [if_neg bZt, i_29, i_9, nmul, nadd, nadd, gv (by omega) (by omega), ncl (by omega), hr.2.1, aPg_x hC hx hj]
      by_cases hl : j < pN (nP S.1 x)
      · rw [if_pos (show nI j < nI (pN (nP S.1 x)) by rw [nlt (by omega) (by omega)]; exact hl), gv (by omega) (by omega), ncl (by omega), hr.1 j hl, if_pos hl]
      · rw [if_neg (show ¬ nI j < nI (pN (nP S.1 x)) by rw [nlt (by omega) (by omega)]; exact hl), if_neg hl]
        rfl
/-- what a summary, or a filter, says -/
def aSay (C : Cf) (v p k : Int32) (S : St) : Int32 := if isIn v (cN C) = true ∧ isIn p 32 = true then bZ (con (if k = 0 then pM (nP S.1 v.toNatClampNeg) else flt (pC (nP S.1 v.toNatClampNeg)) 16) (cel C (nF S.1) p.toNatClampNeg) (cK C)) else -1
theorem x7_says {I : HI} {B t : Nat} {C : Cf} {S : St} {v p k : Int32} (hC : WfC C) (h : ClAt I B C S) (hw : WfS C t S) : f_X7_says I B v p k = some (aSay C v p k S) := by
  have hn := hC.2.2.2.2.1
  unfold f_X7_says
  rcases x1_proxyIn hC h.1 v with ⟨x, hx, rfl, e1, e2⟩ | ⟨e1, e2⟩
  · rw [e2, bd1s, mNs, x7_isPage, bd1s]
    cases hp : isIn p 32 with
    | false =>
      have ea : aSay C (nI x) p k S = -1 := if_neg (by rw [hp]; simp)
      rw [if_pos bZf, ea]
    | true =>
      obtain ⟨p, hp32, rfl⟩ := isIn_of hp (by omega)
      have ea : aSay C (nI x) (nI p) k S = bZ (con (if k = 0 then pM (nP S.1 x) else flt (pC (nP S.1 x)) 16) (cel C (nF S.1) p) (cK C)) := by
        unfold aSay
        rw [if_pos ⟨e1, hp⟩, ncl (by omega), ncl (by omega)]
      have hpx := h.1.2.2.2.2.2.2 x hx
      have fin : ∀ s : Int32, (bd1 (X1_isSo_J26 I (B + 20) (nI p) s) fun r_9 => if r_9 = 0 then some ((0 : Int32)) else some ((1 : Int32))) = some (bZ (con s (cel C (nF S.1) p) (cK C))) := by
        intro s
        unfold X1_isSo_J26
        rw [h.1.1.2.2.2.1, x0_contains hC h.1.1 hw.1.1 hp32, bd1s, gdt (bZ_zb _), bd1s]
        cases con s (cel C (nF S.1) p) (cK C) with
        | false => rw [if_pos bZf]; rfl
        | true => rw [if_neg bZt]; rfl
      rw [if_neg bZt, ea]
      unfold X7_says_J39 f_X1_isSo
      by_cases h0 : k = 0
      · rw [if_pos h0, if_pos h0, if_neg (by decide), if_pos rfl, hpx.2.2.2.2.1]
        exact fin _
      · rw [if_neg h0, if_neg h0, if_neg (by decide), if_neg (by decide), x4_filterSet hpx, bd1s]
        exact fin _
  · have ea : aSay C v p k S = -1 := if_neg (by rw [e1]; simp)
    rw [e2, bd1s, mNn, ea]
theorem r8_says {I : HI} {m t : Nat} {C : Cf} {S : St} {v p k : Int32} (hC : WfC C) (h : RfAt I m C S) (hw : WfS C t S) : f_X8_says I m v p k = some (aSay C v p k S, sI I m 0 0) := by
  have hn := hC.2.2.2.2.1
  unfold f_X8_says
  rw [lt1s, r8_noProxy hC h.z.1.2.2.2.1, bd1s]
  cases e1 : isIn v (cN C) with
  | false =>
    have ea : aSay C v p k S = -1 := if_neg (by rw [e1]; simp)
    rw [if_neg (show ¬ bZ (!false) = 0 from bZt), ea]
  | true =>
    rw [if_pos (show bZ (!true) = 0 from bZf), r8_noPage, bd1s]
    cases hp : isIn p 32 with
    | false =>
      have ea : aSay C v p k S = -1 := if_neg (by rw [hp]; simp)
      rw [if_neg (show ¬ bZ (!false) = 0 from bZt), ea]
    | true =>
      obtain ⟨x, hx, rfl⟩ := isIn_of e1 (by omega)
      obtain ⟨p, hp32, rfl⟩ := isIn_of hp (by omega)
      have ea : aSay C (nI x) (nI p) k S = bZ (con (if k = 0 then pM (nP S.1 x) else flt (pC (nP S.1 x)) 16) (cel C (nF S.1) p) (cK C)) := by
        unfold aSay
        rw [if_pos ⟨e1, hp⟩, ncl (by omega), ncl (by omega)]
      have hr := h.z.2.1.1 x hx
      have fin : ∀ s : Int32, X8_says_J51 (sI I m 0 0) m (nI p) m s = some (bZ (con s (cel C (nF S.1) p) (cK C)), sI I m 0 0) := by
        intro s
        unfold X8_says_J51
        rw [i_116, gv (by omega) (by omega), ncl (by omega), h.z.2.1.2.1, r8_isSaid hC h.z.1 hw.1.1 hp32, bd1s]
        cases con s (cel C (nF S.1) p) (cK C) with
        | false => rw [if_pos bZf]; rfl
        | true => rw [if_neg bZt]; rfl
      rw [if_pos (show bZ (!true) = 0 from bZf), ea]
      by_cases h0 : k = 0
      · rw [if_pos h0, if_pos h0, i_29, i_26, nmul, nadd, gv (by omega) (by omega), ncl (by omega), hr.2.2.2.1]
        exact fin _
      · have hf := r8_filterOf (I := sI I m 0 0) (w := m + 9) hC h.z.1 (by omega) hr (hw.1.2 x hx).2 (by omega)
        rw [rowS_id] at hf
        rw [if_neg h0, if_neg h0, hf, bd1s]
        exact fin _

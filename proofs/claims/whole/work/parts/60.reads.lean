/-! readers, on both sides -/
def aCnt (C : Cf) (v k : Int32) (S : St) : Int32 := if isIn v (cN C) = true ∧ isIn k (cM C) = true then pC (nP S.1 v.toNatClampNeg) k.toNatClampNeg else -1
theorem x7_counter {I : HI} {B : Nat} {C : Cf} {S : St} {v k : Int32} (hC : WfC C) (h : ClAt I B C S) : f_X7_counter I B v k = some (aCnt C v k S) := by
  have hn := hC.2.2.2.2.1
  have hM := hC.1
  unfold f_X7_counter
  rcases x1_proxyIn hC h.1 v with ⟨x, hx, rfl, e1, e2⟩ | ⟨e1, e2⟩
  · rw [e2, bd1s, mNs, h.1.1.1]
    by_cases h0 : k < 0
    · have ea : aCnt C (nI x) k S = -1 := if_neg (by rw [isIn_no (v := k) (by omega) (Or.inl h0)]; simp)
      rw [if_pos h0, ea]
    · obtain ⟨j, hj, rfl⟩ := nI_of h0
      rw [if_neg h0]
      by_cases hjM : j < cM C
      · have ea : aCnt C (nI x) (nI j) S = pC (nP S.1 x) j := by
          unfold aCnt
          rw [if_pos ⟨e1, isIn_nI hjM (by omega)⟩, ncl (by omega), ncl (by omega)]
        rw [if_pos (show nI j < nI (cM C) by rw [nlt (by omega) (by omega)]; exact hjM), if_pos (show nI j < (16 : Int32) by rw [i_16, nlt (by omega) (by omega)]; omega), gv (by omega) (by omega), ea, ncl (by omega), (h.1.2.2.2.2.2.2 x hx).2.2.2.2.2.2 j (by omega)]
      · have ea : aCnt C (nI x) (nI j) S = -1 := if_neg (by rw [isIn_no (v := nI j) (n := cM C) (by omega) (Or.inr (nI_le (by omega) hj))]; simp)
        rw [if_neg (show ¬ nI j < nI (cM C) by rw [nlt (by omega) (by omega)]; exact hjM), ea]
  · have ea : aCnt C v k S = -1 := if_neg (by rw [e1]; simp)
    rw [e2, bd1s, mNn, ea]
theorem r8_counter {I : HI} {m : Nat} {C : Cf} {S : St} {v k : Int32} (hC : WfC C) (h : RfAt I m C S) : f_X8_counter I m v k = some (aCnt C v k S, sI I m 0 0) := by
  have hn := hC.2.2.2.2.1
  have hM := hC.1
  unfold f_X8_counter
  rw [lt1s, r8_noProxy hC h.z.1.2.2.2.1, bd1s]
  cases e1 : isIn v (cN C) with
  | false =>
    have ea : aCnt C v k S = -1 := if_neg (by rw [e1]; simp)
    rw [if_neg (show ¬ bZ (!false) = 0 from bZt), ea]
  | true =>
    rw [if_pos (show bZ (!true) = 0 from bZf), h.z.1.1, r8_inN k (by omega), bd1s]
    cases e2 : isIn k (cM C) with
    | false =>
      have ea : aCnt C v k S = -1 := if_neg (by rw [e2]; simp)
      rw [if_pos bZf, ea]
    | true =>
      obtain ⟨x, hx, rfl⟩ := isIn_of e1 (by omega)
      obtain ⟨j, hj, rfl⟩ := isIn_of e2 (by omega)
      have ea : aCnt C (nI x) (nI j) S = pC (nP S.1 x) j := by
        unfold aCnt
        rw [if_pos ⟨e1, e2⟩, ncl (by omega), ncl (by omega)]
      rw [if_neg bZt, i_29, i_10, nmul, nadd, nadd, gv (by omega) (by omega), ncl (by omega), ea, (h.z.2.1.1 x hx).2.2.1 j (by omega)]
def aHash (C : Cf) (f p i : Int32) : Int32 := if isIn f (cF C) = true ∧ isIn p 32 = true then (if isIn i (cK C) = true then nI (cel C f.toNatClampNeg p.toNatClampNeg i.toNatClampNeg) else -2) else -1
theorem x7_hash {I : HI} {B : Nat} {C : Cf} {S : St} {f p i : Int32} (hC : WfC C) (h : ClAt I B C S) : f_X7_hash I B f p i = some (aHash C f p i) := by
  have hF := hC.2.2.1
  have hK := hC.2.1
  unfold f_X7_hash
  rw [x0_familyIn hC h.1.1, bd1s]
  cases e1 : isIn f (cF C) with
  | false =>
    have ea : aHash C f p i = -1 := if_neg (by rw [e1]; simp)
    rw [if_pos bZf, ea]
  | true =>
    rw [if_neg bZt, x7_isPage, bd1s]
    cases e2 : isIn p 32 with
    | false =>
      have ea : aHash C f p i = -1 := if_neg (by rw [e2]; simp)
      rw [if_pos bZf, ea]
    | true =>
      obtain ⟨f, hf, rfl⟩ := isIn_of e1 (by omega)
      obtain ⟨p, hp, rfl⟩ := isIn_of e2 (by omega)
      rw [if_neg bZt, h.1.1.2.1]
      by_cases h0 : i < 0
      · have ea : aHash C (nI f) (nI p) i = -2 := by
          unfold aHash
          rw [if_pos ⟨e1, e2⟩, if_neg (by rw [isIn_no (v := i) (by omega) (Or.inl h0)]; simp)]
        rw [if_pos h0, ea]
      · obtain ⟨j, hj, rfl⟩ := nI_of h0
        rw [if_neg h0]
        by_cases hjK : j < cK C
        · have ea : aHash C (nI f) (nI p) (nI j) = nI (cel C f p j) := by
            unfold aHash
            rw [if_pos ⟨e1, e2⟩, if_pos (isIn_nI hjK (by omega)), ncl (by omega), ncl (by omega), ncl (by omega)]
          rw [if_pos (show nI j < nI (cK C) by rw [nlt (by omega) (by omega)]; exact hjK), x0_cell hC h.1.1 hf hp (by omega), bd1s, ea]
        · have ea : aHash C (nI f) (nI p) (nI j) = -2 := by
            unfold aHash
            rw [if_pos ⟨e1, e2⟩, if_neg (by rw [isIn_no (v := nI j) (n := cK C) (by omega) (Or.inr (nI_le (by omega) hj))]; simp)]
          rw [if_neg (show ¬ nI j < nI (cK C) by rw [nlt (by omega) (by omega)]; exact hjK), ea]
theorem r8_hash {I : HI} {m : Nat} {C : Cf} {S : St} {f p i : Int32} (hC : WfC C) (h : RfAt I m C S) : f_X8_hash I m f p i = some (aHash C f p i, sI I m 0 0) := by
  have hF := hC.2.2.1
  have hK := hC.2.1
  unfold f_X8_hash
  rw [lt1s, h.z.1.2.2.1, r8_inN f (by omega), bd1s]
  cases e1 : isIn f (cF C) with
  | false =>
    have ea : aHash C f p i = -1 := if_neg (by rw [e1]; simp)
    rw [if_pos bZf, ea]
  | true =>
    rw [if_neg bZt, r8_noPage, bd1s]
    cases e2 : isIn p 32 with
    | false =>
      have ea : aHash C f p i = -1 := if_neg (by rw [e2]; simp)
      rw [if_neg (show ¬ bZ (!false) = 0 from bZt), ea]
    | true =>
      rw [if_pos (show bZ (!true) = 0 from bZf), h.z.1.2.1, r8_inN i (by omega), bd1s]
      cases e3 : isIn i (cK C) with
      | false =>
        have ea : aHash C f p i = -2 := by
          unfold aHash
          rw [if_pos ⟨e1, e2⟩, if_neg (by rw [e3]; simp)]
        rw [if_pos bZf, ea]
      | true =>
        obtain ⟨f, hf, rfl⟩ := isIn_of e1 (by omega)
        obtain ⟨p, hp, rfl⟩ := isIn_of e2 (by omega)
        obtain ⟨i, hi, rfl⟩ := isIn_of e3 (by omega)
        have ea : aHash C (nI f) (nI p) (nI i) = nI (cel C f p i) := by
          unfold aHash
          rw [if_pos ⟨e1, e2⟩, if_pos e3, ncl (by omega), ncl (by omega), ncl (by omega)]
        rw [if_neg bZt, r8_hashOf hC h.z.1 hf hp (by omega), bd1s, ea]

/-! threshold and drop, on both sides -/
theorem px_li {I : HI} {a rm : Nat} {P : Prx} (h : PxAt I a rm P) (v : Int32) : PxAt (sI I a 1 v) a rm (pN P, pS P, pC P, pM P, pH P, v) := by
  obtain ⟨p0, p1, p2, p3, p4, p5, p6⟩ := h
  refine ⟨?_, ?_, ?_, ?_, ?_, fun k hk => ?_, fun k hk => ?_⟩
  · rw [sI_eq, uR_ne (by omega)]; exact p0
  · rw [sI_eq, uR_eq]
  · rw [sI_eq, uR_ne (by omega)]; exact p2
  · rw [sI_eq, uR_ne (by omega)]; exact p3
  · rw [sI_eq, uR_ne (by omega)]; exact p4
  · rw [sI_ne (by omega)]; exact p5 k hk
  · rw [sI_ne (by omega)]; exact p6 k hk
def aLi (v : Int32) (P : Prx) : Prx := (pN P, pS P, pC P, pM P, pH P, v)
def isLi (l : Int32) : Bool := decide (1 ≤ l.toInt ∧ l.toInt ≤ 9)
def aThr (C : Cf) (v l : Int32) (S : St) : Int32 × St := if isIn v (cN C) = true then (if isLi l = true then (pL (nP S.1 v.toNatClampNeg), (sdu C (stP S.1 v.toNatClampNeg (aLi l (nP S.1 v.toNatClampNeg))) (cN C), pushH S.2.1 S.2.2 S.1)) else (-2, S)) else (-1, S)
theorem li_wf {C : Cf} {t x : Nat} {N : Nt} {l : Int32} (hx : x < cN C) (h : WfN C t N) : WfN C t (stP N x (aLi l (nP N x))) := WfN.px (t := t) (t' := t) (P := aLi l (nP N x)) h (by omega) (h.shf hx) (h.2 x hx).2
theorem x7_threshold {I : HI} {B t : Nat} {C : Cf} {S : St} {v l : Int32} (hC : WfC C) (h : ClAt I B C S) (hw : WfS C t S) : ∃ I', (ClAt I' B C (aThr C v l S).2 ∧ OffC I I' B ∧ WfS C t (aThr C v l S).2) ∧ f_X7_threshold I B v l = some ((aThr C v l S).1, I') := by
  have hn := hC.2.2.2.2.1
  have e0 : (1 : Int32).toInt = 1 := by decide
  have e9 : (9 : Int32).toInt = 9 := by decide
  unfold f_X7_threshold
  rcases x1_proxyIn hC h.1 v with ⟨x, hx, rfl, e1, e2⟩ | ⟨e1, e2⟩
  · rw [e2, bd1s, mNs]
    cases hl : isLi l with
    | false =>
      have ea : aThr C (nI x) l S = (-2, S) := by
        unfold aThr
        rw [if_pos e1, if_neg (by rw [hl]; simp)]
      have h1 := of_decide_eq_false hl
      rw [ea]
      by_cases h2 : l < 1
      · rw [if_pos h2]; exact ⟨I, ⟨h, OffC.rf, hw⟩, rfl⟩
      · rw [if_neg h2, if_pos (show (9 : Int32) < l by rw [Int32.lt_iff_toInt_lt] at h2 ⊢; omega)]
        exact ⟨I, ⟨h, OffC.rf, hw⟩, rfl⟩
    | true =>
      have h1 := of_decide_eq_true hl
      have ea : aThr C (nI x) l S = (pL (nP S.1 x), (sdu C (stP S.1 x (aLi l (nP S.1 x))) (cN C), pushH S.2.1 S.2.2 S.1)) := by
        unfold aThr
        rw [if_pos e1, if_pos hl, ncl (by omega)]
      obtain ⟨I1, ⟨a1, a2, a3⟩, a4⟩ := x3_recS hC h hw
      rw [ea, if_neg (show ¬ l < 1 by rw [Int32.lt_iff_toInt_lt]; omega), if_neg (show ¬ (9 : Int32) < l by rw [Int32.lt_iff_toInt_lt]; omega), lt1s, a4, bd1s, lt1s]
      have b1 := px_li (a1.2.2.2.2.2.2 x hx) l
      have o1 : Off I1 (sI I1 (B + 20 + 4 + 1 + 3 * x) 1 l) (B + 20 + 4 + 1 + 3 * x) 3 := Off.s (by omega)
      obtain ⟨I2, ⟨c1, c2⟩, c3⟩ := x1_spreadDue hn (a1.px hn hx b1 o1)
      rw [c3, bd1s]
      have o2 := (o1.px hn hx).tr c2
      refine ⟨I2, ⟨⟨c1, a2.off (D := pushH S.2.1 S.2.2 S.1) hC o2⟩, a3.tr (OffC.net o2), hw.push (by omega) (WfN.sdu (li_wf hx hw.1) _)⟩, ?_⟩
      rw [(h.1.2.2.2.2.2.2 x hx).2.1]
  · have ea : aThr C v l S = (-1, S) := if_neg (by rw [e1]; simp)
    rw [e2, bd1s, mNn, ea]
    exact ⟨I, ⟨h, OffC.rf, hw⟩, rfl⟩
theorem r8_threshold {I : HI} {m t : Nat} {C : Cf} {S : St} {v l : Int32} (hC : WfC C) (h : RfAt I m C S) (hw : WfS C t S) : ∃ I', (RfAt I' m C (aThr C v l S).2 ∧ OffR I I' m) ∧ f_X8_threshold I m v l = some ((aThr C v l S).1, I') := by
  have hn := hC.2.2.2.2.1
  unfold f_X8_threshold
  rw [lt1s, r8_noProxy hC h.z.1.2.2.2.1, bd1s]
  cases e1 : isIn v (cN C) with
  | false =>
    have ea : aThr C v l S = (-1, S) := if_neg (by rw [e1]; simp)
    rw [if_neg (show ¬ bZ (!false) = 0 from bZt), ea]
    exact ⟨_, ⟨h.z, OffR.z⟩, rfl⟩
  | true =>
    have el : f_X8_in l.toInt64 1 9 = some (bZ (isLi l)) := by
      rw [r8_in]
      have e0 : (1 : Int64).toInt = 1 := by decide
      have e9 : (9 : Int64).toInt = 9 := by decide
      rw [e0, e9]; rfl
    rw [if_pos (show bZ (!true) = 0 from bZf), el, bd1s]
    obtain ⟨x, hx, rfl⟩ := isIn_of e1 (by omega)
    cases hl : isLi l with
    | false =>
      have ea : aThr C (nI x) l S = (-2, S) := by
        unfold aThr
        rw [if_pos e1, if_neg (by rw [hl]; simp)]
      rw [if_pos bZf, ea]
      exact ⟨_, ⟨h.z, OffR.z⟩, rfl⟩
    | true =>
      have ea : aThr C (nI x) l S = (pL (nP S.1 x), (sdu C (stP S.1 x (aLi l (nP S.1 x))) (cN C), pushH S.2.1 S.2.2 S.1)) := by
        unfold aThr
        rw [if_pos e1, if_pos hl, ncl (by omega)]
      obtain ⟨I1, ⟨a1, a2, a3, a4⟩, a5⟩ := r8_noteS hC h.z
      have h1 := (a3.1 x hx).u (k := 29 * x + 28) (v := l) (by omega) (by omega)
      rw [if_neg (by omega), if_neg (by omega), if_pos rfl] at h1
      have h2 : RnAt (uR (I1 (m + 9)) (29 * x + 28) l) C (stP S.1 x (aLi l (nP S.1 x))) := a3.px hn hx h1 (ROff.u (by omega))
      obtain ⟨r2, b1, b2⟩ := r8_sendDue (I := I1) (w := m + 9) hC a1 (by omega) h2 (li_wf hx hw.1)
      have es : sI I1 (m + 9) (29 * x + 28) l = rowS I1 (m + 9) (uR (I1 (m + 9)) (29 * x + 28) l) := by
        rw [← rowS_s, rowS_id]
      rw [if_neg bZt, a5, bd1s, ea, i_29, i_28, nmul, nadd, gv (by omega) (by omega), lt1s, gv (by omega) (by omega), lt1s, ncl (by omega), es, b2, bd1s, (a3.1 x hx).2.2.2.2.2.1]
      exact ⟨_, ⟨RfAt.fin a1 a2 b1, (OffR.z.tr a4).tr (OffR.row r2)⟩, rfl⟩
def aDrop (C : Cf) (v p : Int32) (S : St) : Int32 × St := if isIn v (cN C) = true ∧ isIn p 32 = true then (match pl (pS (nP S.1 v.toNatClampNeg)) p.toNatClampNeg (pN (nP S.1 v.toNatClampNeg)) with
    | none => (-3, S)
    | some _ => (nI (pN (nP (dsc C v.toNatClampNeg p.toNatClampNeg S.1).2 v.toNatClampNeg)), ((dsc C v.toNatClampNeg p.toNatClampNeg S.1).2, pushH S.2.1 S.2.2 S.1))) else (-1, S)
theorem aDrop_in {C : Cf} {x p : Nat} {S : St} (hC : WfC C) (hx : x < cN C) (hp : p < 32) : aDrop C (nI x) (nI p) S = match pl (pS (nP S.1 x)) p (pN (nP S.1 x)) with
    | none => (-3, S)
    | some _ => (nI (pN (nP (dsc C x p S.1).2 x)), ((dsc C x p S.1).2, pushH S.2.1 S.2.2 S.1)) := by
  have hn := hC.2.2.2.2.1
  unfold aDrop
  rw [if_pos ⟨isIn_nI hx (by omega), isIn_nI hp (by omega)⟩, ncl (by omega), ncl (by omega)]
theorem x7_drop {I : HI} {B t : Nat} {C : Cf} {S : St} {v p : Int32} (hC : WfC C) (ht : t + 3 < 1000000) (h : ClAt I B C S) (hw : WfS C t S) : ∃ I', (ClAt I' B C (aDrop C v p S).2 ∧ OffC I I' B ∧ WfS C (t + 3) (aDrop C v p S).2) ∧ f_X7_drop I B v p = some ((aDrop C v p S).1, I') := by
  have hn := hC.2.2.2.2.1
  unfold f_X7_drop
  rcases x1_proxyIn hC h.1 v with ⟨x, hx, rfl, e1, e2⟩ | ⟨e1, e2⟩
  · rw [e2, bd1s, mNs, x7_isPage, bd1s]
    cases hp : isIn p 32 with
    | false =>
      have ea : aDrop C (nI x) p S = (-1, S) := if_neg (by rw [hp]; simp)
      rw [if_pos bZf, ea]
      exact ⟨I, ⟨h, OffC.rf, hw.mono (by omega)⟩, rfl⟩
    | true =>
      obtain ⟨p, hp32, rfl⟩ := isIn_of hp (by omega)
      rw [if_neg bZt, x4_has (h.1.2.2.2.2.2.2 x hx) (hw.1.shf hx) hp32, bd1s, aDrop_in hC hx hp32]
      cases hpl : pl (pS (nP S.1 x)) p (pN (nP S.1 x)) with
      | none =>
        rw [if_pos (show bZ (Option.isSome (none : Option Nat)) = 0 from rfl)]
        exact ⟨I, ⟨h, OffC.rf, hw.mono (by omega)⟩, rfl⟩
      | some i =>
        rw [if_neg (show ¬ bZ (Option.isSome (some i)) = 0 from bZt)]
        obtain ⟨I1, ⟨a1, a2, a3⟩, a4⟩ := x3_recS hC h hw
        obtain ⟨I2, ⟨b1, b2, b3⟩, b4⟩ := x1_discard hC hp32 hx ht a1 hw.1
        rw [a4, bd1s, b4, bd2s, (b1.2.2.2.2.2.2 x hx).2.2.1]
        exact ⟨I2, ⟨⟨b1, a2.off (D := pushH S.2.1 S.2.2 S.1) hC b2⟩, a3.tr (OffC.net b2), hw.push (by omega) b3⟩, rfl⟩
  · have ea : aDrop C v p S = (-1, S) := if_neg (by rw [e1]; simp)
    rw [e2, bd1s, mNn, ea]
    exact ⟨I, ⟨h, OffC.rf, hw.mono (by omega)⟩, rfl⟩
theorem r8_drop {I : HI} {m t : Nat} {C : Cf} {S : St} {v p : Int32} (hC : WfC C) (ht : t + 3 < 1000000) (h : RfAt I m C S) (hw : WfS C t S) : ∃ I', (RfAt I' m C (aDrop C v p S).2 ∧ OffR I I' m) ∧ f_X8_drop I m v p = some ((aDrop C v p S).1, I') := by
  have hn := hC.2.2.2.2.1
  unfold f_X8_drop
  rw [lt1s, r8_noProxy hC h.z.1.2.2.2.1, bd1s]
  cases e1 : isIn v (cN C) with
  | false =>
    have ea : aDrop C v p S = (-1, S) := if_neg (by rw [e1]; simp)
    rw [if_neg (show ¬ bZ (!false) = 0 from bZt), ea]
    exact ⟨_, ⟨h.z, OffR.z⟩, rfl⟩
  | true =>
    rw [if_pos (show bZ (!true) = 0 from bZf), r8_noPage, bd1s]
    cases hp : isIn p 32 with
    | false =>
      have ea : aDrop C v p S = (-1, S) := if_neg (by rw [hp]; simp)
      rw [if_neg (show ¬ bZ (!false) = 0 from bZt), ea]
      exact ⟨_, ⟨h.z, OffR.z⟩, rfl⟩
    | true =>
      obtain ⟨x, hx, rfl⟩ := isIn_of e1 (by omega)
      obtain ⟨p, hp32, rfl⟩ := isIn_of hp (by omega)
      have hsh := hw.1.shf hx
      have hpo := r8_placeOf (I := sI I m 0 0) (w := m + 9) (h.z.2.1.1 x hx) hsh (by omega) hp32
      rw [rowS_id] at hpo
      rw [if_pos (show bZ (!true) = 0 from bZf), hpo, bd1s, aDrop_in hC hx hp32]
      cases hpl : pl (pS (nP S.1 x)) p (pN (nP S.1 x)) with
      | none =>
        rw [if_pos (show plV none = (-9 : Int32) from rfl)]
        exact ⟨_, ⟨h.z, OffR.z⟩, rfl⟩
      | some i =>
        have hi := (pl_some hpl).1
        rw [if_neg (show ¬ plV (some i) = (-9 : Int32) by show ¬ nI i = m9; rw [nI_m9 (by have := hsh.1; have := hsh.2.1; omega)]; exact id)]
        obtain ⟨I1, ⟨a1, a2, a3, a4⟩, a5⟩ := r8_noteS hC h.z
        have ed : (dsc C x p S.1).2 = sdu C (stP S.1 x (aGo C (nF S.1) i (nP S.1 x))) (cN C) := by
          unfold dsc
          rw [hpl]
        obtain ⟨r2, b1, b2⟩ := r8_dropOn (w := m + 9) hC a1 (by omega) ht a3 hw.1 hx hi
        rw [rowS_id] at b2
        have b2' : f_X8_dropOn I1 m (m + 9) (nI x) (plV (some i)) = some (rowS I1 (m + 9) r2) := b2
        rw [a5, bd1s, b2', bd1s, i_29, i_9, nmul, nadd, gv (by omega) (by omega), ncl (by omega), rowS_at, (b1.1 x hx).2.1]
        dsimp only
        rw [ed]
        exact ⟨_, ⟨RfAt.fin a1 a2 b1, (OffR.z.tr a4).tr (OffR.row r2)⟩, rfl⟩

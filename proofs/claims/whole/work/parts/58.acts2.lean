/-! more acts, on both sides -/
theorem x3_recS {I : HI} {B t : Nat} {C : Cf} {S : St} (hC : WfC C) (h : ClAt I B C S) (hw : WfS C t S) : ∃ I1, (NtAt I1 (B + 20) C S.1 ∧ PsAt I1 (B + 54) C (pushH S.2.1 S.2.2 S.1).1 (pushH S.2.1 S.2.2 S.1).2 ∧ OffC I I1 B) ∧ f_X3_record I (B + 54) (B + 20) = some I1 := by
  have hn := hC.2.2.2.2.1
  obtain ⟨I1, ⟨a1, a2⟩, a3⟩ := x3_record (b := B + 20) hC h.2 (by omega) h.1 hw.1
  exact ⟨I1, ⟨h.1.kept hn fun q _ _ => a2 q (by omega), a1, OffC.past a2⟩, a3⟩
theorem PsAt.off {I I' : HI} {B : Nat} {C : Cf} {D : Nat × (Nat → Nt)} (hC : WfC C) (h : PsAt I (B + 54) C D.1 D.2) (ho : Off I I' (B + 20) 17) : PsAt I' (B + 54) C D.1 D.2 := by
  have hn := hC.2.2.2.2.1
  obtain ⟨q, h1, h2, h3, h4, h5⟩ := h
  exact ⟨q, h1, h2, by rw [ho _ (by omega)]; exact h3, by rw [ho _ (by omega)]; exact h4, fun k hk => (h5 k hk).kept hn fun z h6 h7 => ho z (by omega)⟩
theorem WfS.mono {C : Cf} {t t' : Nat} {S : St} (h : WfS C t S) (ht : t ≤ t') : WfS C t' S := ⟨h.1.mono ht, fun k hk => (h.2 k hk).mono ht⟩
theorem WfS.push {C : Cf} {t t' : Nat} {S : St} {N' : Nt} (h : WfS C t S) (ht : t ≤ t') (hN : WfN C t' N') : WfS C t' (N', pushH S.2.1 S.2.2 S.1) := ⟨hN, fun k hk => (WfH.push h.2 h.1 k hk).mono ht⟩
def aUse (C : Cf) (v : Int32) (S : St) : Int32 × St := if isIn v (cF C) = true then (nI (nF S.1), (adp C (nFam S.1 v.toNatClampNeg) (cN C), pushH S.2.1 S.2.2 S.1)) else (-1, S)
theorem x7_use {I : HI} {B t : Nat} {C : Cf} {S : St} {v : Int32} (hC : WfC C) (h : ClAt I B C S) (hw : WfS C t S) : ∃ I', (ClAt I' B C (aUse C v S).2 ∧ OffC I I' B ∧ WfS C (t + 27) (aUse C v S).2) ∧ f_X7_use I B v = some ((aUse C v S).1, I') := by
  have hn := hC.2.2.2.2.1
  have hF := hC.2.2.1
  unfold f_X7_use
  rw [x0_familyIn hC h.1.1, bd1s]
  cases hv : isIn v (cF C) with
  | false =>
    have ea : aUse C v S = (-1, S) := if_neg (by rw [hv]; simp)
    rw [if_pos bZf, ea]
    exact ⟨I, ⟨h, OffC.rf, hw.mono (by omega)⟩, rfl⟩
  | true =>
    obtain ⟨f, hf, rfl⟩ := isIn_of hv (by omega)
    have ea : aUse C (nI f) S = (nI (nF S.1), (adp C (nFam S.1 f) (cN C), pushH S.2.1 S.2.2 S.1)) := by
      unfold aUse
      rw [if_pos hv, ncl (by omega)]
    obtain ⟨I1, ⟨a1, a2, a3⟩, a4⟩ := x3_recS hC h hw
    rw [if_neg bZt, ea, lt1s, a4, bd1s, h.1.1.2.2.2.1]
    obtain ⟨I2, ⟨b1, b2, b3⟩, b4⟩ := x1_adopt (t := t + 27) hC hf (by omega) a1 (hw.1.mono (by omega))
    rw [b4, bd2s]
    exact ⟨I2, ⟨⟨b1, a2.off (D := pushH S.2.1 S.2.2 S.1) hC b2⟩, a3.tr (OffC.net b2), hw.push (by omega) b3⟩, rfl⟩
theorem r8_use {I : HI} {m t : Nat} {C : Cf} {S : St} {v : Int32} (hC : WfC C) (h : RfAt I m C S) (hw : WfS C t S) : ∃ I', (RfAt I' m C (aUse C v S).2 ∧ OffR I I' m) ∧ f_X8_use I m v = some ((aUse C v S).1, I') := by
  have hn := hC.2.2.2.2.1
  have hF := hC.2.2.1
  unfold f_X8_use
  rw [lt1s, h.z.1.2.2.1, r8_inN v (by omega), bd1s]
  cases hv : isIn v (cF C) with
  | false =>
    have ea : aUse C v S = (-1, S) := if_neg (by rw [hv]; simp)
    rw [if_pos bZf, ea]
    exact ⟨_, ⟨h.z, OffR.z⟩, rfl⟩
  | true =>
    obtain ⟨f, hf, rfl⟩ := isIn_of hv (by omega)
    have ea : aUse C (nI f) S = (nI (nF S.1), (adp C (nFam S.1 f) (cN C), pushH S.2.1 S.2.2 S.1)) := by
      unfold aUse
      rw [if_pos hv, ncl (by omega)]
    obtain ⟨I1, ⟨a1, a2, a3, a4⟩, a5⟩ := r8_noteS hC h.z
    rw [if_neg bZt, a5, bd1s, ea, i_116, gv (by omega) (by omega), lt1s, ncl (by omega), a3.2.1]
    obtain ⟨r2, b1, b2⟩ := r8_useOn (w := m + 9) (t := t + 27) hC a1 (by omega) hf (by omega) a3 (hw.1.mono (by omega))
    rw [rowS_id] at b2
    rw [b2, bd1s]
    exact ⟨_, ⟨RfAt.fin a1 a2 b1, (OffR.z.tr a4).tr (OffR.row r2)⟩, rfl⟩
def aSend (C : Cf) (v : Int32) (S : St) : Int32 × St := if isIn v (cN C) = true then (flt (pC (nP S.1 v.toNatClampNeg)) 16, (snd1 C v.toNatClampNeg S.1, pushH S.2.1 S.2.2 S.1)) else (-1, S)
theorem snd1_pM (C : Cf) (x : Nat) (N : Nt) : pM (nP (snd1 C x N) x) = flt (pC (nP N x)) 16 := by
  show pM (nP (stP N x (aSnd (nP N x))) x) = _
  rw [stP_eq]; rfl
theorem x7_send {I : HI} {B t : Nat} {C : Cf} {S : St} {v : Int32} (hC : WfC C) (h : ClAt I B C S) (hw : WfS C t S) : ∃ I', (ClAt I' B C (aSend C v S).2 ∧ OffC I I' B ∧ WfS C t (aSend C v S).2) ∧ f_X7_send I B v = some ((aSend C v S).1, I') := by
  have hn := hC.2.2.2.2.1
  unfold f_X7_send
  rcases x1_proxyIn hC h.1 v with ⟨x, hx, rfl, e1, e2⟩ | ⟨e1, e2⟩
  · have ea : aSend C (nI x) S = (flt (pC (nP S.1 x)) 16, (snd1 C x S.1, pushH S.2.1 S.2.2 S.1)) := by
      unfold aSend
      rw [if_pos e1, ncl (by omega)]
    obtain ⟨I1, ⟨a1, a2, a3⟩, a4⟩ := x3_recS hC h hw
    rw [e2, bd1s, mNs, a4, bd1s, ea]
    obtain ⟨I2, ⟨b1, b2⟩, b3⟩ := x1_spread hn a1 hx
    rw [b3, bd2s]
    refine ⟨I2, ⟨⟨b1, a2.off (D := pushH S.2.1 S.2.2 S.1) hC b2⟩, a3.tr (OffC.net b2), hw.push (by omega) hw.1.snd⟩, ?_⟩
    rw [(b1.2.2.2.2.2.2 x hx).2.2.2.2.1, snd1_pM]
  · have ea : aSend C v S = (-1, S) := if_neg (by rw [e1]; simp)
    rw [e2, bd1s, mNn, ea]
    exact ⟨I, ⟨h, OffC.rf, hw⟩, rfl⟩
theorem r8_send {I : HI} {m t : Nat} {C : Cf} {S : St} {v : Int32} (hC : WfC C) (h : RfAt I m C S) (hw : WfS C t S) : ∃ I', (RfAt I' m C (aSend C v S).2 ∧ OffR I I' m) ∧ f_X8_send I m v = some ((aSend C v S).1, I') := by
  have hn := hC.2.2.2.2.1
  unfold f_X8_send
  rw [lt1s, r8_noProxy hC h.z.1.2.2.2.1, bd1s]
  cases e1 : isIn v (cN C) with
  | false =>
    have ea : aSend C v S = (-1, S) := if_neg (by rw [e1]; simp)
    rw [if_neg (show ¬ bZ (!false) = 0 from bZt), ea]
    exact ⟨_, ⟨h.z, OffR.z⟩, rfl⟩
  | true =>
    obtain ⟨x, hx, rfl⟩ := isIn_of e1 (by omega)
    have ea : aSend C (nI x) S = (flt (pC (nP S.1 x)) 16, (snd1 C x S.1, pushH S.2.1 S.2.2 S.1)) := by
      unfold aSend
      rw [if_pos e1, ncl (by omega)]
    obtain ⟨I1, ⟨a1, a2, a3, a4⟩, a5⟩ := r8_noteS hC h.z
    rw [if_pos (show bZ (!true) = 0 from bZf), a5, bd1s, ea]
    obtain ⟨r2, b1, b2⟩ := r8_sendOn (w := m + 9) hC a1 (by omega) a3 hw.1 hx
    rw [rowS_id] at b2
    rw [b2, bd1s, i_29, i_26, nmul, nadd, gv (by omega) (by omega), ncl (by omega), rowS_at, (b1.1 x hx).2.2.2.1, snd1_pM]
    exact ⟨_, ⟨RfAt.fin a1 a2 b1, (OffR.z.tr a4).tr (OffR.row r2)⟩, rfl⟩
def aUndo (S : St) : Int32 × St := if S.2.1 = 0 then (-3, S) else (nI (S.2.1 - 1), (S.2.2 (S.2.1 - 1), S.2.1 - 1, S.2.2))
theorem x7_undo {I : HI} {B t : Nat} {C : Cf} {S : St} (hC : WfC C) (h : ClAt I B C S) (hw : WfS C t S) : ∃ I', (ClAt I' B C (aUndo S).2 ∧ OffC I I' B ∧ WfS C t (aUndo S).2) ∧ f_X7_undo I B = some ((aUndo S).1, I') := by
  obtain ⟨N, d, H⟩ := S
  obtain ⟨h1, h2⟩ := h
  unfold f_X7_undo
  cases d with
  | zero =>
    have ea : aUndo (N, 0, H) = (-3, (N, 0, H)) := if_pos rfl
    have h2' : PsAt I (B + 54) C 0 H := h2
    rw [x3_restore0 h2', bd2s, if_pos rfl, ea]
    exact ⟨I, ⟨⟨h1, h2⟩, OffC.rf, hw⟩, rfl⟩
  | succ d =>
    have ea : aUndo (N, d + 1, H) = (nI d, (H d, d, H)) := if_neg (by show ¬ d + 1 = 0; omega)
    have h2' : PsAt I (B + 54) C (d + 1) H := h2
    obtain ⟨I1, ⟨⟨a1, a2⟩, a3⟩, a4⟩ := x3_restore (b := B + 20) (t := t) hC h2' (by omega) (hw.2 d (show d < d + 1 by omega))
    rw [a4, bd2s, if_neg (by decide), ea]
    refine ⟨I1, ⟨⟨a2, a1⟩, fun z p q => a3 z (by omega) (by omega), hw.2 d (show d < d + 1 by omega), fun k hk => hw.2 k (show k < d + 1 by have : k < d := hk; omega)⟩, ?_⟩
    obtain ⟨q, -, -, -, e, -⟩ := a1
    rw [e]
theorem r8_undoS {I : HI} {m : Nat} {C : Cf} {S : St} (hC : WfC C) (h : RfAt I m C S) : ∃ I', (RfAt I' m C (aUndo S).2 ∧ OffR I I' m) ∧ f_X8_undo I m = some ((aUndo S).1, I') := by
  obtain ⟨N, d, H⟩ := S
  obtain ⟨h1, h2, h3⟩ := h
  cases d with
  | zero =>
    have ea : aUndo (N, 0, H) = (-3, (N, 0, H)) := if_pos rfl
    have h3' : BkAt I m C 0 H := h3
    rw [r8_undo0 h3', ea]
    exact ⟨_, ⟨RfAt.z ⟨h1, h2, h3⟩, OffR.z⟩, rfl⟩
  | succ d =>
    have ea : aUndo (N, d + 1, H) = (nI d, (H d, d, H)) := if_neg (by show ¬ d + 1 = 0; omega)
    have h3' : BkAt I m C (d + 1) H := h3
    obtain ⟨I1, ⟨⟨a1, a2⟩, a3, a4⟩, a5⟩ := r8_undo hC h3'
    have o : OffR I I1 m := ⟨fun z p q _ => a3 z q p, fun k p q => a4 k q p⟩
    rw [a5, ea]
    exact ⟨I1, ⟨⟨h1.off o, a2, a1⟩, o⟩, rfl⟩

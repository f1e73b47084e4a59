/-! acts on the present net, on both sides -/
abbrev St : Type := Nt × Nat × (Nat → Nt)
def ClAt (I : HI) (B : Nat) (C : Cf) (S : St) : Prop := NtAt I (B + 20) C S.1 ∧ PsAt I (B + 54) C S.2.1 S.2.2
def RfAt (I : HI) (m : Nat) (C : Cf) (S : St) : Prop := CfAt I m C ∧ RnAt (I (m + 9)) C S.1 ∧ BkAt I m C S.2.1 S.2.2
def WfS (C : Cf) (t : Nat) (S : St) : Prop := WfN C t S.1 ∧ WfH C t S.2.1 S.2.2
def OffC (I I' : HI) (B : Nat) : Prop := ∀ z, ¬ (B + 20 ≤ z ∧ z < B + 37) → ¬ (B + 54 ≤ z ∧ z < B + 294) → I' z = I z
def OffR (I I' : HI) (m : Nat) : Prop := (∀ z, z ≠ m → z ≠ m + 9 → z ≠ m + 11 → I' z = I z) ∧ ∀ k, k ≠ 0 → k ≠ 22 → I' m k = I m k
theorem OffC.rf {I : HI} {B : Nat} : OffC I I B := fun _ _ _ => rfl
theorem OffC.tr {I I1 I2 : HI} {B : Nat} (h1 : OffC I I1 B) (h2 : OffC I1 I2 B) : OffC I I2 B := fun q a b => (h2 q a b).trans (h1 q a b)
theorem OffC.net {I I1 : HI} {B : Nat} (h : Off I I1 (B + 20) 17) : OffC I I1 B := fun q a _ => h q (by omega)
theorem OffC.past {I I1 : HI} {B : Nat} (h : Off I I1 (B + 54) 240) : OffC I I1 B := fun q _ b => h q (by omega)
theorem OffR.tr {I I1 I2 : HI} {m : Nat} (h1 : OffR I I1 m) (h2 : OffR I1 I2 m) : OffR I I2 m := ⟨fun z a b c => (h2.1 z a b c).trans (h1.1 z a b c), fun k a b => (h2.2 k a b).trans (h1.2 k a b)⟩
theorem OffR.row {I : HI} {m : Nat} (r : Nat → Int32) : OffR I (rowS I (m + 9) r) m := ⟨fun z _ b _ => rowS_ne b, fun k _ _ => by rw [rowS_ne (by omega)]⟩
theorem OffR.z {I : HI} {m : Nat} : OffR I (sI I m 0 0) m := ⟨fun z a _ _ => sI_ne a, fun k a _ => by rw [sI_eq, uR_ne a]⟩
theorem CfAt.off {I I' : HI} {m : Nat} {C : Cf} (h : CfAt I m C) (ho : OffR I I' m) : CfAt I' m C := by
  obtain ⟨a, b, c, d, e, f, g⟩ := h
  exact ⟨by rw [ho.2 _ (by omega) (by omega)]; exact a, by rw [ho.2 _ (by omega) (by omega)]; exact b, by rw [ho.2 _ (by omega) (by omega)]; exact c, by rw [ho.2 _ (by omega) (by omega)]; exact d, fun k hk => by rw [ho.1 _ (by omega) (by omega) (by omega)]; exact e k hk, fun k hk => by rw [ho.1 _ (by omega) (by omega) (by omega)]; exact f k hk, fun k hk => by rw [ho.1 _ (by omega) (by omega) (by omega)]; exact g k hk⟩
theorem RfAt.z {I : HI} {m : Nat} {C : Cf} {S : St} (h : RfAt I m C S) : RfAt (sI I m 0 0) m C S := by
  obtain ⟨a, b, c, d, e⟩ := h
  refine ⟨a.off OffR.z, ?_, ?_, d, fun k hk => ?_⟩
  · rw [sI_ne (by omega)]; exact b
  · rw [sI_eq, uR_ne (by omega)]; exact c
  · rw [sI_ne (by omega)]; exact e k hk
/-- remembered, then changed -/
theorem RfAt.fin {I : HI} {m : Nat} {C : Cf} {N' : Nt} {D : Nat × (Nat → Nt)} {r : Nat → Int32} (hc : CfAt I m C) (hb : BkAt I m C D.1 D.2) (hr : RnAt r C N') : RfAt (rowS I (m + 9) r) m C (N', D) := by
  refine ⟨hc.row (by omega) r, ?_, ?_, hb.2.1, fun k hk => ?_⟩
  · rw [rowS_at]; exact hr
  · rw [rowS_ne (by omega)]; exact hb.1
  · rw [rowS_ne (by omega)]; exact hb.2.2 k hk
theorem r8_noteS {I : HI} {m : Nat} {C : Cf} {S : St} (hC : WfC C) (h : RfAt I m C S) : ∃ I', (CfAt I' m C ∧ BkAt I' m C (pushH S.2.1 S.2.2 S.1).1 (pushH S.2.1 S.2.2 S.1).2 ∧ RnAt (I' (m + 9)) C S.1 ∧ OffR I I' m) ∧ f_X8_note I m = some I' := by
  obtain ⟨I1, ⟨a1, a2, a3⟩, a4⟩ := r8_note hC h.2.2 h.2.1
  have o : OffR I I1 m := ⟨fun z p q r => a2 z r p, fun k _ h2 => a3 k h2⟩
  exact ⟨I1, ⟨h.1.off o, a1, by rw [a2 _ (by omega) (by omega)]; exact h.2.1, o⟩, a4⟩
def aAsk (C : Cf) (v p : Int32) (S : St) : Int32 × St := if isIn v (cN C) = true ∧ isIn p 32 = true then ((ask C v.toNatClampNeg p.toNatClampNeg S.1).1, ((ask C v.toNatClampNeg p.toNatClampNeg S.1).2, pushH S.2.1 S.2.2 S.1)) else (-1, S)
theorem x7_ask {I : HI} {B t : Nat} {C : Cf} {S : St} {v p : Int32} (hC : WfC C) (ht : t + 6 < 1000000) (h : ClAt I B C S) (hw : WfS C t S) : ∃ I', (ClAt I' B C (aAsk C v p S).2 ∧ OffC I I' B ∧ WfS C (t + 6) (aAsk C v p S).2) ∧ f_X7_ask I B v p = some ((aAsk C v p S).1, I') := by
  have hn := hC.2.2.2.2.1
  have hw6 : WfS C (t + 6) S := ⟨hw.1.mono (by omega), fun k hk => (hw.2 k hk).mono (by omega)⟩
  unfold f_X7_ask
  rcases x1_proxyIn hC h.1 v with ⟨x, hx, rfl, e1, e2⟩ | ⟨e1, e2⟩
  · rw [e2, bd1s, mNs, x7_isPage, bd1s]
    cases hp : isIn p 32 with
    | false =>
      have ea : aAsk C (nI x) p S = (-1, S) := if_neg (by rw [hp]; simp)
      rw [if_pos bZf, ea]
      exact ⟨I, ⟨h, OffC.rf, hw6⟩, rfl⟩
    | true =>
      obtain ⟨p, hp32, rfl⟩ := isIn_of hp (by omega)
      have ea : aAsk C (nI x) (nI p) S = ((ask C x p S.1).1, ((ask C x p S.1).2, pushH S.2.1 S.2.2 S.1)) := by
        unfold aAsk
        rw [if_pos ⟨e1, hp⟩, ncl (by omega), ncl (by omega)]
      rw [if_neg bZt, ea]
      obtain ⟨I1, ⟨a1, a2⟩, a3⟩ := x3_record (b := B + 20) hC h.2 (by omega) h.1 hw.1
      rw [a3, bd1s]
      have n1 : NtAt I1 (B + 20) C S.1 := h.1.kept hn fun q _ _ => a2 q (by omega)
      obtain ⟨I2, ⟨b1, b2, b3⟩, b4⟩ := x1_request hC hp32 hx ht n1 hw.1
      rw [b4, bd2s]
      obtain ⟨q, h1, h2, h3, h4, h5⟩ := a1
      have hr : ∀ k, rg q (pushH S.2.1 S.2.2 S.1).1 k < 14 := fun k => Nat.mod_lt _ (by omega)
      refine ⟨I2, ⟨⟨b1, q, h1, h2, by rw [b2 _ (by omega)]; exact h3, by rw [b2 _ (by omega)]; exact h4, fun k hk => (h5 k hk).kept hn fun z h6 h7 => b2 z (by omega)⟩, (OffC.past a2).tr (OffC.net b2), b3, fun k hk => ?_⟩, rfl⟩
      exact (WfH.push hw.2 hw.1 k hk).mono (by omega)
  · have ea : aAsk C v p S = (-1, S) := if_neg (by rw [e1]; simp)
    rw [e2, bd1s, mNn, ea]
    exact ⟨I, ⟨h, OffC.rf, hw6⟩, rfl⟩
theorem r8_ask {I : HI} {m t : Nat} {C : Cf} {S : St} {v p : Int32} (hC : WfC C) (ht : t + 6 < 1000000) (h : RfAt I m C S) (hw : WfS C t S) : ∃ I', (RfAt I' m C (aAsk C v p S).2 ∧ OffR I I' m) ∧ f_X8_ask I m v p = some ((aAsk C v p S).1, I') := by
  have hn := hC.2.2.2.2.1
  unfold f_X8_ask
  rw [lt1s, r8_noProxy hC h.z.1.2.2.2.1, bd1s]
  cases e1 : isIn v (cN C) with
  | false =>
    have ea : aAsk C v p S = (-1, S) := if_neg (by rw [e1]; simp)
    rw [if_neg (show ¬ bZ (!false) = 0 from bZt), ea]
    exact ⟨_, ⟨h.z, OffR.z⟩, rfl⟩
  | true =>
    rw [if_pos (show bZ (!true) = 0 from bZf), r8_noPage, bd1s]
    cases hp : isIn p 32 with
    | false =>
      have ea : aAsk C v p S = (-1, S) := if_neg (by rw [hp]; simp)
      rw [if_neg (show ¬ bZ (!false) = 0 from bZt), ea]
      exact ⟨_, ⟨h.z, OffR.z⟩, rfl⟩
    | true =>
      obtain ⟨x, hx, rfl⟩ := isIn_of e1 (by omega)
      obtain ⟨p, hp32, rfl⟩ := isIn_of hp (by omega)
      have ea : aAsk C (nI x) (nI p) S = ((ask C x p S.1).1, ((ask C x p S.1).2, pushH S.2.1 S.2.2 S.1)) := by
        unfold aAsk
        rw [if_pos ⟨e1, hp⟩, ncl (by omega), ncl (by omega)]
      obtain ⟨I1, ⟨a1, a2, a3, a4⟩, a5⟩ := r8_noteS hC h.z
      rw [if_pos (show bZ (!true) = 0 from bZf), a5, bd1s, ea]
      obtain ⟨r2, b1, b2⟩ := r8_askOn (w := m + 9) hC a1 (by omega) ht a3 hw.1 hx hp32
      rw [rowS_id] at b2
      rw [b2, bd2s]
      exact ⟨_, ⟨RfAt.fin a1 a2 b1, (OffR.z.tr a4).tr (OffR.row r2)⟩, rfl⟩

/-! everything together: one call on both sides -/
abbrev Al : Type := Cf × St × Tx × Ob × Sl
abbrev aC (A : Al) : Cf := A.1
abbrev aS (A : Al) : St := A.2.1
abbrev aX (A : Al) : Tx := A.2.2.1
abbrev aO (A : Al) : Ob := A.2.2.2.1
abbrev aK (A : Al) : Sl := A.2.2.2.2
def ClsR (I : HI) (B : Nat) (A : Al) : Prop := ClAt I B (aC A) (aS A) ∧ TxC I B (aX A) ∧ ObC I B (aO A) ∧ SlC I B (aC A) (aK A)
def RefR (I : HI) (m : Nat) (A : Al) : Prop := RfAt I m (aC A) (aS A) ∧ TxR I m (aX A) ∧ ObR I m (aO A) ∧ SlR I m (aC A) (aK A)
def WfA (t : Nat) (A : Al) : Prop := WfC (aC A) ∧ WfS (aC A) t (aS A) ∧ WfT (aX A) ∧ WfO (aO A) ∧ WfK (aC A) t (aK A)
theorem ClAt.kept {I I' : HI} {B : Nat} {C : Cf} {S : St} (hC : WfC C) (h : ClAt I B C S) (h1 : ∀ z, B + 20 ≤ z → z < B + 37 → I' z = I z) (h2 : ∀ z, B + 54 ≤ z → z < B + 294 → I' z = I z) : ClAt I' B C S := by
  have hn := hC.2.2.2.2.1
  obtain ⟨g1, q, a1, a2, a3, a4, a5⟩ := h
  have hq : ∀ k, rg q S.2.1 k < 14 := fun k => Nat.mod_lt _ (by omega)
  exact ⟨g1.kept hn fun z h6 h7 => h1 z h6 (by omega), q, a1, a2, by rw [h2 _ (by omega) (by omega)]; exact a3, by rw [h2 _ (by omega) (by omega)]; exact a4, fun k hk => (a5 k hk).kept hn fun z h6 h7 => h2 z (by omega) (by have := hq k; omega)⟩
theorem TxC.kept {I I' : HI} {B : Nat} {X : Tx} (h : TxC I B X) (h1 : I' (B + 1) = I (B + 1)) (h2 : I' (B + 19) = I (B + 19)) : TxC I' B X := ⟨by rw [h1]; exact h.1, fun k hk => by rw [h2]; exact h.2 k hk⟩
theorem ObC.kept {I I' : HI} {B : Nat} {O : Ob} (h : ObC I B O) (h1 : ∀ z, B + 296 ≤ z → z < B + 300 → I' z = I z) : ObC I' B O := ⟨by rw [h1 _ (by omega) (by omega)]; exact h.1, fun k hk => by rw [h1 _ (by omega) (by omega), h1 _ (by omega) (by omega), h1 _ (by omega) (by omega)]; exact h.2 k hk⟩
theorem SlC.kept {I I' : HI} {B : Nat} {C : Cf} {K : Sl} (hC : WfC C) (h : SlC I B C K) (h1 : I' (B + 295) = I (B + 295)) (h2 : ∀ z, B + 304 ≤ z → z < B + 338 → I' z = I z) : SlC I' B C K := by
  have hn := hC.2.2.2.2.1
  intro k hk
  rw [h1]
  exact ⟨(h k hk).1, fun N e => ⟨((h k hk).2 N e).1, ((h k hk).2 N e).2.kept hn fun z h3 h4 => h2 z (by omega) (by omega)⟩⟩
theorem TxR.kept {I I' : HI} {m : Nat} {X : Tx} (h : TxR I m X) (h1 : I' m 2 = I m 2) (h2 : I' (m + 1) = I (m + 1)) : TxR I' m X := ⟨by rw [h1]; exact h.1, fun k hk => by rw [h2]; exact h.2 k hk⟩
theorem ObR.kept {I I' : HI} {m : Nat} {O : Ob} (h : ObR I m O) (h1 : I' m 25 = I m 25) (h2 : ∀ z, m + 14 ≤ z → z < m + 17 → I' z = I z) : ObR I' m O := ⟨by rw [h1]; exact h.1, fun k hk => by rw [h2 _ (by omega) (by omega), h2 _ (by omega) (by omega), h2 _ (by omega) (by omega)]; exact h.2 k hk⟩
theorem SlR.kept {I I' : HI} {m : Nat} {C : Cf} {K : Sl} (h : SlR I m C K) (h1 : I' (m + 12) = I (m + 12)) (h2 : I' (m + 13) = I (m + 13)) : SlR I' m C K := by
  intro k hk
  rw [h1, h2]
  exact h k hk
theorem RfAt.kept {I I' : HI} {m : Nat} {C : Cf} {S : St} (h : RfAt I m C S) (h1 : ∀ k, (k = 4 ∨ k = 5 ∨ k = 6 ∨ k = 9 ∨ k = 22) → I' m k = I m k) (h2 : ∀ z, (z = m + 2 ∨ z = m + 3 ∨ z = m + 4 ∨ z = m + 9 ∨ z = m + 11) → I' z = I z) : RfAt I' m C S := by
  obtain ⟨⟨a, b, c, d, e, f, g⟩, r, k1, k2, k3⟩ := h
  exact ⟨⟨by rw [h1 _ (by omega)]; exact a, by rw [h1 _ (by omega)]; exact b, by rw [h1 _ (by omega)]; exact c, by rw [h1 _ (by omega)]; exact d, fun k hk => by rw [h2 _ (by omega)]; exact e k hk, fun k hk => by rw [h2 _ (by omega)]; exact f k hk, fun k hk => by rw [h2 _ (by omega)]; exact g k hk⟩, by rw [h2 _ (by omega)]; exact r, by rw [h1 _ (by omega)]; exact k1, k2, fun k hk => by rw [h2 _ (by omega)]; exact k3 k hk⟩
theorem ClsR.low {I I' : HI} {B : Nat} {A : Al} (hC : WfC (aC A)) (h : ClsR I B A) (hl : ∀ z, z < B + 338 → I' z = I z) : ClsR I' B A := ⟨h.1.kept hC (fun z _ h2 => hl z (by omega)) (fun z _ h2 => hl z (by omega)), h.2.1.kept (hl _ (by omega)) (hl _ (by omega)), h.2.2.1.kept (fun z _ h2 => hl z (by omega)), h.2.2.2.kept hC (hl _ (by omega)) (fun z _ h2 => hl z (by omega))⟩
theorem RefR.high {I I' : HI} {m : Nat} {A : Al} (h : RefR I m A) (hl : ∀ z, m ≤ z → I' z = I z) : RefR I' m A := ⟨h.1.kept (fun k _ => by rw [hl _ (by omega)]) (fun z hz => hl z (by omega)), h.2.1.kept (by rw [hl _ (by omega)]) (hl _ (by omega)), h.2.2.1.kept (by rw [hl _ (by omega)]) (fun z _ _ => hl z (by omega)), h.2.2.2.kept (hl _ (by omega)) (hl _ (by omega))⟩
/-- a call on both sides: the same answer, and both are related after it -/
def St2 (I : HI) (B t : Nat) (e1 e2 : HI → Option (Int32 × HI)) : Prop := ∃ (a : Int32) (A : Al) (I1 I2 : HI), e1 I = some (a, I1) ∧ e2 I1 = some (a, I2) ∧ WfA (t + 100) A ∧ ClsR I2 B A ∧ RefR I2 (B + 338) A
def St1 (I : HI) (B t : Nat) (e1 : HI → Option Int32) (e2 : HI → Option (Int32 × HI)) : Prop := ∃ (a : Int32) (A : Al) (I2 : HI), e1 I = some a ∧ e2 I = some (a, I2) ∧ WfA (t + 100) A ∧ ClsR I2 B A ∧ RefR I2 (B + 338) A
theorem mk2 {I : HI} {B t : Nat} {A A' : Al} {a : Int32} {e1 e2 : HI → Option (Int32 × HI)} (hw : WfA (t + 100) A') (hr : RefR I (B + 338) A) (x : ∃ I1, (ClsR I1 B A' ∧ ∀ z, B + 338 ≤ z → I1 z = I z) ∧ e1 I = some (a, I1)) (y : ∀ I1, RefR I1 (B + 338) A → ∃ I2, (RefR I2 (B + 338) A' ∧ ∀ z, z < B + 338 → I2 z = I1 z) ∧ e2 I1 = some (a, I2)) : St2 I B t e1 e2 := by
  obtain ⟨I1, ⟨a1, a2⟩, a3⟩ := x
  obtain ⟨I2, ⟨b1, b2⟩, b3⟩ := y I1 (hr.high a2)
  exact ⟨a, A', I1, I2, a3, b3, hw, a1.low hw.1 b2, b1⟩
theorem mk1 {I : HI} {B t : Nat} {A : Al} {a : Int32} {e1 : HI → Option Int32} {e2 : HI → Option (Int32 × HI)} (hw : WfA t A) (hc : ClsR I B A) (x : e1 I = some a) (y : ∃ I2, (RefR I2 (B + 338) A ∧ ∀ z, z < B + 338 → I2 z = I z) ∧ e2 I = some (a, I2)) : St1 I B t e1 e2 := by
  obtain ⟨I2, ⟨b1, b2⟩, b3⟩ := y
  have hw' : WfA (t + 100) A := ⟨hw.1, hw.2.1.mono (by omega), hw.2.2.1, hw.2.2.2.1, hw.2.2.2.2.mono (by omega)⟩
  exact ⟨a, A, I2, x, b3, hw', hc.low hw.1 b2, b1⟩
theorem WfA.up {t : Nat} {A : Al} (h : WfA t A) : WfA (t + 100) A := ⟨h.1, h.2.1.mono (by omega), h.2.2.1, h.2.2.2.1, h.2.2.2.2.mono (by omega)⟩
/-- acts change the net alone -/
theorem acts {I : HI} {B t t' : Nat} {A : Al} {S' : St} {a : Int32} {e1 e2 : HI → Option (Int32 × HI)} (hw : WfA t A) (hc : ClsR I B A) (hr : RefR I (B + 338) A) (ht : t' ≤ t + 100) (x : ∃ I', (ClAt I' B (aC A) S' ∧ OffC I I' B ∧ WfS (aC A) t' S') ∧ e1 I = some (a, I')) (y : ∀ I1, RfAt I1 (B + 338) (aC A) (aS A) → ∃ I', (RfAt I' (B + 338) (aC A) S' ∧ OffR I1 I' (B + 338)) ∧ e2 I1 = some (a, I')) : St2 I B t e1 e2 := by
  obtain ⟨I1, ⟨a1, a2, a3⟩, a4⟩ := x
  refine mk2 (A := A) (A' := (aC A, S', aX A, aO A, aK A)) ⟨hw.1, a3.mono ht, hw.2.2.1, hw.2.2.2.1, hw.2.2.2.2.mono (by omega)⟩ hr ⟨I1, ⟨⟨a1, hc.2.1.kept (a2 _ (by omega) (by omega)) (a2 _ (by omega) (by omega)), hc.2.2.1.kept (fun z _ _ => a2 z (by omega) (by omega)), hc.2.2.2.kept hw.1 (a2 _ (by omega) (by omega)) (fun z _ _ => a2 z (by omega) (by omega))⟩, fun z hz => a2 z (by omega) (by omega)⟩, a4⟩ fun J1 hJ => ?_
  obtain ⟨J2, ⟨b1, b2⟩, b3⟩ := y J1 hJ.1
  exact ⟨J2, ⟨⟨b1, hJ.2.1.kept (b2.2 _ (by omega) (by omega)) (b2.1 _ (by omega) (by omega) (by omega)), hJ.2.2.1.kept (b2.2 _ (by omega) (by omega)) (fun z _ _ => b2.1 z (by omega) (by omega) (by omega)), hJ.2.2.2.kept (b2.1 _ (by omega) (by omega) (by omega)) (b2.1 _ (by omega) (by omega) (by omega))⟩, fun z hz => b2.1 z (by omega) (by omega) (by omega)⟩, b3⟩
theorem RefR.z {I : HI} {m : Nat} {A : Al} (h : RefR I m A) : RefR (sI I m 0 0) m A := ⟨h.1.z, h.2.1.z, h.2.2.1.z, h.2.2.2.z⟩
theorem RefR.tr {I : HI} {m : Nat} {A : Al} (h : RefR I m A) (r : Nat → Int32) : RefR (rowS I (m + 10) r) m A := ⟨h.1.kept (fun k _ => by rw [rowS_ne (by omega)]) (fun z hz => rowS_ne (by omega)), h.2.1.kept (by rw [rowS_ne (by omega)]) (rowS_ne (by omega)), h.2.2.1.kept (by rw [rowS_ne (by omega)]) (fun z _ _ => rowS_ne (by omega)), h.2.2.2.kept (rowS_ne (by omega)) (rowS_ne (by omega))⟩
/-- readers -/
theorem rd1 {I : HI} {B t : Nat} {A : Al} {a : Int32} {e1 : HI → Option Int32} {e2 : HI → Option (Int32 × HI)} (hw : WfA t A) (hc : ClsR I B A) (hr : RefR I (B + 338) A) (x : e1 I = some a) (y : e2 I = some (a, sI I (B + 338) 0 0)) : St1 I B t e1 e2 :=
  mk1 hw hc x ⟨_, ⟨hr.z, fun z hz => sI_ne (by omega)⟩, y⟩
theorem rdT {I : HI} {B t : Nat} {A : Al} {a : Int32} {e1 : HI → Option Int32} {e2 : HI → Option (Int32 × HI)} (hw : WfA t A) (hc : ClsR I B A) (hr : RefR I (B + 338) A) (x : e1 I = some a) (y : ∃ r, e2 I = some (a, rowS (sI I (B + 338) 0 0) (B + 338 + 10) r)) : St1 I B t e1 e2 := by
  obtain ⟨r, y⟩ := y
  exact mk1 hw hc x ⟨_, ⟨hr.z.tr r, fun z hz => by rw [rowS_ne (by omega), sI_ne (by omega)]⟩, y⟩
theorem ClsR.t7 {I I' : HI} {B : Nat} {A : Al} (hC : WfC (aC A)) (h : ClsR I B A) (ho : OffT7 I I' B) : ClsR I' B A := ⟨h.1.kept hC (fun z _ _ => ho z (by omega) (by omega)) (fun z _ _ => ho z (by omega) (by omega)), h.2.1.kept (ho _ (by omega) (by omega)) (ho _ (by omega) (by omega)), h.2.2.1.kept (fun z _ _ => ho z (by omega) (by omega)), h.2.2.2.kept hC (ho _ (by omega) (by omega)) (fun z _ _ => ho z (by omega) (by omega))⟩
theorem RefR.t7 {I I' : HI} {m : Nat} {A : Al} (h : RefR I m A) (ho : OffR7 I I' m) : RefR I' m A := ⟨h.1.kept (fun k hk => ho.2 k (by omega) (by omega)) (fun z hz => ho.1 z (by omega) (by omega) (by omega) (by omega)), h.2.1.kept (ho.2 _ (by omega) (by omega)) (ho.1 _ (by omega) (by omega) (by omega) (by omega)), h.2.2.1.kept (ho.2 _ (by omega) (by omega)) (fun z _ _ => ho.1 z (by omega) (by omega) (by omega) (by omega)), h.2.2.2.kept (ho.1 _ (by omega) (by omega) (by omega) (by omega)) (ho.1 _ (by omega) (by omega) (by omega) (by omega))⟩
/-- trials -/
theorem trl {I : HI} {B t : Nat} {A : Al} {a : Int32} {e1 e2 : HI → Option (Int32 × HI)} (hw : WfA t A) (hc : ClsR I B A) (hr : RefR I (B + 338) A) (x : ∃ I', OffT7 I I' B ∧ e1 I = some (a, I')) (y : ∀ I1, RefR I1 (B + 338) A → ∃ I', OffR7 I1 I' (B + 338) ∧ e2 I1 = some (a, I')) : St2 I B t e1 e2 := by
  obtain ⟨I1, a1, a2⟩ := x
  refine mk2 (A := A) (A' := A) hw.up hr ⟨I1, ⟨hc.t7 hw.1 a1, fun z hz => a1 z (by omega) (by omega)⟩, a2⟩ fun J1 hJ => ?_
  obtain ⟨J2, b1, b2⟩ := y J1 hJ
  exact ⟨J2, ⟨hJ.t7 b1, fun z hz => b1.1 z (by omega) (by omega) (by omega) (by omega)⟩, b2⟩
section Ops
variable {I : HI} {B t : Nat} {A : Al} {v p k u : Int32}
theorem s_write (hw : WfA t A) (hc : ClsR I B A) (hr : RefR I (B + 338) A) : St2 I B t (fun I => f_X7_write I B v) (fun I => f_X8_write I (B + 338) v) := by
  obtain ⟨I1, ⟨a1, a2⟩, a3⟩ := x7_write (c := v) hc.2.1 hw.2.2.1
  refine mk2 (A := A) (A' := (aC A, aS A, (aWrite v (aX A)).2, aO A, aK A)) ⟨hw.1, hw.2.1.mono (by omega), aWrite_wf hw.2.2.1, hw.2.2.2.1, hw.2.2.2.2.mono (by omega)⟩ hr ⟨I1, ⟨⟨hc.1.kept hw.1 (fun z _ _ => a2 z (by omega) (by omega)) (fun z _ _ => a2 z (by omega) (by omega)), a1, hc.2.2.1.kept (fun z _ _ => a2 z (by omega) (by omega)), hc.2.2.2.kept hw.1 (a2 _ (by omega) (by omega)) (fun z _ _ => a2 z (by omega) (by omega))⟩, fun z hz => a2 z (by omega) (by omega)⟩, a3⟩ fun J1 hJ => ?_
  obtain ⟨J2, ⟨b1, b2⟩, b3⟩ := r8_write (c := v) hJ.2.1 hw.2.2.1
  exact ⟨J2, ⟨⟨hJ.1.kept (fun k hk => b2.2 k (by omega) (by omega)) (fun z hz => b2.1 z (by omega) (by omega)), b1, hJ.2.2.1.kept (b2.2 _ (by omega) (by omega)) (fun z _ _ => b2.1 z (by omega) (by omega)), hJ.2.2.2.kept (b2.1 _ (by omega) (by omega)) (b2.1 _ (by omega) (by omega))⟩, fun z hz => b2.1 z (by omega) (by omega)⟩, b3⟩
theorem s_wipe (hw : WfA t A) (hc : ClsR I B A) (hr : RefR I (B + 338) A) : St2 I B t (fun I => f_X7_wipe I B) (fun I => f_X8_wipe I (B + 338)) := by
  obtain ⟨I1, ⟨a1, a2⟩, a3⟩ := x7_wipe hc.2.1
  refine mk2 (A := A) (A' := (aC A, aS A, (aWipe (aX A)).2, aO A, aK A)) ⟨hw.1, hw.2.1.mono (by omega), ⟨Nat.zero_le _, fun k hk => absurd (show k < 0 from hk) (Nat.not_lt_zero _)⟩, hw.2.2.2.1, hw.2.2.2.2.mono (by omega)⟩ hr ⟨I1, ⟨⟨hc.1.kept hw.1 (fun z _ _ => a2 z (by omega) (by omega)) (fun z _ _ => a2 z (by omega) (by omega)), a1, hc.2.2.1.kept (fun z _ _ => a2 z (by omega) (by omega)), hc.2.2.2.kept hw.1 (a2 _ (by omega) (by omega)) (fun z _ _ => a2 z (by omega) (by omega))⟩, fun z hz => a2 z (by omega) (by omega)⟩, a3⟩ fun J1 hJ => ?_
  obtain ⟨J2, ⟨b1, b2⟩, b3⟩ := r8_wipe hJ.2.1
  exact ⟨J2, ⟨⟨hJ.1.kept (fun k hk => b2.2 k (by omega) (by omega)) (fun z hz => b2.1 z (by omega) (by omega)), b1, hJ.2.2.1.kept (b2.2 _ (by omega) (by omega)) (fun z _ _ => b2.1 z (by omega) (by omega)), hJ.2.2.2.kept (b2.1 _ (by omega) (by omega)) (b2.1 _ (by omega) (by omega))⟩, fun z hz => b2.1 z (by omega) (by omega)⟩, b3⟩
/-- a reading that leaves all as it was -/
theorem rdA {a : Int32} {e1 e2 : HI → Option (Int32 × HI)} (hw : WfA t A) (hc : ClsR I B A) (hr : RefR I (B + 338) A) (x : ∃ I', (TxC I' B (aX A) ∧ Off I I' (B + 1) 18) ∧ e1 I = some (a, I')) (y : ∀ I1, TxR I1 (B + 338) (aX A) → ∃ I', OffRr I1 I' (B + 338) ∧ e2 I1 = some (a, I')) : St2 I B t e1 e2 := by
  obtain ⟨I1, ⟨a1, a2⟩, a3⟩ := x
  refine mk2 (A := A) (A' := A) hw.up hr ⟨I1, ⟨⟨hc.1.kept hw.1 (fun z _ _ => a2 z (by omega)) (fun z _ _ => a2 z (by omega)), a1, hc.2.2.1.kept (fun z _ _ => a2 z (by omega)), hc.2.2.2.kept hw.1 (a2 _ (by omega)) (fun z _ _ => a2 z (by omega))⟩, fun z hz => a2 z (by omega)⟩, a3⟩ fun J1 hJ => ?_
  obtain ⟨J2, b2, b3⟩ := y J1 hJ.2.1
  exact ⟨J2, ⟨⟨hJ.1.kept (fun k hk => b2.2 k (by omega) (by omega) (by omega)) (fun z hz => b2.1 z (by omega) (by omega)), hJ.2.1.kept (b2.2 _ (by omega) (by omega) (by omega)) (b2.1 _ (by omega) (by omega)), hJ.2.2.1.kept (b2.2 _ (by omega) (by omega) (by omega)) (fun z _ _ => b2.1 z (by omega) (by omega)), hJ.2.2.2.kept (b2.1 _ (by omega) (by omega)) (b2.1 _ (by omega) (by omega))⟩, fun z hz => b2.1 z (by omega) (by omega)⟩, b3⟩
theorem s_fault (hw : WfA t A) (hc : ClsR I B A) (hr : RefR I (B + 338) A) : St2 I B t (fun I => f_X7_fault I B) (fun I => f_X8_fault I (B + 338)) :=
  rdA hw hc hr (x7_fault hw.2.2.1 hc.2.1) fun _ h => r8_fault hw.2.2.1 h
theorem s_net (hw : WfA t A) (hc : ClsR I B A) (hr : RefR I (B + 338) A) : St2 I B t (fun I => f_X7_net I B) (fun I => f_X8_net I (B + 338)) := by
  by_cases hn : rdO (aX A) = none
  · obtain ⟨wC, wN, -⟩ := rd_wf hw.2.2.1 hn
    obtain ⟨I1, ⟨a1, a2, a3, a4⟩, a5⟩ := x7_netR hw.2.2.1 hc.2.1 hc.1 hn
    refine mk2 (A := A) (A' := (rdC (aX A), (rdN (aX A), 0, (aS A).2.2), aX A, aO A, noK)) ⟨wC, ⟨wN _ (by omega), fun k hk => absurd (show k < 0 from hk) (Nat.not_lt_zero _)⟩, hw.2.2.1, hw.2.2.2.1, fun k _ N e => by cases e⟩ hr ⟨I1, ⟨⟨a2, a1, hc.2.2.1.kept (fun z _ _ => a4 z (by omega) (by omega) (by omega) (by omega)), a3⟩, fun z hz => a4 z (by omega) (by omega) (by omega) (by omega)⟩, a5⟩ fun J1 hJ => ?_
    obtain ⟨J2, ⟨b1, b2, b3⟩, b4⟩ := r8_netR (H := (aS A).2.2) hw.2.2.1 hJ.2.1 hn
    exact ⟨J2, ⟨⟨b1, hJ.2.1.kept b3.2.1 (b3.1 _ (by omega)), hJ.2.2.1.kept b3.2.2 (fun z _ _ => b3.1 z (by omega)), b2⟩, fun z hz => b3.1 z (by omega)⟩, b4⟩
  · exact rdA hw hc hr (x7_netF hw.2.2.1 hc.2.1 hn) fun _ h => r8_netF hw.2.2.1 h hn
theorem s_proxy (hw : WfA t A) (hc : ClsR I B A) (hr : RefR I (B + 338) A) : St1 I B t (fun I => f_X7_proxy I B v p) (fun I => f_X8_proxy I (B + 338) v p) := rd1 hw hc hr (x7_proxy hw.1 hc.1 hw.2.1) (r8_proxy hw.1 hr.1 hw.2.1)
theorem s_page (hw : WfA t A) (hc : ClsR I B A) (hr : RefR I (B + 338) A) : St1 I B t (fun I => f_X7_page I B v p) (fun I => f_X8_page I (B + 338) v p) := rd1 hw hc hr (x7_page hw.1 hc.1 hw.2.1) (r8_page hw.1 hr.1 hw.2.1)
theorem s_counter (hw : WfA t A) (hc : ClsR I B A) (hr : RefR I (B + 338) A) : St1 I B t (fun I => f_X7_counter I B v p) (fun I => f_X8_counter I (B + 338) v p) := rd1 hw hc hr (x7_counter hw.1 hc.1) (r8_counter hw.1 hr.1)
theorem s_hash (hw : WfA t A) (hc : ClsR I B A) (hr : RefR I (B + 338) A) : St1 I B t (fun I => f_X7_hash I B v p k) (fun I => f_X8_hash I (B + 338) v p k) := rd1 hw hc hr (x7_hash hw.1 hc.1) (r8_hash hw.1 hr.1)
theorem s_says (hw : WfA t A) (hc : ClsR I B A) (hr : RefR I (B + 338) A) : St1 I B t (fun I => f_X7_says I B v p k) (fun I => f_X8_says I (B + 338) v p k) := rd1 hw hc hr (x7_says hw.1 hc.1 hw.2.1) (r8_says hw.1 hr.1 hw.2.1)
theorem s_ask (ht : t + 200 < 1000000) (hw : WfA t A) (hc : ClsR I B A) (hr : RefR I (B + 338) A) : St2 I B t (fun I => f_X7_ask I B v p) (fun I => f_X8_ask I (B + 338) v p) := acts hw hc hr (show t + 6 ≤ t + 100 by omega) (x7_ask hw.1 (by omega) hc.1 hw.2.1) fun _ h => r8_ask hw.1 (by omega) h hw.2.1
theorem s_drop (ht : t + 200 < 1000000) (hw : WfA t A) (hc : ClsR I B A) (hr : RefR I (B + 338) A) : St2 I B t (fun I => f_X7_drop I B v p) (fun I => f_X8_drop I (B + 338) v p) := acts hw hc hr (show t + 3 ≤ t + 100 by omega) (x7_drop hw.1 (by omega) hc.1 hw.2.1) fun _ h => r8_drop hw.1 (by omega) h hw.2.1
theorem s_send (hw : WfA t A) (hc : ClsR I B A) (hr : RefR I (B + 338) A) : St2 I B t (fun I => f_X7_send I B v) (fun I => f_X8_send I (B + 338) v) := acts hw hc hr (show t ≤ t + 100 by omega) (x7_send hw.1 hc.1 hw.2.1) fun _ h => r8_send hw.1 h hw.2.1
theorem s_threshold (hw : WfA t A) (hc : ClsR I B A) (hr : RefR I (B + 338) A) : St2 I B t (fun I => f_X7_threshold I B v p) (fun I => f_X8_threshold I (B + 338) v p) := acts hw hc hr (show t ≤ t + 100 by omega) (x7_threshold hw.1 hc.1 hw.2.1) fun _ h => r8_threshold hw.1 h hw.2.1
theorem s_use (hw : WfA t A) (hc : ClsR I B A) (hr : RefR I (B + 338) A) : St2 I B t (fun I => f_X7_use I B v) (fun I => f_X8_use I (B + 338) v) := acts hw hc hr (show t + 27 ≤ t + 100 by omega) (x7_use hw.1 hc.1 hw.2.1) fun _ h => r8_use hw.1 h hw.2.1
theorem s_undo (hw : WfA t A) (hc : ClsR I B A) (hr : RefR I (B + 338) A) : St2 I B t (fun I => f_X7_undo I B) (fun I => f_X8_undo I (B + 338)) := acts hw hc hr (show t ≤ t + 100 by omega) (x7_undo hw.1 hc.1 hw.2.1) fun _ h => r8_undoS hw.1 h
theorem s_weight (hw : WfA t A) (hc : ClsR I B A) (hr : RefR I (B + 338) A) : St1 I B t (fun I => f_X7_weight I B v) (fun I => f_X8_weight I (B + 338) v) := rd1 hw hc hr (x7_weight hw.1 hc.1 hw.2.1) (r8_weight hw.1 hr.1 hw.2.1)
theorem s_best (hw : WfA t A) (hc : ClsR I B A) (hr : RefR I (B + 338) A) : St1 I B t (fun I => f_X7_best I B v p) (fun I => f_X8_best I (B + 338) v p) := rd1 hw hc hr (x7_best hw.1 hc.1 hw.2.1) (r8_best hw.1 hr.1 hw.2.1)
theorem OffT7.of {I I1 : HI} {B : Nat} (h : Off I I1 (B + 37) 17) : OffT7 I I1 B := fun q a _ => h q a
theorem OffR7.of {I : HI} {m : Nat} (r : Nat → Int32) : OffR7 I (rowS (sI I m 0 0) (m + 10) r) m := OffR7.tr OffR7.z (OffR7.row r)
theorem s_plan (ht : t + 200 < 1000000) (hw : WfA t A) (hc : ClsR I B A) (hr : RefR I (B + 338) A) : St2 I B t (fun I => f_X7_plan I B v p k) (fun I => f_X8_plan I (B + 338) v p k) := by
  obtain ⟨I1, a1, a2⟩ := x7_plan (v := v) (n := p) (row := k) hw.1 (by omega) hc.1 hw.2.1
  refine trl hw hc hr ⟨I1, OffT7.of a1, a2⟩ fun J1 hJ => ?_
  obtain ⟨r, b⟩ := r8_plan (v := v) (n := p) (row := k) hw.1 (by omega) hJ.1 hw.2.1
  exact ⟨_, OffR7.of r, b⟩
theorem s_order (ht : t + 200 < 1000000) (hw : WfA t A) (hc : ClsR I B A) (hr : RefR I (B + 338) A) : St2 I B t (fun I => f_X7_order I B v p k) (fun I => f_X8_order I (B + 338) v p k) := trl hw hc hr (x7_order hw.1 (by omega) hc.1 hw.2.1) fun _ hJ => r8_order hw.1 (by omega) hJ.1 hw.2.1
theorem s_judge {y : Int64} (ht : t + 200 < 1000000) (hw : WfA t A) (hc : ClsR I B A) (hr : RefR I (B + 338) A) : St2 I B t (fun I => f_X7_judge I B v y) (fun I => f_X8_judge I (B + 338) v y) := by
  obtain ⟨I1, a1, a2⟩ := x7_judge (n := v) (y := y) hw.1 (by omega) hc.1 hw.2.1
  refine trl hw hc hr ⟨I1, OffT7.of a1, a2⟩ fun J1 hJ => ?_
  obtain ⟨r, b⟩ := r8_judge (n := v) (y := y) hw.1 (by omega) hJ.1 hw.2.1
  exact ⟨_, OffR7.of r, b⟩
/-- observations -/
theorem obs {a : Int32} {O' : Ob} {e1 e2 : HI → Option (Int32 × HI)} (hw : WfA t A) (hO : WfO O') (hc : ClsR I B A) (hr : RefR I (B + 338) A) (x : ∃ I', (ObC I' B O' ∧ Off I I' (B + 296) 4) ∧ e1 I = some (a, I')) (y : ∀ I1, RefR I1 (B + 338) A → ∃ I', (ObR I' (B + 338) O' ∧ OffRO I1 I' (B + 338)) ∧ e2 I1 = some (a, I')) : St2 I B t e1 e2 := by
  obtain ⟨I1, ⟨a1, a2⟩, a3⟩ := x
  refine mk2 (A := A) (A' := (aC A, aS A, aX A, O', aK A)) ⟨hw.1, hw.2.1.mono (by omega), hw.2.2.1, hO, hw.2.2.2.2.mono (by omega)⟩ hr ⟨I1, ⟨⟨hc.1.kept hw.1 (fun z _ _ => a2 z (by omega)) (fun z _ _ => a2 z (by omega)), hc.2.1.kept (a2 _ (by omega)) (a2 _ (by omega)), a1, hc.2.2.2.kept hw.1 (a2 _ (by omega)) (fun z _ _ => a2 z (by omega))⟩, fun z hz => a2 z (by omega)⟩, a3⟩ fun J1 hJ => ?_
  obtain ⟨J2, ⟨b1, b2⟩, b3⟩ := y J1 hJ
  exact ⟨J2, ⟨⟨hJ.1.kept (fun k hk => b2.2 k (by omega) (by omega)) (fun z hz => b2.1 z (by omega) (by omega)), hJ.2.1.kept (b2.2 _ (by omega) (by omega)) (b2.1 _ (by omega) (by omega)), b1, hJ.2.2.2.kept (b2.1 _ (by omega) (by omega)) (b2.1 _ (by omega) (by omega))⟩, fun z hz => b2.1 z (by omega) (by omega)⟩, b3⟩
theorem s_see (hw : WfA t A) (hc : ClsR I B A) (hr : RefR I (B + 338) A) : St2 I B t (fun I => f_X7_see I B v p k) (fun I => f_X8_see I (B + 338) v p k) := obs hw (aSee_wf hw.1 hw.2.2.2.1) hc hr (x7_see hw.1 hc.1 hc.2.2.1 hw.2.2.2.1) fun _ hJ => r8_see hw.1 hJ.1 hJ.2.2.1 hw.2.2.2.1
theorem s_unsee (hw : WfA t A) (hc : ClsR I B A) (hr : RefR I (B + 338) A) : St2 I B t (fun I => f_X7_unsee I B) (fun I => f_X8_unsee I (B + 338)) := obs hw ⟨Nat.zero_le _, fun k hk => absurd (show k < 0 from hk) (Nat.not_lt_zero _)⟩ hc hr (x7_unsee hc.2.2.1) fun _ hJ => r8_unsee hJ.2.2.1
theorem s_which (hw : WfA t A) (hc : ClsR I B A) (hr : RefR I (B + 338) A) : St1 I B t (fun I => f_X7_which I B) (fun I => f_X8_which I (B + 338)) := rd1 hw hc hr (x7_which hw.1 hc.1 hw.2.1 hc.2.2.1 hw.2.2.2.1) (r8_which hw.1 hr.1 hw.2.1 hr.2.2.1 hw.2.2.2.1)
theorem s_share (hw : WfA t A) (hc : ClsR I B A) (hr : RefR I (B + 338) A) : St1 I B t (fun I => f_X7_share I B v p) (fun I => f_X8_share I (B + 338) v p) := rd1 hw hc hr (x7_share hw.1 hc.1 hw.2.1) (r8_share hw.1 hr.1 hw.2.1)
theorem s_lost (ht : t + 200 < 1000000) (hw : WfA t A) (hc : ClsR I B A) (hr : RefR I (B + 338) A) : St1 I B t (fun I => f_X7_lost I B v p k u) (fun I => f_X8_lost I (B + 338) v p k u) := rdT hw hc hr (x7_lost hw.1 hc.1 hw.2.1) (r8_lost hw.1 (by omega) hr.1 hw.2.1)
theorem s_count (hw : WfA t A) (hc : ClsR I B A) (hr : RefR I (B + 338) A) : St1 I B t (fun I => f_X7_count I B v) (fun I => f_X8_count I (B + 338) v) := rd1 hw hc hr (x7_count hw.1 hc.1 hc.2.1.1 hc.2.2.1.1) (r8_count hw.1 hr.1 hr.2.1.1 hr.2.2.1.1)
theorem s_keep (hw : WfA t A) (hc : ClsR I B A) (hr : RefR I (B + 338) A) : St2 I B t (fun I => f_X7_keep I B v) (fun I => f_X8_keep I (B + 338) v) := by
  obtain ⟨I1, ⟨a1, a2⟩, a3⟩ := x7_keep (v := v) hw.1 hc.1 hw.2.1 hc.2.2.2
  have wK : WfK (aC A) (t + 100) (aKeep (aC A) v (aS A) (aK A)).2 := by
    unfold aKeep
    by_cases h : isIn v 2 = true
    · rw [if_pos h]; exact (hw.2.2.2.2.mono (by omega)).put (hw.2.1.1.mono (by omega))
    · rw [if_neg h]; exact hw.2.2.2.2.mono (by omega)
  refine mk2 (A := A) (A' := (aC A, aS A, aX A, aO A, (aKeep (aC A) v (aS A) (aK A)).2)) ⟨hw.1, hw.2.1.mono (by omega), hw.2.2.1, hw.2.2.2.1, wK⟩ hr ⟨I1, ⟨⟨hc.1.kept hw.1 (fun z _ _ => a2 z (by omega) (by omega)) (fun z _ _ => a2 z (by omega) (by omega)), hc.2.1.kept (a2 _ (by omega) (by omega)) (a2 _ (by omega) (by omega)), hc.2.2.1.kept (fun z _ _ => a2 z (by omega) (by omega)), a1⟩, fun z hz => a2 z (by omega) (by omega)⟩, a3⟩ fun J1 hJ => ?_
  obtain ⟨J2, ⟨b1, b2⟩, b3⟩ := r8_keep (v := v) hw.1 hJ.1 hw.2.1 hJ.2.2.2
  exact ⟨J2, ⟨⟨hJ.1.kept (fun k hk => b2.2 k (by omega)) (fun z hz => b2.1 z (by omega) (by omega) (by omega)), hJ.2.1.kept (b2.2 _ (by omega)) (b2.1 _ (by omega) (by omega) (by omega)), hJ.2.2.1.kept (b2.2 _ (by omega)) (fun z _ _ => b2.1 z (by omega) (by omega) (by omega)), b1⟩, fun z hz => b2.1 z (by omega) (by omega) (by omega)⟩, b3⟩
theorem s_again (hw : WfA t A) (hc : ClsR I B A) (hr : RefR I (B + 338) A) : St2 I B t (fun I => f_X7_again I B v) (fun I => f_X8_again I (B + 338) v) := by
  obtain ⟨I1, ⟨a1, a2⟩, a3⟩ := x7_again (v := v) hw.1 hc.1 hc.2.2.2 hw.2.2.2.2
  have wS := aAgain_wf (C := aC A) (v := v) hw.2.1 hw.2.2.2.2
  refine mk2 (A := A) (A' := (aC A, (aAgain (aC A) v (aS A) (aK A)).2, aX A, aO A, aK A)) ⟨hw.1, wS.mono (by omega), hw.2.2.1, hw.2.2.2.1, hw.2.2.2.2.mono (by omega)⟩ hr ⟨I1, ⟨⟨a1, hc.2.1.kept (a2 _ (by omega) (by omega)) (a2 _ (by omega) (by omega)), hc.2.2.1.kept (fun z _ _ => a2 z (by omega) (by omega)), hc.2.2.2.kept hw.1 (a2 _ (by omega) (by omega)) (fun z _ _ => a2 z (by omega) (by omega))⟩, fun z hz => a2 z (by omega) (by omega)⟩, a3⟩ fun J1 hJ => ?_
  obtain ⟨J2, ⟨b1, b2⟩, b3⟩ := r8_again (v := v) hw.1 hJ.1 hJ.2.2.2
  exact ⟨J2, ⟨⟨b1, hJ.2.1.kept (b2.2 _ (by omega) (by omega)) (b2.1 _ (by omega) (by omega) (by omega)), hJ.2.2.1.kept (b2.2 _ (by omega) (by omega)) (fun z _ _ => b2.1 z (by omega) (by omega) (by omega)), hJ.2.2.2.kept (b2.1 _ (by omega) (by omega) (by omega)) (b2.1 _ (by omega) (by omega) (by omega))⟩, fun z hz => b2.1 z (by omega) (by omega) (by omega)⟩, b3⟩
end Ops

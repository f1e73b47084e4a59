/-! fault and net, on both sides -/
theorem OffRr.row {I : HI} {m q : Nat} {r : Nat → Int32} (h : m + 5 ≤ q ∧ q < m + 9) : OffRr I (rowS I q r) m := ⟨fun z a b => rowS_ne (by omega), fun j a b c => by rw [rowS_ne (by omega)]⟩
theorem r8_loop {m : Nat} {X : Tx} (hX : WfT X) : ∀ (f M a : Nat) (I : HI) (C : Cf) (P : Nat → Prx), X.1 ≤ a + f → f < M → a < 500 → WfQ C P → RdR I m X a C P → ∃ I', (OffRr I I' m ∧ ((prs X f a C P).1 = none → QR I' m (prs X f a C P).2.1 (prs X f a C P).2.2 ∧ MK I' m (prs X f a C P).2.1)) ∧ wl1 (X8_readNet_B48 m) M I = some (oV (prs X f a C P).1, I') := by
  have hT := hX.1
  intro f
  induction f with
  | zero =>
    intro M a I C P hi hM ha hw h
    obtain ⟨M, rfl⟩ : ∃ K, M = K + 1 := ⟨M - 1, by omega⟩
    refine ⟨I, ⟨OffRr.rf, fun _ => h.2⟩, ?_⟩
    rw [wl1_0]
    unfold X8_readNet_B48
    rw [h.1.2.1, h.1.1, if_neg (show ¬ nI a < nI X.1 by rw [nlt (by omega) (by omega)]; omega)]
    rfl
  | succ f ih =>
    intro M a I C P hi hM ha hw h
    obtain ⟨M, rfl⟩ : ∃ K, M = K + 1 := ⟨M - 1, by omega⟩
    rw [wl1_0, prs]
    by_cases hl : a < X.1
    · rw [if_pos hl]
      obtain ⟨I1, ⟨a1, a2⟩, a3⟩ := r8_readPart hX hw hl h
      have hs := stp_wf (X := X) (a := a) hw
      have hb := stp_le (X := X) (a := a) (C := C) (P := P)
      by_cases hk : (stp X a C P).1 = true
      · rw [if_pos hk]
        have h3 := hs.2 hk
        obtain ⟨I2, ⟨b1, b2⟩, b3⟩ := ih M (stp X a C P).2.1 I1 _ _ (by omega) (by omega) (by omega) hs.1 a2
        refine ⟨I2, ⟨a1.tr b1, b2⟩, ?_⟩
        generalize wl1 (X8_readNet_B48 m) M = K at b3 ⊢
        unfold X8_readNet_B48
        rw [h.1.2.1, h.1.1, if_pos (show nI a < nI X.1 by rw [nlt (by omega) (by omega)]; exact hl), a3, bd2s, hk, if_neg bZt]
        exact b3
      · rw [if_neg hk]
        refine ⟨I1, ⟨a1, fun e => by cases e⟩, ?_⟩
        unfold X8_readNet_B48
        rw [h.1.2.1, h.1.1, if_pos (show nI a < nI X.1 by rw [nlt (by omega) (by omega)]; exact hl), a3, bd2s, eq_false_of_ne_true hk, if_pos bZf, a2.1.2.1]
        rfl
    · rw [if_neg hl]
      refine ⟨I, ⟨OffRr.rf, fun _ => h.2⟩, ?_⟩
      unfold X8_readNet_B48
      rw [h.1.2.1, h.1.1, if_neg (show ¬ nI a < nI X.1 by rw [nlt (by omega) (by omega)]; exact hl)]
      rfl
theorem r8_readNet {I : HI} {m : Nat} {X : Tx} (hX : WfT X) (h : TxR I m X) : ∃ I', (OffRr I I' m ∧ (rdO X = none → QR I' m (rdQ X).2.1 (rdQ X).2.2 ∧ MK I' m (rdQ X).2.1)) ∧ f_X8_readNet I m = some (oV (rdO X), I') := by
  have hT := hX.1
  unfold f_X8_readNet
  rw [lt1s, lt1s, lt1s]
  have o0 : OffRr I (sI (sI (sI I m 13 0) m 16 0) m 3 0) m := ((OffRr.f (by omega)).tr (OffRr.f (by omega))).tr (OffRr.f (by omega))
  have t0 : TdR (sI (sI (sI I m 13 0) m 16 0) m 3 0) m X 0 := ⟨by rw [sI_eq, uR_ne (by omega), sI_eq, uR_ne (by omega), sI_eq, uR_ne (by omega)]; exact h.1, by rw [sI_eq, uR_eq]; rfl, fun k hk => by rw [sI_ne (by omega), sI_ne (by omega), sI_ne (by omega)]; exact h.2 k hk⟩
  have e13 : sI (sI (sI I m 13 0) m 16 0) m 3 0 m 13 = 0 := by rw [sI_eq, uR_ne (by omega), sI_eq, uR_ne (by omega), sI_eq, uR_eq]
  have e16 : sI (sI (sI I m 13 0) m 16 0) m 3 0 m 16 = 0 := by rw [sI_eq, uR_ne (by omega), sI_eq, uR_eq]
  generalize sI (sI (sI I m 13 0) m 16 0) m 3 0 = I0 at o0 t0 e13 e16
  have e0 : I0 = rowS I0 (m + 8) (fun k => if k < 0 then 0 else I0 (m + 8) k) := by
    have e : (fun k => if k < 0 then 0 else I0 (m + 8) k) = I0 (m + 8) := by
      funext k; rw [if_neg (by omega)]
    rw [e, rowS_id]
  have hrow : ∀ j, j < 121 → rowS I0 (m + 8) (fun k => if k < 121 then 0 else I0 (m + 8) k) (m + 8) j = 0 := fun j hj => by rw [rowS_at, if_pos hj]
  have t1 : TdR (rowS I0 (m + 8) (fun k => if k < 121 then 0 else I0 (m + 8) k)) m X 0 := ⟨by rw [rowS_ne (by omega)]; exact t0.1, by rw [rowS_ne (by omega)]; exact t0.2.1, fun k hk => by rw [rowS_ne (by omega)]; exact t0.2.2 k hk⟩
  have q1 : ∀ M K, QR (rowS I0 (m + 8) (fun k => if k < 121 then 0 else I0 (m + 8) k)) m (cf0 M K) px0 := fun M K => ⟨by rw [rowS_ne (by omega)]; exact e13, by rw [rowS_ne (by omega)]; exact e16, fun f hf => absurd (show f < 0 from hf) (Nat.not_lt_zero _), fun x hx => absurd (show x < 0 from hx) (Nat.not_lt_zero _), ⟨fun x hx => absurd (show x < 0 from hx) (Nat.not_lt_zero _), hrow _ (by omega), hrow _ (by omega), hrow _ (by omega), hrow _ (by omega), hrow _ (by omega)⟩, fun j _ hj => hrow j hj⟩
  have o1 : OffRr I (rowS I0 (m + 8) (fun k => if k < 121 then 0 else I0 (m + 8) k)) m := o0.tr (OffRr.row (by omega))
  obtain ⟨I1, ⟨a1, a2, a3⟩, a4⟩ := r8_readHead hX t1 q1
  have fin2 : ∃ I', (OffRr I I' m ∧ (rdO X = none → QR I' m (rdQ X).2.1 (rdQ X).2.2 ∧ MK I' m (rdQ X).2.1)) ∧ (if bZ (hd X).1 = 0 then some (I1 m 3, I1) else wl1 (X8_readNet_B48 m) 5000 I1) = some (oV (rdO X), I') := by
    unfold rdO
    by_cases hk : (hd X).1 = true
    · obtain ⟨k1, k2, k3⟩ := hd_ok hk
      obtain ⟨I2, ⟨b1, b2⟩, b3⟩ := r8_loop hX 100 5000 4 I1 _ _ (by omega) (by omega) (by omega) (cf0_wf k1 k2) (a3 hk)
      rw [hk, if_neg bZt, if_pos rfl]
      exact ⟨I2, ⟨(o1.tr a1).tr b1, b2⟩, b3⟩
    · rw [eq_false_of_ne_true hk, if_pos bZf, if_neg (show ¬ false = true by decide), a2.2.1]
      exact ⟨I1, ⟨o1.tr a1, fun e => by cases e⟩, rfl⟩
  obtain ⟨I2, b1, b2⟩ := fin2
  refine ⟨I2, b1, ?_⟩
  conv => lhs; rw [e0]
  refine wl2_to (F := X8_readNet_B17 m) (fun i => rowS I0 (m + 8) (fun k => if k < i then 0 else I0 (m + 8) k)) (fun i => nI i) (m := 121) (fun i k hi => ?_) (fun k => ?_) 121 0 5000 (by omega) (by omega)
  · unfold X8_readNet_B17
    rw [if_pos (show nI i < (121 : Int32) by rw [i_121, nlt (by omega) (by omega)]; exact hi), gv hi (by omega), lt1s, ncl (by omega), rowS_s, ninc, lt1s]
    congr 2
    funext q
    unfold uR
    by_cases hq : q = i
    · rw [if_pos hq, if_pos (by omega)]
    · rw [if_neg hq]
      dsimp only
      by_cases h2 : q < i
      · rw [if_pos h2, if_pos (by omega)]
      · rw [if_neg h2, if_neg (by omega)]
  · unfold X8_readNet_B17
    rw [if_neg (show ¬ nI 121 < (121 : Int32) by decide), a4, bd2s]
    exact b2
theorem oV_m9 {X : Tx} (hX : WfT X) : (oV (rdO X) = m9) = (rdO X = none) := propext (by
  constructor
  · intro h
    cases e : rdO X with
    | none => rfl
    | some a =>
      have := rdO_le hX e
      rw [e] at h
      exact absurd ((nI_m9 (k := a) (by omega)).mp h) id
  · intro h; rw [h]; rfl)
theorem rd_wf {X : Tx} (hX : WfT X) (h : rdO X = none) : WfC (rdC X) ∧ (∀ t, 27 ≤ t → WfN (rdC X) t (rdN X)) ∧ WfQ (rdQ X).2.1 (rdQ X).2.2 := by
  have hk : (hd X).1 = true := by
    unfold rdO at h
    by_cases hk : (hd X).1 = true
    · exact hk
    · rw [if_neg hk] at h; cases h
  obtain ⟨k1, k2, k3⟩ := hd_ok hk
  have hq := (prs_wf (X := X) (f := 100) (a := 4) (cf0_wf k1 k2)).1
  obtain ⟨wC, wN⟩ := fin_wf hq
  refine ⟨wC, fun t ht => ?_, hq⟩
  have hw := adp_wf wC ht (wN.mono (by omega)) (cN (rdC X)) (Nat.le_refl _)
  exact ⟨wN.1, fun x hx => hw.2 x hx⟩
def OffF (I I' : HI) (B : Nat) : Prop := Off I I' (B + 1) 18
theorem x7_fault {I : HI} {B : Nat} {X : Tx} (hX : WfT X) (h : TxC I B X) : ∃ I', (TxC I' B X ∧ Off I I' (B + 1) 18) ∧ f_X7_fault I B = some (oV (rdO X), I') := by
  obtain ⟨I1, ⟨a1, a2, a3⟩, a4⟩ := x6_read hX h
  unfold f_X7_fault
  rw [a4, bd2s]
  exact ⟨I1, ⟨a2, a1⟩, rfl⟩
theorem r8_fault {I : HI} {m : Nat} {X : Tx} (hX : WfT X) (h : TxR I m X) : ∃ I', OffRr I I' m ∧ f_X8_fault I m = some (oV (rdO X), I') := by
  obtain ⟨I1, ⟨a1, -⟩, a2⟩ := r8_readNet hX h.z
  unfold f_X8_fault
  rw [lt1s, a2, bd2s]
  exact ⟨I1, OffRr.tr (OffRr.f (by omega)) a1, rfl⟩
def noK : Sl := fun _ => none
def OffN (I I' : HI) (B : Nat) : Prop := ∀ z, ¬ (B + 1 ≤ z ∧ z < B + 19) → ¬ (B + 20 ≤ z ∧ z < B + 37) → z ≠ B + 54 → z ≠ B + 295 → I' z = I z
theorem x7_netR {I : HI} {B : Nat} {X : Tx} {C : Cf} {S : St} (hX : WfT X) (h : TxC I B X) (hS : ClAt I B C S) (hr : rdO X = none) : ∃ I', (TxC I' B X ∧ ClAt I' B (rdC X) (rdN X, 0, S.2.2) ∧ SlC I' B (rdC X) noK ∧ OffN I I' B) ∧ f_X7_net I B = some (nI (cN (rdC X)), I') := by
  obtain ⟨wC, wN, -⟩ := rd_wf hX hr
  have hn := wC.2.2.2.2.1
  obtain ⟨I1, ⟨a1, a2, a3⟩, a4⟩ := x6_read hX h
  obtain ⟨I2, ⟨b1, b2⟩, b3⟩ := x1_take (I := I1) (a := B + 20) (b := B + 2) wC (by omega) (a3 hr) (wN 27 (by omega))
  have b3' : f_X1_take I1 (B + 20) (B + 1 + 1) = some I2 := b3
  obtain ⟨-, q, g1, g2, g3, -, -⟩ := hS
  unfold f_X7_net f_X3_forget
  rw [a4, bd2s, if_pos (show oV (rdO X) = (-9 : Int32) by rw [hr]; rfl), b3', bd1s, lt1s, bd1s]
  have o3 : OffN I (sI I2 (B + 54) 2 0) B := fun z h1 h2 h3 h4 => by rw [sI_ne h3, b2 z (by omega), a1 z (by omega)]
  have n3 : NtAt (sI I2 (B + 54) 2 0) (B + 20) (rdC X) (rdN X) := b1.kept hn fun z _ _ => sI_ne (by omega)
  have t3 : TxC (sI I2 (B + 54) 2 0) B X := ⟨by rw [sI_ne (by omega), b2 _ (by omega)]; exact a2.1, fun k hk => by rw [sI_ne (by omega), b2 _ (by omega)]; exact a2.2 k hk⟩
  have e31 : sI I2 (B + 54) 2 0 (B + 54) 1 = nI q := by rw [sI_eq, uR_ne (by omega), b2 _ (by omega), a1 _ (by omega)]; exact g3
  have e32 : sI I2 (B + 54) 2 0 (B + 54) 2 = nI 0 := by rw [sI_eq, uR_eq]; rfl
  generalize sI I2 (B + 54) 2 0 = I3 at o3 n3 t3 e31 e32
  have en : I3 (B + 20) 2 = nI (cN (rdC X)) := n3.2.1
  refine ⟨sI (sI I3 (B + 295) 0 0) (B + 295) 1 0, ⟨⟨?_, fun k hk => ?_⟩, ⟨?_, q, g1, Nat.zero_le _, ?_, ?_, fun k hk => absurd hk (Nat.not_lt_zero _)⟩, fun k hk => ⟨fun _ => ?_, fun N e => by cases e⟩, fun z h1 h2 h3 h4 => ?_⟩, ?_⟩
  · rw [sI_ne (by omega), sI_ne (by omega)]; exact t3.1
  · rw [sI_ne (by omega), sI_ne (by omega)]; exact t3.2 k hk
  · exact n3.kept hn fun z _ _ => by rw [sI_ne (by omega), sI_ne (by omega)]
  · rw [sI_ne (by omega), sI_ne (by omega)]; exact e31
  · rw [sI_ne (by omega), sI_ne (by omega)]; exact e32
  · rw [sI_eq]
    rcases (show k = 0 ∨ k = 1 by omega) with rfl | rfl
    · rw [uR_ne (by omega), sI_eq, uR_eq]
    · rw [uR_eq]
  · rw [sI_ne h4, sI_ne h4]; exact o3 z h1 h2 h3 h4
  · show wl2 (X7_net_B38 B) (4999 + 1) I3 (nI 0) = _
    rw [wl2_0]
    unfold X7_net_B38
    rw [if_pos (show nI 0 < (2 : Int32) by decide), gv (by omega) (by omega), lt1s, ncl (by omega), ninc, lt1s]
    show wl2 (X7_net_B38 B) (4998 + 1) _ (nI 1) = _
    rw [wl2_0]
    unfold X7_net_B38
    rw [if_pos (show nI 1 < (2 : Int32) by decide), gv (by omega) (by omega), lt1s, ncl (by omega), ninc, lt1s]
    show wl2 (X7_net_B38 B) (4997 + 1) _ (nI 2) = _
    rw [wl2_0]
    unfold X7_net_B38
    rw [if_neg (show ¬ nI 2 < (2 : Int32) by decide), sI_ne (by omega), sI_ne (by omega), en]
theorem x7_netF {I : HI} {B : Nat} {X : Tx} (hX : WfT X) (h : TxC I B X) (hr : ¬ rdO X = none) : ∃ I', (TxC I' B X ∧ Off I I' (B + 1) 18) ∧ f_X7_net I B = some (-3, I') := by
  obtain ⟨I1, ⟨a1, a2, a3⟩, a4⟩ := x6_read hX h
  unfold f_X7_net
  rw [a4, bd2s, if_neg (show ¬ oV (rdO X) = (-9 : Int32) from fun e => hr ((oV_m9 hX).mp e))]
  exact ⟨I1, ⟨a2, a1⟩, rfl⟩
def OffRn (I I' : HI) (m : Nat) : Prop := (∀ z, (z < m ∨ z = m + 1 ∨ m + 14 ≤ z) → I' z = I z) ∧ I' m 2 = I m 2 ∧ I' m 25 = I m 25
theorem OffRr.n {I I' : HI} {m : Nat} (h : OffRr I I' m) : OffRn I I' m := ⟨fun z hz => h.1 z (by omega) (by omega), h.2 2 (by omega) (by omega) (by omega), h.2 25 (by omega) (by omega) (by omega)⟩
theorem r8_netF {I : HI} {m : Nat} {X : Tx} (hX : WfT X) (h : TxR I m X) (hr : ¬ rdO X = none) : ∃ I', OffRr I I' m ∧ f_X8_net I m = some (-3, I') := by
  obtain ⟨I1, ⟨a1, -⟩, a2⟩ := r8_readNet hX h.z
  unfold f_X8_net
  rw [lt1s, a2, bd2s, if_neg (show ¬ oV (rdO X) = (-9 : Int32) from fun e => hr ((oV_m9 hX).mp e))]
  exact ⟨I1, OffRr.tr (OffRr.f (by omega)) a1, rfl⟩

/-! net, the reference's -/
/-- copying a row, a place at a time -/
theorem cpR_s {f g : Nat → Int32} {i : Nat} : uR (fun k => if k < i then f k else g k) i (f i) = fun k => if k < i + 1 then f k else g k := by
  funext q
  unfold uR
  by_cases hq : q = i
  · rw [if_pos hq, if_pos (by omega), hq]
  · rw [if_neg hq]
    dsimp only
    by_cases h2 : q < i
    · rw [if_pos h2, if_pos (by omega)]
    · rw [if_neg h2, if_neg (by omega)]
theorem cpR_0 {f g : Nat → Int32} : (fun k => if k < 0 then f k else g k) = g := by
  funext k; rw [if_neg (by omega)]
theorem rowS_c {I : HI} {a b : Nat} {f g : Nat → Int32} (h : a ≠ b) : rowS (rowS I a f) b g = rowS (rowS I b g) a f := by
  funext z
  by_cases h1 : z = a
  · subst h1
    rw [rowS_ne h, rowS_at, rowS_at]
  · rw [rowS_ne h1]
    by_cases h2 : z = b
    · subst h2; rw [rowS_at, rowS_at]
    · rw [rowS_ne h2, rowS_ne h2, rowS_ne h1]
theorem r8_netA {I : HI} {m nf : Nat} (h13 : I m 13 = nI nf) (hnf : nf ≤ 3) : wl2 (X8_net_B62 m) 5000 I 0 = wl2 (X8_net_B121 m) 5000 (rowS (rowS I (m + 2) (fun k => if k < 3 then (if nf = 0 then 1 else I (m + 5) k) else I (m + 2) k)) (m + 3) (fun k => if k < 3 then (if nf = 0 then 1 else I (m + 6) k) else I (m + 3) k)) 0 := by
  have e0 : I = rowS (rowS I (m + 2) (fun k => if k < 0 then (if nf = 0 then 1 else I (m + 5) k) else I (m + 2) k)) (m + 3) (fun k => if k < 0 then (if nf = 0 then 1 else I (m + 6) k) else I (m + 3) k) := by
    rw [cpR_0 (f := fun k => if nf = 0 then 1 else I (m + 5) k), cpR_0 (f := fun k => if nf = 0 then 1 else I (m + 6) k), rowS_id, rowS_id]
  conv => lhs; rw [e0]
  refine wl2_to (F := X8_net_B62 m) (fun i => rowS (rowS I (m + 2) (fun k => if k < i then (if nf = 0 then 1 else I (m + 5) k) else I (m + 2) k)) (m + 3) (fun k => if k < i then (if nf = 0 then 1 else I (m + 6) k) else I (m + 3) k)) (fun i => nI i) (m := 3) (fun i k hi => ?_) (fun k => ?_) 3 0 5000 (by omega) (by omega)
  · have e13 : ∀ f g, rowS (rowS I (m + 2) f) (m + 3) g m 13 = nI nf := fun f g => by rw [rowS_ne (by omega), rowS_ne (by omega)]; exact h13
    have e5 : ∀ f g, rowS (rowS I (m + 2) f) (m + 3) g (m + 5) = I (m + 5) := fun f g => by rw [rowS_ne (by omega), rowS_ne (by omega)]
    have e6 : ∀ f g, rowS (rowS I (m + 2) f) (m + 3) g (m + 6) = I (m + 6) := fun f g => by rw [rowS_ne (by omega), rowS_ne (by omega)]
    -- one family is laid
    have lay : ∀ v w : Int32, v = (if nf = 0 then 1 else I (m + 5) i) → w = (if nf = 0 then 1 else I (m + 6) i) → ∀ K, (lt1 (sI (rowS (rowS I (m + 2) (fun k => if k < i then (if nf = 0 then 1 else I (m + 5) k) else I (m + 2) k)) (m + 3) (fun k => if k < i then (if nf = 0 then 1 else I (m + 6) k) else I (m + 3) k)) (m + 2) i v) fun I_15 => lt1 (sI I_15 (m + 3) i w) K) = (K (rowS (rowS I (m + 2) (fun k => if k < i + 1 then (if nf = 0 then 1 else I (m + 5) k) else I (m + 2) k)) (m + 3) (fun k => if k < i + 1 then (if nf = 0 then 1 else I (m + 6) k) else I (m + 3) k)) : Option (Int32 × HI)) := by
      intro v w hv hw K
      rw [lt1s, lt1s]
      congr 1
      subst hv hw
      rw [rowS_c (by omega : m + 2 ≠ m + 3), rowS_s, cpR_s (f := fun k => if nf = 0 then 1 else I (m + 5) k), rowS_c (by omega : m + 3 ≠ m + 2), rowS_s, cpR_s (f := fun k => if nf = 0 then 1 else I (m + 6) k)]
    unfold X8_net_B62 X8_net_J89 X8_net_J112
    rw [if_pos (show nI i < (3 : Int32) by rw [i_3, nlt (by omega) (by omega)]; exact hi), e13]
    by_cases h0 : nf = 0
    · rw [if_pos (show nI nf = 0 by rw [h0]; rfl), gv hi (by omega), ncl (by omega), lt1s, sI_ne (by omega), e13, if_pos (show nI nf = 0 by rw [h0]; rfl), gv hi (by omega), ninc]
      exact (lay 1 1 (if_pos h0).symm (if_pos h0).symm (fun I_24 => lt1 (nI (i + 1)) fun x_25 => k I_24 x_25))
    · rw [if_neg (show ¬ nI nf = 0 by rw [n0eq (by omega)]; exact h0), gv hi (by omega), gv hi (by omega), ncl (by omega), e5, lt1s, sI_ne (by omega), e13, if_neg (show ¬ nI nf = 0 by rw [n0eq (by omega)]; exact h0), gv hi (by omega), gv hi (by omega), sI_ne (by omega), e6, ninc]
      exact (lay _ _ (if_neg h0).symm (if_neg h0).symm (fun I_24 => lt1 (nI (i + 1)) fun x_25 => k I_24 x_25))
  · unfold X8_net_B62
    rw [if_neg (show ¬ nI 3 < (3 : Int32) by decide)]
theorem r8_netB {I : HI} {m : Nat} : wl2 (X8_net_B121 m) 5000 I 0 = wl2 (X8_net_B146 m) 5000 (rowS I (m + 4) (fun k => if k < 4 then I (m + 7) k else I (m + 4) k)) 0 := by
  have e0 : I = rowS I (m + 4) (fun k => if k < 0 then I (m + 7) k else I (m + 4) k) := by rw [cpR_0 (f := I (m + 7)), rowS_id]
  conv => lhs; rw [e0]
  refine wl2_to (F := X8_net_B121 m) (fun i => rowS I (m + 4) (fun k => if k < i then I (m + 7) k else I (m + 4) k)) (fun i => nI i) (m := 4) (fun i k hi => ?_) (fun k => ?_) 4 0 5000 (by omega) (by omega)
  · unfold X8_net_B121
    rw [if_pos (show nI i < (4 : Int32) by rw [i_4, nlt (by omega) (by omega)]; exact hi), gv hi (by omega), gv hi (by omega), lt1s, ncl (by omega), rowS_ne (by omega), rowS_s, cpR_s (f := I (m + 7)), ninc, lt1s]
  · unfold X8_net_B121
    rw [if_neg (show ¬ nI 4 < (4 : Int32) by decide)]
theorem r8_netC {I : HI} {m : Nat} : wl2 (X8_net_B146 m) 5000 I 0 = wl2 (X8_net_B172 m) 5000 (rowS I (m + 9) (fun k => if k < 121 then I (m + 8) k else I (m + 9) k)) 0 := by
  have e0 : I = rowS I (m + 9) (fun k => if k < 0 then I (m + 8) k else I (m + 9) k) := by rw [cpR_0 (f := I (m + 8)), rowS_id]
  conv => lhs; rw [e0]
  refine wl2_to (F := X8_net_B146 m) (fun i => rowS I (m + 9) (fun k => if k < i then I (m + 8) k else I (m + 9) k)) (fun i => nI i) (m := 121) (fun i k hi => ?_) (fun k => ?_) 121 0 5000 (by omega) (by omega)
  · unfold X8_net_B146
    rw [if_pos (show nI i < (121 : Int32) by rw [i_121, nlt (by omega) (by omega)]; exact hi), gv hi (by omega), gv hi (by omega), lt1s, ncl (by omega), rowS_ne (by omega), rowS_s, cpR_s (f := I (m + 8)), ninc, lt1s]
  · unfold X8_net_B146
    rw [if_neg (show ¬ nI 121 < (121 : Int32) by decide)]
/-- some proxies are ready -/
def rdy (C : Cf) (P : Nat → Prx) (i : Nat) : Nat → Prx := fun y => if y < i then aSnd (aReb C 0 (P y)) else P y
theorem r8_netD {I : HI} {m : Nat} {C : Cf} {P : Nat → Prx} (hC : WfC C) (hh : CfAt I m C) (hw : WfQ C P) (h : RnAt (I (m + 9)) C (Nz P)) : ∃ r, RnAt r C (Nz (rdy C P (cN C))) ∧ wl2 (X8_net_B172 m) 5000 I 0 = some (nI (cN C), sI (sI (sI (rowS I (m + 9) r) m 22 0) (m + 13) 0 0) (m + 13) 1 0) := by
  have hn := hC.2.2.2.2.1
  have hF := hC.2.2.1
  have w7 := hw.2.2.2.2.2.2
  have key := wl2_inv (F := X8_net_B172 m) (Post := fun o => ∃ r, RnAt r C (Nz (rdy C P (cN C))) ∧ o = (nI (cN C), sI (sI (sI (rowS I (m + 9) r) m 22 0) (m + 13) 0 0) (m + 13) 1 0)) (Inv := fun i (I1 : HI) (z : Int32) => (∃ r, RnAt r C (Nz (rdy C P i)) ∧ I1 = rowS I (m + 9) r) ∧ z = nI i) (m := cN C) ?_ ?_ (cN C) 0 5000 I (nI 0) (by omega) (by omega) ⟨⟨I (m + 9), ?_, (rowS_id _ _).symm⟩, rfl⟩
  · obtain ⟨o, ⟨r, a1, rfl⟩, e⟩ := key
    exact ⟨r, a1, e⟩
  · rintro i I1 z hi ⟨⟨r1, a1, rfl⟩, rfl⟩
    have e9 : ∀ r, rowS I (m + 9) r m 9 = nI (cN C) := fun r => (hh.row (by omega) r).2.2.2.1
    have hPi : nP (Nz (rdy C P i)) i = P i := by
      show rdy C P i i = P i
      exact if_neg (by omega)
    have hri : RxAt r1 i (P i) := by rw [← hPi]; exact a1.1 i hi
    have hsh := (w7 i hi).1
    obtain ⟨r2, ⟨b1, b2⟩, b3⟩ := r8_makeAnew (I := I) (w := m + 9) hC hh (by omega) hri hsh a1.2.1 (show 0 < cF C by omega) (show i < 4 by omega)
    have h9 : pN (P i) ≤ 9 := Nat.le_trans hsh.1 hsh.2.1
    have hcn : Cnt (cM C) 27 (pC (aReb C 0 (P i))) := (reb_cnt hC (pN (P i)) h9).mono (by omega)
    have b4 := r8_filterOf (I := I) (w := m + 9) hC hh (by omega) b1 hcn (show i < 4 by omega)
    have h3 := b1.u (k := 29 * i + 26) (v := flt (pC (aReb C 0 (P i))) 16) (by omega) (by omega)
    rw [if_pos rfl, if_neg (by omega), if_neg (by omega)] at h3
    have eP : (pN (aReb C 0 (P i)), pS (aReb C 0 (P i)), pC (aReb C 0 (P i)), flt (pC (aReb C 0 (P i))) 16, pH (aReb C 0 (P i)), pL (aReb C 0 (P i))) = aSnd (aReb C 0 (P i)) := by
      have e : pH (aReb C 0 (P i)) = 0 := (w7 i hi).2.1
      rw [e]; rfl
    have h3' : RxAt (uR r2 (29 * i + 26) (flt (pC (aReb C 0 (P i))) 16)) i (aSnd (aReb C 0 (P i))) := by rw [← eP]; exact h3
    have h4 : RnAt (uR r2 (29 * i + 26) (flt (pC (aReb C 0 (P i))) 16)) C (stP (Nz (rdy C P i)) i (aSnd (aReb C 0 (P i)))) := a1.px hn hi h3' (b2.tr (ROff.u (by omega)))
    have eN : stP (Nz (rdy C P i)) i (aSnd (aReb C 0 (P i))) = Nz (rdy C P (i + 1)) := by
      show ((fun y => if y = i then aSnd (aReb C 0 (P i)) else rdy C P i y), (Nz P).2) = ((fun y => rdy C P (i + 1) y), (Nz P).2)
      congr 1
      funext y
      unfold rdy
      by_cases hy : y = i
      · rw [if_pos hy, if_pos (by omega), hy]
      · rw [if_neg hy]
        by_cases hy2 : y < i
        · rw [if_pos hy2, if_pos (by omega)]
        · rw [if_neg hy2, if_neg (by omega)]
    rw [eN] at h4
    refine Or.inl ⟨_, nI (i + 1), ⟨⟨_, h4, rfl⟩, rfl⟩, fun k => ?_⟩
    unfold X8_net_B172
    rw [e9, if_pos (show nI i < nI (cN C) by rw [nlt (by omega) (by omega)]; exact hi), b3, bd1s, b4, bd1s, i_29, i_26, nmul, nadd, gv (by omega) (by omega), lt1s, ncl (by omega), rowS_s, ninc, lt1s]
    rfl
  · rintro I1 z ⟨⟨r1, a1, rfl⟩, rfl⟩
    have e9 : ∀ r, rowS I (m + 9) r m 9 = nI (cN C) := fun r => (hh.row (by omega) r).2.2.2.1
    refine ⟨_, ⟨r1, a1, rfl⟩, fun k => ?_⟩
    unfold X8_net_B172
    rw [e9, if_neg (show ¬ nI (cN C) < nI (cN C) by rw [nlt (by omega) (by omega)]; omega), lt1s, i_0, i_1, gv (by omega) (by omega), lt1s, gv (by omega) (by omega), lt1s, ncl (by omega), ncl (by omega)]
    congr 2
    rw [sI_ne (by omega), sI_ne (by omega), sI_eq, uR_ne (by omega), e9]
  · have e : rdy C P 0 = P := by
      funext y
      exact if_neg (by omega)
    rw [e]; exact h
theorem fin_cX (C : Cf) : cM (fin C) = cM C ∧ cK (fin C) = cK C ∧ cR (fin C) = cR C := by
  unfold fin
  by_cases h0 : cF C = 0
  · rw [if_pos h0]; exact ⟨rfl, rfl, rfl⟩
  · rw [if_neg h0]; exact ⟨rfl, rfl, rfl⟩
theorem r8_netR {I : HI} {m : Nat} {X : Tx} {H : Nat → Nt} (hX : WfT X) (h : TxR I m X) (hr : rdO X = none) : ∃ I', (RfAt I' m (rdC X) (rdN X, 0, H) ∧ SlR I' m (rdC X) noK ∧ OffRn I I' m) ∧ f_X8_net I m = some (nI (cN (rdC X)), I') := by
  obtain ⟨wC, wN, wQ⟩ := rd_wf hX hr
  have hn := wC.2.2.2.2.1
  have hF3 := wQ.2.2.1
  obtain ⟨I3, ⟨a1, a2⟩, a3⟩ := r8_readNet hX h.z
  have o3 : OffRn I I3 m := (OffRr.tr (OffRr.f (k := 0) (by omega)) a1).n
  obtain ⟨⟨q0, q1, q2, q3, q4, q5⟩, k1, k2⟩ := a2 hr
  have hCN : cN (rdC X) = cN (rdQ X).2.1 := fin_cN _
  unfold f_X8_net
  rw [lt1s, a3, bd2s, if_pos (show oV (rdO X) = (-9 : Int32) by rw [hr]; rfl), k1, lt1s, sI_eq, uR_ne (by omega), k2, lt1s, sI_eq, uR_ne (by omega), sI_eq, uR_ne (by omega), q0]
  have hJ : (if nI (cF (rdQ X).2.1) = 0 then X8_net_J49 (sI (sI I3 m 4 (nI (cM (rdQ X).2.1))) m 5 (nI (cK (rdQ X).2.1))) m m 1 else X8_net_J49 (sI (sI I3 m 4 (nI (cM (rdQ X).2.1))) m 5 (nI (cK (rdQ X).2.1))) m m (nI (cF (rdQ X).2.1))) = X8_net_J49 (sI (sI I3 m 4 (nI (cM (rdQ X).2.1))) m 5 (nI (cK (rdQ X).2.1))) m m (nI (cF (rdC X))) := by
    unfold rdC fin
    by_cases h0 : cF (rdQ X).2.1 = 0
    · rw [if_pos (show nI (cF (rdQ X).2.1) = 0 by rw [h0]; rfl), if_pos h0]
      show _ = X8_net_J49 _ m m (nI (cF (rdQ X).2.1 + 1))
      rw [h0]; rfl
    · rw [if_neg (show ¬ nI (cF (rdQ X).2.1) = 0 by rw [n0eq (by omega)]; exact h0), if_neg h0]
  rw [hJ]
  unfold X8_net_J49
  have e16 : sI (sI (sI I3 m 4 (nI (cM (rdQ X).2.1))) m 5 (nI (cK (rdQ X).2.1))) m 6 (nI (cF (rdC X))) m 16 = nI (cN (rdC X)) := by
    rw [sI_eq, uR_ne (by omega), sI_eq, uR_ne (by omega), sI_eq, uR_ne (by omega), q1, hCN]
  rw [lt1s, e16, lt1s]
  have g4 : sI (sI (sI (sI I3 m 4 (nI (cM (rdQ X).2.1))) m 5 (nI (cK (rdQ X).2.1))) m 6 (nI (cF (rdC X)))) m 9 (nI (cN (rdC X))) m 4 = nI (cM (rdQ X).2.1) := by simp only [sI_at]; simp
  have g5 : sI (sI (sI (sI I3 m 4 (nI (cM (rdQ X).2.1))) m 5 (nI (cK (rdQ X).2.1))) m 6 (nI (cF (rdC X)))) m 9 (nI (cN (rdC X))) m 5 = nI (cK (rdQ X).2.1) := by simp only [sI_at]; simp
  have g6 : sI (sI (sI (sI I3 m 4 (nI (cM (rdQ X).2.1))) m 5 (nI (cK (rdQ X).2.1))) m 6 (nI (cF (rdC X)))) m 9 (nI (cN (rdC X))) m 6 = nI (cF (rdC X)) := by simp only [sI_at]; simp
  have g9 : sI (sI (sI (sI I3 m 4 (nI (cM (rdQ X).2.1))) m 5 (nI (cK (rdQ X).2.1))) m 6 (nI (cF (rdC X)))) m 9 (nI (cN (rdC X))) m 9 = nI (cN (rdC X)) := by simp only [sI_at]; simp
  have gk : ∀ k, k ≠ 4 → k ≠ 5 → k ≠ 6 → k ≠ 9 → sI (sI (sI (sI I3 m 4 (nI (cM (rdQ X).2.1))) m 5 (nI (cK (rdQ X).2.1))) m 6 (nI (cF (rdC X)))) m 9 (nI (cN (rdC X))) m k = I3 m k := fun k h1 h2 h3 h4 => by
    rw [sI_eq, uR_ne h4, sI_eq, uR_ne h3, sI_eq, uR_ne h2, sI_eq, uR_ne h1]
  have gz : ∀ z, z ≠ m → sI (sI (sI (sI I3 m 4 (nI (cM (rdQ X).2.1))) m 5 (nI (cK (rdQ X).2.1))) m 6 (nI (cF (rdC X)))) m 9 (nI (cN (rdC X))) z = I3 z := fun z hz => by
    rw [sI_ne hz, sI_ne hz, sI_ne hz, sI_ne hz]
  generalize sI (sI (sI (sI I3 m 4 (nI (cM (rdQ X).2.1))) m 5 (nI (cK (rdQ X).2.1))) m 6 (nI (cF (rdC X)))) m 9 (nI (cN (rdC X))) = I4 at g4 g5 g6 g9 gk gz
  have g13 : I4 m 13 = nI (cF (rdQ X).2.1) := by rw [gk _ (by omega) (by omega) (by omega) (by omega)]; exact q0
  rw [r8_netA g13 hF3, r8_netB, r8_netC]
  -- what the four steps leave
  have cM' : cM (rdC X) = cM (rdQ X).2.1 := (fin_cX _).1
  have cK' : cK (rdC X) = cK (rdQ X).2.1 := (fin_cX _).2.1
  have cR' : cR (rdC X) = cR (rdQ X).2.1 := (fin_cX _).2.2
  have cA' : ∀ f, f < cF (rdC X) → (if cF (rdQ X).2.1 = 0 then 1 else I4 (m + 5) f) = nI (cA (rdC X) f) ∧ (if cF (rdQ X).2.1 = 0 then 1 else I4 (m + 6) f) = nI (cB (rdC X) f) := by
    intro f hf
    unfold rdC fin at hf ⊢
    by_cases h0 : cF (rdQ X).2.1 = 0
    · rw [if_pos h0] at hf ⊢
      rw [if_pos h0, if_pos h0]
      have hf' : f < cF (rdQ X).2.1 + 1 := hf
      show (1 : Int32) = nI (if f = cF (rdQ X).2.1 then 1 else cA (rdQ X).2.1 f) ∧ (1 : Int32) = nI (if f = cF (rdQ X).2.1 then 1 else cB (rdQ X).2.1 f)
      rw [if_pos (by omega), if_pos (by omega)]
      exact ⟨rfl, rfl⟩
    · rw [if_neg h0] at hf ⊢
      rw [if_neg h0, if_neg h0, gz _ (by omega), gz _ (by omega)]
      exact q2 f hf
  generalize hA : (fun k => if k < 3 then (if cF (rdQ X).2.1 = 0 then 1 else I4 (m + 5) k) else I4 (m + 2) k) = rA
  generalize hB : (fun k => if k < 3 then (if cF (rdQ X).2.1 = 0 then 1 else I4 (m + 6) k) else I4 (m + 3) k) = rB
  have s4 : ∀ z, z ≠ m + 2 → z ≠ m + 3 → rowS (rowS I4 (m + 2) rA) (m + 3) rB z = I4 z := fun z h1 h2 => by rw [rowS_ne h2, rowS_ne h1]
  have s2 : rowS (rowS I4 (m + 2) rA) (m + 3) rB (m + 2) = rA := by rw [rowS_ne (by omega), rowS_at]
  have s3 : rowS (rowS I4 (m + 2) rA) (m + 3) rB (m + 3) = rB := rowS_at _ _ _
  generalize rowS (rowS I4 (m + 2) rA) (m + 3) rB = I5 at s4 s2 s3
  generalize hI6 : rowS I5 (m + 4) (fun k => if k < 4 then I5 (m + 7) k else I5 (m + 4) k) = I6
  have u4 : ∀ z, z ≠ m + 4 → I6 z = I5 z := fun z h1 => by rw [← hI6, rowS_ne h1]
  have u5 : I6 (m + 4) = fun k => if k < 4 then I5 (m + 7) k else I5 (m + 4) k := by rw [← hI6, rowS_at]
  generalize hI7 : rowS I6 (m + 9) (fun k => if k < 121 then I6 (m + 8) k else I6 (m + 9) k) = I7
  have v4 : ∀ z, z ≠ m + 9 → I7 z = I6 z := fun z h1 => by rw [← hI7, rowS_ne h1]
  have v5 : I7 (m + 9) = fun k => if k < 121 then I6 (m + 8) k else I6 (m + 9) k := by rw [← hI7, rowS_at]
  have hcf : CfAt I7 m (rdC X) := by
    have hF := wC.2.2.1
    refine ⟨?_, ?_, ?_, ?_, fun f hf => ?_, fun f hf => ?_, fun x hx => ?_⟩
    · rw [v4 _ (by omega), u4 _ (by omega), s4 _ (by omega) (by omega), g4, cM']
    · rw [v4 _ (by omega), u4 _ (by omega), s4 _ (by omega) (by omega), g5, cK']
    · rw [v4 _ (by omega), u4 _ (by omega), s4 _ (by omega) (by omega), g6]
    · rw [v4 _ (by omega), u4 _ (by omega), s4 _ (by omega) (by omega), g9]
    · rw [v4 _ (by omega), u4 _ (by omega), s2, ← hA]
      show (if f < 3 then _ else _) = _
      rw [if_pos (by omega)]; exact (cA' f hf).1
    · rw [v4 _ (by omega), u4 _ (by omega), s3, ← hB]
      show (if f < 3 then _ else _) = _
      rw [if_pos (by omega)]; exact (cA' f hf).2
    · rw [v4 _ (by omega), u5]
      show (if x < 4 then _ else _) = _
      rw [if_pos (by omega), s4 _ (by omega) (by omega), gz _ (by omega), cR']
      exact q3 x (by rw [← hCN]; exact hx)
  have hrn : RnAt (I7 (m + 9)) (rdC X) (Nz (rdQ X).2.2) := by
    have h1 : RnAt (I3 (m + 8)) (rdC X) (Nz (rdQ X).2.2) := by
      obtain ⟨b0, b1, b2, b3, b4, b5⟩ := q4
      exact ⟨fun x hx => b0 x (by rw [← hCN]; exact hx), b1, b2, b3, b4, b5⟩
    refine h1.congr hn fun j hj => ?_
    rw [v5]
    show (if j < 121 then _ else _) = _
    rw [if_pos hj, u4 _ (by omega), s4 _ (by omega) (by omega), gz _ (by omega)]
  have wQ' : WfQ (rdC X) (rdQ X).2.2 := ⟨wC.1, wC.2.1, wC.2.2.1.2, wC.2.2.2.1, wC.2.2.2.2.1, wC.2.2.2.2.2, fun x hx => by
    rw [cR']; exact wQ.2.2.2.2.2.2 x (by rw [← hCN]; exact hx)⟩
  obtain ⟨r, c1, c2⟩ := r8_netD wC hcf wQ' hrn
  have eN : Nz (rdy (rdC X) (rdQ X).2.2 (cN (rdC X))) = rdN X := by
    unfold rdN
    rw [adp_eq]
    rfl
  rw [eN] at c1
  refine ⟨_, ⟨⟨?_, ?_, ?_⟩, fun k hk => ⟨fun _ => ?_, fun N e => by cases e⟩, ⟨fun z hz => ?_, ?_, ?_⟩⟩, c2⟩
  · have h1 := hcf.row (w := m + 9) (by omega) r
    obtain ⟨d1, d2, d3, d4, d5, d6, d7⟩ := h1
    refine ⟨?_, ?_, ?_, ?_, fun f hf => ?_, fun f hf => ?_, fun x hx => ?_⟩
    · rw [sI_ne (by omega), sI_ne (by omega), sI_eq, uR_ne (by omega)]; exact d1
    · rw [sI_ne (by omega), sI_ne (by omega), sI_eq, uR_ne (by omega)]; exact d2
    · rw [sI_ne (by omega), sI_ne (by omega), sI_eq, uR_ne (by omega)]; exact d3
    · rw [sI_ne (by omega), sI_ne (by omega), sI_eq, uR_ne (by omega)]; exact d4
    · rw [sI_ne (by omega), sI_ne (by omega), sI_ne (by omega)]; exact d5 f hf
    · rw [sI_ne (by omega), sI_ne (by omega), sI_ne (by omega)]; exact d6 f hf
    · rw [sI_ne (by omega), sI_ne (by omega), sI_ne (by omega)]; exact d7 x hx
  · rw [sI_ne (by omega), sI_ne (by omega), sI_ne (by omega), rowS_at]; exact c1
  · exact ⟨by rw [sI_ne (by omega), sI_ne (by omega), sI_eq, uR_eq]; rfl, Nat.zero_le _, fun k hk => absurd (show k < 0 from hk) (Nat.not_lt_zero _)⟩
  · rw [sI_eq]
    rcases (show k = 0 ∨ k = 1 by omega) with rfl | rfl
    · rw [uR_ne (by omega), sI_eq, uR_eq]
    · rw [uR_eq]
  · rw [sI_ne (by omega), sI_ne (by omega), sI_ne (by omega), rowS_ne (by omega), v4 _ (by omega), u4 _ (by omega), s4 _ (by omega) (by omega), gz _ (by omega)]
    exact o3.1 z hz
  · rw [sI_ne (by omega), sI_ne (by omega), sI_eq, uR_ne (by omega), rowS_ne (by omega), v4 _ (by omega), u4 _ (by omega), s4 _ (by omega) (by omega), gk _ (by omega) (by omega) (by omega) (by omega)]
    exact o3.2.1
  · rw [sI_ne (by omega), sI_ne (by omega), sI_eq, uR_ne (by omega), rowS_ne (by omega), v4 _ (by omega), u4 _ (by omega), s4 _ (by omega) (by omega), gk _ (by omega) (by omega) (by omega) (by omega)]
    exact o3.2.2

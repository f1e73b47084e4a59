/-! the reference: its book of nets; a family is used -/
theorem RnAt.congr {r r' : Nat → Int32} {C : Cf} {N : Nt} (hn : cN C ≤ 4) (h : RnAt r C N) (he : ∀ j, j < 121 → r' j = r j) : RnAt r' C N := by
  obtain ⟨g, a, b, c, d, e⟩ := h
  exact ⟨fun x hx => (g x hx).kept fun k h1 h2 => he k (by omega), by rw [he _ (by omega)]; exact a, by rw [he _ (by omega)]; exact b, by rw [he _ (by omega)]; exact c, by rw [he _ (by omega)]; exact d, by rw [he _ (by omega)]; exact e⟩
def BkAt (I : HI) (m : Nat) (C : Cf) (d : Nat) (H : Nat → Nt) : Prop := I m 22 = nI d ∧ d ≤ 14 ∧ ∀ k, k < d → RnAt (fun j => I (m + 11) (121 * k + j)) C (H k)
theorem i_1573 : (1573 : Int32) = nI 1573 := rfl
theorem r8_J49 {I : HI} {m d : Nat} {C : Cf} {N : Nt} {H : Nat → Nt} (hC : WfC C) (hb : BkAt I m C d H) (hd : d < 14) (hN : RnAt (I (m + 9)) C N) : ∃ I', ((BkAt I' m C (d + 1) (fun k => if k = d then N else H k)) ∧ (∀ z, z ≠ m + 11 → z ≠ m → I' z = I z) ∧ ∀ k, k ≠ 22 → I' m k = I m k) ∧ X8_note_J49 I m = some I' := by
  have hn := hC.2.2.2.2.1
  obtain ⟨e22, hd14, hH⟩ := hb
  unfold X8_note_J49
  refine wl2_inv (F := X8_note_B51 m) (Inv := fun i (I1 : HI) (z : Int32) => I1 = rowS I (m + 11) (fun k => if 121 * d ≤ k ∧ k < 121 * d + i then I (m + 9) (k - 121 * d) else I (m + 11) k) ∧ z = nI i) (m := 121) ?_ ?_ 121 0 5000 I (nI 0) (by omega) (by omega) ⟨?_, rfl⟩
  · rintro i I1 z hi ⟨rfl, rfl⟩
    refine Or.inl ⟨_, nI (i + 1), ⟨rfl, rfl⟩, fun k => ?_⟩
    unfold X8_note_B51
    rw [rowS_ne (by omega), rowS_ne (by omega), e22, i_121, if_pos (show nI i < nI 121 by rw [nlt (by omega) (by omega)]; exact hi), nmul, nadd, gv hi (by omega), gv (by omega) (by omega), lt1s, ncl (by omega), ncl (by omega), rowS_s, lt1s, ninc]
    congr 2
    funext q
    unfold uR
    by_cases hq : q = 121 * d + i
    · rw [if_pos hq, if_pos (by omega), hq, show 121 * d + i - 121 * d = i by omega]
    · rw [if_neg hq]
      dsimp only
      by_cases h2 : 121 * d ≤ q ∧ q < 121 * d + i
      · rw [if_pos h2, if_pos (by omega)]
      · rw [if_neg h2, if_neg (by omega)]
  · rintro I1 z ⟨rfl, rfl⟩
    refine ⟨sI (rowS I (m + 11) (fun k => if 121 * d ≤ k ∧ k < 121 * d + 121 then I (m + 9) (k - 121 * d) else I (m + 11) k)) m 22 (nI (d + 1)), ⟨⟨?_, by omega, fun k hk => ?_⟩, fun z h1 h2 => ?_, fun k hk => ?_⟩, fun k => ?_⟩
    rotate_left 4
    · unfold X8_note_B51
      rw [if_neg (show ¬ nI 121 < (121 : Int32) by decide), lt1s, rowS_ne (by omega), e22, i_1, nadd]
    · rw [sI_eq, uR_eq]
    · rw [sI_ne (by omega), rowS_at]
      show RnAt _ C (if k = d then N else H k)
      by_cases hkd : k = d
      · rw [if_pos hkd]
        refine hN.congr hn fun j hj => ?_
        rw [hkd, if_pos (by omega), show 121 * d + j - 121 * d = j by omega]
      · rw [if_neg hkd]
        refine (hH k (by omega)).congr hn fun j hj => ?_
        rw [if_neg (by omega)]
    · rw [sI_ne h2, rowS_ne h1]
    · rw [sI_eq, uR_ne hk, rowS_ne (by omega)]
  · have e : (fun k => if 121 * d ≤ k ∧ k < 121 * d + 0 then I (m + 9) (k - 121 * d) else I (m + 11) k) = I (m + 11) := by
      funext k; rw [if_neg (by omega)]
    rw [e, rowS_id]
theorem r8_note {I : HI} {m d : Nat} {C : Cf} {N : Nt} {H : Nat → Nt} (hC : WfC C) (hb : BkAt I m C d H) (hN : RnAt (I (m + 9)) C N) : ∃ I', ((BkAt I' m C (pushH d H N).1 (pushH d H N).2) ∧ (∀ z, z ≠ m + 11 → z ≠ m → I' z = I z) ∧ ∀ k, k ≠ 22 → I' m k = I m k) ∧ f_X8_note I m = some I' := by
  have hn := hC.2.2.2.2.1
  unfold f_X8_note pushH
  by_cases hd : d = 14
  · rw [hb.1, if_pos (show nI d = (14 : Int32) by rw [hd]; rfl)]
    obtain ⟨e22, hd14, hH⟩ := hb
    rw [if_pos hd]
    refine wl2_inv (F := X8_note_B11 m) (Inv := fun i (I1 : HI) (z : Int32) => I1 = rowS I (m + 11) (fun k => if k < i then I (m + 11) (k + 121) else I (m + 11) k) ∧ z = nI i) (m := 1573) ?_ ?_ 1573 0 5000 I (nI 0) (by omega) (by omega) ⟨?_, rfl⟩
    · rintro i I1 z hi ⟨rfl, rfl⟩
      refine Or.inl ⟨_, nI (i + 1), ⟨rfl, rfl⟩, fun k => ?_⟩
      unfold X8_note_B11
      rw [i_1573, i_121, if_pos (show nI i < nI 1573 by rw [nlt (by omega) (by omega)]; exact hi), nadd, gv (by omega) (by omega), gv (by omega) (by omega), lt1s, ncl (by omega), ncl (by omega), rowS_at, rowS_s, lt1s, ninc]
      congr 2
      funext q
      unfold uR
      by_cases hq : q = i
      · rw [if_pos hq, if_neg (by omega), if_pos (by omega), hq]
      · rw [if_neg hq]
        dsimp only
        by_cases h2 : q < i
        · rw [if_pos h2, if_pos (by omega)]
        · rw [if_neg h2, if_neg (by omega)]
    · rintro I1 z ⟨rfl, rfl⟩
      have hb2 : BkAt (sI (rowS I (m + 11) (fun k => if k < 1573 then I (m + 11) (k + 121) else I (m + 11) k)) m 22 (nI 13)) m C 13 (fun k => H (k + 1)) := by
        refine ⟨by rw [sI_eq, uR_eq], by omega, fun k hk => ?_⟩
        rw [sI_ne (by omega), rowS_at]
        refine (hH (k + 1) (by omega)).congr hn fun j hj => ?_
        rw [if_pos (by omega), show 121 * k + j + 121 = 121 * (k + 1) + j by omega]
      have hN2 : RnAt (sI (rowS I (m + 11) (fun k => if k < 1573 then I (m + 11) (k + 121) else I (m + 11) k)) m 22 (nI 13) (m + 9)) C N := by
        rw [sI_ne (by omega), rowS_ne (by omega)]; exact hN
      obtain ⟨I2, ⟨b1, b2, b3⟩, b4⟩ := r8_J49 hC hb2 (by omega) hN2
      refine ⟨I2, ⟨b1, fun z h1 h2 => ?_, fun k hk => ?_⟩, fun k => ?_⟩
      · rw [b2 z h1 h2, sI_ne h2, rowS_ne h1]
      · rw [b3 k hk, sI_eq, uR_ne hk, rowS_ne (by omega)]
      · unfold X8_note_B11
        rw [if_neg (show ¬ nI 1573 < (1573 : Int32) by decide), lt1s, rowS_ne (by omega), e22, hd, i_1, nsub (by omega)]
        exact b4
    · have e : (fun k => if k < 0 then I (m + 11) (k + 121) else I (m + 11) k) = I (m + 11) := by
        funext k; rw [if_neg (by omega)]
      rw [e, rowS_id]
  · have hd2 := hb.2.1
    rw [hb.1, if_neg (show ¬ nI d = (14 : Int32) by rw [i_14, neq (by omega) (by omega)]; exact hd), if_neg hd]
    exact r8_J49 hC hb (by omega) hN
theorem r8_undo0 {I : HI} {m : Nat} {C : Cf} {H : Nat → Nt} (hb : BkAt I m C 0 H) : f_X8_undo I m = some (-3, sI I m 0 0) := by
  unfold f_X8_undo
  rw [lt1s, sI_eq, uR_ne (by omega), hb.1, if_pos (by rfl)]
theorem r8_undo {I : HI} {m d : Nat} {C : Cf} {H : Nat → Nt} (hC : WfC C) (hb : BkAt I m C (d + 1) H) : ∃ I', ((BkAt I' m C d H ∧ RnAt (I' (m + 9)) C (H d)) ∧ (∀ z, z ≠ m + 9 → z ≠ m → I' z = I z) ∧ ∀ k, k ≠ 22 → k ≠ 0 → I' m k = I m k) ∧ f_X8_undo I m = some (nI d, I') := by
  have hn := hC.2.2.2.2.1
  obtain ⟨e22, hd14, hH⟩ := hb
  unfold f_X8_undo
  rw [lt1s, sI_eq, uR_ne (by omega), e22, if_neg (show ¬ nI (d + 1) = 0 by rw [n0eq (by omega)]; omega), i_1, nsub (by omega), lt1s]
  have key := wl2_inv (F := X8_undo_B27 m) (Post := fun o => ∃ I', ((BkAt I' m C d H ∧ RnAt (I' (m + 9)) C (H d)) ∧ (∀ z, z ≠ m + 9 → z ≠ m → I' z = I z) ∧ ∀ k, k ≠ 22 → k ≠ 0 → I' m k = I m k) ∧ o = (nI d, I')) (Inv := fun i (I1 : HI) (z : Int32) => I1 = rowS (sI (sI I m 0 0) m 22 (nI (d + 1 - 1))) (m + 9) (fun k => if k < i then I (m + 11) (121 * d + k) else I (m + 9) k) ∧ z = nI i) (m := 121) ?_ ?_ 121 0 5000 (sI (sI I m 0 0) m 22 (nI (d + 1 - 1))) (nI 0) (by omega) (by omega) ⟨?_, rfl⟩
  · obtain ⟨o, ⟨I', h1, rfl⟩, h2⟩ := key
    exact ⟨I', h1, h2⟩
  · rintro i I1 z hi ⟨rfl, rfl⟩
    refine Or.inl ⟨_, nI (i + 1), ⟨rfl, rfl⟩, fun k => ?_⟩
    unfold X8_undo_B27
    have e1 : ∀ f, rowS (sI (sI I m 0 0) m 22 (nI (d + 1 - 1))) (m + 9) f m 22 = nI d := fun f => by rw [rowS_ne (by omega), sI_eq, uR_eq]; rfl
    have e2 : ∀ f, rowS (sI (sI I m 0 0) m 22 (nI (d + 1 - 1))) (m + 9) f (m + 11) = I (m + 11) := fun f => by rw [rowS_ne (by omega), sI_ne (by omega), sI_ne (by omega)]
    rw [e1, e2, i_121, if_pos (show nI i < nI 121 by rw [nlt (by omega) (by omega)]; exact hi), nmul, nadd, gv (by omega) (by omega), gv hi (by omega), lt1s, ncl (by omega), ncl (by omega), rowS_s, lt1s, ninc]
    congr 2
    funext q
    unfold uR
    by_cases hq : q = i
    · rw [if_pos hq, if_pos (by omega), hq]
    · rw [if_neg hq]
      dsimp only
      by_cases h2 : q < i
      · rw [if_pos h2, if_pos (by omega)]
      · rw [if_neg h2, if_neg (by omega)]
  · rintro I1 z ⟨rfl, rfl⟩
    refine ⟨(nI d, rowS (sI (sI I m 0 0) m 22 (nI (d + 1 - 1))) (m + 9) (fun k => if k < 121 then I (m + 11) (121 * d + k) else I (m + 9) k)), ⟨rowS (sI (sI I m 0 0) m 22 (nI (d + 1 - 1))) (m + 9) (fun k => if k < 121 then I (m + 11) (121 * d + k) else I (m + 9) k), ⟨⟨⟨?_, by omega, fun k hk => ?_⟩, ?_⟩, fun z h1 h2 => ?_, fun k h1 h2 => ?_⟩, rfl⟩, fun k => ?_⟩
    rotate_left 5
    · unfold X8_undo_B27
      rw [if_neg (show ¬ nI 121 < (121 : Int32) by decide), rowS_ne (by omega), sI_eq, uR_eq]
      rfl
    · rw [rowS_ne (by omega), sI_eq, uR_eq]; rfl
    · rw [rowS_ne (by omega), sI_ne (by omega), sI_ne (by omega)]; exact hH k (by omega)
    · rw [rowS_at]
      refine (hH d (by omega)).congr hn fun j hj => ?_
      rw [if_pos hj]
    · rw [rowS_ne h1, sI_ne h2, sI_ne h2]
    · rw [rowS_ne (by omega), sI_eq, uR_ne h1, sI_eq, uR_ne h2]
  · have e : (fun k => if k < 0 then I (m + 11) (121 * d + k) else I (m + 9) k) = sI (sI I m 0 0) m 22 (nI (d + 1 - 1)) (m + 9) := by
      funext k; rw [if_neg (by omega), sI_ne (by omega), sI_ne (by omega)]
    rw [e, rowS_id]
theorem mkA_wf {C : Cf} {t : Nat} {N : Nt} (hC : WfC C) (ht : 27 ≤ t) (h : WfN C t N) : ∀ x, x ≤ cN C → WfN C t (mkA C N x)
  | 0, _ => h
  | x + 1, hx => by
    have ih := mkA_wf hC ht h x (by omega)
    have hs := ih.shf (x := x) (by omega)
    refine ih.px (by omega) hs ?_
    have h9 : pN (nP (mkA C N x) x) ≤ 9 := Nat.le_trans hs.1 hs.2.1
    exact (reb_cnt hC (pN (nP (mkA C N x) x)) h9).mono (by omega)
theorem mkA_nF (C : Cf) (N : Nt) : ∀ x, nF (mkA C N x) = nF N
  | 0 => rfl
  | x + 1 => mkA_nF C N x
theorem snA_wf {C : Cf} {t : Nat} {N : Nt} (h : WfN C t N) : ∀ x, WfN C t (snA C N x)
  | 0 => h
  | x + 1 => (snA_wf h x).snd
theorem r8_useOn {I : HI} {m w f t : Nat} {C : Cf} {r : Nat → Int32} {N : Nt} (hC : WfC C) (hh : CfAt I m C) (hw : m + 5 ≤ w) (hf : f < cF C) (ht : 27 ≤ t) (h : RnAt r C N) (hwf : WfN C t N) : ∃ r', RnAt r' C (adp C (nFam N f) (cN C)) ∧ f_X8_useOn (rowS I w r) m w (nI f) = some (rowS I w r') := by
  have hn := hC.2.2.2.2.1
  have w0 : WfN C t (nFam N f) := ⟨hf, hwf.2⟩
  have e9 : ∀ q, rowS I w q m 9 = nI (cN C) := fun q => (hh.row hw q).2.2.2.1
  unfold f_X8_useOn
  rw [i_116, gv (by omega) (by omega), lt1s, ncl (by omega), rowS_s]
  have h0 : RnAt (uR r 116 (nI f)) C (nFam N f) := by
    obtain ⟨g, a, b, c, d, e⟩ := h
    exact ⟨fun y hy => (g y hy).kept fun q h1 h2 => uR_ne (by omega), uR_eq _ _ _, by rw [uR_ne (by omega)]; exact b, by rw [uR_ne (by omega)]; exact c, by rw [uR_ne (by omega)]; exact d, by rw [uR_ne (by omega)]; exact e⟩
  have key := wl2_inv (F := X8_useOn_B7 m w) (Post := fun o => ∃ r', RnAt r' C (adp C (nFam N f) (cN C)) ∧ o = rowS I w r') (Inv := fun i (I1 : HI) (z : Int32) => (∃ r', RnAt r' C (mkA C (nFam N f) i) ∧ I1 = rowS I w r') ∧ z = nI i) (m := cN C) ?_ ?_ (cN C) 0 5000 (rowS I w (uR r 116 (nI f))) (nI 0) (by omega) (by omega) ⟨⟨_, h0, rfl⟩, rfl⟩
  · obtain ⟨o, ⟨r', h1, rfl⟩, h2⟩ := key
    exact ⟨r', h1, h2⟩
  · rintro i I1 z hi ⟨⟨r1, h1, rfl⟩, rfl⟩
    have w1 := mkA_wf hC ht w0 i (by omega)
    have f1 : r1 116 = nI (nF (nFam N f)) := by rw [h1.2.1, mkA_nF]
    obtain ⟨r2, ⟨b1, b2⟩, b3⟩ := r8_makeAnew hC hh hw (h1.1 i hi) (w1.shf hi) f1 hf (by omega)
    refine Or.inl ⟨_, nI (i + 1), ⟨⟨r2, h1.px hn hi b1 b2, rfl⟩, rfl⟩, fun k => ?_⟩
    unfold X8_useOn_B7
    rw [e9, if_pos (show nI i < nI (cN C) by rw [nlt (by omega) (by omega)]; exact hi), b3, bd1s, lt1s, ninc]
  · rintro I1 z ⟨⟨r1, h1, rfl⟩, rfl⟩
    have w1 := mkA_wf hC ht w0 (cN C) (by omega)
    have key := wl2_inv (F := X8_useOn_B29 m w) (Post := fun o => ∃ r', RnAt r' C (adp C (nFam N f) (cN C)) ∧ o = rowS I w r') (Inv := fun i (I1 : HI) (z : Int32) => (∃ r', RnAt r' C (snA C (mkA C (nFam N f) (cN C)) i) ∧ I1 = rowS I w r') ∧ z = nI i) (m := cN C) ?_ ?_ (cN C) 0 5000 (rowS I w r1) (nI 0) (by omega) (by omega) ⟨⟨_, h1, rfl⟩, rfl⟩
    · obtain ⟨o, h2, h3⟩ := key
      refine ⟨o, h2, fun k => ?_⟩
      unfold X8_useOn_B7
      rw [e9, if_neg (show ¬ nI (cN C) < nI (cN C) by rw [nlt (by omega) (by omega)]; omega)]
      exact h3
    · rintro i I1 z hi ⟨⟨r2, h2, rfl⟩, rfl⟩
      obtain ⟨r3, b1, b2⟩ := r8_sendOn hC hh hw h2 (snA_wf w1 i) hi
      refine Or.inl ⟨_, nI (i + 1), ⟨⟨r3, b1, rfl⟩, rfl⟩, fun k => ?_⟩
      unfold X8_useOn_B29
      rw [e9, if_pos (show nI i < nI (cN C) by rw [nlt (by omega) (by omega)]; exact hi), b2, bd1s, lt1s, ninc]
    · rintro I1 z ⟨⟨r2, h2, rfl⟩, rfl⟩
      rw [adp_two] at h2
      refine ⟨_, ⟨r2, h2, rfl⟩, fun k => ?_⟩
      unfold X8_useOn_B29
      rw [e9, if_neg (show ¬ nI (cN C) < nI (cN C) by rw [nlt (by omega) (by omega)]; omega)]

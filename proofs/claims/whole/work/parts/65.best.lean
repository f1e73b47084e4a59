/-! the best family, on both sides -/
theorem anyB_iff {c : Nat → Bool} : ∀ {n : Nat}, anyB c n = true ↔ ∃ j, j < n ∧ c j = true
  | 0 => by
    constructor
    · intro h; exact absurd h Bool.false_ne_true
    · rintro ⟨j, hj, -⟩; omega
  | n + 1 => by
    rw [anyB, Bool.or_eq_true, anyB_iff]
    constructor
    · rintro (⟨j, hj, h⟩ | h)
      · exact ⟨j, by omega, h⟩
      · exact ⟨n, by omega, h⟩
    · rintro ⟨j, hj, h⟩
      by_cases hjn : j = n
      · subst hjn; exact Or.inr h
      · exact Or.inl ⟨j, by omega, h⟩
/-- the cells of a shelf by a family -/
def msC (C : Cf) (f : Nat) (sh : Nat → Nat) : Nat → Int32
  | 0 => 0
  | j + 1 => msC C f sh j ||| orN (cel C f (sh j)) (cK C)
/-- the cells of a set of pages by a family -/
def mbC (C : Cf) (f : Nat) (s : Int32) : Nat → Int32
  | 0 => 0
  | p + 1 => if bit s p = true then mbC C f s p ||| orN (cel C f p) (cK C) else mbC C f s p
theorem cel32 {C : Cf} (hC : WfC C) (f p i : Nat) : cel C f p i < 32 := by
  have := cel_lt hC f p i
  have := hC.1.2
  omega
theorem msC_bit {C : Cf} (hC : WfC C) {f k : Nat} {sh : Nat → Nat} (hk : k < 32) : ∀ {n : Nat}, bit (msC C f sh n) k = anyB (fun j => anyB (fun i => decide (k = cel C f (sh j) i)) (cK C)) n
  | 0 => by rw [msC, bit_0 hk]; rfl
  | n + 1 => by rw [msC, bit_or hk, msC_bit hC hk, orN_bit hk (fun j _ => cel32 hC _ _ _), anyB]
theorem mbC_bit {C : Cf} (hC : WfC C) {f k : Nat} {s : Int32} (hk : k < 32) : ∀ {n : Nat}, bit (mbC C f s n) k = anyB (fun p => bit s p && anyB (fun i => decide (k = cel C f p i)) (cK C)) n
  | 0 => by rw [mbC, bit_0 hk]; rfl
  | n + 1 => by
    rw [mbC, anyB, ← mbC_bit hC hk]
    cases hb : bit s n with
    | true => rw [if_pos rfl, bit_or hk, orN_bit hk (fun j _ => cel32 hC _ _ _)]; rfl
    | false => rw [if_neg (by decide), Bool.false_and, Bool.or_false]
theorem mb_ms {C : Cf} (hC : WfC C) {f rm : Nat} {P : Prx} (hs : Shf rm (pN P) (pS P)) : mbC C f (sset (pS P) (pN P)) 32 = msC C f (pS P) (pN P) := by
  refine bit_ext fun k hk => ?_
  rw [mbC_bit hC hk, msC_bit hC hk, Bool.eq_iff_iff, anyB_iff, anyB_iff]
  constructor
  · rintro ⟨p, hp, h⟩
    rw [Bool.and_eq_true, shf_bit hs hp] at h
    unfold onS at h
    cases hpl : pl (pS P) p (pN P) with
    | none => rw [hpl] at h; exact absurd h.1 (by decide)
    | some j =>
      obtain ⟨h1, h2, -⟩ := pl_some hpl
      exact ⟨j, h1, by rw [h2]; exact h.2⟩
  · rintro ⟨j, hj, h⟩
    have h32 := hs.2.2.1 j hj
    refine ⟨pS P j, h32, ?_⟩
    rw [Bool.and_eq_true, shf_bit hs h32]
    refine ⟨?_, h⟩
    unfold onS
    cases hpl : pl (pS P) (pS P j) (pN P) with
    | none => exact absurd rfl (pl_none hpl j hj)
    | some _ => rfl
/-- the pages that a filter made anew by a family would contain wrongly -/
def wrg (C : Cf) (P : Prx) (f : Nat) : Nat := cntB (fun p => !onS P p && con (msC C f (pS P) (pN P)) (cel C f p) (cK C)) 32
/-- the best of the first n families, and its number of pages -/
def bst (g : Nat → Nat) : Nat → Nat × Nat
  | 0 => (0, 33)
  | f + 1 => if g f < (bst g f).2 then (f, g f) else bst g f
def aBst (C : Cf) (v k : Int32) (S : St) : Int32 := if isIn v (cN C) = true then (if k = 0 then nI (bst (wrg C (nP S.1 v.toNatClampNeg)) (cF C)).1 else if k = 1 then nI (bst (wrg C (nP S.1 v.toNatClampNeg)) (cF C)).2 else -2) else -1
theorem bst_le (g : Nat → Nat) : ∀ n, (bst g n).2 ≤ 33 ∧ (bst g n).1 ≤ n
  | 0 => ⟨Nat.le_refl _, Nat.le_refl _⟩
  | n + 1 => by
    have h := bst_le g n
    rw [bst]
    by_cases h1 : g n < (bst g n).2
    · rw [if_pos h1]; exact ⟨by show g n ≤ 33; omega, by show n ≤ n + 1; omega⟩
    · rw [if_neg h1]; exact ⟨h.1, by omega⟩
theorem wrg_le (C : Cf) (P : Prx) (f : Nat) : wrg C P f ≤ 32 := cnt_le _ _
theorem x1_wrongPages {I : HI} {n a rm fam f : Nat} {C : Cf} {P : Prx} (hC : WfC C) (hh : HsAt I (n + 1) C fam) (hf : f < cF C) (h : PxAt I a rm P) (hs : Shf rm (pN P) (pS P)) : f_X1_wrongPages I n a (nI f) = some (nI (wrg C P f)) := by
  have h9 : pN P ≤ 9 := Nat.le_trans hs.1 hs.2.1
  unfold f_X1_wrongPages
  refine wl2_to (F := X1_wrongPages_B5 I n a (nI f)) (fun i => msC C f (pS P) i) (fun i => nI i) (m := pN P) (fun i k hi => ?_) (fun k => ?_) (pN P) 0 5000 (by omega) (by omega)
  · unfold X1_wrongPages_B5
    rw [h.2.2.1, if_pos (show nI i < nI (pN P) by rw [nlt (by omega) (by omega)]; exact hi), x4_pageAt h hs hi, bd1s, x0_cellSet hC hh hf (hs.2.2.1 i hi), bd1s, lt1s, lt1s, ninc]
    rfl
  · unfold X1_wrongPages_B5
    rw [h.2.2.1, if_neg (show ¬ nI (pN P) < nI (pN P) by rw [nlt (by omega) (by omega)]; omega), x0_pagesIn hC hh hf, bd1s, x4_shelfSet h hs, bd1s, j6_pop, bd1s]
    unfold pop wrg
    congr 2
    refine cnt_congr fun p hp => ?_
    rw [bit_and hp, bit_not hp, pgs_bit hp, shf_bit hs hp, Bool.and_comm]
theorem x7_bestJ {I : HI} {B t x : Nat} {C : Cf} {S : St} {k : Int32} (hC : WfC C) (h : ClAt I B C S) (hw : WfS C t S) (hx : x < cN C) : X7_best_J27 I B k (B + 20 + 4 + 1 + 3 * x) = some (if k = 0 then nI (bst (wrg C (nP S.1 x)) (cF C)).1 else nI (bst (wrg C (nP S.1 x)) (cF C)).2) := by
  have hF := hC.2.2.1
  have hn := hC.2.2.2.2.1
  have hpx := h.1.2.2.2.2.2.2 x hx
  unfold X7_best_J27
  refine wl3_to (F := X7_best_B37 I B k (B + 20 + 4 + 1 + 3 * x)) (fun i => nI (bst (wrg C (nP S.1 x)) i).1) (fun i => nI (bst (wrg C (nP S.1 x)) i).2) (fun i => nI i) (m := cF C) (fun i kk hi => ?_) (fun kk => ?_) (cF C) 0 5000 (by omega) (by omega)
  · have hb := bst_le (wrg C (nP S.1 x)) i
    have hl := wrg_le C (nP S.1 x) i
    unfold X7_best_B37 X7_best_J79
    rw [h.1.1.2.2.1, if_pos (show nI i < nI (cF C) by rw [nlt (by omega) (by omega)]; exact hi), x1_wrongPages hC h.1.1 hi hpx (hw.1.shf hx), bd1s, bst]
    by_cases hlt : wrg C (nP S.1 x) i < (bst (wrg C (nP S.1 x)) i).2
    · rw [if_pos (show nI (wrg C (nP S.1 x) i) < nI (bst (wrg C (nP S.1 x)) i).2 by rw [nlt (by omega) (by omega)]; exact hlt), if_pos hlt, lt1s, ninc]
    · rw [if_neg (show ¬ nI (wrg C (nP S.1 x) i) < nI (bst (wrg C (nP S.1 x)) i).2 by rw [nlt (by omega) (by omega)]; exact hlt), if_neg hlt, lt1s, ninc]
  · unfold X7_best_B37
    rw [h.1.1.2.2.1, if_neg (show ¬ nI (cF C) < nI (cF C) by rw [nlt (by omega) (by omega)]; omega)]
    by_cases h0 : k = 0
    · rw [if_pos h0, if_pos h0]
    · rw [if_neg h0, if_neg h0]
theorem x7_best {I : HI} {B t : Nat} {C : Cf} {S : St} {v k : Int32} (hC : WfC C) (h : ClAt I B C S) (hw : WfS C t S) : f_X7_best I B v k = some (aBst C v k S) := by
  have hn := hC.2.2.2.2.1
  unfold f_X7_best
  rcases x1_proxyIn hC h.1 v with ⟨x, hx, rfl, e1, e2⟩ | ⟨e1, e2⟩
  · rw [e2, bd1s, mNs]
    unfold aBst
    rw [if_pos e1, ncl (by omega)]
    by_cases h0 : k = 0
    · rw [if_pos h0, if_pos h0, x7_bestJ hC h hw hx, if_pos h0]
    · rw [if_neg h0, if_neg h0]
      by_cases h1 : k = 1
      · rw [if_pos h1, if_pos h1, x7_bestJ hC h hw hx, if_neg h0]
      · rw [if_neg h1, if_neg h1]
  · have ea : aBst C v k S = -1 := if_neg (by rw [e1]; simp)
    rw [e2, bd1s, mNn, ea]
theorem r8_madeBy {I : HI} {m f : Nat} {C : Cf} (hC : WfC C) (hh : CfAt I m C) (hf : f < cF C) (s : Int32) : f_X8_madeBy I m s (nI f) = some (mbC C f s 32) := by
  have hK := hC.2.1
  unfold f_X8_madeBy
  refine wl2_to (F := X8_madeBy_B5 I m s (nI f)) (fun i => mbC C f s i) (fun i => nI i) (m := 32) (fun p k hp => ?_) (fun k => ?_) 32 0 5000 (by omega) (by omega)
  · unfold X8_madeBy_B5
    rw [if_pos (show nI p < (32 : Int32) by rw [i_32, nlt (by omega) (by omega)]; exact hp), mbC]
    cases hb : bit s p with
    | true =>
      have e0 : mbC C f s p = mbC C f s p ||| orN (cel C f p) 0 := (Int32.or_zero).symm
      rw [if_pos rfl]
      conv => lhs; rw [e0]
      refine wl2_to (F := X8_madeBy_B15 I m s (nI f) (nI p) k) (fun i => mbC C f s p ||| orN (cel C f p) i) (fun i => nI i) (m := cK C) (fun i k2 hi => ?_) (fun k2 => ?_) (cK C) 0 5000 (by omega) (by omega)
      · unfold X8_madeBy_B15 X8_madeBy_J49
        rw [hh.2.1, if_pos (show nI i < nI (cK C) by rw [nlt (by omega) (by omega)]; exact hi), r8_has, bd1s, hb, if_neg bZt, r8_hashOf hC hh hf hp (by omega), bd1s, lt1s, lt1s, ninc, Int32.or_assoc]
        rfl
      · unfold X8_madeBy_B15
        rw [hh.2.1, if_neg (show ¬ nI (cK C) < nI (cK C) by rw [nlt (by omega) (by omega)]; omega), lt1s, ninc]
    | false =>
      rw [if_neg (by decide)]
      refine wl2_to (F := X8_madeBy_B15 I m s (nI f) (nI p) k) (fun i => mbC C f s p) (fun i => nI i) (m := cK C) (fun i k2 hi => ?_) (fun k2 => ?_) (cK C) 0 5000 (by omega) (by omega)
      · unfold X8_madeBy_B15 X8_madeBy_J49
        rw [hh.2.1, if_pos (show nI i < nI (cK C) by rw [nlt (by omega) (by omega)]; exact hi), r8_has, bd1s, hb, if_pos bZf, lt1s, lt1s, ninc, Int32.or_zero]
      · unfold X8_madeBy_B15
        rw [hh.2.1, if_neg (show ¬ nI (cK C) < nI (cK C) by rw [nlt (by omega) (by omega)]; omega), lt1s, ninc]
  · unfold X8_madeBy_B5
    rw [if_neg (show ¬ nI 32 < (32 : Int32) by decide)]
theorem r8_in1 (v : Int32) : f_X8_in v.toInt64 0 1 = some (bZ (isIn v 2)) := by
  rw [r8_in]
  have e0 : (0 : Int64).toInt = 0 := by decide
  have e1 : (1 : Int64).toInt = 1 := by decide
  rw [e0, e1]
  unfold isIn
  congr 2
  exact decide_eq_decide.mpr (by omega)
theorem isIn2 {k : Int32} (h : isIn k 2 = true) : k = 0 ∨ k = 1 := by
  obtain ⟨j, hj, rfl⟩ := isIn_of h (by omega)
  rcases (show j = 0 ∨ j = 1 by omega) with rfl | rfl
  · exact Or.inl rfl
  · exact Or.inr rfl
theorem isIn2n {k : Int32} (h : isIn k 2 = false) : k ≠ 0 ∧ k ≠ 1 := by
  constructor
  · rintro rfl; exact absurd h (by decide)
  · rintro rfl; exact absurd h (by decide)
theorem r8_best {I : HI} {m t : Nat} {C : Cf} {S : St} {v k : Int32} (hC : WfC C) (h : RfAt I m C S) (hw : WfS C t S) : f_X8_best I m v k = some (aBst C v k S, sI I m 0 0) := by
  have hn := hC.2.2.2.2.1
  have hF := hC.2.2.1
  unfold f_X8_best
  rw [lt1s, r8_noProxy hC h.z.1.2.2.2.1, bd1s]
  cases e1 : isIn v (cN C) with
  | false =>
    have ea : aBst C v k S = -1 := if_neg (by rw [e1]; simp)
    rw [if_neg (show ¬ bZ (!false) = 0 from bZt), ea]
  | true =>
    obtain ⟨x, hx, rfl⟩ := isIn_of e1 (by omega)
    have hsh := hw.1.shf hx
    unfold aBst
    rw [if_pos (show bZ (!true) = 0 from bZf), if_pos e1, ncl (by omega), r8_in1, bd1s]
    cases e2 : isIn k 2 with
    | false =>
      obtain ⟨n0, n1⟩ := isIn2n e2
      rw [if_pos bZf, if_neg n0, if_neg n1]
    | true =>
      rw [if_neg bZt, r8_shelfS hC h.z hw hx, bd1s]
      refine wl3_to (F := X8_best_B47 (sI I m 0 0) m k (sset (pS (nP S.1 x)) (pN (nP S.1 x)))) (fun i => nI (bst (wrg C (nP S.1 x)) i).1) (fun i => nI (bst (wrg C (nP S.1 x)) i).2) (fun i => nI i) (m := cF C) (fun i kk hi => ?_) (fun kk => ?_) (cF C) 0 5000 (by omega) (by omega)
      · have hb := bst_le (wrg C (nP S.1 x)) i
        have hl := wrg_le C (nP S.1 x) i
        have ew : cntB (fun p => !bit (sset (pS (nP S.1 x)) (pN (nP S.1 x))) p && con (msC C i (pS (nP S.1 x)) (pN (nP S.1 x))) (cel C i p) (cK C)) 32 = wrg C (nP S.1 x) i := cnt_congr fun p hp => by rw [shf_bit hsh hp]
        unfold X8_best_B47 X8_best_J86 X8_best_J102
        rw [h.z.1.2.2.1, if_pos (show nI i < nI (cF C) by rw [nlt (by omega) (by omega)]; exact hi), r8_madeBy hC h.z.1 hi, bd1s, mb_ms hC hsh, r8_falseOnes hC h.z.1 hi, bd1s, ew, bst]
        by_cases hlt : wrg C (nP S.1 x) i < (bst (wrg C (nP S.1 x)) i).2
        · have hlt' : nI (wrg C (nP S.1 x) i) < nI (bst (wrg C (nP S.1 x)) i).2 := by rw [nlt (by omega) (by omega)]; exact hlt
          rw [if_pos hlt', if_pos hlt', if_pos hlt, lt1s, ninc]
        · have hlt' : ¬ nI (wrg C (nP S.1 x) i) < nI (bst (wrg C (nP S.1 x)) i).2 := by rw [nlt (by omega) (by omega)]; exact hlt
          rw [if_neg hlt', if_neg hlt', if_neg hlt, lt1s, ninc]
      · unfold X8_best_B47
        rw [h.z.1.2.2.1, if_neg (show ¬ nI (cF C) < nI (cF C) by rw [nlt (by omega) (by omega)]; omega)]
        by_cases h0 : k = 0
        · rw [if_pos h0, if_pos h0]
        · rw [if_neg h0, if_neg h0, if_pos ((isIn2 e2).resolve_left h0)]

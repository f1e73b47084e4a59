/-! judge, whole -/
/-- the index of the first step that fails, of j steps from i on -/
def jdg (C : Cf) (dg : Nat → Nat) : Nat → Nat → Nt → Int32
  | 0, _, _ => m9
  | j + 1, i, N => if (hold C (dg i) N).1 = true then jdg C dg j (i + 1) (hold C (dg i) N).2 else nI i
def dgj (row n i : Nat) : Nat := row / 100000 ^ (n - 1 - i) % 100000
def isInL (y : Int64) (n : Nat) : Bool := decide (0 ≤ y.toInt ∧ y.toInt < n)
theorem nL_of {y : Int64} (h : ¬ y < 0) : ∃ r, r < 9223372036854775808 ∧ y = nL r := by
  rw [Int64.lt_iff_toInt_lt] at h
  have h0 : (0 : Int64).toInt = 0 := by decide
  have h1 := Int64.toInt_lt y
  refine ⟨y.toInt.toNat, by omega, Int64.toInt_inj.mp ?_⟩
  rw [nL_toInt (by omega)]; omega
theorem isInL_of {y : Int64} {n : Nat} (h : isInL y n = true) : ∃ r, r < n ∧ r < 9223372036854775808 ∧ y = nL r := by
  have h1 := of_decide_eq_true h
  obtain ⟨r, hr, rfl⟩ := nL_of (y := y) (by
    rw [Int64.lt_iff_toInt_lt]
    have h0 : (0 : Int64).toInt = 0 := by decide
    omega)
  rw [nL_toInt hr] at h1
  exact ⟨r, by omega, hr, rfl⟩
theorem isInL_nL {r n : Nat} (hr : r < 9223372036854775808) : isInL (nL r) n = decide (r < n) := by
  unfold isInL
  rw [nL_toInt hr]
  exact decide_eq_decide.mpr (by omega)
theorem isInL_neg {y : Int64} {n : Nat} (h : y < 0) : isInL y n = false := by
  refine decide_eq_false fun h1 => ?_
  rw [Int64.lt_iff_toInt_lt] at h
  have h0 : (0 : Int64).toInt = 0 := by decide
  omega
theorem r8_inL (y : Int64) {n : Nat} (hn : 0 < n) (h : n < 9223372036854775808) : f_X8_in y 0 (nL n - 1) = some (bZ (isInL y n)) := by
  have e1 : nL n - (1 : Int64) = nL (n - 1) := nL_sub hn
  have h0 : (0 : Int64).toInt = 0 := by decide
  rw [e1]
  unfold f_X8_in
  by_cases h1 : y < 0
  · rw [if_pos ((lg_cmp_lt _ _).mpr h1), isInL_neg h1]; rfl
  · rw [if_neg (fun q => h1 ((lg_cmp_lt _ _).mp q))]
    obtain ⟨r, hr, rfl⟩ := nL_of h1
    rw [isInL_nL hr]
    by_cases h2 : r < n
    · rw [if_neg (by rw [lcg hr (by omega)]; omega), decide_eq_true h2]; rfl
    · rw [if_pos (by rw [lcg hr (by omega)]; omega), decide_eq_false h2]; rfl
theorem p5 {n : Nat} (h : n ≤ 3) : 100000 ^ n ≤ 1000000000000000 := by
  have := Nat.pow_le_pow_right (n := 100000) (by omega) h
  omega
theorem p5p (n : Nat) : 0 < 100000 ^ n := Nat.pow_pos (by omega)
theorem p10_5 (n : Nat) : 10 ^ (5 * n) = 100000 ^ n := by rw [Nat.pow_mul]
theorem dg1 {s : Nat} (h : s < 100000) : nI s / (10000 : Int32) = nI (s / 10000) ∧ jrem (nI s / (1000 : Int32)) (10 : Int32) = nI (s / 1000 % 10) ∧ jrem (nI s / (10 : Int32)) (100 : Int32) = nI (s / 10 % 100) ∧ jrem (nI s) (10 : Int32) = nI (s % 10) := by
  refine ⟨?_, ?_, ?_, ?_⟩
  · rw [i_10000, div_n (by omega) (by omega)]
  · rw [i_1000, i_10, div_n (by omega) (by omega), rem_n (by omega) (by omega) (by omega)]
  · rw [i_10, i_100, div_n (by omega) (by omega), rem_n (by omega) (by omega) (by omega)]
  · rw [i_10, rem_n (by omega) (by omega) (by omega)]
theorem x7_judgeL {B n row : Nat} {C : Cf} (hC : WfC C) (h3 : n ≤ 3) (hrow : row < 9223372036854775808) : ∀ (j i M t : Nat) (I : HI) (N : Nt), i + j = n → j < M → NtAt I (B + 37) C N → WfN C t N → t + 27 * j < 1000000 → ∃ I', Off I I' (B + 37) 17 ∧ wl3 (X7_judge_B54 B (nI n) (nL row)) M I (nL (100000 ^ (n - 1) / 100000 ^ i)) (nI i) = some (jdg C (dgj row n) j i N, I')
  | 0, i, M, t, I, N, hi, hM, h, hw, ht => by
    obtain ⟨M, rfl⟩ : ∃ K, M = K + 1 := ⟨M - 1, by omega⟩
    refine ⟨I, Off.rf, ?_⟩
    rw [wl3_0]
    unfold X7_judge_B54
    rw [if_neg (show ¬ nI i < nI n by rw [nlt (by omega) (by omega)]; omega)]
    rfl
  | j + 1, i, M, t, I, N, hi, hM, h, hw, ht => by
    obtain ⟨M, rfl⟩ : ∃ K, M = K + 1 := ⟨M - 1, by omega⟩
    have hp1 := p5 (n := n - 1) (by omega)
    have ed : 100000 ^ (n - 1) / 100000 ^ i = 100000 ^ (n - 1 - i) := Nat.pow_div (by omega) (by omega)
    have hq := p5 (n := n - 1 - i) (by omega)
    have hq0 := p5p (n - 1 - i)
    have hs : dgj row n i < 100000 := Nat.mod_lt _ (by omega)
    have e0 : (jreml (nL row / nL (100000 ^ (n - 1 - i))) (nL 100000)).toInt32 = nI (dgj row n i) := by
      have := Nat.div_le_self row (100000 ^ (n - 1 - i))
      rw [nL_div (by omega) (by omega), nL_rem (by omega) (by omega) (by omega), nL_I]
      rfl
    obtain ⟨e1, e2, e3, e4⟩ := dg1 hs
    obtain ⟨I1, ⟨a1, a2⟩, a3⟩ := x7_holdsA hC (by omega) (by omega) (by omega) (by omega) (by omega) h hw e1 e2 e3 e4
    rw [wl3_0]
    have eu : nL (100000 ^ (n - 1) / 100000 ^ i) / (100000 : Int64) = nL (100000 ^ (n - 1) / 100000 ^ (i + 1)) := by
      rw [l_100000, nL_div (by rw [ed]; omega) (by omega), Nat.div_div_eq_div_mul, ← Nat.pow_succ]
    generalize hK : wl3 (X7_judge_B54 B (nI n) (nL row)) M = K
    unfold X7_judge_B54
    rw [if_pos (show nI i < nI n by rw [nlt (by omega) (by omega)]; omega), eu, ed, l_0, if_pos (by rw [lcg (by omega) (by omega)]; exact hq0), gdt (nL_ne0' (by omega) hq0), l_100000, e0, a3, bd2s, jdg]
    by_cases hh : (holdA C (dgj row n i / 10000) (dgj row n i / 1000 % 10) (dgj row n i / 10 % 100) (dgj row n i % 10) N).1 = true
    · rw [hh, if_neg bZt, if_pos (show (hold C (dgj row n i) N).1 = true from hh), lt1s, lt1s, ninc, ← hK]
      obtain ⟨I2, b1, b2⟩ := x7_judgeL hC h3 hrow j (i + 1) M (t + 27) I1 _ (by omega) (by omega) (a2 hh) (hold_wf hC (by omega) hw) (by omega)
      exact ⟨I2, a1.tr b1, b2⟩
    · rw [eq_false_of_ne_true hh, if_pos bZf, if_neg (show ¬ (hold C (dgj row n i) N).1 = true from hh)]
      exact ⟨I1, a1, rfl⟩
def aJudge (C : Cf) (n : Int32) (y : Int64) (S : St) : Int32 := if is14 n 3 = true then (if isInL y (100000 ^ n.toNatClampNeg) = true then jdg C (dgj y.toInt.toNat n.toNatClampNeg) n.toNatClampNeg 0 S.1 else -2) else -2
theorem x7_judge {I : HI} {B t : Nat} {C : Cf} {S : St} {n : Int32} {y : Int64} (hC : WfC C) (ht : t + 81 < 1000000) (h : ClAt I B C S) (hw : WfS C t S) : ∃ I', Off I I' (B + 37) 17 ∧ f_X7_judge I B n y = some (aJudge C n y S, I') := by
  have e1i : (1 : Int32).toInt = 1 := by decide
  have e4i : (3 : Int32).toInt = 3 := by decide
  unfold f_X7_judge aJudge
  cases hl : is14 n 3 with
  | false =>
    have h1 := of_decide_eq_false hl
    rw [if_neg (show ¬ false = true by decide)]
    by_cases h2 : n < 1
    · rw [if_pos h2]; exact ⟨I, Off.rf, rfl⟩
    · rw [if_neg h2, if_pos (show (3 : Int32) < n by rw [Int32.lt_iff_toInt_lt] at h2 ⊢; omega)]
      exact ⟨I, Off.rf, rfl⟩
  | true =>
    obtain ⟨n, n1, n3, rfl⟩ := is14_of hl (by omega)
    have hp2 := p5 (n := n) (by omega)
    rw [if_pos rfl, ncl (by omega), if_neg (show ¬ nI n < 1 by rw [i_1, nlt (by omega) (by omega)]; omega), if_neg (show ¬ (3 : Int32) < nI n by rw [i_3, nlt (by omega) (by omega)]; omega)]
    by_cases h0 : y < 0
    · rw [if_pos ((lg_cmp_lt _ _).mpr h0), isInL_neg h0, if_neg (by decide)]
      exact ⟨I, Off.rf, rfl⟩
    · rw [if_neg (fun q => h0 ((lg_cmp_lt _ _).mp q))]
      obtain ⟨r, hr, rfl⟩ := nL_of h0
      rw [i_5, nmul, x7_powerOfTen (by omega), bd1s, nsub (by omega), p10_5, isInL_nL hr, nL_toInt hr, Int.toNat_natCast]
      by_cases hlt : r < 100000 ^ n
      · obtain ⟨I1, ⟨a1, a2⟩, a3⟩ := x1_take (I := I) (a := B + 37) (b := B + 20) hC (by omega) h.1 hw.1
        obtain ⟨I2, b1, b2⟩ := x7_judgeL (B := B) (row := r) hC n3 hr n 0 5000 t I1 S.1 (by omega) (by omega) a1 hw.1 (by omega)
        rw [Nat.pow_zero, Nat.div_one] at b2
        rw [if_pos (by rw [lcl (by omega) (by omega)]; exact hlt), a3, bd1s, x7_powerOfTen (by omega), bd1s, show 5 * n - 5 = 5 * (n - 1) by omega, p10_5, decide_eq_true hlt, if_pos rfl]
        exact ⟨I2, a2.tr b1, b2⟩
      · rw [if_neg (by rw [lcl (by omega) (by omega)]; exact hlt), decide_eq_false hlt, if_neg (by decide)]
        exact ⟨I, Off.rf, rfl⟩
theorem r8_judgeL {I : HI} {m n row : Nat} {C : Cf} (hC : WfC C) (hh : CfAt I m C) (h3 : n ≤ 3) (hrow : row < 9223372036854775808) : ∀ (j i M t : Nat) (r : Nat → Int32) (N : Nt), i + j = n → j < M → RnAt r C N → WfN C t N → t + 27 * j < 1000000 → ∃ r', wl2 (X8_judge_B44 m (nI n) (nL row)) M (rowS I (m + 10) r) (nI i) = some (jdg C (dgj row n) j i N, rowS I (m + 10) r')
  | 0, i, M, t, r, N, hi, hM, h, hw, ht => by
    obtain ⟨M, rfl⟩ : ∃ K, M = K + 1 := ⟨M - 1, by omega⟩
    refine ⟨r, ?_⟩
    rw [wl2_0]
    unfold X8_judge_B44
    rw [if_neg (show ¬ nI i < nI n by rw [nlt (by omega) (by omega)]; omega)]
    rfl
  | j + 1, i, M, t, r, N, hi, hM, h, hw, ht => by
    obtain ⟨M, rfl⟩ : ∃ K, M = K + 1 := ⟨M - 1, by omega⟩
    have hq := p5 (n := n - 1 - i) (by omega)
    have hq0 := p5p (n - 1 - i)
    have hs : dgj row n i < 100000 := Nat.mod_lt _ (by omega)
    have e0 : (jreml (nL row / nL (100000 ^ (n - 1 - i))) (nL 100000)).toInt32 = nI (dgj row n i) := by
      have := Nat.div_le_self row (100000 ^ (n - 1 - i))
      rw [nL_div (by omega) (by omega), nL_rem (by omega) (by omega) (by omega), nL_I]
      rfl
    obtain ⟨e1, e2, e3, e4⟩ := dg1 hs
    obtain ⟨r1, a1, a2⟩ := r8_doesA (r := r) hC (by omega) hh (by omega) (by omega) (by omega) (by omega) h hw e1 e2 e3 e4
    rw [wl2_0]
    generalize hK : wl2 (X8_judge_B44 m (nI n) (nL row)) M = K
    unfold X8_judge_B44
    rw [if_pos (show nI i < nI n by rw [nlt (by omega) (by omega)]; omega), i_1, nsub (by omega), nsub (by omega), l_100000, r8_longPower 100000 (by omega), bd1s, gdt (nL_ne0 (by omega) hq0), e0, a2, bd2s, jdg]
    by_cases hb : (holdA C (dgj row n i / 10000) (dgj row n i / 1000 % 10) (dgj row n i / 10 % 100) (dgj row n i % 10) N).1 = true
    · rw [hb, if_neg bZt, if_pos (show (hold C (dgj row n i) N).1 = true from hb), lt1s, nadd, ← hK]
      exact r8_judgeL hC hh h3 hrow j (i + 1) M (t + 27) r1 _ (by omega) (by omega) (a1 hb) (hold_wf hC (by omega) hw) (by omega)
    · rw [eq_false_of_ne_true hb, if_pos bZf, if_neg (show ¬ (hold C (dgj row n i) N).1 = true from hb)]
      exact ⟨r1, rfl⟩
theorem r8_judge {I : HI} {m t : Nat} {C : Cf} {S : St} {n : Int32} {y : Int64} (hC : WfC C) (ht : t + 81 < 1000000) (h : RfAt I m C S) (hw : WfS C t S) : ∃ r, f_X8_judge I m n y = some (aJudge C n y S, rowS (sI I m 0 0) (m + 10) r) := by
  have same : ∀ v : Int32, ∃ r, some (v, sI I m 0 0) = some (v, rowS (sI I m 0 0) (m + 10) r) := fun v => ⟨_, by rw [rowS_id]⟩
  have hz := h.z
  unfold f_X8_judge aJudge
  rw [lt1s, show (3 : Int64) = nL 3 from rfl, r8_inK n (by omega), bd1s]
  cases hl : is14 n 3 with
  | false =>
    rw [if_pos bZf, if_neg (show ¬ false = true by decide)]
    exact same _
  | true =>
    obtain ⟨n, n1, n3, rfl⟩ := is14_of hl (by omega)
    have hp2 := p5 (n := n) (by omega)
    have hp0 := p5p n
    rw [if_neg bZt, if_pos rfl, l_100000, r8_longPower 100000 (by omega), bd1s, r8_inL y hp0 (by omega), bd1s, ncl (by omega)]
    cases hr : isInL y (100000 ^ n) with
    | false =>
      rw [if_pos bZf, if_neg (show ¬ false = true by decide)]
      exact same _
    | true =>
      obtain ⟨row, hrow, hr63, rfl⟩ := isInL_of hr
      obtain ⟨r0, c1, c2⟩ := r8_layTrial hC hz.2.1
      rw [if_neg bZt, if_pos rfl, c2, bd1s, nL_toInt hr63, Int.toNat_natCast]
      exact r8_judgeL hC hz.1 n3 hr63 n 0 5000 t r0 S.1 (by omega) (by omega) c1 hw.1 (by omega)

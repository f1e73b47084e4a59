/-! longs; trials -/
def nL (n : Nat) : Int64 := Int64.ofNat n
theorem nL_toInt {n : Nat} (h : n < 9223372036854775808) : (nL n).toInt = n := Int64.toInt_ofNat_of_lt h
theorem nL_mul (a b : Nat) : nL a * nL b = nL (a * b) := (Int64.ofNat_mul a b).symm
theorem nL_div {a b : Nat} (ha : a < 9223372036854775808) (hb : b < 9223372036854775808) : nL a / nL b = nL (a / b) := (Int64.ofNat_div ha hb).symm
theorem nL_sub {a b : Nat} (h : b ≤ a) : nL a - nL b = nL (a - b) := (Int64.ofNat_sub a b h).symm
theorem nL_rem {a b : Nat} (ha : a < 9223372036854775808) (hb : b < 9223372036854775808) (h0 : 0 < b) : jreml (nL a) (nL b) = nL (a % b) := by
  unfold jreml
  rw [nL_div ha hb, nL_mul, nL_sub (Nat.div_mul_le_self a b)]
  congr 1
  have := Nat.div_add_mod a b
  rw [Nat.mul_comm] at this
  omega
theorem nI_L {a : Nat} (h : a < 2147483648) : (nI a).toInt64 = nL a := by
  refine Int64.toInt_inj.mp ?_
  rw [Int32.toInt_toInt64, nL_toInt (by omega)]
  exact nI_toInt h
theorem nL_I (a : Nat) : (nL a).toInt32 = nI a := Int64.toInt32_ofNat
theorem lcl {a b : Nat} (ha : a < 9223372036854775808) (hb : b < 9223372036854775808) : (lg_cmp (nL a) (nL b) < 0) = (a < b) := propext (by
  rw [lg_cmp_lt, Int64.lt_iff_toInt_lt, nL_toInt ha, nL_toInt hb]; omega)
theorem lcg {a b : Nat} (ha : a < 9223372036854775808) (hb : b < 9223372036854775808) : (0 < lg_cmp (nL a) (nL b)) = (b < a) := propext (by
  rw [lg_cmp_gt, Int64.lt_iff_toInt_lt, nL_toInt ha, nL_toInt hb]; omega)
theorem nL_ne0 {a : Nat} (ha : a < 9223372036854775808) (h0 : 0 < a) : ¬ nL a = 0 := fun e => by
  have h1 := nL_toInt ha
  rw [e] at h1
  have h2 : (0 : Int64).toInt = 0 := by decide
  omega
theorem nL_ne0' {a : Nat} (ha : a < 9223372036854775808) (h0 : 0 < a) : ¬ nL a = nL 0 := nL_ne0 ha h0
theorem l_0 : (0 : Int64) = nL 0 := rfl
theorem l_100 : (100 : Int64) = nL 100 := rfl
theorem l_100000 : (100000 : Int64) = nL 100000 := rfl
theorem x7_powerOfTen {k : Nat} (hk : k ≤ 18) : f_X7_powerOfTen (nI k) = some (nL (10 ^ k)) := by
  unfold f_X7_powerOfTen
  refine wl2_to (F := X7_powerOfTen_B4 (nI k)) (fun i => nL (10 ^ i)) (fun i => nI i) (m := k) (fun i kk hi => ?_) (fun kk => ?_) k 0 5000 (by omega) (by omega)
  · unfold X7_powerOfTen_B4
    rw [if_pos (show nI i < nI k by rw [nlt (by omega) (by omega)]; exact hi), if_pos (show nI i < (18 : Int32) by rw [i_18, nlt (by omega) (by omega)]; omega), lt1s, show (10 : Int64) = nL 10 from rfl, nL_mul, lt1s, ninc, Nat.pow_succ]
  · unfold X7_powerOfTen_B4
    rw [if_neg (show ¬ nI k < nI k by rw [nlt (by omega) (by omega)]; omega)]
theorem r8_power (a : Nat) {k : Nat} (hk : k < 4000) : f_X8_power (nI a) (nI k) = some (nI (a ^ k)) := by
  unfold f_X8_power
  refine wl2_to (F := X8_power_B4 (nI a) (nI k)) (fun i => nI (a ^ i)) (fun i => nI i) (m := k) (fun i kk hi => ?_) (fun kk => ?_) k 0 5000 (by omega) (by omega)
  · unfold X8_power_B4
    rw [if_pos (show nI i < nI k by rw [nlt (by omega) (by omega)]; exact hi), lt1s, nmul, lt1s, ninc, Nat.pow_succ]
  · unfold X8_power_B4
    rw [if_neg (show ¬ nI k < nI k by rw [nlt (by omega) (by omega)]; omega)]
theorem r8_longPower (a : Nat) {k : Nat} (hk : k < 4000) : f_X8_longPower (nL a) (nI k) = some (nL (a ^ k)) := by
  unfold f_X8_longPower
  refine wl2_to (F := X8_longPower_B5 (nL a) (nI k)) (fun i => nL (a ^ i)) (fun i => nI i) (m := k) (fun i kk hi => ?_) (fun kk => ?_) k 0 5000 (by omega) (by omega)
  · unfold X8_longPower_B5
    rw [if_pos (show nI i < nI k by rw [nlt (by omega) (by omega)]; exact hi), lt1s, nL_mul, lt1s, ninc, Nat.pow_succ]
  · unfold X8_longPower_B5
    rw [if_neg (show ¬ nI k < nI k by rw [nlt (by omega) (by omega)]; omega)]
/-- the cost of what has happened -/
def cst (N : Nt) : Int32 := nRq N + nMs N + (5 : Int32) * nFt N
theorem x1_cost {I : HI} {n : Nat} {C : Cf} {N : Nt} (h : NtAt I n C N) : f_X1_cost I n = some (cst N) := by
  unfold f_X1_cost
  rw [h.2.2.1, h.2.2.2.2.2.1, h.2.2.2.2.1]
  rfl
theorem r8_costOf {I : HI} {w : Nat} {C : Cf} {N : Nt} (h : RnAt (I w) C N) : f_X8_costOf I w = some (cst N) := by
  unfold f_X8_costOf
  rw [i_117, i_119, i_120, gv (by omega) (by omega), gv (by omega) (by omega), gv (by omega) (by omega), ncl (by omega), ncl (by omega), ncl (by omega), h.2.2.1, h.2.2.2.2.1, h.2.2.2.2.2]
  rfl
theorem r8_layTrial {I : HI} {m : Nat} {C : Cf} {N : Nt} (hC : WfC C) (h : RnAt (I (m + 9)) C N) : ∃ r, RnAt r C N ∧ f_X8_layTrial I m = some (rowS I (m + 10) r) := by
  have hn := hC.2.2.2.2.1
  refine ⟨fun k => if k < 121 then I (m + 9) k else I (m + 10) k, h.congr hn (fun j hj => if_pos hj), ?_⟩
  unfold f_X8_layTrial
  have key := wl2_inv (F := X8_layTrial_B2 m) (Post := fun o => o = rowS I (m + 10) (fun k => if k < 121 then I (m + 9) k else I (m + 10) k)) (Inv := fun i (I1 : HI) (z : Int32) => I1 = rowS I (m + 10) (fun k => if k < i then I (m + 9) k else I (m + 10) k) ∧ z = nI i) (m := 121) ?_ ?_ 121 0 5000 I (nI 0) (by omega) (by omega) ⟨?_, rfl⟩
  · obtain ⟨o, e, h⟩ := key
    rw [← e]; exact h
  · rintro i I1 z hi ⟨rfl, rfl⟩
    refine Or.inl ⟨_, nI (i + 1), ⟨rfl, rfl⟩, fun k => ?_⟩
    unfold X8_layTrial_B2
    rw [if_pos (show nI i < (121 : Int32) by rw [i_121, nlt (by omega) (by omega)]; exact hi), gv hi (by omega), gv hi (by omega), lt1s, ncl (by omega), rowS_ne (by omega), rowS_s, lt1s, ninc]
    congr 2
    funext q
    unfold uR
    by_cases hq : q = i
    · rw [if_pos hq, if_pos (by omega), hq]
    · rw [if_neg hq]
      dsimp only
      by_cases h2 : q < i
      · rw [if_pos h2, if_pos (by omega)]
      · rw [if_neg h2, if_neg (by omega)]
  · rintro I1 z ⟨rfl, rfl⟩
    refine ⟨_, rfl, fun k => ?_⟩
    unfold X8_layTrial_B2
    rw [if_neg (show ¬ nI 121 < (121 : Int32) by decide)]
  · have e : (fun k => if k < 0 then I (m + 9) k else I (m + 10) k) = I (m + 10) := by
      funext k; rw [if_neg (by omega)]
    rw [e, rowS_id]
theorem ask_wf {C : Cf} {N : Nt} {x p t : Nat} (hC : WfC C) (hp : p < 32) (hx : x < cN C) (ht : t + 6 < 1000000) (hw : WfN C t N) : WfN C (t + 6) (ask C x p N).2 := by
  have hsh := hw.shf hx
  rw [ask_eq]
  cases hpl : pl (pS (nP N x)) p (pN (nP N x)) with
  | some i => exact WfN.sdu (WfN.px (t := t) (t' := t + 6) (P := aRen i (nP N x)) hw (by omega) (shf_fr hsh (pl_some hpl).1) ((hw.2 x hx).2.mono (by omega))) _
  | none =>
    have hno : ∀ k, k < pN (nP (aft C x p N) x) → pS (nP (aft C x p N) x) k ≠ p := by rw [aft_px]; exact pl_none hpl
    exact WfN.sdu (cme_wf hC hp hx ht (aft_wf hw) hno) _
/-- i requests, one after the other -/
def asks (C : Cf) (xf pf : Nat → Nat) (N : Nt) : Nat → Nt
  | 0 => N
  | i + 1 => (ask C (xf i) (pf i) (asks C xf pf N i)).2
theorem asks_wf {C : Cf} {N : Nt} {xf pf : Nat → Nat} {t : Nat} (hC : WfC C) (hw : WfN C t N) : ∀ {i : Nat}, (∀ j, j < i → xf j < cN C ∧ pf j < 32) → t + 6 * i < 1000000 → WfN C (t + 6 * i) (asks C xf pf N i)
  | 0, _, _ => hw
  | i + 1, hf, ht => by
    have h := hf i (by omega)
    exact ask_wf (t := t + 6 * i) hC h.2 h.1 (by omega) (asks_wf hC hw (fun j hj => hf j (by omega)) (by omega))
/-- what an act on a trial leaves alone -/
theorem OffT.ps {I I' : HI} {B : Nat} {C : Cf} {S : St} (hC : WfC C) (h : ClAt I B C S) (ho : Off I I' (B + 37) 17) : ClAt I' B C S := by
  have hn := hC.2.2.2.2.1
  obtain ⟨h1, q, a1, a2, a3, a4, a5⟩ := h
  exact ⟨h1.kept hn fun z h6 h7 => ho z (by omega), q, a1, a2, by rw [ho _ (by omega)]; exact a3, by rw [ho _ (by omega)]; exact a4, fun k hk => (a5 k hk).kept hn fun z h6 h7 => ho z (by omega)⟩
theorem t_pred' {n : Nat} (h : n < 2147483648) : (nI n - 1).toInt64.toInt = (n : Int) - 1 := by
  rw [Int32.toInt_toInt64]
  have e1 : (1 : Int32).toInt = 1 := by decide
  have e2 : (nI n).toInt = n := nI_toInt (by omega)
  rw [Int32.toInt_sub, e1, e2]
  exact Int.bmod_eq_of_le (by omega) (by omega)
theorem r8_inN' (v : Int32) {n : Nat} (h : n < 2147483648) : f_X8_in v.toInt64 0 (nI n - 1).toInt64 = some (bZ (isIn v n)) := by
  rw [r8_in, t_pred' h]
  have e0 : (0 : Int64).toInt = 0 := by decide
  rw [e0]
  unfold isIn
  congr 2
  exact decide_eq_decide.mpr (by omega)

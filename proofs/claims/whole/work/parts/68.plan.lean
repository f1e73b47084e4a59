/-! plan, on both sides -/
def is14 (v : Int32) (k : Nat) : Bool := decide (1 ≤ v.toInt ∧ v.toInt ≤ k)
theorem is14_of {v : Int32} {k : Nat} (h : is14 v k = true) (hk : k < 1000) : ∃ j, 1 ≤ j ∧ j ≤ k ∧ v = nI j := by
  have h1 := of_decide_eq_true h
  have h2 : isIn v (k + 1) = true := decide_eq_true (by omega)
  obtain ⟨j, hj, rfl⟩ := isIn_of h2 (by omega)
  have e2 : (nI j).toInt = j := nI_toInt (by omega)
  exact ⟨j, by omega, by omega, rfl⟩
/-- the digits of the k-th of n pages -/
def dgt (row n k : Nat) : Nat := row / 100 ^ (n - 1 - k) % 100
def aPlan2 (C : Cf) (N : Nt) (x n row : Nat) : Int32 := if ∀ k, k < n → dgt row n k < 32 then cst (asks C (fun _ => x) (dgt row n) N n) - cst N else -1
def aPlan (C : Cf) (v n row : Int32) (S : St) : Int32 := if isIn v (cN C) = true then (if is14 n 4 = true then (if isIn row (100 ^ n.toNatClampNeg) = true then aPlan2 C S.1 v.toNatClampNeg n.toNatClampNeg row.toNatClampNeg else -2) else -2) else -1
theorem p100 {n : Nat} (h : n ≤ 4) : 100 ^ n ≤ 100000000 := by
  have := Nat.pow_le_pow_right (n := 100) (by omega) h
  omega
theorem p100p (n : Nat) : 0 < 100 ^ n := Nat.pow_pos (by omega)
theorem p10_100 (n : Nat) : 10 ^ (2 * n) = 100 ^ n := by rw [Nat.pow_mul]
theorem r8_inK (v : Int32) {k : Nat} (h : k < 1000) : f_X8_in v.toInt64 1 (nL k) = some (bZ (is14 v k)) := by
  rw [r8_in]
  have e0 : (1 : Int64).toInt = 1 := by decide
  rw [e0, nL_toInt (by omega)]
  rfl
theorem x7_planL {I : HI} {B x n row t : Nat} {C : Cf} {N N0 : Nt} (hC : WfC C) (hx : x < cN C) (h1 : 1 ≤ n) (h4 : n ≤ 4) (hrow : row < 100 ^ n) (ht : t + 24 < 1000000) (h0 : NtAt I (B + 20) C N0) (h : NtAt I (B + 37) C N) (hw : WfN C t N) : ∃ I', Off I I' (B + 37) 17 ∧ wl3 (X7_plan_B66 B (nI x) (nI n) (nI row)) 5000 I (nL (100 ^ (n - 1))) (nI 0) = some (if ∀ k, k < n → dgt row n k < 32 then cst (asks C (fun _ => x) (dgt row n) N n) - cst N0 else -1, I') := by
  have hn := hC.2.2.2.2.1
  have hp1 := p100 (n := n - 1) (by omega)
  have hp2 := p100 (n := n) (by omega)
  have key := wl3_inv (F := X7_plan_B66 B (nI x) (nI n) (nI row)) (Post := fun r => ∃ I', Off I I' (B + 37) 17 ∧ r = (if ∀ k, k < n → dgt row n k < 32 then cst (asks C (fun _ => x) (dgt row n) N n) - cst N0 else -1, I')) (Inv := fun i (I1 : HI) (y : Int64) (z : Int32) => (∀ k, k < i → dgt row n k < 32) ∧ NtAt I1 (B + 37) C (asks C (fun _ => x) (dgt row n) N i) ∧ Off I I1 (B + 37) 17 ∧ y = nL (100 ^ (n - 1) / 100 ^ i) ∧ z = nI i) (m := n) ?_ ?_ n 0 5000 I (nL (100 ^ (n - 1))) (nI 0) (by omega) (by omega) ⟨fun k hk => absurd hk (Nat.not_lt_zero _), h, Off.rf, by rw [Nat.pow_zero, Nat.div_one], rfl⟩
  · obtain ⟨r, ⟨I', a, rfl⟩, b⟩ := key
    exact ⟨I', a, b⟩
  · rintro i I1 y z hi ⟨a1, a2, a3, rfl, rfl⟩
    have ed : 100 ^ (n - 1) / 100 ^ i = 100 ^ (n - 1 - i) := Nat.pow_div (by omega) (by omega)
    have hq := p100 (n := n - 1 - i) (by omega)
    have hq0 := p100p (n - 1 - i)
    have hw1 : WfN C (t + 6 * i) (asks C (fun _ => x) (dgt row n) N i) := asks_wf hC hw (fun j hj => ⟨hx, a1 j hj⟩) (by omega)
    have e1 : (nL row / nL (100 ^ (n - 1 - i))) = nL (row / 100 ^ (n - 1 - i)) := nL_div (by omega) (by omega)
    have e2 : jreml (nL (row / 100 ^ (n - 1 - i))) (nL 100) = nL (dgt row n i) := by
      have := Nat.div_le_self row (100 ^ (n - 1 - i))
      exact nL_rem (by omega) (by omega) (by omega)
    by_cases hd : dgt row n i < 32
    · obtain ⟨I2, ⟨b1, b2, -⟩, b3⟩ := x1_request hC hd hx (by omega) a2 hw1
      refine Or.inl ⟨I2, nL (100 ^ (n - 1) / 100 ^ (i + 1)), nI (i + 1), ⟨fun k hk => ?_, b1, a3.tr b2, rfl, rfl⟩, fun k => ?_⟩
      · by_cases hki : k = i
        · subst hki; exact hd
        · exact a1 k (by omega)
      · unfold X7_plan_B66
        rw [if_pos (show nI i < nI n by rw [nlt (by omega) (by omega)]; exact hi), ed, l_0, if_pos (by rw [lcg (by omega) (by omega)]; exact hq0), gdt (nL_ne0' (by omega) hq0), nI_L (by omega), e1, l_100, e2, nL_I, lt1s, x7_isPage, bd1s, isIn_nI hd (by omega), if_neg bZt, b3, bd2s, nL_div (by omega) (by omega), lt1s, lt1s, ninc, ← ed, Nat.div_div_eq_div_mul, ← Nat.pow_succ]
    · refine Or.inr ⟨_, ⟨I1, a3, rfl⟩, fun k => ?_⟩
      have hno : isIn (nI (dgt row n i)) 32 = false := isIn_no (by omega) (Or.inr (by rw [nle (by omega) (by have : dgt row n i < 100 := Nat.mod_lt _ (by omega); omega)]; omega))
      unfold X7_plan_B66
      rw [if_pos (show nI i < nI n by rw [nlt (by omega) (by omega)]; exact hi), ed, l_0, if_pos (by rw [lcg (by omega) (by omega)]; exact hq0), gdt (nL_ne0' (by omega) hq0), nI_L (by omega), e1, l_100, e2, nL_I, lt1s, x7_isPage, bd1s, hno, if_pos bZf, if_neg (fun hall => hd (hall i hi))]
  · rintro I1 y z ⟨a1, a2, a3, rfl, rfl⟩
    refine ⟨_, ⟨I1, a3, rfl⟩, fun k => ?_⟩
    unfold X7_plan_B66 X7_plan_J126
    have h01 : NtAt I1 (B + 20) C N0 := h0.kept hn fun q _ _ => a3 q (by omega)
    rw [if_neg (show ¬ nI n < nI n by rw [nlt (by omega) (by omega)]; omega), x1_cost a2, bd1s, x1_cost h01, bd1s, if_pos a1]
theorem x7_plan {I : HI} {B t : Nat} {C : Cf} {S : St} {v n row : Int32} (hC : WfC C) (ht : t + 24 < 1000000) (h : ClAt I B C S) (hw : WfS C t S) : ∃ I', Off I I' (B + 37) 17 ∧ f_X7_plan I B v n row = some (aPlan C v n row S, I') := by
  have hn := hC.2.2.2.2.1
  have e1i : (1 : Int32).toInt = 1 := by decide
  have e4i : (4 : Int32).toInt = 4 := by decide
  unfold f_X7_plan
  rcases x1_proxyIn hC h.1 v with ⟨x, hx, rfl, e1, e2⟩ | ⟨e1, e2⟩
  · rw [e2, bd1s, mNs]
    unfold aPlan
    rw [if_pos e1]
    cases hl : is14 n 4 with
    | false =>
      have h1 := of_decide_eq_false hl
      rw [if_neg (show ¬ false = true by decide)]
      by_cases h2 : n < 1
      · rw [if_pos h2]; exact ⟨I, Off.rf, rfl⟩
      · rw [if_neg h2, if_pos (show (4 : Int32) < n by rw [Int32.lt_iff_toInt_lt] at h2 ⊢; omega)]
        exact ⟨I, Off.rf, rfl⟩
    | true =>
      obtain ⟨n, n1, n4, rfl⟩ := is14_of hl (by omega)
      have hp2 := p100 (n := n) (by omega)
      rw [if_pos rfl, ncl (by omega), if_neg (show ¬ nI n < 1 by rw [i_1, nlt (by omega) (by omega)]; omega), if_neg (show ¬ (4 : Int32) < nI n by rw [i_4, nlt (by omega) (by omega)]; omega)]
      by_cases h0 : row < 0
      · rw [if_pos h0, if_neg (by rw [isIn_no (by omega) (Or.inl h0)]; decide)]
        exact ⟨I, Off.rf, rfl⟩
      · obtain ⟨r, hr, rfl⟩ := nI_of h0
        rw [if_neg h0, i_2, nmul, x7_powerOfTen (by omega), bd1s, nsub (by omega), nI_L (by omega), p10_100]
        by_cases hlt : r < 100 ^ n
        · obtain ⟨I1, ⟨a1, a2⟩, a3⟩ := x1_take (I := I) (a := B + 37) (b := B + 20) hC (by omega) h.1 hw.1
          have h01 : NtAt I1 (B + 20) C S.1 := h.1.kept hn fun q _ _ => a2 q (by omega)
          obtain ⟨I2, b1, b2⟩ := x7_planL (row := r) hC hx n1 n4 hlt ht h01 a1 hw.1
          rw [if_pos (by rw [lcl (by omega) (by omega)]; exact hlt), a3, bd1s, x7_powerOfTen (by omega), bd1s, show 2 * n - 2 = 2 * (n - 1) by omega, p10_100, if_pos (isIn_nI hlt (by omega)), ncl (by omega), ncl (by omega)]
          exact ⟨I2, a2.tr b1, b2⟩
        · rw [if_neg (by rw [lcl (by omega) (by omega)]; exact hlt), if_neg (by rw [isIn_no (by omega) (Or.inr (nI_le (by omega) hr))]; decide)]
          exact ⟨I, Off.rf, rfl⟩
  · have ea : aPlan C v n row S = -1 := if_neg (by rw [e1]; simp)
    rw [e2, bd1s, mNn, ea]
    exact ⟨I, Off.rf, rfl⟩
theorem r8_plan {I : HI} {m t : Nat} {C : Cf} {S : St} {v n row : Int32} (hC : WfC C) (ht : t + 24 < 1000000) (h : RfAt I m C S) (hw : WfS C t S) : ∃ r, f_X8_plan I m v n row = some (aPlan C v n row S, rowS (sI I m 0 0) (m + 10) r) := by
  have hn := hC.2.2.2.2.1
  have same : ∀ v : Int32, ∃ r, some (v, sI I m 0 0) = some (v, rowS (sI I m 0 0) (m + 10) r) := fun v => ⟨_, by rw [rowS_id]⟩
  have hz := h.z
  unfold f_X8_plan
  rw [lt1s, r8_noProxy hC hz.1.2.2.2.1, bd1s]
  cases e1 : isIn v (cN C) with
  | false =>
    have ea : aPlan C v n row S = -1 := if_neg (by rw [e1]; simp)
    rw [if_neg (show ¬ bZ (!false) = 0 from bZt), ea]
    exact same _
  | true =>
    obtain ⟨x, hx, rfl⟩ := isIn_of e1 (by omega)
    unfold aPlan
    rw [if_pos (show bZ (!true) = 0 from bZf), if_pos e1, show (4 : Int64) = nL 4 from rfl, r8_inK n (by omega), bd1s]
    cases hl : is14 n 4 with
    | false =>
      rw [if_pos bZf, if_neg (show ¬ false = true by decide)]
      exact same _
    | true =>
      obtain ⟨n, n1, n4, rfl⟩ := is14_of hl (by omega)
      have hp2 := p100 (n := n) (by omega)
      rw [if_neg bZt, if_pos rfl, i_100, r8_power 100 (by omega), bd1s, r8_inN' _ (by omega), bd1s, ncl (by omega)]
      cases hr : isIn row (100 ^ n) with
      | false =>
        rw [if_pos bZf, if_neg (show ¬ false = true by decide)]
        exact same _
      | true =>
        obtain ⟨row, hrow, rfl⟩ := isIn_of hr (by omega)
        rw [if_neg bZt, if_pos rfl, ncl (by omega), ncl (by omega)]
        generalize sI I m 0 0 = I0 at hz same
        have hpw : ∀ k, k < n → f_X8_power (nI 100) (nI k) = some (nI (100 ^ k)) := fun k hk => r8_power 100 (by omega)
        have hdg : ∀ k, k < n → jrem (nI row / nI (100 ^ k)) (nI 100) = nI (dgt row n (n - 1 - k)) := by
          intro k hk
          have hq := p100 (n := k) (by omega)
          have := Nat.div_le_self row (100 ^ k)
          rw [div_n (by omega) (by omega), rem_n (by omega) (by omega) (by omega), dgt, show n - 1 - (n - 1 - k) = k by omega]
        have hne : ∀ k, k < n → ¬ nI (100 ^ k) = 0 := fun k hk => by
          have hq := p100 (n := k) (by omega)
          have := p100p k
          rw [n0eq (by omega)]; omega
        have key := wl1_inv (F := X8_plan_B51 I0 m (nI x) (nI n) (nI row)) (Post := fun o => ∃ r, o = (aPlan2 C S.1 x n row, rowS I0 (m + 10) r)) (Inv := fun k (z : Int32) => z = nI k ∧ ∀ j, j < k → dgt row n (n - 1 - j) < 32) (m := n) ?_ ?_ n 0 5000 (nI 0) (by omega) (by omega) ⟨rfl, fun j hj => absurd hj (Nat.not_lt_zero _)⟩
        · obtain ⟨o, ⟨r, rfl⟩, e⟩ := key
          exact ⟨r, e⟩
        · rintro k z hk ⟨rfl, hb⟩
          have hq := p100 (n := k) (by omega)
          have hl1 : dgt row n (n - 1 - k) < 100 := Nat.mod_lt _ (by omega)
          by_cases hd : dgt row n (n - 1 - k) < 32
          · refine Or.inl ⟨nI (k + 1), ⟨rfl, fun j hj => ?_⟩, fun kk => ?_⟩
            · by_cases hjk : j = k
              · subst hjk; exact hd
              · exact hb j (by omega)
            · unfold X8_plan_B51
              rw [if_pos (show nI k < nI n by rw [nlt (by omega) (by omega)]; exact hk), i_100, hpw k hk, bd1s, gdt (hne k hk), hdg k hk, r8_noPage, bd1s, isIn_nI hd (by omega), if_pos (show bZ (!true) = 0 from bZf), lt1s, ninc]
          · refine Or.inr ⟨(-1, I0), ⟨I0 (m + 10), ?_⟩, fun kk => ?_⟩
            · unfold aPlan2
              rw [rowS_id, if_neg (fun hall => hd (hall _ (by omega)))]
            · have hno : isIn (nI (dgt row n (n - 1 - k))) 32 = false := isIn_no (by omega) (Or.inr (by rw [nle (by omega) (by omega)]; omega))
              unfold X8_plan_B51
              rw [if_pos (show nI k < nI n by rw [nlt (by omega) (by omega)]; exact hk), i_100, hpw k hk, bd1s, gdt (hne k hk), hdg k hk, r8_noPage, bd1s, hno, if_neg (show ¬ bZ (!false) = 0 from bZt)]
        · rintro z ⟨rfl, hb⟩
          have hall : ∀ k, k < n → dgt row n k < 32 := fun k hk => by
            have := hb (n - 1 - k) (by omega)
            rwa [show n - 1 - (n - 1 - k) = k by omega] at this
          obtain ⟨r0, c1, c2⟩ := r8_layTrial hC hz.2.1
          have key := wl2_inv (F := X8_plan_B92 m (nI x) (nI row)) (Post := fun o => ∃ r, o = (aPlan2 C S.1 x n row, rowS I0 (m + 10) r)) (Inv := fun i (I1 : HI) (z : Int32) => (∃ r, RnAt r C (asks C (fun _ => x) (dgt row n) S.1 i) ∧ I1 = rowS I0 (m + 10) r) ∧ (i < n → z = nI (n - 1 - i)) ∧ (n ≤ i → z = -1)) (m := n) ?_ ?_ n 0 5000 (rowS I0 (m + 10) r0) (nI (n - 1)) (by omega) (by omega) ⟨⟨r0, c1, rfl⟩, fun _ => rfl, fun h0 => by omega⟩
          · obtain ⟨o, ho, e⟩ := key
            refine ⟨o, ho, fun kk => ?_⟩
            unfold X8_plan_B51
            rw [if_neg (show ¬ nI n < nI n by rw [nlt (by omega) (by omega)]; omega), c2, bd1s, i_1, nsub (by omega), lt1s]
            exact e
          · rintro i I1 z hi ⟨⟨r1, d1, rfl⟩, d2, -⟩
            rw [d2 hi]
            have hw1 : WfN C (t + 6 * i) (asks C (fun _ => x) (dgt row n) S.1 i) := asks_wf hC hw.1 (fun j hj => ⟨hx, hall j (by omega)⟩) (by omega)
            obtain ⟨r2, f1, f2⟩ := r8_askOn (I := I0) (w := m + 10) hC hz.1 (by omega) (by omega) d1 hw1 hx (hall i hi)
            refine Or.inl ⟨rowS I0 (m + 10) r2, nI (n - 1 - i) + (-1 : Int32), ⟨⟨r2, f1, rfl⟩, fun h4 => ?_, fun h4 => ?_⟩, fun kk => ?_⟩
            · show nI (n - 1 - i) + -nI 1 = _
              rw [ndec (by omega)]
              congr 1
            · rw [show n - 1 - i = 0 by omega]; rfl
            · unfold X8_plan_B92
              rw [if_neg (nI_pos (by omega)), i_100, hpw _ (by omega), bd1s, gdt (hne _ (by omega)), hdg _ (by omega), show n - 1 - (n - 1 - i) = i by omega, f2, bd2s, lt1s]
          · rintro I1 z ⟨⟨r1, d1, rfl⟩, -, d3⟩
            rw [d3 (Nat.le_refl _)]
            refine ⟨_, ⟨r1, rfl⟩, fun kk => ?_⟩
            unfold X8_plan_B92 aPlan2
            have g1 : RnAt (rowS I0 (m + 10) r1 (m + 10)) C (asks C (fun _ => x) (dgt row n) S.1 n) := by rw [rowS_at]; exact d1
            have g2 : RnAt (rowS I0 (m + 10) r1 (m + 9)) C S.1 := by rw [rowS_ne (by omega)]; exact hz.2.1
            rw [if_pos (by decide), r8_costOf g1, bd1s, r8_costOf g2, bd1s, if_pos hall]

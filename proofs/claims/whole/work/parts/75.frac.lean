/-! fractions in lowest terms, on both sides -/
theorem half_rem {b r : Nat} (hr : 0 < r) (hb : r < b) : 2 * (b % r) < b := by
  have h1 : b % r < r := Nat.mod_lt _ hr
  have h2 : r * (b / r) + b % r = b := Nat.div_add_mod b r
  have h3 : 1 ≤ b / r := (Nat.le_div_iff_mul_le hr).mpr (by omega)
  have h4 : r * 1 ≤ r * (b / r) := Nat.mul_le_mul_left r h3
  omega
theorem x7_gcd : ∀ (j a b i N : Nat), a < 2147483648 → b < 2 ^ j → j ≤ 31 → i + 2 * j < 100 → 2 * j < N → wl3 X7_commonDivisor_B7 N (nI a) (nI b) (nI i) = some (nI (Nat.gcd a b))
  | 0, a, b, i, N, ha, hb, hj, hi, hN => by
    obtain ⟨N, rfl⟩ : ∃ M, N = M + 1 := ⟨N - 1, by omega⟩
    have hb0 : b = 0 := by rw [Nat.pow_zero] at hb; omega
    subst hb0
    rw [wl3_0]
    unfold X7_commonDivisor_B7
    rw [i_100, if_pos (show nI i < nI 100 by rw [nlt (by omega) (by omega)]; omega), if_pos (show nI 0 = 0 from rfl), Nat.gcd_zero_right]
  | j + 1, a, b, i, N, ha, hb, hj, hi, hN => by
    obtain ⟨N, rfl⟩ : ∃ M, N = M + 2 := ⟨N - 2, by omega⟩
    have h31 : 2 ^ (j + 1) ≤ 2 ^ 31 := Nat.pow_le_pow_right (by omega) hj
    have hb31 : b < 2147483648 := by omega
    show wl3 X7_commonDivisor_B7 (N + 1 + 1) _ _ _ = _
    rw [wl3_0]
    generalize hK : wl3 X7_commonDivisor_B7 (N + 1) = K
    unfold X7_commonDivisor_B7
    rw [i_100, if_pos (show nI i < nI 100 by rw [nlt (by omega) (by omega)]; omega)]
    by_cases hb0 : b = 0
    · subst hb0
      rw [if_pos (show nI 0 = 0 from rfl), Nat.gcd_zero_right]
    · rw [if_neg (show ¬ nI b = 0 by rw [n0eq (by omega)]; exact hb0), gdt (show ¬ nI b = 0 by rw [n0eq (by omega)]; exact hb0), rem_n ha hb31 (by omega), lt1s, ninc, lt1s, ← hK, wl3_0]
      have hlt : a % b < b := Nat.mod_lt _ (by omega)
      have eg : Nat.gcd a b = Nat.gcd b (a % b) := by rw [Nat.gcd_comm a b, Nat.gcd_rec b a, Nat.gcd_comm]
      generalize hK2 : wl3 X7_commonDivisor_B7 N = K2
      unfold X7_commonDivisor_B7
      rw [i_100, if_pos (show nI (i + 1) < nI 100 by rw [nlt (by omega) (by omega)]; omega)]
      by_cases hr0 : a % b = 0
      · rw [hr0, if_pos (show nI 0 = 0 from rfl), eg, hr0, Nat.gcd_zero_right]
      · have hh := half_rem (b := b) (r := a % b) (by omega) hlt
        have hp : 2 ^ (j + 1) = 2 * 2 ^ j := by rw [Nat.pow_succ, Nat.mul_comm]
        rw [if_neg (show ¬ nI (a % b) = 0 by rw [n0eq (by omega)]; exact hr0), gdt (show ¬ nI (a % b) = 0 by rw [n0eq (by omega)]; exact hr0), rem_n hb31 (by omega) (by omega), lt1s, ninc, lt1s, ← hK2, x7_gcd j (a % b) (b % (a % b)) (i + 1 + 1) N (by omega) (by omega) (by omega) (by omega) (by omega), eg]
        congr 2
        rw [Nat.gcd_comm b (a % b), Nat.gcd_rec (a % b) b, Nat.gcd_comm]
theorem r8_gcd : ∀ (j a b N : Nat), a < 2147483648 → b < 2 ^ j → j ≤ 31 → 2 * j < N → wl2 X8_divisor_B13 N (nI a) (nI b) = some (nI (Nat.gcd a b))
  | 0, a, b, N, ha, hb, hj, hN => by
    obtain ⟨N, rfl⟩ : ∃ M, N = M + 1 := ⟨N - 1, by omega⟩
    have hb0 : b = 0 := by rw [Nat.pow_zero] at hb; omega
    subst hb0
    rw [wl2_0]
    unfold X8_divisor_B13
    rw [if_pos (show nI 0 = 0 from rfl), Nat.gcd_zero_right]
  | j + 1, a, b, N, ha, hb, hj, hN => by
    obtain ⟨N, rfl⟩ : ∃ M, N = M + 2 := ⟨N - 2, by omega⟩
    have h31 : 2 ^ (j + 1) ≤ 2 ^ 31 := Nat.pow_le_pow_right (by omega) hj
    have hb31 : b < 2147483648 := by omega
    show wl2 X8_divisor_B13 (N + 1 + 1) _ _ = _
    rw [wl2_0]
    generalize hK : wl2 X8_divisor_B13 (N + 1) = K
    unfold X8_divisor_B13
    by_cases hb0 : b = 0
    · subst hb0
      rw [if_pos (show nI 0 = 0 from rfl), Nat.gcd_zero_right]
    · rw [if_neg (show ¬ nI b = 0 by rw [n0eq (by omega)]; exact hb0), gdt (show ¬ nI b = 0 by rw [n0eq (by omega)]; exact hb0), rem_n ha hb31 (by omega), lt1s, ← hK, wl2_0]
      have hlt : a % b < b := Nat.mod_lt _ (by omega)
      have eg : Nat.gcd a b = Nat.gcd b (a % b) := by rw [Nat.gcd_comm a b, Nat.gcd_rec b a, Nat.gcd_comm]
      generalize hK2 : wl2 X8_divisor_B13 N = K2
      unfold X8_divisor_B13
      by_cases hr0 : a % b = 0
      · rw [hr0, if_pos (show nI 0 = 0 from rfl), eg, hr0, Nat.gcd_zero_right]
      · have hh := half_rem (b := b) (r := a % b) (by omega) hlt
        have hp : 2 ^ (j + 1) = 2 * 2 ^ j := by rw [Nat.pow_succ, Nat.mul_comm]
        rw [if_neg (show ¬ nI (a % b) = 0 by rw [n0eq (by omega)]; exact hr0), gdt (show ¬ nI (a % b) = 0 by rw [n0eq (by omega)]; exact hr0), rem_n hb31 (by omega) (by omega), lt1s, ← hK2, r8_gcd j (a % b) (b % (a % b)) N (by omega) (by omega) (by omega) (by omega), eg]
        congr 2
        rw [Nat.gcd_comm b (a % b), Nat.gcd_rec (a % b) b, Nat.gcd_comm]
def frc (a b : Nat) (u : Int32) : Int32 := if u = 0 then nI (b / Nat.gcd a b) else nI (a / Nat.gcd a b)
theorem x7_ofFraction {a b : Nat} (ha : a < 2147483648) (hb : b < 2147483648) (h0 : 0 < b) (u : Int32) : f_X7_ofFraction (nI a) (nI b) u = some (frc a b u) := by
  have hg : 0 < Nat.gcd a b := Nat.gcd_pos_of_pos_right _ h0
  have hgl : Nat.gcd a b ≤ b := Nat.le_of_dvd h0 (Nat.gcd_dvd_right a b)
  have e : f_X7_commonDivisor (nI a) (nI b) = some (nI (Nat.gcd a b)) := x7_gcd 31 a b 0 5000 ha (by omega) (by omega) (by omega) (by omega)
  have hne : ¬ nI (Nat.gcd a b) = 0 := by rw [n0eq (by omega)]; omega
  unfold f_X7_ofFraction frc X7_ofFraction_J21
  rw [e, bd1s, if_neg hne, gdt hne, gdt hne, div_n hb (by omega), div_n ha (by omega)]
  by_cases hu : u = 0
  · rw [if_pos hu, if_pos hu]
  · rw [if_neg hu, if_neg hu]
theorem r8_fraction {a b : Nat} (ha : a < 2147483648) (hb : b < 2147483648) (h0 : 0 < b) (u : Int32) : f_X8_fraction (nI a) (nI b) u = some (frc a b u) := by
  have hg : 0 < Nat.gcd a b := Nat.gcd_pos_of_pos_right _ h0
  have hgl : Nat.gcd a b ≤ b := Nat.le_of_dvd h0 (Nat.gcd_dvd_right a b)
  have e : f_X8_divisor (nI a) (nI b) = some (nI (Nat.gcd a b)) := by
    unfold f_X8_divisor X8_divisor_J10
    rw [if_neg (nI_pos ha)]
    exact r8_gcd 31 a b 5000 ha (by omega) (by omega) (by omega)
  have hne : ¬ nI (Nat.gcd a b) = 0 := by rw [n0eq (by omega)]; omega
  unfold f_X8_fraction frc
  rw [e, bd1s, gdt hne, gdt hne, div_n hb (by omega), div_n ha (by omega)]
  by_cases hu : u = 0
  · rw [if_pos hu, if_pos hu]
  · rw [if_neg hu, if_neg hu]
/-- equal fractions have the same lowest terms -/
theorem frc_eq {a b c d : Nat} (hb : 0 < b) (hd : 0 < d) (h : a * d = c * b) (u : Int32) : frc a b u = frc c d u := by
  have hg : 0 < Nat.gcd a b := Nat.gcd_pos_of_pos_right _ hb
  have hg2 : 0 < Nat.gcd c d := Nat.gcd_pos_of_pos_right _ hd
  -- b * gcd c d = d * gcd a b, for both are gcd (b c) (b d) = gcd (a d) (b d)
  have k1 : b * Nat.gcd c d = d * Nat.gcd a b := by
    rw [← Nat.gcd_mul_left, ← Nat.gcd_mul_left, Nat.mul_comm b c, ← h, Nat.mul_comm a d, Nat.mul_comm b d]
  have k2 : a * Nat.gcd c d = c * Nat.gcd a b := by
    rw [← Nat.gcd_mul_left, ← Nat.gcd_mul_left, h, Nat.mul_comm a c]
  have e1 : b / Nat.gcd a b = d / Nat.gcd c d := by
    rw [Nat.div_eq_iff_eq_mul_left hg (Nat.gcd_dvd_right a b)]
    have : d / Nat.gcd c d * Nat.gcd a b = d * Nat.gcd a b / Nat.gcd c d := by
      rw [Nat.mul_comm, Nat.mul_comm d, ← Nat.mul_div_assoc _ (Nat.gcd_dvd_right c d)]
    rw [this, ← k1, Nat.mul_div_cancel _ hg2]
  have e2 : a / Nat.gcd a b = c / Nat.gcd c d := by
    rw [Nat.div_eq_iff_eq_mul_left hg (Nat.gcd_dvd_left a b)]
    have : c / Nat.gcd c d * Nat.gcd a b = c * Nat.gcd a b / Nat.gcd c d := by
      rw [Nat.mul_comm, Nat.mul_comm c, ← Nat.mul_div_assoc _ (Nat.gcd_dvd_left c d)]
    rw [this, ← k2, Nat.mul_div_cancel _ hg2]
  unfold frc
  rw [e1, e2]

/-! orders: permutations of at most 5 places, by number -/
def selG (l : Nat) : Nat → Nat → Nat → Nat
  | 0, j, _ => j
  | f + 1, j, s => if l.testBit j = true then (if s = 0 then j else selG l f (j + 1) (s - 1)) else selG l f (j + 1) s
/-- what is left, the rest of the number, the ways: before place k -/
def pst (n i : Nat) : Nat → Nat × Nat × Nat
  | 0 => (2 ^ n - 1, i, fct n)
  | k + 1 => ((pst n i k).1 ^^^ 2 ^ selG (pst n i k).1 5 0 ((pst n i k).2.1 / ((pst n i k).2.2 / (n - k))), (pst n i k).2.1 % ((pst n i k).2.2 / (n - k)), (pst n i k).2.2 / (n - k))
def pi (n i k : Nat) : Nat := selG (pst n i k).1 5 0 ((pst n i k).2.1 / ((pst n i k).2.2 / (n - k)))
def tnF (π : Nat → Nat) : Nat → Nat
  | 0 => 0
  | k + 1 => if π (k + 1) < π k then tnF π k else k + 1
def otF (π : Nat → Nat) (t : Nat) : Nat → Nat
  | 0 => 0
  | k + 1 => if t < k + 1 ∧ π (k + 1) < π t then otF π t k else k + 1
def sw (π : Nat → Nat) (a b : Nat) : Nat → Nat := fun k => if k = b then π a else if k = a then π b else π k
def rvF : Nat → (Nat → Nat) → Nat → Nat → (Nat → Nat)
  | 0, π, _, _ => π
  | f + 1, π, lo, hi => if lo < hi then rvF f (sw π lo hi) (lo + 1) (hi - 1) else π
/-- the next order; the turn is one less than tnF -/
def adv (n : Nat) (π : Nat → Nat) : Nat → Nat := rvF 5 (sw π (tnF π (n - 1) - 1) (otF π (tnF π (n - 1) - 1) (n - 1))) (tnF π (n - 1)) (n - 1)
def pok1 (n i k : Nat) : Bool := decide (0 < (pst n i k).2.2 / (n - k) ∧ (pst n i k).2.2 ≤ 120 ∧ (pst n i k).2.1 < 120 ∧ pi n i k < n ∧ (pst n i k).1.testBit (pi n i k) = true ∧ cntB (pst n i k).1.testBit (pi n i k) = (pst n i k).2.1 / ((pst n i k).2.2 / (n - k)))
theorem pok1_all : ∀ n, n < 6 → ∀ i, i < fct n → ∀ k, k < n → pok1 n i k = true := by decide +kernel
theorem pi_inj_all : ∀ n, n < 6 → ∀ k, k < n → pi n 0 k = k := by decide +kernel
theorem adv_all : ∀ n, n < 6 → 1 ≤ n → ∀ i, i < fct n - 1 → (tnF (pi n i) (n - 1) ≠ 0 ∧ ∀ k, k < n → adv n (pi n i) k = pi n (i + 1) k) := by decide +kernel
theorem adv_last : ∀ n, n < 6 → 1 ≤ n → tnF (pi n (fct n - 1)) (n - 1) = 0 := by decide +kernel
theorem pokE {n i k : Nat} (hn : n < 6) (hi : i < fct n) (hk : k < n) : 0 < (pst n i k).2.2 / (n - k) ∧ (pst n i k).2.2 ≤ 120 ∧ (pst n i k).2.1 < 120 ∧ pi n i k < n ∧ (pst n i k).1.testBit (pi n i k) = true ∧ cntB (pst n i k).1.testBit (pi n i k) = (pst n i k).2.1 / ((pst n i k).2.2 / (n - k)) := of_decide_eq_true (pok1_all n hn i hi k hk)
theorem fct5 : ∀ n, n < 6 → fct n ≤ 120 ∧ 0 < fct n := by decide
/-- the k-th page of a set -/
def qS (s : Int32) (k : Nat) : Nat → Nat
  | 0 => 0
  | j + 1 => if bit s j = true ∧ cntB (bit s) j = k then j else qS s k j
theorem cnt_mono {f : Nat → Bool} {a : Nat} : ∀ {b : Nat}, a ≤ b → cntB f a ≤ cntB f b
  | 0, h => by rw [show a = 0 by omega]; exact Nat.le_refl _
  | b + 1, h => by
    by_cases hab : a = b + 1
    · rw [hab]; exact Nat.le_refl _
    · have := cnt_mono (f := f) (a := a) (b := b) (by omega)
      rw [cntB]; omega
theorem cnt_succ {f : Nat → Bool} {a : Nat} (h : f a = true) : cntB f (a + 1) = cntB f a + 1 := by
  rw [cntB, if_pos h]
theorem qS_eq {s : Int32} {p : Nat} (hb : bit s p = true) : ∀ {j : Nat}, p < j → qS s (cntB (bit s) p) j = p
  | j + 1, h => by
    rw [qS]
    by_cases hj : j = p
    · subst hj; rw [if_pos ⟨hb, rfl⟩]
    · rw [if_neg (fun q => by
        have h1 := cnt_succ (f := bit s) hb
        have h2 := cnt_mono (f := bit s) (a := p + 1) (b := j) (by omega)
        omega)]
      exact qS_eq hb (by omega)
theorem qS_ex {f : Nat → Bool} {k : Nat} : ∀ {j : Nat}, k < cntB f j → ∃ p, p < j ∧ f p = true ∧ cntB f p = k
  | 0, h => absurd h (Nat.not_lt_zero _)
  | j + 1, h => by
    by_cases hk : k < cntB f j
    · obtain ⟨p, h1, h2, h3⟩ := qS_ex (f := f) (k := k) hk
      exact ⟨p, by omega, h2, h3⟩
    · rw [cntB] at h
      by_cases hj : f j = true
      · rw [if_pos hj] at h; exact ⟨j, by omega, hj, by omega⟩
      · rw [if_neg hj] at h; omega
/-- the pages of a set in ascending order -/
def qq (s : Int32) (k : Nat) : Nat := qS s k 32
theorem qq_spec {s : Int32} {k : Nat} (hk : k < pop s) : qq s k < 32 ∧ bit s (qq s k) = true ∧ cntB (bit s) (qq s k) = k := by
  obtain ⟨p, h1, h2, h3⟩ := qS_ex (f := bit s) hk
  have e : qq s k = p := by
    unfold qq
    rw [← h3]; exact qS_eq h2 h1
  rw [e]; exact ⟨h1, h2, h3⟩
theorem qq_of {s : Int32} {p : Nat} (hp : p < 32) (hb : bit s p = true) : qq s (cntB (bit s) p) = p := qS_eq hb hp
theorem qq_lt {s : Int32} {j k : Nat} (hj : j < pop s) (hk : k < pop s) : (qq s j < qq s k) = (j < k) := propext (by
  obtain ⟨a1, a2, a3⟩ := qq_spec hj
  obtain ⟨b1, b2, b3⟩ := qq_spec hk
  constructor
  · intro h
    have h1 := cnt_succ (f := bit s) a2
    have h2 := cnt_mono (f := bit s) (a := qq s j + 1) (b := qq s k) (by omega)
    omega
  · intro h
    rcases Nat.lt_or_ge (qq s j) (qq s k) with h3 | h3
    · exact h3
    · have h2 := cnt_mono (f := bit s) (a := qq s k) (b := qq s j) h3
      omega)

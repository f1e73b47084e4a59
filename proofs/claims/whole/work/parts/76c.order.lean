/-! the class's orders -/
def TrAt (I : HI) (a n : Nat) (s : Int32) (π : Nat → Nat) : Prop := I a 0 = nI n ∧ ∀ k, k < n → I (a + 1) k = nI (qq s (π k))
theorem TrAt.kept {I I' : HI} {a n : Nat} {s : Int32} {π : Nat → Nat} (h : TrAt I a n s π) (h0 : I' a = I a) (h1 : I' (a + 1) = I (a + 1)) : TrAt I' a n s π := ⟨by rw [h0]; exact h.1, fun k hk => by rw [h1]; exact h.2 k hk⟩
theorem TrAt.congr {I : HI} {a n : Nat} {s : Int32} {π ρ : Nat → Nat} (h : TrAt I a n s π) (e : ∀ k, k < n → π k = ρ k) : TrAt I a n s ρ := ⟨h.1, fun k hk => by rw [← e k hk]; exact h.2 k hk⟩
theorem x2_pageAt {I : HI} {a n k : Nat} (h0 : I a 0 = nI n) (hn : n ≤ 5) (hk : k < n) : f_X2_pageAt I a (nI k) = some (I (a + 1) k) := by
  unfold f_X2_pageAt
  rw [if_neg (nI_pos (by omega)), h0, if_pos (show nI k < nI n by rw [nlt (by omega) (by omega)]; exact hk), if_pos (show nI k < (5 : Int32) by rw [i_5, nlt (by omega) (by omega)]; omega), gv (by omega) (by omega), ncl (by omega)]
theorem x2_pageNo {I : HI} {a n k : Nat} (h0 : I a 0 = nI n) (hn : n ≤ 5) (hk : ¬ k < n) (hk2 : k < 2147483648) : f_X2_pageAt I a (nI k) = some (-9) := by
  unfold f_X2_pageAt
  rw [if_neg (nI_pos hk2), h0, if_neg (show ¬ nI k < nI n by rw [nlt (by omega) (by omega)]; exact hk)]
theorem x2_swap {I : HI} {a n i j : Nat} {s : Int32} {π : Nat → Nat} (h : TrAt I a n s π) (hn : n ≤ 5) (hi : i < n) (hj : j < n) : ∃ I', (TrAt I' a n s (sw π i j) ∧ Off I I' a 2) ∧ f_X2_swap I a (nI i) (nI j) = some I' := by
  unfold f_X2_swap
  rw [if_neg (nI_pos (by omega)), if_pos (show nI i < (5 : Int32) by rw [i_5, nlt (by omega) (by omega)]; omega), if_neg (nI_pos (by omega)), if_pos (show nI j < (5 : Int32) by rw [i_5, nlt (by omega) (by omega)]; omega), gv (by omega) (by omega), lt1s, gv (by omega) (by omega), gv (by omega) (by omega), lt1s, gv (by omega) (by omega), lt1s, ncl (by omega), ncl (by omega)]
  refine ⟨_, ⟨⟨?_, fun k hk => ?_⟩, (Off.s (by omega)).tr (Off.s (by omega))⟩, rfl⟩
  · rw [sI_ne (by omega), sI_ne (by omega)]; exact h.1
  · rw [sI_eq]
    unfold uR sw
    by_cases hkj : k = j
    · rw [if_pos hkj, if_pos hkj]; exact h.2 i hi
    · rw [if_neg hkj, if_neg hkj, sI_eq]
      unfold uR
      by_cases hki : k = i
      · rw [if_pos hki, if_pos hki]; exact h.2 j hj
      · rw [if_neg hki, if_neg hki]; exact h.2 k hk
def tI : Nat → Int32
  | 0 => -1
  | k + 1 => nI k
theorem tI_dec (k : Nat) : nI k + (-1 : Int32) = tI k := by
  cases k with
  | zero => rfl
  | succ k =>
    show nI (k + 1) + -nI 1 = nI k
    rw [ndec (by omega)]; rfl
theorem qlt {s : Int32} {j k : Nat} (hj : j < pop s) (hk : k < pop s) : (nI (qq s j) < nI (qq s k)) = (j < k) := by
  have h1 := (qq_spec hj).1
  have h2 := (qq_spec hk).1
  rw [nlt (by omega) (by omega), qq_lt hj hk]
theorem x2_turn {I : HI} {a : Nat} {s : Int32} {π : Nat → Nat} (h : TrAt I a (pop s) s π) (hn : pop s ≤ 5) (hπ : ∀ k, k < pop s → π k < pop s) : ∀ (k N : Nat), k < pop s → k < N → wl1 (X2_advance_B7 I a) N (tI k) = X2_advance_J32 I a (tI (tnF π k))
  | 0, N, hk, hN => by
    obtain ⟨N, rfl⟩ : ∃ M, N = M + 1 := ⟨N - 1, by omega⟩
    rw [wl1_0]
    unfold X2_advance_B7
    rw [if_pos (show tI 0 < 0 by decide)]
    rfl
  | k + 1, N, hk, hN => by
    obtain ⟨N, rfl⟩ : ∃ M, N = M + 1 := ⟨N - 1, by omega⟩
    have ih := x2_turn h hn hπ k N (by omega) (by omega)
    rw [wl1_0]
    generalize wl1 (X2_advance_B7 I a) N = K at ih ⊢
    show X2_advance_B7 I a K (nI k) = _
    unfold X2_advance_B7
    rw [if_neg (nI_pos (by omega)), x2_pageAt h.1 hn (by omega), bd1s, ninc, x2_pageAt h.1 hn hk, bd1s, h.2 k (by omega), h.2 (k + 1) hk, tnF]
    by_cases hlt : π (k + 1) < π k
    · rw [if_pos (show nI (qq s (π (k + 1))) < nI (qq s (π k)) by rw [qlt (hπ _ hk) (hπ _ (by omega))]; exact hlt), if_pos hlt, tI_dec, lt1s, ih]
    · rw [if_neg (show ¬ nI (qq s (π (k + 1))) < nI (qq s (π k)) by rw [qlt (hπ _ hk) (hπ _ (by omega))]; exact hlt), if_neg hlt]
      rfl
theorem x2_other {I : HI} {a t : Nat} {s : Int32} {π : Nat → Nat} (h : TrAt I a (pop s) s π) (hn : pop s ≤ 5) (hπ : ∀ k, k < pop s → π k < pop s) (ht : t < pop s) : ∀ (k N : Nat), k < pop s → k < N → wl1 (X2_advance_B45 I a (nI t)) N (nI k) = X2_advance_J69 I a (nI t) (nI (otF π t k))
  | 0, N, hk, hN => by
    obtain ⟨N, rfl⟩ : ∃ M, N = M + 1 := ⟨N - 1, by omega⟩
    rw [wl1_0]
    unfold X2_advance_B45
    rw [if_neg (show ¬ nI t < nI 0 by rw [nlt (by omega) (by omega)]; omega)]
    rfl
  | k + 1, N, hk, hN => by
    obtain ⟨N, rfl⟩ : ∃ M, N = M + 1 := ⟨N - 1, by omega⟩
    have ih := x2_other h hn hπ ht k N (by omega) (by omega)
    rw [wl1_0]
    generalize wl1 (X2_advance_B45 I a (nI t)) N = K at ih ⊢
    unfold X2_advance_B45
    rw [otF]
    by_cases h1 : t < k + 1
    · rw [if_pos (show nI t < nI (k + 1) by rw [nlt (by omega) (by omega)]; exact h1), x2_pageAt h.1 hn hk, bd1s, x2_pageAt h.1 hn ht, bd1s, h.2 (k + 1) hk, h.2 t ht]
      by_cases hlt : π (k + 1) < π t
      · rw [if_pos (show nI (qq s (π (k + 1))) < nI (qq s (π t)) by rw [qlt (hπ _ hk) (hπ _ (by omega))]; exact hlt), if_pos ⟨h1, hlt⟩, tI_dec, lt1s]
        exact ih
      · rw [if_neg (show ¬ nI (qq s (π (k + 1))) < nI (qq s (π t)) by rw [qlt (hπ _ hk) (hπ _ (by omega))]; exact hlt), if_neg (fun q => hlt q.2)]
    · rw [if_neg (show ¬ nI t < nI (k + 1) by rw [nlt (by omega) (by omega)]; exact h1), if_neg (fun q => h1 q.1)]
theorem x2_rev {a n : Nat} {s : Int32} (hn : n ≤ 5) : ∀ (f lo hi N : Nat) (I : HI) (π : Nat → Nat), TrAt I a n s π → lo < n + 1 → hi < n → hi ≤ lo + 2 * f → f < N → ∃ I', (TrAt I' a n s (rvF f π lo hi) ∧ Off I I' a 2) ∧ wl3 (X2_advance_B87 a) N I (nI hi) (nI lo) = some (1, I')
  | 0, lo, hi, N, I, π, h, hlo, hhi, hf, hN => by
    obtain ⟨N, rfl⟩ : ∃ M, N = M + 1 := ⟨N - 1, by omega⟩
    refine ⟨I, ⟨h, Off.rf⟩, ?_⟩
    rw [wl3_0]
    unfold X2_advance_B87
    rw [if_neg (show ¬ nI lo < nI hi by rw [nlt (by omega) (by omega)]; omega)]
  | f + 1, lo, hi, N, I, π, h, hlo, hhi, hf, hN => by
    obtain ⟨N, rfl⟩ : ∃ M, N = M + 1 := ⟨N - 1, by omega⟩
    rw [wl3_0, rvF]
    by_cases hl : lo < hi
    · obtain ⟨I1, ⟨a1, a2⟩, a3⟩ := x2_swap h hn (show lo < n by omega) hhi
      obtain ⟨I2, ⟨b1, b2⟩, b3⟩ := x2_rev hn f (lo + 1) (hi - 1) N I1 (sw π lo hi) a1 (by omega) (by omega) (by omega) (by omega)
      generalize wl3 (X2_advance_B87 a) N = K at b3 ⊢
      unfold X2_advance_B87
      have e1 : nI hi + (-1 : Int32) = nI (hi - 1) := by
        show nI hi + -nI 1 = _
        exact ndec (by omega)
      rw [if_pos (show nI lo < nI hi by rw [nlt (by omega) (by omega)]; exact hl), a3, bd1s, e1, lt1s, ninc, lt1s, if_pos hl]
      exact ⟨I2, ⟨b1, a2.tr b2⟩, b3⟩
    · refine ⟨I, ⟨by rw [if_neg hl]; exact h, Off.rf⟩, ?_⟩
      unfold X2_advance_B87
      rw [if_neg (show ¬ nI lo < nI hi by rw [nlt (by omega) (by omega)]; exact hl)]
theorem tnF_le (π : Nat → Nat) : ∀ k, tnF π k ≤ k
  | 0 => Nat.le_refl _
  | k + 1 => by
    have := tnF_le π k
    rw [tnF]
    by_cases h : π (k + 1) < π k
    · rw [if_pos h]; omega
    · rw [if_neg h]; exact Nat.le_refl _
theorem otF_le (π : Nat → Nat) (t : Nat) : ∀ k, otF π t k ≤ k
  | 0 => Nat.le_refl _
  | k + 1 => by
    have := otF_le π t k
    rw [otF]
    by_cases h : t < k + 1 ∧ π (k + 1) < π t
    · rw [if_pos h]; omega
    · rw [if_neg h]; exact Nat.le_refl _
theorem x2_adv0 {I : HI} {a : Nat} {s : Int32} {π : Nat → Nat} (h : TrAt I a (pop s) s π) (h1 : 1 ≤ pop s) (hn : pop s ≤ 5) (hπ : ∀ k, k < pop s → π k < pop s) : f_X2_advance I a = X2_advance_J32 I a (tI (tnF π (pop s - 1))) := by
  have e0 : nI (pop s) - (2 : Int32) = tI (pop s - 1) := by
    rcases (show pop s = 1 ∨ 2 ≤ pop s by omega) with e | e
    · rw [e]; rfl
    · obtain ⟨k, hk⟩ : ∃ k, pop s = k + 2 := ⟨pop s - 2, by omega⟩
      rw [hk]
      show nI (k + 2) - nI 2 = nI k
      rw [nsub (by omega)]; rfl
  unfold f_X2_advance
  rw [h.1, e0, lt1s]
  exact x2_turn h hn hπ (pop s - 1) 5000 (by omega) (by omega)
theorem x2_advance {I : HI} {a : Nat} {s : Int32} {π : Nat → Nat} (h : TrAt I a (pop s) s π) (h1 : 1 ≤ pop s) (hn : pop s ≤ 5) (hπ : ∀ k, k < pop s → π k < pop s) (ht : tnF π (pop s - 1) ≠ 0) : ∃ I', (TrAt I' a (pop s) s (adv (pop s) π) ∧ Off I I' a 2) ∧ f_X2_advance I a = some (1, I') := by
  rw [x2_adv0 h h1 hn hπ]
  have hl := tnF_le π (pop s - 1)
  unfold adv
  generalize tnF π (pop s - 1) = T at ht hl
  obtain ⟨t, rfl⟩ : ∃ t, T = t + 1 := ⟨T - 1, by omega⟩
  have ho := otF_le π t (pop s - 1)
  show ∃ I', (TrAt I' a (pop s) s (rvF 5 (sw π t (otF π t (pop s - 1))) (t + 1) (pop s - 1)) ∧ Off I I' a 2) ∧ X2_advance_J32 I a (nI t) = some (1, I')
  obtain ⟨I1, ⟨a1, a2⟩, a3⟩ := x2_swap (j := otF π t (pop s - 1)) h hn (show t < pop s by omega) (show otF π t (pop s - 1) < pop s by omega)
  obtain ⟨I2, ⟨b1, b2⟩, b3⟩ := x2_rev hn 5 (t + 1) (pop s - 1) 5000 I1 _ a1 (by omega) (by omega) (by omega) (by omega)
  refine ⟨I2, ⟨b1, a2.tr b2⟩, ?_⟩
  unfold X2_advance_J32
  rw [if_neg (nI_pos (by omega)), h.1, i_1, nsub h1, lt1s, x2_other h hn hπ (by omega) (pop s - 1) 5000 (by omega) (by omega)]
  unfold X2_advance_J69
  rw [a3, bd1s, a1.1, i_1, nsub h1, lt1s, nadd, lt1s]
  exact b3
theorem x2_advanceNo {I : HI} {a : Nat} {s : Int32} {π : Nat → Nat} (h : TrAt I a (pop s) s π) (h1 : 1 ≤ pop s) (hn : pop s ≤ 5) (hπ : ∀ k, k < pop s → π k < pop s) (ht : tnF π (pop s - 1) = 0) : f_X2_advance I a = some (0, I) := by
  rw [x2_adv0 h h1 hn hπ, ht]
  unfold X2_advance_J32
  rw [if_pos (show tI 0 < 0 by decide)]
theorem x2_begin {I : HI} {a : Nat} {s : Int32} (hn : pop s ≤ 5) : ∃ I', (TrAt I' a (pop s) s (fun k => k) ∧ Off I I' a 2) ∧ f_X2_begin I a s = some I' := by
  unfold f_X2_begin
  rw [lt1s]
  refine wl2_inv (F := X2_begin_B7 a s) (Inv := fun i (I1 : HI) (z : Int32) => (TrAt I1 a (cntB (bit s) i) s (fun k => k) ∧ Off I I1 a 2) ∧ z = nI i) (m := 32) ?_ ?_ 32 0 5000 (sI I a 0 0) (nI 0) (by omega) (by omega) ⟨⟨⟨by rw [sI_eq, uR_eq]; rfl, fun k hk => absurd hk (Nat.not_lt_zero _)⟩, Off.s (by omega)⟩, rfl⟩
  · rintro i I1 z hi ⟨⟨h1, h2⟩, rfl⟩
    have hm : cntB (bit s) (i + 1) ≤ pop s := cnt_mono (f := bit s) (a := i + 1) (b := 32) (by omega)
    rw [cntB] at hm
    cases hb : bit s i with
    | false =>
      refine Or.inl ⟨I1, nI (i + 1), ⟨⟨?_, h2⟩, rfl⟩, fun k => ?_⟩
      · rw [cntB, hb, if_neg (by decide)]; exact h1
      · unfold X2_begin_B7 X2_begin_J54
        rw [if_pos (show nI i < (32 : Int32) by rw [i_32, nlt (by omega) (by omega)]; exact hi), bit_bZ, hb, if_neg (by decide), lt1s, ninc]
    | true =>
      rw [hb, if_pos rfl] at hm
      refine Or.inl ⟨sI (sI I1 (a + 1) (cntB (bit s) i) (nI i)) a 0 (nI (cntB (bit s) i + 1)), nI (i + 1), ⟨⟨⟨?_, fun k hk => ?_⟩, (h2.tr (Off.s (by omega))).tr (Off.s (by omega))⟩, rfl⟩, fun k => ?_⟩
      · rw [sI_eq, uR_eq, cntB, hb, if_pos rfl]
      · rw [cntB, hb, if_pos rfl] at hk
        rw [sI_ne (by omega), sI_eq]
        unfold uR
        by_cases hkc : k = cntB (bit s) i
        · rw [if_pos hkc, hkc, qq_of hi hb]
        · rw [if_neg hkc]; exact h1.2 k (by omega)
      · unfold X2_begin_B7 X2_begin_J54
        rw [if_pos (show nI i < (32 : Int32) by rw [i_32, nlt (by omega) (by omega)]; exact hi), bit_bZ, hb, if_pos (show bZ true = 1 from rfl), h1.1, if_pos (show nI (cntB (bit s) i) < (5 : Int32) by rw [i_5, nlt (by omega) (by omega)]; omega), gv (by omega) (by omega), lt1s, ncl (by omega), sI_ne (by omega), h1.1, ninc, lt1s, lt1s, ninc]
  · rintro I1 z ⟨⟨h1, h2⟩, rfl⟩
    refine ⟨I1, ⟨h1, h2⟩, fun k => ?_⟩
    unfold X2_begin_B7
    rw [if_neg (show ¬ nI 32 < (32 : Int32) by decide)]
theorem x2_take {I : HI} {a b n : Nat} {s : Int32} {π : Nat → Nat} (hab : a + 2 ≤ b ∨ b + 2 ≤ a) (hn : n ≤ 5) (h : TrAt I b n s π) : ∃ I', (TrAt I' a n s π ∧ Off I I' a 2) ∧ f_X2_take I a b = some I' := by
  unfold f_X2_take
  rw [lt1s, x7_copyRow (by omega) (by omega), bd1s]
  refine ⟨_, ⟨⟨?_, fun k hk => ?_⟩, fun q hq => ?_⟩, rfl⟩
  · rw [rowS_ne (by omega), sI_eq, uR_eq]; exact h.1
  · rw [rowS_at, if_pos (by omega), sI_ne (by omega)]; exact h.2 k hk
  · rw [rowS_ne (by omega), sI_ne (by omega)]

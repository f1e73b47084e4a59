/-! the class reads: head, loop, whole -/
/-- whether the head stands, where it ends or fails, cells and functions -/
def hd (X : Tx) : Bool × Nat × Nat × Nat :=
  if 0 < X.1 ∧ X.2 0 = 78 then (if fg X 1 0 1 = true then (if fg X 2 (if X.2 1 = 48 then 4 else 0) (if X.2 1 = 48 then 9 else 6) = true then (if fg X 3 1 3 = true then (true, 4, 10 * (X.2 1 - 48) + (X.2 2 - 48), X.2 3 - 48) else (false, 3, 0, 0)) else (false, 2, 0, 0)) else (false, 1, 0, 0)) else (false, 0, 0, 0)
def cf0 (M K : Nat) : Cf := (M, K, 0, (fun _ => 1), (fun _ => 1), 0, fun _ => 1)
def px0 : Nat → Prx := fun _ => (0, (fun _ => 0), (fun _ => 0), 0, 0, 0)
def prs (X : Tx) : Nat → Nat → Cf → (Nat → Prx) → Option Nat × Cf × (Nat → Prx)
  | 0, _, C, P => (none, C, P)
  | f + 1, a, C, P => if a < X.1 then (if (stp X a C P).1 = true then prs X f (stp X a C P).2.1 (stp X a C P).2.2.1 (stp X a C P).2.2.2 else (some (stp X a C P).2.1, C, P)) else (none, C, P)
def fin (C : Cf) : Cf := if cF C = 0 then addFm C 1 1 else C
def rdQ (X : Tx) : Option Nat × Cf × (Nat → Prx) := prs X 100 4 (cf0 (hd X).2.2.1 (hd X).2.2.2) px0
def rdO (X : Tx) : Option Nat := if (hd X).1 = true then (rdQ X).1 else some (hd X).2.1
def rdC (X : Tx) : Cf := fin (rdQ X).2.1
def rdN (X : Tx) : Nt := Nz (nP (adp (rdC X) (Nz (rdQ X).2.2) (cN (rdC X))))
def oV : Option Nat → Int32
  | none => m9
  | some a => nI a
theorem hd_ok {X : Tx} (h : (hd X).1 = true) : (4 ≤ (hd X).2.2.1 ∧ (hd X).2.2.1 ≤ 16) ∧ (1 ≤ (hd X).2.2.2 ∧ (hd X).2.2.2 ≤ 3) ∧ (hd X).2.1 = 4 := by
  unfold hd at h ⊢
  by_cases b0 : 0 < X.1 ∧ X.2 0 = 78
  · rw [if_pos b0] at h ⊢
    by_cases b1 : fg X 1 0 1 = true
    · rw [if_pos b1] at h ⊢
      by_cases b2 : fg X 2 (if X.2 1 = 48 then 4 else 0) (if X.2 1 = 48 then 9 else 6) = true
      · rw [if_pos b2] at h ⊢
        by_cases b3 : fg X 3 1 3 = true
        · rw [if_pos b3] at h ⊢
          have f1 := fgE b1
          have f2 := fgE b2
          have f3 := fgE b3
          by_cases hl : X.2 1 = 48
          · rw [if_pos hl, if_pos hl] at f2
            exact ⟨⟨by show 4 ≤ 10 * (X.2 1 - 48) + (X.2 2 - 48); omega, by show 10 * (X.2 1 - 48) + (X.2 2 - 48) ≤ 16; omega⟩, ⟨by show 1 ≤ X.2 3 - 48; omega, by show X.2 3 - 48 ≤ 3; omega⟩, rfl⟩
          · rw [if_neg hl, if_neg hl] at f2
            exact ⟨⟨by show 4 ≤ 10 * (X.2 1 - 48) + (X.2 2 - 48); omega, by show 10 * (X.2 1 - 48) + (X.2 2 - 48) ≤ 16; omega⟩, ⟨by show 1 ≤ X.2 3 - 48; omega, by show X.2 3 - 48 ≤ 3; omega⟩, rfl⟩
        · rw [if_neg b3] at h; exact absurd h Bool.false_ne_true
      · rw [if_neg b2] at h; exact absurd h Bool.false_ne_true
    · rw [if_neg b1] at h; exact absurd h Bool.false_ne_true
  · rw [if_neg b0] at h; exact absurd h Bool.false_ne_true
theorem cf0_wf {M K : Nat} (hM : 4 ≤ M ∧ M ≤ 16) (hK : 1 ≤ K ∧ K ≤ 3) : WfQ (cf0 M K) px0 := ⟨hM, hK, Nat.zero_le _, fun f hf => absurd (show f < 0 from hf) (Nat.not_lt_zero _), Nat.zero_le _, fun x hx => absurd (show x < 0 from hx) (Nat.not_lt_zero _), fun x hx => absurd (show x < 0 from hx) (Nat.not_lt_zero _)⟩
theorem stp_le {X : Tx} {a : Nat} {C : Cf} {P : Nat → Prx} : (stp X a C P).2.1 ≤ a + 4 := by
  unfold stp
  by_cases l1 : X.2 a = 104
  · rw [if_pos l1]; unfold stpF
    repeat' split
    all_goals (first | exact Nat.le_refl _ | exact Nat.le_succ _ | (show _ ≤ a + 4; omega) | (dsimp only; omega))
  · rw [if_neg l1]
    by_cases l2 : X.2 a = 112
    · rw [if_pos l2]; unfold stpP
      repeat' split
      all_goals (dsimp only; omega)
    · rw [if_neg l2]
      by_cases l3 : X.2 a = 115
      · rw [if_pos l3]; unfold stpS
        repeat' split
        all_goals (dsimp only; omega)
      · rw [if_neg l3]; dsimp only; omega
theorem prs_wf {X : Tx} : ∀ {f a : Nat} {C : Cf} {P : Nat → Prx}, WfQ C P → WfQ (prs X f a C P).2.1 (prs X f a C P).2.2 ∧ ∀ b, (prs X f a C P).1 = some b → b ≤ X.1 + 4
  | 0, a, C, P, h => ⟨h, fun b e => by cases e⟩
  | f + 1, a, C, P, h => by
    rw [prs]
    by_cases hl : a < X.1
    · rw [if_pos hl]
      have hs := stp_wf (X := X) (a := a) h
      have hb := stp_le (X := X) (a := a) (C := C) (P := P)
      by_cases hk : (stp X a C P).1 = true
      · rw [if_pos hk]
        exact prs_wf hs.1
      · rw [if_neg hk]
        refine ⟨h, fun b e => ?_⟩
        cases e
        omega
    · rw [if_neg hl]; exact ⟨h, fun b e => by cases e⟩
theorem hd_le {X : Tx} : (hd X).2.1 ≤ 4 := by
  unfold hd
  repeat' split
  all_goals (dsimp only; omega)
theorem rdO_le {X : Tx} (hX : WfT X) {a : Nat} (h : rdO X = some a) : a ≤ 104 := by
  have hT := hX.1
  unfold rdO at h
  by_cases hk : (hd X).1 = true
  · rw [if_pos hk] at h
    obtain ⟨q1, q2, q3⟩ := hd_ok hk
    have := (prs_wf (X := X) (f := 100) (a := 4) (cf0_wf q1 q2)).2 a h
    omega
  · rw [if_neg hk] at h
    cases h
    have := hd_le (X := X)
    omega
theorem fin_cN (C : Cf) : cN (fin C) = cN C := by
  unfold fin
  by_cases h : cF C = 0
  · rw [if_pos h]; rfl
  · rw [if_neg h]
theorem fin_wf {C : Cf} {P : Nat → Prx} (h : WfQ C P) : WfC (fin C) ∧ WfN (fin C) 0 (Nz P) := by
  obtain ⟨w1, w2, w3, w4, w5, w6, w7⟩ := h
  have hc : ∀ (M x : Nat), x < cN C → Cnt M 0 (pC (P x)) := fun M x hx => by
    rw [(w7 x hx).2.2]
    exact ⟨fun c _ => ⟨by show -((0 : Nat) : Int) ≤ (0 : Int32).toInt; decide, by show (0 : Int32).toInt ≤ 7; decide⟩, fun _ _ _ => rfl⟩
  unfold fin
  by_cases h0 : cF C = 0
  · rw [if_pos h0]
    refine ⟨⟨w1, w2, ⟨by show 1 ≤ cF C + 1; omega, by show cF C + 1 ≤ 3; omega⟩, fun f hf => ?_, w5, w6⟩, ?_, fun x hx => ⟨(w7 x hx).1, hc _ x hx⟩⟩
    · show (if f = cF C then 1 else cA C f) ≤ 9 ∧ (if f = cF C then 1 else cB C f) ≤ 9
      have hf' : f < cF C + 1 := hf
      rw [if_pos (by omega), if_pos (by omega)]; omega
    · show 0 < cF C + 1; omega
  · rw [if_neg h0]
    exact ⟨⟨w1, w2, ⟨by omega, w3⟩, w4, w5, w6⟩, by show 0 < cF C; omega, fun x hx => ⟨(w7 x hx).1, hc _ x hx⟩⟩
theorem x1_begin {I : HI} {n M K : Nat} : ∃ I', (NtAt I' n (cf0 M K) (Nz px0) ∧ Off I I' n 17) ∧ f_X1_begin I n (nI M) (nI K) = some I' := by
  unfold f_X1_begin f_X0_begin f_X1_clearCounts
  rw [lt1s, lt1s, lt1s, lt1s, bd1s, lt1s, lt1s, lt1s, lt1s, lt1s, bd1s]
  have e : ∀ q, q < n ∨ n + 2 ≤ q → (sI (sI (sI (sI (sI (sI (sI (sI (sI I (n + 1) 0 (nI M)) (n + 1) 1 (nI K)) (n + 1) 2 0) (n + 1) 3 0) n 2 0) n 3 0) n 4 0) n 5 0) n 6 0) q = I q := by
    intro q hq
    rw [sI_ne (by omega), sI_ne (by omega), sI_ne (by omega), sI_ne (by omega), sI_ne (by omega), sI_ne (by omega), sI_ne (by omega), sI_ne (by omega), sI_ne (by omega)]
  refine ⟨_, ⟨⟨⟨?_, ?_, ?_, ?_, fun f hf => absurd (show f < 0 from hf) (Nat.not_lt_zero _), fun f hf => absurd (show f < 0 from hf) (Nat.not_lt_zero _)⟩, ?_, ?_, ?_, ?_, ?_, fun x hx => absurd (show x < 0 from hx) (Nat.not_lt_zero _)⟩, fun q hq => e q (by omega)⟩, rfl⟩
  · simp only [sI_at]; simp; rfl
  · simp only [sI_at]; simp; rfl
  · simp only [sI_at]; simp; rfl
  · simp only [sI_at]; simp; rfl
  · simp only [sI_at]; simp; rfl
  · simp only [sI_at]; simp; rfl
  · simp only [sI_at]; simp; rfl
  · simp only [sI_at]; simp; rfl
  · simp only [sI_at]; simp; rfl
theorem x6_readHead {I : HI} {B : Nat} {X : Tx} (hX : WfT X) (h : TdC I B X 0) : ∃ I', (Off I I' (B + 1) 18 ∧ TdC I' B X (hd X).2.1 ∧ ((hd X).1 = true → RdC I' B X 4 (cf0 (hd X).2.2.1 (hd X).2.2.2) px0)) ∧ f_X6_readHead I (B + 1) = some (bZ (hd X).1, I') := by
  have hT := hX.1
  have nf : ∀ {J : HI} {a : Nat}, TdC J B X a → Off I J (B + 1) 18 → ∃ I', (Off I I' (B + 1) 18 ∧ TdC I' B X a ∧ (false = true → RdC I' B X 4 (cf0 0 0) px0)) ∧ some ((0 : Int32), J) = some (bZ false, I') := fun hj oj => ⟨_, ⟨oj, hj, fun q => absurd q Bool.false_ne_true⟩, rfl⟩
  unfold f_X6_readHead hd
  rw [show (78 : Int32) = nI 78 from rfl, x6_pass0 hX (by omega) (by omega) h]
  by_cases b0 : 0 < X.1 ∧ X.2 0 = 78
  · have h1 := h.mv (b := 0 + 1)
    have o1 : Off I (sI I (B + 1) 3 (nI (0 + 1))) (B + 1) 18 := offD
    rw [if_pos b0, if_pos b0, bd2s, if_neg (show ¬ (1 : Int32) = 0 by decide)]
    generalize sI I (B + 1) 3 (nI (0 + 1)) = I1 at h1 o1
    have p1 : f_X6_passDigit I1 (B + 1) 0 1 = if fg X 1 0 1 = true then some (1, sI (sI I1 (B + 1) 4 (nI (X.2 1 - 48))) (B + 1) 3 (nI 2)) else some (0, I1) := x6_passDigit0 (lo := 0) (hi := 1) hX (by omega) (by omega) (by omega) h1
    rw [p1]
    by_cases b1 : fg X 1 0 1 = true
    · have f1 := fgE b1
      have h2 : TdC (sI (sI I1 (B + 1) 4 (nI (X.2 1 - 48))) (B + 1) 3 (nI 2)) B X 2 := h1.dg.mv
      have o2 : Off I (sI (sI I1 (B + 1) 4 (nI (X.2 1 - 48))) (B + 1) 3 (nI 2)) (B + 1) 18 := (o1.tr offD).tr offD
      rw [if_pos b1, if_pos b1, bd2s, if_neg (show ¬ (1 : Int32) = 0 by decide), dgF, lt1s]
      generalize sI (sI I1 (B + 1) 4 (nI (X.2 1 - 48))) (B + 1) 3 (nI 2) = I2 at h2 o2
      have main : ∀ lo hi : Nat, lo ≤ 9 → hi ≤ 9 → ∃ I', (Off I I' (B + 1) 18 ∧ TdC I' B X (if fg X 2 lo hi = true then (if fg X 3 1 3 = true then ((true, 4, 10 * (X.2 1 - 48) + (X.2 2 - 48), X.2 3 - 48) : Bool × Nat × Nat × Nat) else (false, 3, 0, 0)) else (false, 2, 0, 0)).2.1 ∧ ((if fg X 2 lo hi = true then (if fg X 3 1 3 = true then ((true, 4, 10 * (X.2 1 - 48) + (X.2 2 - 48), X.2 3 - 48) : Bool × Nat × Nat × Nat) else (false, 3, 0, 0)) else (false, 2, 0, 0)).1 = true → RdC I' B X 4 (cf0 (if fg X 2 lo hi = true then (if fg X 3 1 3 = true then ((true, 4, 10 * (X.2 1 - 48) + (X.2 2 - 48), X.2 3 - 48) : Bool × Nat × Nat × Nat) else (false, 3, 0, 0)) else (false, 2, 0, 0)).2.2.1 (if fg X 2 lo hi = true then (if fg X 3 1 3 = true then ((true, 4, 10 * (X.2 1 - 48) + (X.2 2 - 48), X.2 3 - 48) : Bool × Nat × Nat × Nat) else (false, 3, 0, 0)) else (false, 2, 0, 0)).2.2.2) px0)) ∧ X6_readHead_J46 I2 (B + 1) (nI (X.2 1 - 48)) (B + 1) (nI lo) (nI hi) = some (bZ (if fg X 2 lo hi = true then (if fg X 3 1 3 = true then ((true, 4, 10 * (X.2 1 - 48) + (X.2 2 - 48), X.2 3 - 48) : Bool × Nat × Nat × Nat) else (false, 3, 0, 0)) else (false, 2, 0, 0)).1, I') := by
        intro lo hi hlo hhi
        unfold X6_readHead_J46
        have p2 : f_X6_passDigit I2 (B + 1) (nI lo) (nI hi) = if fg X 2 lo hi = true then some (1, sI (sI I2 (B + 1) 4 (nI (X.2 2 - 48))) (B + 1) 3 (nI 3)) else some (0, I2) := x6_passDigit0 hX (by omega) hlo hhi h2
        rw [p2]
        by_cases b2 : fg X 2 lo hi = true
        · have h3 : TdC (sI (sI I2 (B + 1) 4 (nI (X.2 2 - 48))) (B + 1) 3 (nI 3)) B X 3 := h2.dg.mv
          have o3 : Off I (sI (sI I2 (B + 1) 4 (nI (X.2 2 - 48))) (B + 1) 3 (nI 3)) (B + 1) 18 := (o2.tr offD).tr offD
          rw [if_pos b2, if_pos b2, bd2s, if_neg (show ¬ (1 : Int32) = 0 by decide), dgF, i_10, nmul, nadd, lt1s]
          generalize sI (sI I2 (B + 1) 4 (nI (X.2 2 - 48))) (B + 1) 3 (nI 3) = I3 at h3 o3
          have p3 : f_X6_passDigit I3 (B + 1) 1 3 = if fg X 3 1 3 = true then some (1, sI (sI I3 (B + 1) 4 (nI (X.2 3 - 48))) (B + 1) 3 (nI 4)) else some (0, I3) := x6_passDigit0 (lo := 1) (hi := 3) hX (by omega) (by omega) (by omega) h3
          rw [p3]
          by_cases b3 : fg X 3 1 3 = true
          · have h4 : TdC (sI (sI I3 (B + 1) 4 (nI (X.2 3 - 48))) (B + 1) 3 (nI 4)) B X 4 := h3.dg.mv
            have o4 : Off I (sI (sI I3 (B + 1) 4 (nI (X.2 3 - 48))) (B + 1) 3 (nI 4)) (B + 1) 18 := (o3.tr offD).tr offD
            rw [if_pos b3, if_pos b3, bd2s, if_neg (show ¬ (1 : Int32) = 0 by decide), dgF]
            generalize sI (sI I3 (B + 1) 4 (nI (X.2 3 - 48))) (B + 1) 3 (nI 4) = I4 at h4 o4
            obtain ⟨I5, ⟨a1, a2⟩, a3⟩ := x1_begin (I := I4) (n := B + 1 + 1) (M := 10 * (X.2 1 - 48) + (X.2 2 - 48)) (K := X.2 3 - 48)
            have h5 : TdC I5 B X 4 := ⟨by rw [a2 _ (by omega)]; exact h4.1, by rw [a2 _ (by omega)]; exact h4.2.1, fun k hk => by rw [a2 _ (by omega)]; exact h4.2.2 k hk⟩
            rw [a3, bd1s]
            exact ⟨I5, ⟨o4.tr (a2.wid (by omega) (by omega)), h5, fun _ => ⟨h5.1, h5.2.1, h5.2.2, a1⟩⟩, rfl⟩
          · rw [if_neg b3, if_neg b3, bd2s, if_pos rfl]
            exact nf h3 o3
        · rw [if_neg b2, if_neg b2, bd2s, if_pos rfl]
          exact nf h2 o2
      by_cases hl : X.2 1 = 48
      · rw [if_pos (show nI (X.2 1 - 48) = 0 by rw [hl]; rfl), if_pos hl, if_pos hl]
        unfold X6_readHead_J35
        rw [if_pos (show nI (X.2 1 - 48) = 0 by rw [hl]; rfl)]
        exact main 4 9 (by omega) (by omega)
      · rw [if_neg (show ¬ nI (X.2 1 - 48) = 0 by rw [n0eq (by omega)]; omega), if_neg hl, if_neg hl]
        unfold X6_readHead_J35
        rw [if_neg (show ¬ nI (X.2 1 - 48) = 0 by rw [n0eq (by omega)]; omega)]
        exact main 0 6 (by omega) (by omega)
    · rw [if_neg b1, if_neg b1, bd2s, if_pos rfl]
      exact nf h1 o1
  · rw [if_neg b0, if_neg b0, bd2s, if_pos rfl]
    exact nf h Off.rf
/-- a net that has been read is made ready -/
theorem x1_complete {I : HI} {n : Nat} {C : Cf} {P : Nat → Prx} (hw : WfQ C P) (h : NtAt I n C (Nz P)) : ∃ I', (NtAt I' n (fin C) (Nz (nP (adp (fin C) (Nz P) (cN (fin C))))) ∧ Off I I' n 17) ∧ f_X1_complete I n = some I' := by
  have hn := hw.2.2.2.2.1
  obtain ⟨wC, wN⟩ := fin_wf hw
  have h0 : ∃ I1, (NtAt I1 n (fin C) (Nz P) ∧ Off I I1 n 17) ∧ f_X1_complete I n = X1_complete_J19 I1 n := by
    unfold f_X1_complete fin
    rw [h.1.2.2.1]
    by_cases hF : cF C = 0
    · obtain ⟨I1, ⟨a1, a2⟩, a3⟩ := x0_addFamily (a := 1) (b := 1) hn h (by omega)
      rw [if_pos (show nI (cF C) = 0 by rw [hF]; rfl), if_pos hF]
      have a3' : f_X0_addFamily I (n + 1) 1 1 = some I1 := a3
      rw [a3', bd1s]
      exact ⟨I1, ⟨a1, a2.wid (by omega) (by omega)⟩, rfl⟩
    · have h3 := hw.2.2.1
      rw [if_neg (show ¬ nI (cF C) = 0 by rw [n0eq (by omega)]; exact hF), if_neg hF]
      exact ⟨I, ⟨h, Off.rf⟩, rfl⟩
  obtain ⟨I1, ⟨a1, a2⟩, a3⟩ := h0
  obtain ⟨I2, ⟨b1, b2, -⟩, b3⟩ := x1_adopt (t := 27) (f := 0) wC (by have := wC.2.2.1; omega) (by omega) a1 (wN.mono (by omega))
  have b3' : f_X1_adopt I1 n 0 = some (1, I2) := b3
  rw [a3]
  unfold X1_complete_J19 f_X1_clearCounts
  rw [b3', bd2s, lt1s, lt1s, lt1s, lt1s, bd1s]
  obtain ⟨g0, g1, g2, g3, g4, g5, g6⟩ := b1
  have e : ∀ q, q ≠ n → (sI (sI (sI (sI I2 n 3 0) n 4 0) n 5 0) n 6 0) q = I2 q := fun q hq => by
    rw [sI_ne hq, sI_ne hq, sI_ne hq, sI_ne hq]
  refine ⟨_, ⟨⟨(?_ : HsAt _ (n + 1) (fin C) 0), ?_, ?_, ?_, ?_, ?_, fun x hx => ?_⟩, (a2.tr b2).tr fun q hq => e q (by omega)⟩, rfl⟩
  · have e0 : nF (adp (fin C) (nFam (Nz P) 0) (cN (fin C))) = 0 := adp_nF _ _ _
    rw [e0] at g0
    exact g0.kept (e _ (by omega)) (e _ (by omega)) (e _ (by omega))
  · simp only [sI_at]; simpa using g1
  · simp only [sI_at]; simp; rfl
  · simp only [sI_at]; simp; rfl
  · simp only [sI_at]; simp; rfl
  · simp only [sI_at]; simp; rfl
  · exact (g6 x hx).kept (e _ (by omega)) (e _ (by omega)) (e _ (by omega))
theorem x6_loop {B : Nat} {X : Tx} (hX : WfT X) : ∀ (f i M a : Nat) (I : HI) (C : Cf) (P : Nat → Prx), i + f = 100 → f < M → a < 500 → WfQ C P → RdC I B X a C P → ∃ I', (Off I I' (B + 1) 18 ∧ I' (B + 1) 0 = nI X.1 ∧ ((prs X f a C P).1 = none → NtAt I' (B + 2) (fin (prs X f a C P).2.1) (Nz (nP (adp (fin (prs X f a C P).2.1) (Nz (prs X f a C P).2.2) (cN (fin (prs X f a C P).2.1))))))) ∧ wl2 (X6_read_B19 (B + 1)) M I (nI i) = some (oV (prs X f a C P).1, I') := by
  have hT := hX.1
  have done : ∀ (a : Nat) (I : HI) (C : Cf) (P : Nat → Prx), WfQ C P → RdC I B X a C P → ∃ I', (Off I I' (B + 1) 18 ∧ I' (B + 1) 0 = nI X.1 ∧ ((none : Option Nat) = none → NtAt I' (B + 2) (fin C) (Nz (nP (adp (fin C) (Nz P) (cN (fin C))))))) ∧ X6_read_J54 I (B + 1) = some (m9, I') := by
    intro a I C P hw h
    obtain ⟨I1, ⟨a1, a2⟩, a3⟩ := x1_complete hw h.2.2.2
    have a3' : f_X1_complete I (B + 1 + 1) = some I1 := a3
    unfold X6_read_J54
    rw [a3', bd1s]
    exact ⟨I1, ⟨a2.wid (by omega) (by omega), by rw [a2 _ (by omega)]; exact h.1, fun _ => a1⟩, rfl⟩
  intro f
  induction f with
  | zero =>
    intro i M a I C P hi hM ha hw h
    obtain ⟨M, rfl⟩ : ∃ K, M = K + 1 := ⟨M - 1, by omega⟩
    obtain ⟨I1, a1, a2⟩ := done a I C P hw h
    refine ⟨I1, a1, ?_⟩
    rw [wl2_0]
    unfold X6_read_B19
    rw [if_neg (show ¬ nI i < (100 : Int32) by rw [i_100, nlt (by omega) (by omega)]; omega)]
    exact a2
  | succ f ih =>
    intro i M a I C P hi hM ha hw h
    obtain ⟨M, rfl⟩ : ∃ K, M = K + 1 := ⟨M - 1, by omega⟩
    rw [wl2_0, prs]
    by_cases hl : a < X.1
    · rw [if_pos hl]
      obtain ⟨I1, ⟨a1, a2⟩, a3⟩ := x6_readPart hX hw hl h
      have hs := stp_wf (X := X) (a := a) hw
      have hb := stp_le (X := X) (a := a) (C := C) (P := P)
      by_cases hk : (stp X a C P).1 = true
      · rw [if_pos hk]
        obtain ⟨I2, ⟨b1, b2, b3⟩, b4⟩ := ih (i + 1) M (stp X a C P).2.1 I1 _ _ (by omega) (by omega) (by omega) hs.1 a2
        refine ⟨I2, ⟨a1.tr b1, b2, b3⟩, ?_⟩
        generalize wl2 (X6_read_B19 (B + 1)) M = K at b4 ⊢
        unfold X6_read_B19
        rw [if_pos (show nI i < (100 : Int32) by rw [i_100, nlt (by omega) (by omega)]; omega), h.2.1, h.1, if_pos (show nI a < nI X.1 by rw [nlt (by omega) (by omega)]; exact hl), a3, bd2s, hk, if_neg bZt, ninc, lt1s]
        exact b4
      · rw [if_neg hk]
        refine ⟨I1, ⟨a1, a2.1, fun e => by cases e⟩, ?_⟩
        unfold X6_read_B19
        rw [if_pos (show nI i < (100 : Int32) by rw [i_100, nlt (by omega) (by omega)]; omega), h.2.1, h.1, if_pos (show nI a < nI X.1 by rw [nlt (by omega) (by omega)]; exact hl), a3, bd2s, eq_false_of_ne_true hk, if_pos bZf, a2.2.1]
        rfl
    · rw [if_neg hl]
      obtain ⟨I1, a1, a2⟩ := done a I C P hw h
      refine ⟨I1, a1, ?_⟩
      unfold X6_read_B19
      rw [if_pos (show nI i < (100 : Int32) by rw [i_100, nlt (by omega) (by omega)]; omega), h.2.1, h.1, if_neg (show ¬ nI a < nI X.1 by rw [nlt (by omega) (by omega)]; exact hl)]
      exact a2
theorem x6_read {I : HI} {B : Nat} {X : Tx} (hX : WfT X) (h : TxC I B X) : ∃ I', (Off I I' (B + 1) 18 ∧ TxC I' B X ∧ (rdO X = none → NtAt I' (B + 2) (rdC X) (rdN X))) ∧ f_X6_read I (B + 1) = some (oV (rdO X), I') := by
  have hT := hX.1
  have h0 : TdC (sI I (B + 1) 3 0) B X 0 := ⟨by rw [sI_eq, uR_ne (by omega)]; exact h.1, by rw [sI_eq, uR_eq]; rfl, fun k hk => by rw [sI_ne (by omega)]; exact h.2 k hk⟩
  obtain ⟨I1, ⟨a1, a2, a3⟩, a4⟩ := x6_readHead hX h0
  have o1 : Off I I1 (B + 1) 18 := Off.tr offD a1
  unfold f_X6_read rdO
  rw [lt1s, a4, bd2s]
  by_cases hk : (hd X).1 = true
  · obtain ⟨q1, q2, q3⟩ := hd_ok hk
    obtain ⟨I2, ⟨b1, b2, b3⟩, b4⟩ := x6_loop hX 100 0 5000 4 I1 _ _ (by omega) (by omega) (by omega) (cf0_wf q1 q2) (a3 hk)
    rw [hk, if_neg bZt, if_pos rfl]
    have o2 := o1.tr b1
    exact ⟨I2, ⟨o2, ⟨b2, fun k hk => by rw [o2 _ (by omega)]; exact h.2 k hk⟩, b3⟩, b4⟩
  · rw [eq_false_of_ne_true hk, if_pos bZf, if_neg (show ¬ false = true by decide), a2.2.1]
    exact ⟨I1, ⟨o1, ⟨a2.1, a2.2.2⟩, fun e => by cases e⟩, rfl⟩

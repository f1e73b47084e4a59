/-! the text, on both sides -/
abbrev Tx : Type := Nat × (Nat → Nat)
def TxC (I : HI) (B : Nat) (X : Tx) : Prop := I (B + 1) 0 = nI X.1 ∧ ∀ k, k < X.1 → I (B + 19) k = nI (X.2 k)
def TxR (I : HI) (m : Nat) (X : Tx) : Prop := I m 2 = nI X.1 ∧ ∀ k, k < X.1 → I (m + 1) k = nI (X.2 k)
def WfT (X : Tx) : Prop := X.1 ≤ 100 ∧ ∀ k, k < X.1 → X.2 k < 256
def aWrite (c : Int32) (X : Tx) : Int32 × Tx := if isIn c 256 = true then (if X.1 = 100 then (-4, X) else (nI (X.1 + 1), (X.1 + 1, fun k => if k = X.1 then c.toNatClampNeg else X.2 k))) else (-2, X)
theorem aWrite_wf {c : Int32} {X : Tx} (h : WfT X) : WfT (aWrite c X).2 := by
  unfold aWrite
  by_cases h1 : isIn c 256 = true
  · rw [if_pos h1]
    by_cases h2 : X.1 = 100
    · rw [if_pos h2]; exact h
    · rw [if_neg h2]
      obtain ⟨c, hc, rfl⟩ := isIn_of h1 (by omega)
      rw [ncl (by omega)]
      refine ⟨by have := h.1; show X.1 + 1 ≤ 100; omega, fun k hk => ?_⟩
      have hk' : k < X.1 + 1 := hk
      show (if k = X.1 then c else X.2 k) < 256
      by_cases hkT : k = X.1
      · rw [if_pos hkT]; exact hc
      · rw [if_neg hkT]; exact h.2 k (by omega)
  · rw [if_neg h1]; exact h
def OffTx (I I' : HI) (B : Nat) : Prop := ∀ z, z ≠ B + 1 → z ≠ B + 19 → I' z = I z
theorem x7_write {I : HI} {B : Nat} {X : Tx} {c : Int32} (h : TxC I B X) (hw : WfT X) : ∃ I', (TxC I' B (aWrite c X).2 ∧ OffTx I I' B) ∧ f_X7_write I B c = some ((aWrite c X).1, I') := by
  have hT := hw.1
  unfold f_X7_write aWrite
  by_cases h0 : c < 0
  · rw [if_pos h0, if_neg (by rw [isIn_no (v := c) (by omega) (Or.inl h0)]; decide)]
    exact ⟨I, ⟨h, fun _ _ _ => rfl⟩, rfl⟩
  · obtain ⟨c, hc, rfl⟩ := nI_of h0
    rw [if_neg h0]
    by_cases h1 : c < 256
    · rw [if_neg (show ¬ (255 : Int32) < nI c by rw [i_255, nlt (by omega) (by omega)]; omega), if_pos (isIn_nI h1 (by omega)), ncl (by omega)]
      unfold f_X6_append
      rw [h.1, if_neg (nI_pos (by omega))]
      by_cases h2 : X.1 = 100
      · rw [if_neg (show ¬ nI X.1 < (100 : Int32) by rw [h2]; decide), bd2s, if_pos rfl, if_pos h2]
        exact ⟨I, ⟨h, fun _ _ _ => rfl⟩, rfl⟩
      · rw [if_pos (show nI X.1 < (100 : Int32) by rw [i_100, nlt (by omega) (by omega)]; omega), gv (by omega) (by omega), lt1s, ncl (by omega), sI_ne (by omega), h.1, ninc, lt1s, bd2s, if_neg (show ¬ (1 : Int32) = 0 by decide), sI_eq, uR_eq, if_neg h2]
        refine ⟨_, ⟨⟨by rw [sI_eq, uR_eq], fun k hk => ?_⟩, fun z h3 h4 => by rw [sI_ne h3, sI_ne (by omega)]⟩, rfl⟩
        have hk' : k < X.1 + 1 := hk
        rw [sI_ne (by omega), show B + 1 + 18 = B + 19 by omega, sI_eq]
        show uR _ _ _ k = nI (if k = X.1 then c else X.2 k)
        unfold uR
        by_cases hkT : k = X.1
        · rw [if_pos hkT, if_pos hkT]
        · rw [if_neg hkT, if_neg hkT]; exact h.2 k (by omega)
    · rw [if_pos (show (255 : Int32) < nI c by rw [i_255, nlt (by omega) (by omega)]; omega), if_neg (by rw [isIn_no (v := nI c) (n := 256) (by omega) (Or.inr (by rw [nle (by omega) (by omega)]; omega))]; decide)]
      exact ⟨I, ⟨h, fun _ _ _ => rfl⟩, rfl⟩
def OffRX (I I' : HI) (m : Nat) : Prop := (∀ z, z ≠ m → z ≠ m + 1 → I' z = I z) ∧ ∀ k, k ≠ 0 → k ≠ 2 → I' m k = I m k
theorem TxR.z {I : HI} {m : Nat} {X : Tx} (h : TxR I m X) : TxR (sI I m 0 0) m X := ⟨by rw [sI_eq, uR_ne (by omega)]; exact h.1, fun k hk => by rw [sI_ne (by omega)]; exact h.2 k hk⟩
theorem OffRX.z {I : HI} {m : Nat} : OffRX I (sI I m 0 0) m := ⟨fun z a _ => sI_ne a, fun k a _ => by rw [sI_eq, uR_ne a]⟩
theorem r8_in255 (v : Int32) : f_X8_in v.toInt64 0 255 = some (bZ (isIn v 256)) := by
  rw [r8_in]
  have e0 : (0 : Int64).toInt = 0 := by decide
  have e1 : (255 : Int64).toInt = 255 := by decide
  rw [e0, e1]
  unfold isIn
  congr 2
  exact decide_eq_decide.mpr (by omega)
theorem r8_write {I : HI} {m : Nat} {X : Tx} {c : Int32} (h : TxR I m X) (hw : WfT X) : ∃ I', (TxR I' m (aWrite c X).2 ∧ OffRX I I' m) ∧ f_X8_write I m c = some ((aWrite c X).1, I') := by
  have hT := hw.1
  have hz := h.z
  have ho : OffRX I (sI I m 0 0) m := OffRX.z
  unfold f_X8_write aWrite
  rw [lt1s, r8_in255, bd1s]
  generalize sI I m 0 0 = I0 at hz ho
  cases hc : isIn c 256 with
  | false =>
    rw [if_pos bZf, if_neg (show ¬ false = true by decide)]
    exact ⟨I0, ⟨hz, ho⟩, rfl⟩
  | true =>
    obtain ⟨c, hc', rfl⟩ := isIn_of hc (by omega)
    rw [if_neg bZt, if_pos rfl, hz.1, ncl (by omega)]
    by_cases h2 : X.1 = 100
    · rw [if_pos (show nI X.1 = 100 by rw [h2]; rfl), if_pos h2]
      exact ⟨I0, ⟨hz, ho⟩, rfl⟩
    · rw [if_neg (show ¬ nI X.1 = 100 by rw [i_100, neq (by omega) (by omega)]; exact h2), if_neg h2, gv (by omega) (by omega), lt1s, ncl (by omega), sI_ne (by omega), hz.1, ninc, lt1s, sI_eq, uR_eq]
      refine ⟨_, ⟨⟨by rw [sI_eq, uR_eq], fun k hk => ?_⟩, ⟨fun z h3 h4 => by rw [sI_ne h3, sI_ne h4]; exact ho.1 z h3 h4, fun k h3 h4 => by rw [sI_eq, uR_ne h4, sI_ne (by omega)]; exact ho.2 k h3 h4⟩⟩, rfl⟩
      have hk' : k < X.1 + 1 := hk
      rw [sI_ne (by omega), sI_eq]
      show uR _ _ _ k = nI (if k = X.1 then c else X.2 k)
      unfold uR
      by_cases hkT : k = X.1
      · rw [if_pos hkT, if_pos hkT]
      · rw [if_neg hkT, if_neg hkT]; exact hz.2 k (by omega)
def aWipe (X : Tx) : Int32 × Tx := (nI X.1, (0, X.2))
theorem x7_wipe {I : HI} {B : Nat} {X : Tx} (h : TxC I B X) : ∃ I', (TxC I' B (aWipe X).2 ∧ OffTx I I' B) ∧ f_X7_wipe I B = some ((aWipe X).1, I') := by
  unfold f_X7_wipe
  rw [lt1s, lt1s, h.1]
  exact ⟨_, ⟨⟨by rw [sI_eq, uR_eq]; rfl, fun k hk => absurd (show k < 0 from hk) (Nat.not_lt_zero _)⟩, fun z h3 _ => sI_ne h3⟩, rfl⟩
theorem r8_wipe {I : HI} {m : Nat} {X : Tx} (h : TxR I m X) : ∃ I', (TxR I' m (aWipe X).2 ∧ OffRX I I' m) ∧ f_X8_wipe I m = some ((aWipe X).1, I') := by
  unfold f_X8_wipe
  rw [lt1s, lt1s, lt1s, h.z.1]
  exact ⟨_, ⟨⟨by rw [sI_eq, uR_eq]; rfl, fun k hk => absurd (show k < 0 from hk) (Nat.not_lt_zero _)⟩, ⟨fun z h3 h4 => by rw [sI_ne h3, sI_ne h3], fun k h3 h4 => by rw [sI_eq, uR_ne h4, sI_eq, uR_ne h3]⟩⟩, rfl⟩
/-! reading: what both follow -/
/-- a figure from lo to hi stands there -/
def fg (X : Tx) (a lo hi : Nat) : Bool := decide (a < X.1 ∧ 48 + lo ≤ X.2 a ∧ X.2 a ≤ 48 + hi)
def Nz (P : Nat → Prx) : Nt := (P, 0, 0, 0, 0, 0)
abbrev Rs : Type := Bool × Nat × Cf × (Nat → Prx)
def addFm (C : Cf) (a b : Nat) : Cf := (cM C, cK C, cF C + 1, (fun f => if f = cF C then a else cA C f), (fun f => if f = cF C then b else cB C f), cN C, cR C)
def addPx (C : Cf) (r : Nat) : Cf := (cM C, cK C, cF C, cA C, cB C, cN C + 1, fun x => if x = cN C then r else cR C x)
def newP (P : Nat → Prx) (n l : Nat) : Nat → Prx := fun x => if x = n then (0, (fun _ => 0), (fun _ => 0), 0, 0, nI l) else P x
def pshP (p : Nat) (P : Prx) : Prx := (pN P + 1, (fun k => if k = pN P then p else pS P k), P.2.2)
def psh (P : Nat → Prx) (x p : Nat) : Nat → Prx := fun y => if y = x then pshP p (P x) else P y
def okP (P : Prx) (p : Nat) : Bool := decide (p < 32) && !onS P p
def anyR (C : Cf) (P : Nat → Prx) : Bool := anyB (fun x => decide (pN (P x) < cR C x)) (cN C)
def stpF (X : Tx) (a : Nat) (C : Cf) (P : Nat → Prx) : Rs :=
  if cF C < 3 then (if fg X (a + 1) 1 9 = true then (if fg X (a + 2) 0 9 = true then (true, a + 3, addFm C (X.2 (a + 1) - 48) (X.2 (a + 2) - 48), P) else (false, a + 2, C, P)) else (false, a + 1, C, P)) else (false, a, C, P)
def stpP (X : Tx) (a : Nat) (C : Cf) (P : Nat → Prx) : Rs :=
  if cN C < 4 then (if fg X (a + 1) 1 9 = true then (if fg X (a + 2) 1 9 = true then (true, a + 3, addPx C (X.2 (a + 1) - 48), newP P (cN C) (X.2 (a + 2) - 48)) else (false, a + 2, C, P)) else (false, a + 1, C, P)) else (false, a, C, P)
/-- the proxy told there, the first figure, the page -/
def isX (X : Tx) (a : Nat) (C : Cf) (P : Nat → Prx) : Bool := decide (a < X.1 ∧ 48 ≤ X.2 a ∧ X.2 a < 48 + cN C ∧ pN (P (X.2 a - 48)) < cR C (X.2 a - 48))
def isT (X : Tx) (a : Nat) (P : Prx) : Bool := fg X a 0 3 && anyB (fun k => okP P (10 * (X.2 a - 48) + k)) 10
def isO (X : Tx) (a ten : Nat) (P : Prx) : Bool := fg X a 0 9 && okP P (10 * ten + (X.2 a - 48))
def stpS (X : Tx) (a : Nat) (C : Cf) (P : Nat → Prx) : Rs :=
  if anyR C P = true then (if isX X (a + 1) C P = true then (if isT X (a + 2) (P (X.2 (a + 1) - 48)) = true then (if isO X (a + 3) (X.2 (a + 2) - 48) (P (X.2 (a + 1) - 48)) = true then (true, a + 4, C, psh P (X.2 (a + 1) - 48) (10 * (X.2 (a + 2) - 48) + (X.2 (a + 3) - 48))) else (false, a + 3, C, P)) else (false, a + 2, C, P)) else (false, a + 1, C, P)) else (false, a, C, P)
def stp (X : Tx) (a : Nat) (C : Cf) (P : Nat → Prx) : Rs := if X.2 a = 104 then stpF X a C P else if X.2 a = 112 then stpP X a C P else if X.2 a = 115 then stpS X a C P else (false, a, C, P)
/-- sound while reading -/
def WfQ (C : Cf) (P : Nat → Prx) : Prop := (4 ≤ cM C ∧ cM C ≤ 16) ∧ (1 ≤ cK C ∧ cK C ≤ 3) ∧ cF C ≤ 3 ∧ (∀ f, f < cF C → cA C f ≤ 9 ∧ cB C f ≤ 9) ∧ cN C ≤ 4 ∧ (∀ x, x < cN C → 1 ≤ cR C x ∧ cR C x ≤ 9) ∧ ∀ x, x < cN C → Shf (cR C x) (pN (P x)) (pS (P x)) ∧ pH (P x) = 0 ∧ pC (P x) = fun _ => 0
theorem fgE {X : Tx} {a lo hi : Nat} (h : fg X a lo hi = true) : a < X.1 ∧ 48 + lo ≤ X.2 a ∧ X.2 a ≤ 48 + hi := of_decide_eq_true h
theorem stp_wf {X : Tx} {a : Nat} {C : Cf} {P : Nat → Prx} (h : WfQ C P) : WfQ (stp X a C P).2.2.1 (stp X a C P).2.2.2 ∧ ((stp X a C P).1 = true → a + 3 ≤ (stp X a C P).2.1) := by
  have no : ∀ b : Nat, WfQ ((false, b, C, P) : Rs).2.2.1 ((false, b, C, P) : Rs).2.2.2 ∧ (((false, b, C, P) : Rs).1 = true → a + 3 ≤ ((false, b, C, P) : Rs).2.1) := fun b => ⟨h, fun q => absurd q Bool.false_ne_true⟩
  obtain ⟨w1, w2, w3, w4, w5, w6, w7⟩ := h
  unfold stp
  by_cases l1 : X.2 a = 104
  · rw [if_pos l1]
    unfold stpF
    by_cases b1 : cF C < 3
    · rw [if_pos b1]
      by_cases b2 : fg X (a + 1) 1 9 = true
      · rw [if_pos b2]
        by_cases b3 : fg X (a + 2) 0 9 = true
        · rw [if_pos b3]
          have f1 := fgE b2
          have f2 := fgE b3
          refine ⟨⟨w1, w2, (show cF C + 1 ≤ 3 by omega), fun f hf => ?_, w5, w6, w7⟩, fun _ => Nat.le_refl _⟩
          have hf' : f < cF C + 1 := hf
          show (if f = cF C then X.2 (a + 1) - 48 else cA C f) ≤ 9 ∧ (if f = cF C then X.2 (a + 2) - 48 else cB C f) ≤ 9
          by_cases hff : f = cF C
          · rw [if_pos hff, if_pos hff]; omega
          · rw [if_neg hff, if_neg hff]; exact w4 f (by omega)
        · rw [if_neg b3]; exact no _
      · rw [if_neg b2]; exact no _
    · rw [if_neg b1]; exact no _
  · rw [if_neg l1]
    by_cases l2 : X.2 a = 112
    · rw [if_pos l2]
      unfold stpP
      by_cases b1 : cN C < 4
      · rw [if_pos b1]
        by_cases b2 : fg X (a + 1) 1 9 = true
        · rw [if_pos b2]
          by_cases b3 : fg X (a + 2) 1 9 = true
          · rw [if_pos b3]
            have f1 := fgE b2
            have f2 := fgE b3
            refine ⟨⟨w1, w2, w3, w4, (show cN C + 1 ≤ 4 by omega), fun x hx => ?_, fun x hx => ?_⟩, fun _ => Nat.le_refl _⟩
            · have hx' : x < cN C + 1 := hx
              show 1 ≤ (if x = cN C then X.2 (a + 1) - 48 else cR C x) ∧ (if x = cN C then X.2 (a + 1) - 48 else cR C x) ≤ 9
              by_cases hxx : x = cN C
              · rw [if_pos hxx]; omega
              · rw [if_neg hxx]; exact w6 x (by omega)
            · have hx' : x < cN C + 1 := hx
              show Shf (if x = cN C then X.2 (a + 1) - 48 else cR C x) (pN (newP P (cN C) (X.2 (a + 2) - 48) x)) (pS (newP P (cN C) (X.2 (a + 2) - 48) x)) ∧ pH (newP P (cN C) (X.2 (a + 2) - 48) x) = 0 ∧ pC (newP P (cN C) (X.2 (a + 2) - 48) x) = fun _ => 0
              unfold newP
              by_cases hxx : x = cN C
              · rw [if_pos hxx, if_pos hxx]
                exact ⟨⟨Nat.zero_le _, by omega, fun k hk => absurd (show k < 0 from hk) (Nat.not_lt_zero _), fun i j hi => absurd (show i < 0 from hi) (Nat.not_lt_zero _)⟩, rfl, rfl⟩
              · rw [if_neg hxx, if_neg hxx]; exact w7 x (by omega)
          · rw [if_neg b3]; exact no _
        · rw [if_neg b2]; exact no _
      · rw [if_neg b1]; exact no _
    · rw [if_neg l2]
      by_cases l3 : X.2 a = 115
      · rw [if_pos l3]
        unfold stpS
        by_cases b0 : anyR C P = true
        · rw [if_pos b0]
          by_cases b1 : isX X (a + 1) C P = true
          · rw [if_pos b1]
            by_cases b2 : isT X (a + 2) (P (X.2 (a + 1) - 48)) = true
            · rw [if_pos b2]
              by_cases b3 : isO X (a + 3) (X.2 (a + 2) - 48) (P (X.2 (a + 1) - 48)) = true
              · rw [if_pos b3]
                have f1 := of_decide_eq_true b1
                have f3 := (Bool.and_eq_true _ _).mp b3
                have f4 := (Bool.and_eq_true _ _).mp f3.2
                have p32 := of_decide_eq_true f4.1
                refine ⟨⟨w1, w2, w3, w4, w5, w6, fun y hy => ?_⟩, fun _ => (show a + 3 ≤ a + 4 by omega)⟩
                show Shf (cR C y) (pN (psh P (X.2 (a + 1) - 48) (10 * (X.2 (a + 2) - 48) + (X.2 (a + 3) - 48)) y)) (pS (psh P (X.2 (a + 1) - 48) (10 * (X.2 (a + 2) - 48) + (X.2 (a + 3) - 48)) y)) ∧ pH (psh P (X.2 (a + 1) - 48) (10 * (X.2 (a + 2) - 48) + (X.2 (a + 3) - 48)) y) = 0 ∧ pC (psh P (X.2 (a + 1) - 48) (10 * (X.2 (a + 2) - 48) + (X.2 (a + 3) - 48)) y) = fun _ => 0
                unfold psh
                by_cases hyx : y = X.2 (a + 1) - 48
                · rw [if_pos hyx, ← hyx]
                  rw [← hyx] at f1 f4
                  obtain ⟨⟨s1, s2, s3, s4⟩, s5⟩ := w7 y hy
                  have hno : ∀ k, k < pN (P y) → pS (P y) k ≠ 10 * (X.2 (a + 2) - 48) + (X.2 (a + 3) - 48) := by
                    have h9 := f4.2
                    unfold onS at h9
                    cases hpl : pl (pS (P y)) (10 * (X.2 (a + 2) - 48) + (X.2 (a + 3) - 48)) (pN (P y)) with
                    | none => exact pl_none hpl
                    | some j => rw [hpl] at h9; exact absurd h9 Bool.false_ne_true
                  generalize 10 * (X.2 (a + 2) - 48) + (X.2 (a + 3) - 48) = p at p32 hno
                  refine ⟨⟨(show pN (P y) + 1 ≤ cR C y by omega), s2, fun k hk => ?_, fun i j hi hj e => ?_⟩, s5⟩
                  · have hk' : k < pN (P y) + 1 := hk
                    show (if k = pN (P y) then p else pS (P y) k) < 32
                    by_cases hkn : k = pN (P y)
                    · rw [if_pos hkn]; exact p32
                    · rw [if_neg hkn]; exact s3 k (by omega)
                  · have hi' : i < pN (P y) + 1 := hi
                    have hj' : j < pN (P y) + 1 := hj
                    have e' : (if i = pN (P y) then p else pS (P y) i) = (if j = pN (P y) then p else pS (P y) j) := e
                    by_cases hin : i = pN (P y)
                    · rw [if_pos hin] at e'
                      by_cases hjn : j = pN (P y)
                      · omega
                      · rw [if_neg hjn] at e'; exact absurd e'.symm (hno j (by omega))
                    · rw [if_neg hin] at e'
                      by_cases hjn : j = pN (P y)
                      · rw [if_pos hjn] at e'; exact absurd e' (hno i (by omega))
                      · rw [if_neg hjn] at e'; exact s4 i j (by omega) (by omega) e'
                · rw [if_neg hyx]; exact w7 y hy
              · rw [if_neg b3]; exact no _
            · rw [if_neg b2]; exact no _
          · rw [if_neg b1]; exact no _
        · rw [if_neg b0]; exact no _
      · rw [if_neg l3]; exact no _

/-! observations, on both sides -/
/-- how many; the proxies, the sorts, the truths -/
abbrev Ob : Type := Nat × (Nat → Nat) × (Nat → Nat) × (Nat → Nat)
abbrev oN (O : Ob) : Nat := O.1
abbrev oP (O : Ob) : Nat → Nat := O.2.1
abbrev oW (O : Ob) : Nat → Nat := O.2.2.1
abbrev oT (O : Ob) : Nat → Nat := O.2.2.2
def WfO (O : Ob) : Prop := oN O ≤ 6 ∧ ∀ k, k < oN O → oP O k < 4 ∧ oW O k < 3 ∧ oT O k < 2
def ObC (I : HI) (B : Nat) (O : Ob) : Prop := I (B + 296) 3 = nI (oN O) ∧ ∀ k, k < oN O → I (B + 296 + 1) k = nI (oP O k) ∧ I (B + 296 + 2) k = nI (oW O k) ∧ I (B + 296 + 3) k = nI (oT O k)
def ObR (I : HI) (m : Nat) (O : Ob) : Prop := I m 25 = nI (oN O) ∧ ∀ k, k < oN O → I (m + 14) k = nI (oP O k) ∧ I (m + 15) k = nI (oW O k) ∧ I (m + 16) k = nI (oT O k)
def addO (x w o : Nat) (O : Ob) : Ob := (oN O + 1, (fun k => if k = oN O then x else oP O k), (fun k => if k = oN O then w else oW O k), fun k => if k = oN O then o else oT O k)
def aSee (C : Cf) (v w o : Int32) (O : Ob) : Int32 × Ob := if isIn v (cN C) = true then (if isIn w 3 = true ∧ isIn o 2 = true then (if oN O = 6 then (-4, O) else (nI (oN O + 1), addO v.toNatClampNeg w.toNatClampNeg o.toNatClampNeg O)) else (-2, O)) else (-1, O)
theorem addO_wf {x w o : Nat} {O : Ob} (h : WfO O) (hN : oN O ≠ 6) (hx : x < 4) (hw : w < 3) (ho : o < 2) : WfO (addO x w o O) := by
  refine ⟨by have := h.1; show oN O + 1 ≤ 6; omega, fun k hk => ?_⟩
  have hk' : k < oN O + 1 := hk
  show (if k = oN O then x else oP O k) < 4 ∧ (if k = oN O then w else oW O k) < 3 ∧ (if k = oN O then o else oT O k) < 2
  by_cases hkN : k = oN O
  · rw [if_pos hkN, if_pos hkN, if_pos hkN]; exact ⟨hx, hw, ho⟩
  · rw [if_neg hkN, if_neg hkN, if_neg hkN]; exact h.2 k (by omega)
theorem aSee_wf {C : Cf} {v w o : Int32} {O : Ob} (hC : WfC C) (h : WfO O) : WfO (aSee C v w o O).2 := by
  have hn := hC.2.2.2.2.1
  unfold aSee
  by_cases h1 : isIn v (cN C) = true
  · rw [if_pos h1]
    by_cases h2 : isIn w 3 = true ∧ isIn o 2 = true
    · rw [if_pos h2]
      by_cases h3 : oN O = 6
      · rw [if_pos h3]; exact h
      · rw [if_neg h3]
        obtain ⟨x, hx, rfl⟩ := isIn_of h1 (by omega)
        obtain ⟨w, hw, rfl⟩ := isIn_of h2.1 (by omega)
        obtain ⟨o, ho, rfl⟩ := isIn_of h2.2 (by omega)
        rw [ncl (by omega), ncl (by omega), ncl (by omega)]
        exact addO_wf h h3 (by omega) hw ho
    · rw [if_neg h2]; exact h
  · rw [if_neg h1]; exact h
def OffO (I I' : HI) (B : Nat) : Prop := Off I I' (B + 296) 4
theorem x5_add {I : HI} {B x w o : Nat} {O : Ob} (h : ObC I B O) (hN : oN O < 6) (hx : x < 4) (hw : w < 3) (ho : o < 2) : ∃ I', (ObC I' B (addO x w o O) ∧ Off I I' (B + 296) 4) ∧ f_X5_add I (B + 296) (nI x) (nI w) (nI o) = some (1, I') := by
  obtain ⟨h0, h1⟩ := h
  have l6 : nI (oN O) < (6 : Int32) := by rw [i_6, nlt (by omega) (by omega)]; exact hN
  have hzb : zb (nI o) := by
    rcases (show o = 0 ∨ o = 1 by omega) with rfl | rfl
    · exact Or.inl rfl
    · exact Or.inr rfl
  unfold f_X5_add
  rw [h0, if_neg (nI_pos (by omega)), if_pos l6, if_pos l6, if_pos l6, gv (by omega) (by omega), lt1s, ncl (by omega), sI_ne (by omega), h0, gv (by omega) (by omega), lt1s, ncl (by omega), sI_ne (by omega), sI_ne (by omega), h0, gv (by omega) (by omega), gdt hzb, lt1s, ncl (by omega), sI_ne (by omega), sI_ne (by omega), sI_ne (by omega), h0, ninc, lt1s]
  refine ⟨_, ⟨⟨?_, fun k hk => ⟨?_, ?_, ?_⟩⟩, (((Off.s (by omega)).tr (Off.s (by omega))).tr (Off.s (by omega))).tr (Off.s (by omega))⟩, rfl⟩
  · rw [sI_eq, uR_eq]; rfl
  · have hk' : k < oN O + 1 := hk
    rw [sI_ne (by omega), sI_ne (by omega), sI_ne (by omega), sI_eq]
    show uR _ _ _ k = nI (if k = oN O then x else oP O k)
    unfold uR
    by_cases hkN : k = oN O
    · rw [if_pos hkN, if_pos hkN]
    · rw [if_neg hkN, if_neg hkN]; exact (h1 k (by omega)).1
  · have hk' : k < oN O + 1 := hk
    rw [sI_ne (by omega), sI_ne (by omega), sI_eq]
    show uR _ _ _ k = nI (if k = oN O then w else oW O k)
    unfold uR
    by_cases hkN : k = oN O
    · rw [if_pos hkN, if_pos hkN]
    · rw [if_neg hkN, if_neg hkN, sI_ne (by omega)]; exact (h1 k (by omega)).2.1
  · have hk' : k < oN O + 1 := hk
    rw [sI_ne (by omega), sI_eq]
    show uR _ _ _ k = nI (if k = oN O then o else oT O k)
    unfold uR
    by_cases hkN : k = oN O
    · rw [if_pos hkN, if_pos hkN]
    · rw [if_neg hkN, if_neg hkN, sI_ne (by omega), sI_ne (by omega)]; exact (h1 k (by omega)).2.2
theorem x5_full {I : HI} {B : Nat} {O : Ob} {x w o : Int32} (h : ObC I B O) (hN : oN O = 6) : f_X5_add I (B + 296) x w o = some (0, I) := by
  unfold f_X5_add
  rw [h.1, if_neg (nI_pos (by omega)), if_neg (show ¬ nI (oN O) < (6 : Int32) by rw [hN]; decide)]
theorem x7_see {I : HI} {B : Nat} {C : Cf} {S : St} {O : Ob} {v w o : Int32} (hC : WfC C) (h : ClAt I B C S) (hO : ObC I B O) (hw : WfO O) : ∃ I', (ObC I' B (aSee C v w o O).2 ∧ Off I I' (B + 296) 4) ∧ f_X7_see I B v w o = some ((aSee C v w o O).1, I') := by
  have hn := hC.2.2.2.2.1
  unfold f_X7_see
  rcases x1_proxyIn hC h.1 v with ⟨x, hx, rfl, e1, e2⟩ | ⟨e1, e2⟩
  · rw [e2, bd1s, mNs]
    have no : ¬ (isIn w 3 = true ∧ isIn o 2 = true) → aSee C (nI x) w o O = (-2, O) := fun q => by
      unfold aSee
      rw [if_pos e1, if_neg q]
    have r2 : ∃ I', (ObC I' B O ∧ Off I I' (B + 296) 4) ∧ some ((-2 : Int32), I) = some ((-2 : Int32), I') := ⟨I, ⟨hO, Off.rf⟩, rfl⟩
    by_cases a1 : w < 0
    · rw [if_pos a1, no (fun q => by rw [isIn_no (v := w) (by omega) (Or.inl a1)] at q; exact Bool.false_ne_true q.1)]
      exact r2
    · obtain ⟨w, hw', rfl⟩ := nI_of a1
      rw [if_neg a1]
      by_cases a2 : w < 3
      · rw [if_neg (show ¬ (2 : Int32) < nI w by rw [i_2, nlt (by omega) (by omega)]; omega)]
        by_cases a3 : o < 0
        · rw [if_pos a3, no (fun q => by rw [isIn_no (v := o) (by omega) (Or.inl a3)] at q; exact Bool.false_ne_true q.2)]
          exact r2
        · obtain ⟨o, ho', rfl⟩ := nI_of a3
          rw [if_neg a3]
          by_cases a4 : o < 2
          · have ej : (if nI o = (1 : Int32) then X7_see_J50 I B (B + 296) (nI x) (nI w) 1 else X7_see_J50 I B (B + 296) (nI x) (nI w) 0) = X7_see_J50 I B (B + 296) (nI x) (nI w) (nI o) := by
              rcases (show o = 0 ∨ o = 1 by omega) with rfl | rfl
              · exact if_neg (by decide)
              · exact if_pos rfl
            have ea : aSee C (nI x) (nI w) (nI o) O = if oN O = 6 then (-4, O) else (nI (oN O + 1), addO x w o O) := by
              unfold aSee
              rw [if_pos e1, if_pos ⟨isIn_nI a2 (by omega), isIn_nI a4 (by omega)⟩, ncl (by omega), ncl (by omega), ncl (by omega)]
            rw [if_neg (show ¬ (1 : Int32) < nI o by rw [i_1, nlt (by omega) (by omega)]; omega), ej, ea]
            unfold X7_see_J50
            by_cases h6 : oN O = 6
            · rw [x5_full hO h6, bd2s, if_pos rfl, if_pos h6]
              exact ⟨I, ⟨hO, Off.rf⟩, rfl⟩
            · obtain ⟨I1, ⟨b1, b2⟩, b3⟩ := x5_add (x := x) hO (by have := hw.1; omega) (by omega) a2 a4
              rw [b3, bd2s, if_neg (show ¬ (1 : Int32) = 0 by decide), if_neg h6, b1.1]
              exact ⟨I1, ⟨b1, b2⟩, rfl⟩
          · rw [if_pos (show (1 : Int32) < nI o by rw [i_1, nlt (by omega) (by omega)]; omega), no (fun q => by rw [isIn_no (v := nI o) (n := 2) (by omega) (Or.inr (by rw [nle (by omega) (by omega)]; omega))] at q; exact Bool.false_ne_true q.2)]
            exact r2
      · rw [if_pos (show (2 : Int32) < nI w by rw [i_2, nlt (by omega) (by omega)]; omega), no (fun q => by rw [isIn_no (v := nI w) (n := 3) (by omega) (Or.inr (by rw [nle (by omega) (by omega)]; omega))] at q; exact Bool.false_ne_true q.1)]
        exact r2
  · have ea : aSee C v w o O = (-1, O) := if_neg (by rw [e1]; simp)
    rw [e2, bd1s, mNn, ea]
    exact ⟨I, ⟨hO, Off.rf⟩, rfl⟩
/-- what an observation leaves alone, on the reference's side -/
def OffRO (I I' : HI) (m : Nat) : Prop := (∀ z, z ≠ m → ¬ (m + 14 ≤ z ∧ z < m + 17) → I' z = I z) ∧ ∀ k, k ≠ 0 → k ≠ 25 → I' m k = I m k
theorem r8_in2 (v : Int32) : f_X8_in v.toInt64 0 2 = some (bZ (isIn v 3)) := by
  rw [r8_in]
  have e0 : (0 : Int64).toInt = 0 := by decide
  have e1 : (2 : Int64).toInt = 2 := by decide
  rw [e0, e1]
  unfold isIn
  congr 2
  exact decide_eq_decide.mpr (by omega)
theorem ObR.z {I : HI} {m : Nat} {O : Ob} (h : ObR I m O) : ObR (sI I m 0 0) m O := by
  refine ⟨by rw [sI_eq, uR_ne (by omega)]; exact h.1, fun k hk => ?_⟩
  rw [sI_ne (by omega), sI_ne (by omega), sI_ne (by omega)]
  exact h.2 k hk
theorem OffRO.z {I : HI} {m : Nat} : OffRO I (sI I m 0 0) m := ⟨fun z a _ => sI_ne a, fun k a _ => by rw [sI_eq, uR_ne a]⟩
theorem r8_see {I : HI} {m : Nat} {C : Cf} {S : St} {O : Ob} {v w o : Int32} (hC : WfC C) (h : RfAt I m C S) (hO : ObR I m O) (hw : WfO O) : ∃ I', (ObR I' m (aSee C v w o O).2 ∧ OffRO I I' m) ∧ f_X8_see I m v w o = some ((aSee C v w o O).1, I') := by
  have hn := hC.2.2.2.2.1
  have hN6 := hw.1
  have r2 : ∀ a : Int32, ∃ I', (ObR I' m O ∧ OffRO I I' m) ∧ some (a, sI I m 0 0) = some (a, I') := fun a => ⟨sI I m 0 0, ⟨hO.z, OffRO.z⟩, rfl⟩
  unfold f_X8_see
  rw [lt1s, r8_noProxy hC h.z.1.2.2.2.1, bd1s]
  cases e1 : isIn v (cN C) with
  | false =>
    have ea : aSee C v w o O = (-1, O) := if_neg (by rw [e1]; simp)
    rw [if_neg (show ¬ bZ (!false) = 0 from bZt), ea]
    exact r2 _
  | true =>
    obtain ⟨x, hx, rfl⟩ := isIn_of e1 (by omega)
    rw [if_pos (show bZ (!true) = 0 from bZf), r8_in2, bd1s]
    cases e2 : isIn w 3 with
    | false =>
      have ea : aSee C (nI x) w o O = (-2, O) := by
        unfold aSee
        rw [if_pos e1, if_neg (fun q => by rw [e2] at q; exact Bool.false_ne_true q.1)]
      rw [if_pos bZf, ea]
      exact r2 _
    | true =>
      rw [if_neg bZt, r8_in1, bd1s]
      cases e3 : isIn o 2 with
      | false =>
        have ea : aSee C (nI x) w o O = (-2, O) := by
          unfold aSee
          rw [if_pos e1, if_neg (fun q => by rw [e3] at q; exact Bool.false_ne_true q.2)]
        rw [if_pos bZf, ea]
        exact r2 _
      | true =>
        obtain ⟨w, hw', rfl⟩ := isIn_of e2 (by omega)
        obtain ⟨o, ho', rfl⟩ := isIn_of e3 (by omega)
        have ea : aSee C (nI x) (nI w) (nI o) O = if oN O = 6 then (-4, O) else (nI (oN O + 1), addO x w o O) := by
          unfold aSee
          rw [if_pos e1, if_pos ⟨e2, e3⟩, ncl (by omega), ncl (by omega), ncl (by omega)]
        have hz := hO.z
        rw [if_neg bZt, ea, hz.1]
        by_cases h6 : oN O = 6
        · rw [if_pos (show nI (oN O) = 6 by rw [h6]; rfl), if_pos h6]
          exact r2 _
        · rw [if_neg (show ¬ nI (oN O) = 6 by rw [i_6, neq (by omega) (by omega)]; exact h6), if_neg h6]
          have hzo : OffRO I (sI I m 0 0) m := OffRO.z
          generalize sI I m 0 0 = I0 at hz hzo
          obtain ⟨h0, h1⟩ := hz
          rw [gv (by omega) (by omega), lt1s, ncl (by omega), sI_ne (by omega), h0, gv (by omega) (by omega), lt1s, ncl (by omega), sI_ne (by omega), sI_ne (by omega), h0, gv (by omega) (by omega), lt1s, ncl (by omega), sI_ne (by omega), sI_ne (by omega), sI_ne (by omega), h0, ninc, lt1s, sI_eq, uR_eq]
          refine ⟨_, ⟨⟨?_, fun k hk => ⟨?_, ?_, ?_⟩⟩, ⟨fun z a b => ?_, fun k a b => ?_⟩⟩, rfl⟩
          · rw [sI_eq, uR_eq]; rfl
          · have hk' : k < oN O + 1 := hk
            rw [sI_ne (by omega), sI_ne (by omega), sI_ne (by omega), sI_eq]
            show uR _ _ _ k = nI (if k = oN O then x else oP O k)
            unfold uR
            by_cases hkN : k = oN O
            · rw [if_pos hkN, if_pos hkN]
            · rw [if_neg hkN, if_neg hkN]; exact (h1 k (by omega)).1
          · have hk' : k < oN O + 1 := hk
            rw [sI_ne (by omega), sI_ne (by omega), sI_eq]
            show uR _ _ _ k = nI (if k = oN O then w else oW O k)
            unfold uR
            by_cases hkN : k = oN O
            · rw [if_pos hkN, if_pos hkN]
            · rw [if_neg hkN, if_neg hkN, sI_ne (by omega)]; exact (h1 k (by omega)).2.1
          · have hk' : k < oN O + 1 := hk
            rw [sI_ne (by omega), sI_eq]
            show uR _ _ _ k = nI (if k = oN O then o else oT O k)
            unfold uR
            by_cases hkN : k = oN O
            · rw [if_pos hkN, if_pos hkN]
            · rw [if_neg hkN, if_neg hkN, sI_ne (by omega), sI_ne (by omega)]; exact (h1 k (by omega)).2.2
          · rw [sI_ne a, sI_ne (by omega), sI_ne (by omega), sI_ne (by omega)]; exact hzo.1 z a b
          · rw [sI_eq, uR_ne b, sI_ne (by omega), sI_ne (by omega), sI_ne (by omega)]; exact hzo.2 k a b
def aUns (O : Ob) : Int32 × Ob := (nI (oN O), (0, O.2))
theorem x7_unsee {I : HI} {B : Nat} {O : Ob} (h : ObC I B O) : ∃ I', (ObC I' B (aUns O).2 ∧ Off I I' (B + 296) 4) ∧ f_X7_unsee I B = some ((aUns O).1, I') := by
  unfold f_X7_unsee
  rw [lt1s, lt1s, h.1]
  exact ⟨_, ⟨⟨by rw [sI_eq, uR_eq]; rfl, fun k hk => absurd (show k < 0 from hk) (Nat.not_lt_zero _)⟩, Off.s (by omega)⟩, rfl⟩
theorem r8_unsee {I : HI} {m : Nat} {O : Ob} (h : ObR I m O) : ∃ I', (ObR I' m (aUns O).2 ∧ OffRO I I' m) ∧ f_X8_unsee I m = some ((aUns O).1, I') := by
  unfold f_X8_unsee
  rw [lt1s, lt1s, lt1s, h.z.1]
  exact ⟨_, ⟨⟨by rw [sI_eq, uR_eq]; rfl, fun k hk => absurd (show k < 0 from hk) (Nat.not_lt_zero _)⟩, ⟨fun z a _ => by rw [sI_ne a, sI_ne a], fun k a b => by rw [sI_eq, uR_ne b, sI_eq, uR_ne a]⟩⟩, rfl⟩
/-- what is observed -/
def soB (C : Cf) (N : Nt) (x w p : Nat) : Bool := if w = 0 then onS (nP N x) p else if w = 1 then con (pM (nP N x)) (cel C (nF N) p) (cK C) else con (flt (pC (nP N x)) 16) (cel C (nF N) p) (cK C)
def ag1 (C : Cf) (N : Nt) (O : Ob) (p k : Nat) : Bool := decide (cN C ≤ oP O k) || (soB C N (oP O k) (oW O k) p == decide (oT O k = 1))
def agr (C : Cf) (N : Nt) (O : Ob) (p : Nat) : Nat → Bool
  | 0 => true
  | k + 1 => agr C N O p k && ag1 C N O p k
def aWhich (C : Cf) (S : St) (O : Ob) : Int32 := bsI (fun p => agr C S.1 O p (oN O)) 32
theorem agr_false {C : Cf} {N : Nt} {O : Ob} {p k : Nat} (h : ag1 C N O p k = false) : ∀ {n : Nat}, k < n → agr C N O p n = false
  | n + 1, hn => by
    rw [agr]
    by_cases hk : k = n
    · subst hk; rw [h, Bool.and_false]
    · rw [agr_false h (n := n) (by omega), Bool.false_and]
theorem x1_isSoB {I : HI} {n x w p t : Nat} {C : Cf} {N : Nt} (hC : WfC C) (h : NtAt I n C N) (hw : WfN C t N) (hx : x < cN C) (hp : p < 32) (hw3 : w < 3) : f_X1_isSo I n (n + 4 + 1 + 3 * x) (nI w) (nI p) = some (bZ (soB C N x w p)) := by
  rcases (show w = 0 ∨ w = 1 ∨ w = 2 by omega) with rfl | rfl | rfl
  · exact x1_isSo0 (h.2.2.2.2.2.2 x hx) (hw.shf hx) hp
  · exact x1_isSo1 hC h hw hx hp
  · exact x1_isSo2 hC h hw hx hp
theorem bz_n (b : Bool) {o : Nat} (ho : o < 2) : (bZ b = nI o) = ((b == decide (o = 1)) = true) := by
  rcases (show o = 0 ∨ o = 1 by omega) with rfl | rfl <;> cases b <;> decide
theorem x5_agrees {I : HI} {B t p : Nat} {C : Cf} {S : St} {O : Ob} (hC : WfC C) (h : ClAt I B C S) (hw : WfS C t S) (hO : ObC I B O) (hwO : WfO O) (hp : p < 32) : f_X5_agrees I (B + 296) (B + 20) (nI p) = some (bZ (agr C S.1 O p (oN O))) := by
  have hn := hC.2.2.2.2.1
  have h6 := hwO.1
  unfold f_X5_agrees
  have key := wl1_inv (F := X5_agrees_B2 I (B + 296) (B + 20) (nI p)) (Post := fun v => v = bZ (agr C S.1 O p (oN O))) (Inv := fun i (x : Int32) => x = nI i ∧ agr C S.1 O p i = true) (m := oN O) ?_ ?_ (oN O) 0 5000 (nI 0) (by omega) (by omega) ⟨rfl, rfl⟩
  · obtain ⟨r, e, h⟩ := key
    rw [← e]; exact h
  · rintro i x hi ⟨rfl, hb⟩
    obtain ⟨o1, o2, o3⟩ := hO.2 i hi
    obtain ⟨q1, q2, q3⟩ := hwO.2 i hi
    have l6 : nI i < (6 : Int32) := by rw [i_6, nlt (by omega) (by omega)]; omega
    have e1 : ∀ {x : Option Int32}, gd (vp_in (nI i) 6) x = x := gv (by omega) (by omega)
    have go : ∀ k : Int32 → Option Int32, ag1 C S.1 O p i = true → X5_agrees_B2 I (B + 296) (B + 20) (nI p) k (nI i) = k (nI (i + 1)) := by
      intro k ha
      unfold X5_agrees_B2 X5_agrees_J78
      rw [hO.1, if_pos (show nI i < nI (oN O) by rw [nlt (by omega) (by omega)]; exact hi), if_pos l6, if_pos l6, if_pos l6, e1, ncl (by omega), o1, o2, o3]
      by_cases hx : oP O i < cN C
      · rw [x1_proxyAt hn h.1 hx, bd1s, mNs, e1, x1_isSoB hC h.1 hw.1 hx hp q2, bd1s, e1, if_pos ?_, lt1s, ninc]
        unfold ag1 at ha
        rw [decide_eq_false (by omega), Bool.false_or] at ha
        rw [bz_n _ q3]; exact ha
      · rcases x1_proxyIn hC h.1 (nI (oP O i)) with ⟨y, hy, ey, -, -⟩ | ⟨-, e⟩
        · rw [neq (by omega) (by omega)] at ey; omega
        · rw [e, bd1s, mNn, lt1s, ninc]
    cases ha : ag1 C S.1 O p i with
    | true => exact Or.inl ⟨nI (i + 1), ⟨rfl, by rw [agr, hb, ha]; rfl⟩, fun k => go k ha⟩
    | false =>
      refine Or.inr ⟨0, by rw [agr_false ha hi]; rfl, fun k => ?_⟩
      unfold ag1 at ha
      rw [Bool.or_eq_false_iff] at ha
      have hx : oP O i < cN C := by have := of_decide_eq_false ha.1; omega
      unfold X5_agrees_B2
      rw [hO.1, if_pos (show nI i < nI (oN O) by rw [nlt (by omega) (by omega)]; exact hi), if_pos l6, if_pos l6, if_pos l6, e1, ncl (by omega), o1, o2, o3, x1_proxyAt hn h.1 hx, bd1s, mNs, e1, x1_isSoB hC h.1 hw.1 hx hp q2, bd1s, e1, if_neg ?_]
      rw [bz_n _ q3, ha.2]; exact Bool.false_ne_true
  · rintro x ⟨rfl, hb⟩
    refine ⟨1, by rw [hb]; rfl, fun k => ?_⟩
    unfold X5_agrees_B2
    rw [hO.1, if_neg (show ¬ nI (oN O) < nI (oN O) by rw [nlt (by omega) (by omega)]; omega)]
theorem x7_which {I : HI} {B t : Nat} {C : Cf} {S : St} {O : Ob} (hC : WfC C) (h : ClAt I B C S) (hw : WfS C t S) (hO : ObC I B O) (hwO : WfO O) : f_X7_which I B = some (aWhich C S O) := by
  have e : f_X5_agreeing I (B + 296) (B + 20) = some (aWhich C S O) := by
    unfold f_X5_agreeing
    refine wl2_to (F := X5_agreeing_B4 I (B + 296) (B + 20)) (fun i => bsI (fun p => agr C S.1 O p (oN O)) i) (fun i => nI i) (m := 32) (fun i k hi => ?_) (fun k => ?_) 32 0 5000 (by omega) (by omega)
    · unfold X5_agreeing_B4 X5_agreeing_J25
      rw [if_pos (show nI i < (32 : Int32) by rw [i_32, nlt (by omega) (by omega)]; exact hi), x5_agrees hC h hw hO hwO hi, bd1s, bsI]
      cases agr C S.1 O i (oN O) with
      | true => rw [if_neg bZt, lt1s, lt1s, ninc, if_pos rfl]
      | false => rw [if_pos bZf, lt1s, ninc, if_neg (by decide)]
    · unfold X5_agreeing_B4
      rw [if_neg (show ¬ nI 32 < (32 : Int32) by decide)]
      rfl
  unfold f_X7_which
  rw [e, bd1s]
theorem r8_isSo {I : HI} {m t p k : Nat} {C : Cf} {S : St} {O : Ob} (hC : WfC C) (h : RfAt I m C S) (hw : WfS C t S) (hO : ObR I m O) (hwO : WfO O) (hp : p < 32) (hk : k < oN O) : f_X8_isSo I m (nI p) (nI k) = some (bZ (ag1 C S.1 O p k)) := by
  have hn := hC.2.2.2.2.1
  have h6 := hwO.1
  obtain ⟨o1, o2, o3⟩ := hO.2 k hk
  obtain ⟨q1, q2, q3⟩ := hwO.2 k hk
  have e1 : ∀ {x : Option Int32}, gd (vp_in (nI k) 6) x = x := gv (by omega) (by omega)
  unfold f_X8_isSo
  rw [e1, ncl (by omega), o1, lt1s, r8_noProxy hC h.1.2.2.2.1, bd1s, o2]
  by_cases hx : oP O k < cN C
  · have ea : ag1 C S.1 O p k = (soB C S.1 (oP O k) (oW O k) p == decide (oT O k = 1)) := by
      unfold ag1
      rw [decide_eq_false (by omega), Bool.false_or]
    have fin : ∀ b : Bool, X8_isSo_J92 I m (nI k) (bZ b) = some (bZ (b == decide (oT O k = 1))) := by
      intro b
      unfold X8_isSo_J92 X8_isSo_J111
      rw [e1, ncl (by omega), o3]
      rcases (show oT O k = 0 ∨ oT O k = 1 by omega) with e | e <;> rw [e] <;> cases b <;> rfl
    have hsh := hw.1.shf hx
    rw [isIn_nI hx (by omega), if_pos (show bZ (!true) = 0 from bZf), e1, ea]
    rcases (show oW O k = 0 ∨ oW O k = 1 ∨ oW O k = 2 by omega) with e | e | e
    · have hpo := r8_placeOf (I := I) (w := m + 9) (h.2.1.1 _ hx) hsh (by omega) hp
      rw [rowS_id] at hpo
      rw [e, if_pos (show nI 0 = 0 from rfl), hpo, bd1s]
      have es : soB C S.1 (oP O k) 0 p = onS (nP S.1 (oP O k)) p := if_pos rfl
      rw [es]
      unfold onS
      cases hpl : pl (pS (nP S.1 (oP O k))) p (pN (nP S.1 (oP O k))) with
      | none => rw [if_pos (show plV none = (-9 : Int32) from rfl)]; exact fin false
      | some i =>
        have hi := (pl_some hpl).1
        rw [if_neg (show ¬ plV (some i) = (-9 : Int32) by show ¬ nI i = m9; rw [nI_m9 (by have := hsh.1; have := hsh.2.1; omega)]; exact id)]
        exact fin true
    · rw [e, if_neg (show ¬ nI 1 = 0 by decide), e1, if_pos (show nI 1 = 1 from rfl), r8_sayS hC h hw hx hp, bd1s]
      exact fin _
    · rw [e, if_neg (show ¬ nI 2 = 0 by decide), e1, if_neg (show ¬ nI 2 = 1 by decide), r8_fltS hC h hw hx, bd1s, i_116, gv (by omega) (by omega), ncl (by omega), h.2.1.2.1, r8_isSaid hC h.1 hw.1.1 hp, bd1s]
      exact fin _
  · rw [isIn_no (v := nI (oP O k)) (by omega) (Or.inr (by rw [nle (by omega) (by omega)]; omega)), if_neg (show ¬ bZ (!false) = 0 from bZt)]
    unfold ag1
    rw [decide_eq_true (by omega), Bool.true_or]
    rfl
theorem r8_which {I : HI} {m t : Nat} {C : Cf} {S : St} {O : Ob} (hC : WfC C) (h : RfAt I m C S) (hw : WfS C t S) (hO : ObR I m O) (hwO : WfO O) : f_X8_which I m = some (aWhich C S O, sI I m 0 0) := by
  have h6 := hwO.1
  unfold f_X8_which
  rw [lt1s]
  refine wl2_to (F := X8_which_B9 (sI I m 0 0) m) (fun i => bsI (fun p => agr C S.1 O p (oN O)) i) (fun i => nI i) (m := 32) (fun p k hp => ?_) (fun k => ?_) 32 0 5000 (by omega) (by omega)
  · unfold X8_which_B9
    rw [if_pos (show nI p < (32 : Int32) by rw [i_32, nlt (by omega) (by omega)]; exact hp)]
    refine wl2_to (F := X8_which_B20 (sI I m 0 0) m (bsI (fun p => agr C S.1 O p (oN O)) p) (nI p) k) (fun i => bZ (agr C S.1 O p i)) (fun i => nI i) (m := oN O) (fun i k2 hi => ?_) (fun k2 => ?_) (oN O) 0 5000 (by omega) (by omega)
    · unfold X8_which_B20 X8_which_J47 X8_which_J48
      rw [hO.z.1, if_pos (show nI i < nI (oN O) by rw [nlt (by omega) (by omega)]; exact hi), agr]
      cases agr C S.1 O p i with
      | false => rw [if_pos bZf, lt1s, ninc]; rfl
      | true =>
        rw [if_neg bZt, r8_isSo hC h.z hw hO.z hwO hp hi, bd1s]
        cases ag1 C S.1 O p i with
        | false => rw [if_pos bZf, lt1s, ninc]; rfl
        | true => rw [if_neg bZt, lt1s, ninc]; rfl
    · unfold X8_which_B20 X8_which_J67
      rw [hO.z.1, if_neg (show ¬ nI (oN O) < nI (oN O) by rw [nlt (by omega) (by omega)]; omega), bsI]
      cases agr C S.1 O p (oN O) with
      | false => rw [if_pos bZf, lt1s, lt1s, ninc, if_neg (by decide), Int32.or_zero]
      | true => rw [if_neg bZt, lt1s, lt1s, ninc, if_pos rfl]
  · unfold X8_which_B9
    rw [if_neg (show ¬ nI 32 < (32 : Int32) by decide)]
    rfl

/-! slots, on both sides -/
abbrev Sl : Type := Nat → Option Nt
def SlC (I : HI) (B : Nat) (C : Cf) (K : Sl) : Prop := ∀ k, k < 2 → (K k = none → I (B + 295) k = 0) ∧ ∀ N, K k = some N → I (B + 295) k = 1 ∧ NtAt I (B + 304 + 17 * k) C N
def SlR (I : HI) (m : Nat) (C : Cf) (K : Sl) : Prop := ∀ k, k < 2 → (K k = none → I (m + 13) k = 0) ∧ ∀ N, K k = some N → I (m + 13) k = 1 ∧ RnAt (fun j => I (m + 12) (121 * k + j)) C N
def WfK (C : Cf) (t : Nat) (K : Sl) : Prop := ∀ k, k < 2 → ∀ N, K k = some N → WfN C t N
def putK (k : Nat) (N : Nt) (K : Sl) : Sl := fun j => if j = k then some N else K j
theorem WfK.put {C : Cf} {t k : Nat} {N : Nt} {K : Sl} (h : WfK C t K) (hN : WfN C t N) : WfK C t (putK k N K) := by
  intro j hj M e
  unfold putK at e
  by_cases hjk : j = k
  · rw [if_pos hjk] at e; cases e; exact hN
  · rw [if_neg hjk] at e; exact h j hj M e
theorem WfK.mono {C : Cf} {t t' : Nat} {K : Sl} (h : WfK C t K) (ht : t ≤ t') : WfK C t' K := fun k hk N e => (h k hk N e).mono ht
theorem x7_netAt2 {a e : Nat} (v : Int32) : (∃ k, k < 2 ∧ v = nI k ∧ isIn v 2 = true ∧ f_X7_netAt a 2 e v = some (some (e + 17 * k))) ∨ (isIn v 2 = false ∧ f_X7_netAt a 2 e v = some none) := by
  have en : Int32.ofNat 2 = nI 2 := rfl
  unfold f_X7_netAt
  by_cases h0 : v < 0
  · right; exact ⟨isIn_no (by omega) (Or.inl h0), if_pos h0⟩
  · obtain ⟨j, hj, rfl⟩ := nI_of h0
    rw [if_neg h0, en]
    by_cases hx : j < 2
    · left
      refine ⟨j, hx, rfl, isIn_nI hx (by omega), ?_⟩
      rw [if_pos (show nI j < nI 2 by rw [nlt (by omega) (by omega)]; exact hx), gv hx (by omega), ncl (by omega)]
    · right
      exact ⟨isIn_no (by omega) (Or.inr (nI_le (by omega) hj)), if_neg (show ¬ nI j < nI 2 by rw [nlt (by omega) (by omega)]; exact hx)⟩
def aKeep (C : Cf) (v : Int32) (S : St) (K : Sl) : Int32 × Sl := if isIn v 2 = true then (nI (cN C), putK v.toNatClampNeg S.1 K) else (-1, K)
def OffK (I I' : HI) (B : Nat) : Prop := ∀ z, z ≠ B + 295 → ¬ (B + 304 ≤ z ∧ z < B + 338) → I' z = I z
theorem x7_keep {I : HI} {B t : Nat} {C : Cf} {S : St} {K : Sl} {v : Int32} (hC : WfC C) (h : ClAt I B C S) (hw : WfS C t S) (hK : SlC I B C K) : ∃ I', (SlC I' B C (aKeep C v S K).2 ∧ OffK I I' B) ∧ f_X7_keep I B v = some ((aKeep C v S K).1, I') := by
  have hn := hC.2.2.2.2.1
  unfold f_X7_keep
  rcases x7_netAt2 (a := B + 294) (e := B + 294 + 10) v with ⟨k, hk, rfl, e1, e2⟩ | ⟨e1, e2⟩
  · have ea : aKeep C (nI k) S K = (nI (cN C), putK k S.1 K) := by
      unfold aKeep
      rw [if_pos e1, ncl (by omega)]
    obtain ⟨I1, ⟨a1, a2⟩, a3⟩ := x1_take (I := I) (a := B + 294 + 10 + 17 * k) (b := B + 20) hC (by omega) h.1 hw.1
    rw [e2, bd1s, mNs, if_neg (nI_pos (by omega)), if_pos (show nI k < (2 : Int32) by rw [i_2, nlt (by omega) (by omega)]; exact hk), a3, bd1s, gv hk (by omega), lt1s, ncl (by omega), sI_ne (by omega), ea, a2 _ (by omega), h.1.2.1]
    refine ⟨_, ⟨fun j hj => ?_, fun z b1 b2 => ?_⟩, rfl⟩
    · have hnet : ∀ M, NtAt I1 (B + 304 + 17 * j) C M → NtAt (sI I1 (B + 295) k 1) (B + 304 + 17 * j) C M := fun M hM => hM.kept hn fun q h1 h2 => sI_ne (by omega)
      show (putK k S.1 K j = none → _) ∧ ∀ N, putK k S.1 K j = some N → _
      unfold putK
      by_cases hjk : j = k
      · subst hjk
        rw [if_pos rfl]
        refine ⟨fun e => (by cases e), fun M e => ?_⟩
        cases e
        exact ⟨by rw [sI_eq, uR_eq], hnet _ a1⟩
      · rw [if_neg hjk, sI_eq, uR_ne hjk, a2 _ (by omega)]
        exact ⟨(hK j hj).1, fun M e => ⟨((hK j hj).2 M e).1, hnet _ (((hK j hj).2 M e).2.kept hn fun q h1 h2 => a2 q (by omega))⟩⟩
    · rw [sI_ne b1]; exact a2 z (by omega)
  · have ea : aKeep C v S K = (-1, K) := if_neg (by rw [e1]; simp)
    rw [e2, bd1s, mNn, ea]
    exact ⟨I, ⟨hK, fun z _ _ => rfl⟩, rfl⟩
def OffRK (I I' : HI) (m : Nat) : Prop := (∀ z, z ≠ m → z ≠ m + 12 → z ≠ m + 13 → I' z = I z) ∧ ∀ k, k ≠ 0 → I' m k = I m k
theorem SlR.z {I : HI} {m : Nat} {C : Cf} {K : Sl} (h : SlR I m C K) : SlR (sI I m 0 0) m C K := by
  intro k hk
  rw [sI_ne (by omega), sI_ne (by omega)]
  exact h k hk
theorem OffRK.z {I : HI} {m : Nat} : OffRK I (sI I m 0 0) m := ⟨fun z a _ _ => sI_ne a, fun k a => by rw [sI_eq, uR_ne a]⟩
theorem r8_keep {I : HI} {m t : Nat} {C : Cf} {S : St} {K : Sl} {v : Int32} (hC : WfC C) (h : RfAt I m C S) (hw : WfS C t S) (hK : SlR I m C K) : ∃ I', (SlR I' m C (aKeep C v S K).2 ∧ OffRK I I' m) ∧ f_X8_keep I m v = some ((aKeep C v S K).1, I') := by
  have hn := hC.2.2.2.2.1
  have hz := h.z
  have hKz := hK.z
  have ho : OffRK I (sI I m 0 0) m := OffRK.z
  unfold f_X8_keep
  rw [lt1s, r8_in1, bd1s]
  generalize sI I m 0 0 = I0 at hz hKz ho
  cases e1 : isIn v 2 with
  | false =>
    have ea : aKeep C v S K = (-1, K) := if_neg (by rw [e1]; simp)
    rw [if_pos bZf, ea]
    exact ⟨_, ⟨hKz, ho⟩, rfl⟩
  | true =>
    obtain ⟨k, hk, rfl⟩ := isIn_of e1 (by omega)
    have ea : aKeep C (nI k) S K = (nI (cN C), putK k S.1 K) := by
      unfold aKeep
      rw [if_pos e1, ncl (by omega)]
    rw [if_neg bZt, gv hk (by omega), lt1s, ncl (by omega), ea]
    have key := wl2_inv (F := X8_keep_B26 m (nI k)) (Post := fun o => ∃ I', (SlR I' m C (putK k S.1 K) ∧ OffRK I I' m) ∧ o = (nI (cN C), I')) (Inv := fun i (I1 : HI) (z : Int32) => I1 = rowS (sI I0 (m + 13) k 1) (m + 12) (fun q => if 121 * k ≤ q ∧ q < 121 * k + i then I0 (m + 9) (q - 121 * k) else I0 (m + 12) q) ∧ z = nI i) (m := 121) ?_ ?_ 121 0 5000 (sI I0 (m + 13) k 1) (nI 0) (by omega) (by omega) ⟨?_, rfl⟩
    · obtain ⟨o, ⟨I', b, rfl⟩, e⟩ := key
      exact ⟨I', b, e⟩
    · rintro i I1 z hi ⟨rfl, rfl⟩
      refine Or.inl ⟨_, nI (i + 1), ⟨rfl, rfl⟩, fun kk => ?_⟩
      unfold X8_keep_B26
      rw [i_121, if_pos (show nI i < nI 121 by rw [nlt (by omega) (by omega)]; exact hi), gv hi (by omega), nmul, nadd, gv (by omega) (by omega), lt1s, ncl (by omega), ncl (by omega), rowS_ne (by omega), sI_ne (by omega), rowS_s, lt1s, ninc]
      congr 2
      funext q
      unfold uR
      by_cases hq : q = 121 * k + i
      · rw [if_pos hq, if_pos (by omega), hq, show 121 * k + i - 121 * k = i by omega]
      · rw [if_neg hq]
        dsimp only
        by_cases h2 : 121 * k ≤ q ∧ q < 121 * k + i
        · rw [if_pos h2, if_pos (by omega)]
        · rw [if_neg h2, if_neg (by omega)]
    · rintro I1 z ⟨rfl, rfl⟩
      refine ⟨_, ⟨rowS (sI I0 (m + 13) k 1) (m + 12) (fun q => if 121 * k ≤ q ∧ q < 121 * k + 121 then I0 (m + 9) (q - 121 * k) else I0 (m + 12) q), ⟨fun j hj => ?_, ⟨fun z b1 b2 b3 => ?_, fun q hq => ?_⟩⟩, rfl⟩, fun kk => ?_⟩
      rotate_left 3
      · unfold X8_keep_B26
        rw [if_neg (show ¬ nI 121 < (121 : Int32) by decide), rowS_ne (by omega), sI_ne (by omega), hz.1.2.2.2.1]
      · rw [rowS_ne (by omega), rowS_at, sI_eq]
        show (putK k S.1 K j = none → _) ∧ ∀ N, putK k S.1 K j = some N → _
        unfold putK
        by_cases hjk : j = k
        · subst hjk
          rw [if_pos rfl]
          refine ⟨fun e => (by cases e), fun M e => ?_⟩
          cases e
          refine ⟨uR_eq _ _ _, hz.2.1.congr hn fun q hq => ?_⟩
          rw [if_pos (by omega), show 121 * j + q - 121 * j = q by omega]
        · rw [if_neg hjk, uR_ne hjk]
          refine ⟨(hKz j hj).1, fun M e => ⟨((hKz j hj).2 M e).1, ((hKz j hj).2 M e).2.congr hn fun q hq => ?_⟩⟩
          rw [if_neg (by omega)]
      · rw [rowS_ne b2, sI_ne b3]; exact ho.1 z b1 b2 b3
      · rw [rowS_ne (by omega), sI_ne (by omega)]; exact ho.2 q hq
    · have e : (fun q => if 121 * k ≤ q ∧ q < 121 * k + 0 then I0 (m + 9) (q - 121 * k) else I0 (m + 12) q) = sI I0 (m + 13) k 1 (m + 12) := by
        funext q; rw [if_neg (by omega), sI_ne (by omega)]
      rw [e, rowS_id]
def aAgain (C : Cf) (v : Int32) (S : St) (K : Sl) : Int32 × St := if isIn v 2 = true then (match K v.toNatClampNeg with
    | none => (-3, S)
    | some N => (nI (cN C), (N, 0, S.2.2))) else (-1, S)
theorem aAgain_in {C : Cf} {k : Nat} {S : St} {K : Sl} (hk : k < 2) : aAgain C (nI k) S K = match K k with
    | none => (-3, S)
    | some N => (nI (cN C), (N, 0, S.2.2)) := by
  unfold aAgain
  rw [if_pos (isIn_nI hk (by omega)), ncl (by omega)]
theorem aAgain_wf {C : Cf} {v : Int32} {t : Nat} {S : St} {K : Sl} (hw : WfS C t S) (hK : WfK C t K) : WfS C t (aAgain C v S K).2 := by
  unfold aAgain
  by_cases h : isIn v 2 = true
  · rw [if_pos h]
    obtain ⟨k, hk, rfl⟩ := isIn_of h (by omega)
    rw [ncl (by omega)]
    cases e : K k with
    | none => exact hw
    | some N => exact ⟨hK k hk N e, fun j hj => absurd (show j < 0 from hj) (Nat.not_lt_zero _)⟩
  · rw [if_neg h]; exact hw
theorem x7_again {I : HI} {B t : Nat} {C : Cf} {S : St} {K : Sl} {v : Int32} (hC : WfC C) (h : ClAt I B C S) (hK : SlC I B C K) (hwK : WfK C t K) : ∃ I', (ClAt I' B C (aAgain C v S K).2 ∧ OffC I I' B) ∧ f_X7_again I B v = some ((aAgain C v S K).1, I') := by
  have hn := hC.2.2.2.2.1
  unfold f_X7_again
  rcases x7_netAt2 (a := B + 294) (e := B + 294 + 10) v with ⟨k, hk, rfl, e1, e2⟩ | ⟨e1, e2⟩
  · rw [e2, bd1s, mNs, if_neg (nI_pos (by omega)), if_pos (show nI k < (2 : Int32) by rw [i_2, nlt (by omega) (by omega)]; exact hk), gv hk (by omega), ncl (by omega), aAgain_in hk]
    cases eK : K k with
    | none =>
      rw [(hK k hk).1 eK, if_pos rfl]
      exact ⟨I, ⟨h, OffC.rf⟩, rfl⟩
    | some N =>
      obtain ⟨f1, f2⟩ := (hK k hk).2 N eK
      obtain ⟨I1, ⟨a1, a2⟩, a3⟩ := x1_take (I := I) (a := B + 20) (b := B + 294 + 10 + 17 * k) hC (by omega) f2 (hwK k hk N eK)
      rw [f1, if_neg (by decide), a3, bd1s]
      unfold f_X3_forget
      rw [lt1s, bd1s, sI_ne (by omega), a1.2.1]
      obtain ⟨-, q, g1, g2, g3, -, -⟩ := h
      refine ⟨_, ⟨⟨?_, q, g1, Nat.zero_le _, ?_, ?_, fun j hj => absurd hj (Nat.not_lt_zero _)⟩, fun z b1 b2 => ?_⟩, rfl⟩
      · exact a1.kept hn fun z _ _ => sI_ne (by omega)
      · rw [sI_eq, uR_ne (by omega), a2 _ (by omega)]; exact g3
      · rw [sI_eq, uR_eq]; rfl
      · rw [sI_ne (by omega)]; exact a2 z (by omega)
  · have ea : aAgain C v S K = (-1, S) := if_neg (by rw [e1]; simp)
    rw [e2, bd1s, mNn, ea]
    exact ⟨I, ⟨h, OffC.rf⟩, rfl⟩
theorem r8_again {I : HI} {m : Nat} {C : Cf} {S : St} {K : Sl} {v : Int32} (hC : WfC C) (h : RfAt I m C S) (hK : SlR I m C K) : ∃ I', (RfAt I' m C (aAgain C v S K).2 ∧ OffR I I' m) ∧ f_X8_again I m v = some ((aAgain C v S K).1, I') := by
  have hn := hC.2.2.2.2.1
  have hz := h.z
  have hKz := hK.z
  have ho : OffR I (sI I m 0 0) m := OffR.z
  unfold f_X8_again
  rw [lt1s, r8_in1, bd1s]
  generalize sI I m 0 0 = I0 at hz hKz ho
  cases e1 : isIn v 2 with
  | false =>
    have ea : aAgain C v S K = (-1, S) := if_neg (by rw [e1]; simp)
    rw [if_pos bZf, ea]
    exact ⟨_, ⟨hz, ho⟩, rfl⟩
  | true =>
    obtain ⟨k, hk, rfl⟩ := isIn_of e1 (by omega)
    rw [if_neg bZt, gv hk (by omega), ncl (by omega), aAgain_in hk]
    cases eK : K k with
    | none =>
      rw [(hKz k hk).1 eK, if_pos rfl]
      exact ⟨_, ⟨hz, ho⟩, rfl⟩
    | some N =>
      obtain ⟨f1, f2⟩ := (hKz k hk).2 N eK
      rw [f1, if_neg (by decide)]
      have key := wl2_inv (F := X8_again_B31 m (nI k)) (Post := fun o => ∃ I', (RfAt I' m C (N, 0, S.2.2) ∧ OffR I I' m) ∧ o = (nI (cN C), I')) (Inv := fun i (I1 : HI) (z : Int32) => I1 = rowS I0 (m + 9) (fun q => if q < i then I0 (m + 12) (121 * k + q) else I0 (m + 9) q) ∧ z = nI i) (m := 121) ?_ ?_ 121 0 5000 I0 (nI 0) (by omega) (by omega) ⟨?_, rfl⟩
      · obtain ⟨o, ⟨I', b, rfl⟩, e⟩ := key
        exact ⟨I', b, e⟩
      · rintro i I1 z hi ⟨rfl, rfl⟩
        refine Or.inl ⟨_, nI (i + 1), ⟨rfl, rfl⟩, fun kk => ?_⟩
        unfold X8_again_B31
        rw [i_121, if_pos (show nI i < nI 121 by rw [nlt (by omega) (by omega)]; exact hi), nmul, nadd, gv (by omega) (by omega), gv hi (by omega), lt1s, ncl (by omega), ncl (by omega), rowS_ne (by omega), rowS_s, lt1s, ninc]
        congr 2
        funext q
        unfold uR
        by_cases hq : q = i
        · rw [if_pos hq, if_pos (by omega), hq]
        · rw [if_neg hq]
          dsimp only
          by_cases h2 : q < i
          · rw [if_pos h2, if_pos (by omega)]
          · rw [if_neg h2, if_neg (by omega)]
      · rintro I1 z ⟨rfl, rfl⟩
        have hr : RnAt (fun q => if q < 121 then I0 (m + 12) (121 * k + q) else I0 (m + 9) q) C N := f2.congr hn fun q hq => if_pos hq
        generalize (fun q => if q < 121 then I0 (m + 12) (121 * k + q) else I0 (m + 9) q) = r at hr
        have o2 : OffR I (sI (rowS I0 (m + 9) r) m 22 0) m := ⟨fun z b1 b2 b3 => by rw [sI_ne b1, rowS_ne b2]; exact ho.1 z b1 b2 b3, fun q b1 b2 => by rw [sI_eq, uR_ne b2, rowS_ne (by omega)]; exact ho.2 q b1 b2⟩
        refine ⟨_, ⟨sI (rowS I0 (m + 9) r) m 22 0, ⟨⟨h.1.off o2, ?_, ?_, Nat.zero_le _, fun j hj => absurd hj (Nat.not_lt_zero _)⟩, o2⟩, rfl⟩, fun kk => ?_⟩
        rotate_left 2
        · unfold X8_again_B31
          rw [if_neg (show ¬ nI 121 < (121 : Int32) by decide), lt1s, sI_eq, uR_ne (by omega), rowS_ne (by omega), hz.1.2.2.2.1]
        · rw [sI_ne (by omega), rowS_at]; exact hr
        · rw [sI_eq, uR_eq]; rfl
      · have e : (fun q => if q < 0 then I0 (m + 12) (121 * k + q) else I0 (m + 9) q) = I0 (m + 9) := by
          funext q; rw [if_neg (by omega)]
        rw [e, rowS_id]

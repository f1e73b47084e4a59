/-! the class reads -/
def RdC (I : HI) (B : Nat) (X : Tx) (a : Nat) (C : Cf) (P : Nat → Prx) : Prop := I (B + 1) 0 = nI X.1 ∧ I (B + 1) 3 = nI a ∧ (∀ k, k < X.1 → I (B + 19) k = nI (X.2 k)) ∧ NtAt I (B + 2) C (Nz P)
def TdC (I : HI) (B : Nat) (X : Tx) (a : Nat) : Prop := I (B + 1) 0 = nI X.1 ∧ I (B + 1) 3 = nI a ∧ ∀ k, k < X.1 → I (B + 19) k = nI (X.2 k)
theorem RdC.td {I : HI} {B a : Nat} {X : Tx} {C : Cf} {P : Nat → Prx} (h : RdC I B X a C P) : TdC I B X a := ⟨h.1, h.2.1, h.2.2.1⟩
theorem TdC.mv {I : HI} {B a b : Nat} {X : Tx} (h : TdC I B X a) : TdC (sI I (B + 1) 3 (nI b)) B X b := ⟨by rw [sI_eq, uR_ne (by omega)]; exact h.1, by rw [sI_eq, uR_eq], fun k hk => by rw [sI_ne (by omega)]; exact h.2.2 k hk⟩
theorem TdC.dg {I : HI} {B a : Nat} {X : Tx} {v : Int32} (h : TdC I B X a) : TdC (sI I (B + 1) 4 v) B X a := ⟨by rw [sI_eq, uR_ne (by omega)]; exact h.1, by rw [sI_eq, uR_ne (by omega)]; exact h.2.1, fun k hk => by rw [sI_ne (by omega)]; exact h.2.2 k hk⟩
theorem RdC.mv {I : HI} {B a b : Nat} {X : Tx} {C : Cf} {P : Nat → Prx} (hn : cN C ≤ 4) (h : RdC I B X a C P) : RdC (sI I (B + 1) 3 (nI b)) B X b C P := by
  obtain ⟨h0, h1, h2, h3⟩ := h
  exact ⟨by rw [sI_eq, uR_ne (by omega)]; exact h0, by rw [sI_eq, uR_eq], fun k hk => by rw [sI_ne (by omega)]; exact h2 k hk, h3.kept hn fun q _ _ => sI_ne (by omega)⟩
theorem RdC.dg {I : HI} {B a : Nat} {X : Tx} {C : Cf} {P : Nat → Prx} {v : Int32} (hn : cN C ≤ 4) (h : RdC I B X a C P) : RdC (sI I (B + 1) 4 v) B X a C P := by
  obtain ⟨h0, h1, h2, h3⟩ := h
  exact ⟨by rw [sI_eq, uR_ne (by omega)]; exact h0, by rw [sI_eq, uR_ne (by omega)]; exact h1, fun k hk => by rw [sI_ne (by omega)]; exact h2 k hk, h3.kept hn fun q _ _ => sI_ne (by omega)⟩
/-- the letter that stands there -/
def ltr (X : Tx) (a : Nat) : Int32 := if a < X.1 then nI (X.2 a) else m9
theorem x6_letter0 {I : HI} {B a : Nat} {X : Tx} (hX : WfT X) (ha : a < 1000) (h : TdC I B X a) : f_X6_letter I (B + 1) = some (ltr X a) := by
  have hT := hX.1
  unfold f_X6_letter ltr
  rw [h.2.1, if_neg (nI_pos (by omega)), h.1]
  by_cases hl : a < X.1
  · rw [if_pos (show nI a < nI X.1 by rw [nlt (by omega) (by omega)]; exact hl), if_pos (show nI a < (100 : Int32) by rw [i_100, nlt (by omega) (by omega)]; omega), gv (by omega) (by omega), ncl (by omega), show B + 1 + 18 = B + 19 by omega, h.2.2 a hl, if_pos hl]
  · rw [if_neg (show ¬ nI a < nI X.1 by rw [nlt (by omega) (by omega)]; exact hl), if_neg hl]
    rfl
theorem x6_letter {I : HI} {B a : Nat} {X : Tx} {C : Cf} {P : Nat → Prx} (hX : WfT X) (ha : a < 1000) (h : RdC I B X a C P) : f_X6_letter I (B + 1) = some (ltr X a) := x6_letter0 hX ha h.td
theorem sub48 {v : Nat} (h : v < 256) : (nI v - 48).toInt = (v : Int) - 48 := by
  have e1 : (48 : Int32).toInt = 48 := by decide
  have e2 : (nI v).toInt = v := nI_toInt (by omega)
  rw [Int32.toInt_sub, e1, e2]
  exact Int.bmod_eq_of_le (by omega) (by omega)
theorem ltr48 {X : Tx} (hX : WfT X) (a : Nat) : (a < X.1 ∧ (ltr X a - 48).toInt = (X.2 a : Int) - 48) ∨ (¬ a < X.1 ∧ (ltr X a - 48).toInt = -57) := by
  unfold ltr
  by_cases h : a < X.1
  · left; rw [if_pos h]; exact ⟨h, sub48 (hX.2 a h)⟩
  · right; rw [if_neg h]; exact ⟨h, by decide⟩
theorem ltr_in {X : Tx} (hX : WfT X) (a : Nat) {n : Nat} : isIn (ltr X a - 48) n = decide (a < X.1 ∧ 48 ≤ X.2 a ∧ X.2 a < 48 + n) := by
  unfold isIn
  refine decide_eq_decide.mpr ?_
  rcases ltr48 hX a with ⟨h, e⟩ | ⟨h, e⟩
  · rw [e]; omega
  · rw [e]; omega
theorem ltr_v {X : Tx} {a : Nat} (h : a < X.1) (h2 : 48 ≤ X.2 a) : ltr X a - 48 = nI (X.2 a - 48) := by
  unfold ltr
  rw [if_pos h, i_48, nsub h2]
theorem x6_pass0 {I : HI} {B a c : Nat} {X : Tx} (hX : WfT X) (ha : a < 1000) (hc : c < 1000) (h : TdC I B X a) : f_X6_pass I (B + 1) (nI c) = if a < X.1 ∧ X.2 a = c then some (1, sI I (B + 1) 3 (nI (a + 1))) else some (0, I) := by
  unfold f_X6_pass
  rw [x6_letter0 hX ha h, bd1s, h.2.1, ninc, lt1s]
  unfold ltr
  by_cases hl : a < X.1
  · have := hX.2 a hl
    rw [if_pos hl]
    by_cases hx : X.2 a = c
    · rw [if_pos (show nI (X.2 a) = nI c by rw [hx]), if_pos ⟨hl, hx⟩]
    · rw [if_neg (show ¬ nI (X.2 a) = nI c by rw [neq (by omega) (by omega)]; exact hx), if_neg (fun q => hx q.2)]
  · have hne : ¬ m9 = nI c := fun e => (nI_m9 (k := c) (by omega)).mp e.symm
    rw [if_neg hl, if_neg hne, if_neg (fun q => hl q.1)]
theorem x6_pass {I : HI} {B a c : Nat} {X : Tx} {C : Cf} {P : Nat → Prx} (hX : WfT X) (ha : a < 1000) (hc : c < 1000) (h : RdC I B X a C P) : f_X6_pass I (B + 1) (nI c) = if a < X.1 ∧ X.2 a = c then some (1, sI I (B + 1) 3 (nI (a + 1))) else some (0, I) := x6_pass0 hX ha hc h.td
theorem x6_passDigit0 {I : HI} {B a lo hi : Nat} {X : Tx} (hX : WfT X) (ha : a < 1000) (hlo : lo ≤ 9) (hhi : hi ≤ 9) (h : TdC I B X a) : f_X6_passDigit I (B + 1) (nI lo) (nI hi) = if fg X a lo hi = true then some (1, sI (sI I (B + 1) 4 (nI (X.2 a - 48))) (B + 1) 3 (nI (a + 1))) else some (0, I) := by
  unfold f_X6_passDigit
  rw [x6_letter0 hX ha h, bd1s, lt1s]
  have e1 : (nI lo).toInt = lo := nI_toInt (by omega)
  have e2 : (nI hi).toInt = hi := nI_toInt (by omega)
  by_cases hf : fg X a lo hi = true
  · obtain ⟨f1, f2, f3⟩ := fgE hf
    rw [if_pos hf, ltr_v f1 (by omega), if_neg (show ¬ nI (X.2 a - 48) < nI lo by rw [nlt (by omega) (by omega)]; omega), if_neg (show ¬ nI hi < nI (X.2 a - 48) by rw [nlt (by omega) (by omega)]; omega), lt1s, sI_eq, uR_ne (by omega), h.2.1, ninc, lt1s]
  · have hf' := of_decide_eq_false (eq_false_of_ne_true hf)
    rw [if_neg hf]
    rcases ltr48 hX a with ⟨h1, e⟩ | ⟨h1, e⟩
    · by_cases hl : ltr X a - 48 < nI lo
      · rw [if_pos hl]
      · rw [if_neg hl, if_pos (show nI hi < ltr X a - 48 by rw [Int32.lt_iff_toInt_lt] at hl ⊢; omega)]
    · rw [if_pos (show ltr X a - 48 < nI lo by rw [Int32.lt_iff_toInt_lt]; omega)]
theorem x6_passDigit {I : HI} {B a lo hi : Nat} {X : Tx} {C : Cf} {P : Nat → Prx} (hX : WfT X) (ha : a < 1000) (hlo : lo ≤ 9) (hhi : hi ≤ 9) (h : RdC I B X a C P) : f_X6_passDigit I (B + 1) (nI lo) (nI hi) = if fg X a lo hi = true then some (1, sI (sI I (B + 1) 4 (nI (X.2 a - 48))) (B + 1) 3 (nI (a + 1))) else some (0, I) := x6_passDigit0 hX ha hlo hhi h.td
theorem x0_addFamily {I : HI} {n a b : Nat} {C : Cf} {N : Nt} (hn : cN C ≤ 4) (h : NtAt I n C N) (hF : cF C < 3) : ∃ I', (NtAt I' n (addFm C a b) N ∧ Off I I' (n + 1) 3) ∧ f_X0_addFamily I (n + 1) (nI a) (nI b) = some I' := by
  obtain ⟨⟨a0, a1, a2, a3, a4, a5⟩, g1, g2, g3, g4, g5, g6⟩ := h
  unfold f_X0_addFamily
  rw [a2, if_neg (nI_pos (by omega)), if_pos (show nI (cF C) < (3 : Int32) by rw [i_3, nlt (by omega) (by omega)]; exact hF), if_pos (show nI (cF C) < (3 : Int32) by rw [i_3, nlt (by omega) (by omega)]; exact hF), gv (by omega) (by omega), lt1s, ncl (by omega), sI_ne (by omega), a2, gv (by omega) (by omega), lt1s, ncl (by omega), sI_ne (by omega), sI_ne (by omega), a2, ninc, lt1s]
  refine ⟨_, ⟨⟨⟨?_, ?_, ?_, ?_, fun f hf => ?_, fun f hf => ?_⟩, ?_, ?_, ?_, ?_, ?_, fun x hx => (g6 x hx).kept ?_ ?_ ?_⟩, ((Off.s (by omega)).tr (Off.s (by omega))).tr (Off.s (by omega))⟩, rfl⟩
  · rw [sI_eq, uR_ne (by omega), sI_ne (by omega), sI_ne (by omega)]; exact a0
  · rw [sI_eq, uR_ne (by omega), sI_ne (by omega), sI_ne (by omega)]; exact a1
  · rw [sI_eq, uR_eq]; rfl
  · rw [sI_eq, uR_ne (by omega), sI_ne (by omega), sI_ne (by omega)]; exact a3
  · have hf' : f < cF C + 1 := hf
    rw [sI_ne (by omega), sI_ne (by omega), sI_eq]
    show uR _ _ _ f = nI (if f = cF C then a else cA C f)
    unfold uR
    by_cases hff : f = cF C
    · rw [if_pos hff, if_pos hff]
    · rw [if_neg hff, if_neg hff]; exact a4 f (by omega)
  · have hf' : f < cF C + 1 := hf
    rw [sI_ne (by omega), sI_eq]
    show uR _ _ _ f = nI (if f = cF C then b else cB C f)
    unfold uR
    by_cases hff : f = cF C
    · rw [if_pos hff, if_pos hff]
    · rw [if_neg hff, if_neg hff, sI_ne (by omega)]; exact a5 f (by omega)
  · rw [sI_ne (by omega), sI_ne (by omega), sI_ne (by omega)]; exact g1
  · rw [sI_ne (by omega), sI_ne (by omega), sI_ne (by omega)]; exact g2
  · rw [sI_ne (by omega), sI_ne (by omega), sI_ne (by omega)]; exact g3
  · rw [sI_ne (by omega), sI_ne (by omega), sI_ne (by omega)]; exact g4
  · rw [sI_ne (by omega), sI_ne (by omega), sI_ne (by omega)]; exact g5
  · rw [sI_ne (by omega), sI_ne (by omega), sI_ne (by omega)]
  · rw [sI_ne (by omega), sI_ne (by omega), sI_ne (by omega)]
  · rw [sI_ne (by omega), sI_ne (by omega), sI_ne (by omega)]
theorem x4_begin {I : HI} {a r l : Nat} : ∃ I', (PxAt I' a r (0, (fun _ => 0), (fun _ => 0), 0, 0, nI l) ∧ Off I I' a 3) ∧ f_X4_begin I a (nI r) (nI l) = some I' := by
  unfold f_X4_begin
  rw [lt1s, lt1s, lt1s, lt1s, lt1s]
  have h : PxAt (sI (sI (sI (sI (sI I a 0 (nI r)) a 1 (nI l)) a 2 0) a 3 0) a 4 0) a r (0, (fun _ => 0), I (a + 2), 0, 0, nI l) := by
    refine ⟨?_, ?_, ?_, ?_, ?_, fun k hk => absurd (show k < 0 from hk) (Nat.not_lt_zero _), fun c _ => ?_⟩
    · simp only [sI_at]; simp
    · simp only [sI_at]; simp
    · simp only [sI_at]; simp; rfl
    · simp only [sI_at]; simp
    · simp only [sI_at]; simp
    · rw [sI_ne (by omega), sI_ne (by omega), sI_ne (by omega), sI_ne (by omega), sI_ne (by omega)]
  obtain ⟨I', ⟨a1, a2⟩, a3⟩ := x4_clear h
  rw [a3, bd1s]
  exact ⟨I', ⟨a1, (((((Off.s (by omega)).tr (Off.s (by omega))).tr (Off.s (by omega))).tr (Off.s (by omega))).tr (Off.s (by omega))).tr a2⟩, rfl⟩
theorem x1_addProxy {I : HI} {n r l : Nat} {C : Cf} {P : Nat → Prx} (h : NtAt I n C (Nz P)) (hN : cN C < 4) : ∃ I', (NtAt I' n (addPx C r) (Nz (newP P (cN C) l)) ∧ Off I I' n 17) ∧ f_X1_addProxy I n (nI r) (nI l) = some I' := by
  obtain ⟨g0, g1, g2, g3, g4, g5, g6⟩ := h
  unfold f_X1_addProxy
  obtain ⟨I1, ⟨a1, a2⟩, a3⟩ := x4_begin (I := I) (a := n + 4 + 1 + 3 * cN C) (r := r) (l := l)
  rw [g1, if_neg (nI_pos (by omega)), if_pos (show nI (cN C) < (4 : Int32) by rw [i_4, nlt (by omega) (by omega)]; exact hN), gv (by omega) (by omega), gv (by omega) (by omega), ncl (by omega), a3, bd1s, a2 _ (by omega), g1, ninc, lt1s]
  refine ⟨_, ⟨⟨(g0.kept (I' := I1) (a2 _ (by omega)) (a2 _ (by omega)) (a2 _ (by omega))).kept (sI_ne (by omega)) (sI_ne (by omega)) (sI_ne (by omega)), ?_, ?_, ?_, ?_, ?_, fun x hx => ?_⟩, (a2.wid (by omega) (by omega)).tr (Off.s (by omega))⟩, rfl⟩
  · rw [sI_eq, uR_eq]; rfl
  · rw [sI_eq, uR_ne (by omega), a2 _ (by omega)]; exact g2
  · rw [sI_eq, uR_ne (by omega), a2 _ (by omega)]; exact g3
  · rw [sI_eq, uR_ne (by omega), a2 _ (by omega)]; exact g4
  · rw [sI_eq, uR_ne (by omega), a2 _ (by omega)]; exact g5
  · have hx' : x < cN C + 1 := hx
    have key : PxAt I1 (n + 4 + 1 + 3 * x) (if x = cN C then r else cR C x) (newP P (cN C) l x) := by
      unfold newP
      by_cases hxx : x = cN C
      · rw [if_pos hxx, if_pos hxx, hxx]; exact a1
      · rw [if_neg hxx, if_neg hxx]
        exact (g6 x (by omega)).kept (a2 _ (by omega)) (a2 _ (by omega)) (a2 _ (by omega))
    exact key.kept (sI_ne (by omega)) (sI_ne (by omega)) (sI_ne (by omega))
theorem x1_anyRoom {I : HI} {n : Nat} {C : Cf} {P : Nat → Prx} (hw : WfQ C P) (h : NtAt I n C (Nz P)) : f_X1_anyRoom I n = some (bZ (anyR C P)) := by
  obtain ⟨-, -, -, -, hn, -, w7⟩ := hw
  unfold f_X1_anyRoom
  have key := wl1_inv (F := X1_anyRoom_B2 I n) (Post := fun v => v = bZ (anyR C P)) (Inv := fun i (x : Int32) => x = nI i ∧ anyB (fun x => decide (pN (P x) < cR C x)) i = false) (m := cN C) ?_ ?_ (cN C) 0 5000 (nI 0) (by omega) (by omega) ⟨rfl, rfl⟩
  · obtain ⟨r, e, h⟩ := key
    rw [← e]; exact h
  · rintro i x hi ⟨rfl, hb⟩
    have e : f_X4_hasRoom I (n + 4 + 1 + 3 * i) = some (bZ (decide (pN (P i) < cR C i))) := x4_hasRoom (h.2.2.2.2.2.2 i hi) (w7 i hi).1
    by_cases hr : pN (P i) < cR C i
    · refine Or.inr ⟨1, ?_, fun k => ?_⟩
      · have : anyR C P = true := anyB_iff.mpr ⟨i, hi, decide_eq_true hr⟩
        rw [this]; rfl
      · unfold X1_anyRoom_B2
        rw [h.2.1, if_pos (show nI i < nI (cN C) by rw [nlt (by omega) (by omega)]; exact hi), x1_proxyAt hn h hi, bd1s, mNs, e, bd1s, decide_eq_true hr, if_neg bZt]
    · refine Or.inl ⟨nI (i + 1), ⟨rfl, by rw [anyB, hb, decide_eq_false hr]; rfl⟩, fun k => ?_⟩
      unfold X1_anyRoom_B2 X1_anyRoom_J29
      rw [h.2.1, if_pos (show nI i < nI (cN C) by rw [nlt (by omega) (by omega)]; exact hi), x1_proxyAt hn h hi, bd1s, mNs, e, bd1s, decide_eq_false hr, if_pos bZf, lt1s, ninc]
  · rintro x ⟨rfl, hb⟩
    refine ⟨0, ?_, fun k => ?_⟩
    · show 0 = bZ (anyB (fun x => decide (pN (P x) < cR C x)) (cN C))
      rw [hb]; rfl
    · unfold X1_anyRoom_B2
      rw [h.2.1, if_neg (show ¬ nI (cN C) < nI (cN C) by rw [nlt (by omega) (by omega)]; omega)]
theorem x6_mayBegin {I : HI} {q rm a : Nat} {X : Tx} {P : Prx} (hX : WfT X) (h : PxAt I q rm P) (hs : Shf rm (pN P) (pS P)) : f_X6_mayBegin I q (ltr X a - 48) = some (bZ (isT X a P)) := by
  have e0 : (0 : Int32).toInt = 0 := by decide
  have e9 : (9 : Int32).toInt = 9 := by decide
  unfold f_X6_mayBegin
  by_cases hf : fg X a 0 9 = true
  · obtain ⟨f1, f2, f3⟩ := fgE hf
    rw [ltr_v f1 (by omega)]
    have eT : isT X a P = anyB (fun k => okP P (10 * (X.2 a - 48) + k)) 10 := by
      unfold isT
      by_cases h3 : fg X a 0 3 = true
      · rw [h3, Bool.true_and]
      · rw [eq_false_of_ne_true h3, Bool.false_and]
        have h3' := of_decide_eq_false (eq_false_of_ne_true h3)
        cases hb : anyB (fun k => okP P (10 * (X.2 a - 48) + k)) 10 with
        | false => rfl
        | true =>
          obtain ⟨k, hk, hk2⟩ := anyB_iff.mp hb
          have := of_decide_eq_true ((Bool.and_eq_true _ _).mp hk2).1
          omega
    rw [eT]
    generalize ht : X.2 a - 48 = ten
    have ht9 : ten ≤ 9 := by omega
    rw [if_neg (nI_pos (by omega)), if_neg (show ¬ (9 : Int32) < nI ten by rw [i_9, nlt (by omega) (by omega)]; omega), i_10, nmul, lt1s]
    have key := wl1_inv (F := X6_mayBegin_B17 I q (nI ten)) (Post := fun v => v = bZ (anyB (fun k => okP P (10 * ten + k)) 10)) (Inv := fun i (x : Int32) => x = nI (10 * ten + i) ∧ anyB (fun k => okP P (10 * ten + k)) i = false) (m := 10) ?_ ?_ 10 0 5000 (nI (10 * ten)) (by omega) (by omega) ⟨rfl, rfl⟩
    · obtain ⟨r, e, h⟩ := key
      rw [← e]; exact h
    · rintro i x hi ⟨rfl, hb⟩
      have hlt : nI (10 * ten + i) < (10 : Int32) * nI ten + (10 : Int32) := by rw [i_10, nmul, nadd, nlt (by omega) (by omega)]; omega
      by_cases hp : 10 * ten + i < 32
      · have eh : f_X4_has I q (nI (10 * ten + i)) = some (bZ (onS P (10 * ten + i))) := x4_has h hs hp
        cases ho : onS P (10 * ten + i) with
        | false =>
          refine Or.inr ⟨1, ?_, fun k => ?_⟩
          · have : anyB (fun k => okP P (10 * ten + k)) 10 = true := anyB_iff.mpr ⟨i, hi, by unfold okP; rw [decide_eq_true hp, ho]; rfl⟩
            rw [this]; rfl
          · unfold X6_mayBegin_B17
            rw [if_pos hlt, x7_isPage, bd1s, isIn_nI hp (by omega), if_neg bZt, eh, bd1s, ho, if_pos bZf]
        | true =>
          refine Or.inl ⟨nI (10 * ten + (i + 1)), ⟨rfl, ?_⟩, fun k => ?_⟩
          · rw [anyB, hb]; unfold okP; rw [decide_eq_true hp, ho]; rfl
          · unfold X6_mayBegin_B17 X6_mayBegin_J45
            rw [if_pos hlt, x7_isPage, bd1s, isIn_nI hp (by omega), if_neg bZt, eh, bd1s, ho, if_neg bZt, lt1s, ninc]
            rfl
      · refine Or.inl ⟨nI (10 * ten + (i + 1)), ⟨rfl, ?_⟩, fun k => ?_⟩
        · rw [anyB, hb]; unfold okP; rw [decide_eq_false hp]; rfl
        · unfold X6_mayBegin_B17 X6_mayBegin_J45
          rw [if_pos hlt, x7_isPage, bd1s, isIn_no (v := nI (10 * ten + i)) (n := 32) (by omega) (Or.inr (by rw [nle (by omega) (by omega)]; omega)), if_pos bZf, lt1s, ninc]
          rfl
    · rintro x ⟨rfl, hb⟩
      refine ⟨0, by rw [hb]; rfl, fun k => ?_⟩
      unfold X6_mayBegin_B17
      rw [if_neg (show ¬ nI (10 * ten + 10) < (10 : Int32) * nI ten + (10 : Int32) by rw [i_10, nmul, nadd, nlt (by omega) (by omega)]; omega)]
  · have hf' := of_decide_eq_false (eq_false_of_ne_true hf)
    have eT : isT X a P = false := by
      unfold isT
      have : fg X a 0 3 = false := decide_eq_false (by omega)
      rw [this, Bool.false_and]
    rw [eT]
    by_cases h0 : ltr X a - 48 < 0
    · rw [if_pos h0]; rfl
    · rw [if_neg h0, if_pos ?_]
      · rfl
      · rw [Int32.lt_iff_toInt_lt] at h0 ⊢
        rcases ltr48 hX a with ⟨h1, e⟩ | ⟨h1, e⟩
        · omega
        · omega
theorem x4_addOldest {I : HI} {a rm p : Nat} {P : Prx} (h : PxAt I a rm P) (h9 : pN P < 9) : ∃ I', (PxAt I' a rm (pshP p P) ∧ Off I I' a 3) ∧ f_X4_addOldest I a (nI p) = some I' := by
  obtain ⟨p0, p1, p2, p3, p4, p5, p6⟩ := h
  unfold f_X4_addOldest
  rw [p2, if_neg (nI_pos (by omega)), if_pos (show nI (pN P) < (9 : Int32) by rw [i_9, nlt (by omega) (by omega)]; exact h9), gv (by omega) (by omega), lt1s, ncl (by omega), sI_ne (by omega), p2, ninc, lt1s]
  refine ⟨_, ⟨⟨?_, ?_, ?_, ?_, ?_, fun k hk => ?_, fun c hc => ?_⟩, (Off.s (by omega)).tr (Off.s (by omega))⟩, rfl⟩
  · rw [sI_eq, uR_ne (by omega), sI_ne (by omega)]; exact p0
  · rw [sI_eq, uR_ne (by omega), sI_ne (by omega)]; exact p1
  · rw [sI_eq, uR_eq]; rfl
  · rw [sI_eq, uR_ne (by omega), sI_ne (by omega)]; exact p3
  · rw [sI_eq, uR_ne (by omega), sI_ne (by omega)]; exact p4
  · have hk' : k < pN P + 1 := hk
    rw [sI_ne (by omega), sI_eq]
    show uR _ _ _ k = nI (if k = pN P then p else pS P k)
    unfold uR
    by_cases hkn : k = pN P
    · rw [if_pos hkn, if_pos hkn]
    · rw [if_neg hkn, if_neg hkn]; exact p5 k (by omega)
  · rw [sI_ne (by omega), sI_ne (by omega)]; exact p6 c hc

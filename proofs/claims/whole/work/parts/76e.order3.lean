/-! the cheapest order: the reference -/
theorem cnt_two {s L : Int32} {l : Nat} (h : ∀ p, p < 32 → bit L p = (bit s p && l.testBit (cntB (bit s) p))) : ∀ p, p ≤ 32 → cntB (bit L) p = cntB l.testBit (cntB (bit s) p)
  | 0, _ => rfl
  | p + 1, hp => by
    have ih := cnt_two h p (by omega)
    rw [cntB, ih, h p (by omega), cntB]
    cases bit s p with
    | false => rfl
    | true => rw [if_pos rfl, cntB, Bool.true_and]
theorem cnt_lt {s : Int32} {p : Nat} (hp : p < 32) (hb : bit s p = true) : cntB (bit s) p < pop s := by
  have h1 := cnt_succ (f := bit s) hb
  have h2 := cnt_mono (f := bit s) (a := p + 1) (b := 32) (by omega)
  unfold pop
  omega
theorem r8_pick {I : HI} {m k sk j l n : Nat} {s L : Int32} {x5 x6 : Int32} {kk : HI → Int32 → Int32 → Int32 → Int32 → Option HI} (hn : n ≤ 5) (hk : k < n) (hl : ∀ p, p < 32 → bit L p = (bit s p && l.testBit (cntB (bit s) p))) (hj : j < pop s) (h1 : l.testBit j = true) (h2 : cntB l.testBit j = sk) (hsk : sk < 1000) : ∃ L', (∀ p, p < 32 → bit L' p = (bit s p && (l ^^^ 2 ^ j).testBit (cntB (bit s) p))) ∧ wl2 (X8_layOrder_B66 I m (nI n) L x5 x6 (nI k) kk) 5000 (nI sk) (nI 0) = kk (sI I (m + 17) k (nI (qq s j))) L' x5 x6 (nI (k + 1)) := by
  obtain ⟨q1, q2, q3⟩ := qq_spec hj
  have hcl := cnt_two hl
  have eL : bit L (qq s j) = true := by rw [hl _ q1, q2, q3, h1]; rfl
  have ec : cntB (bit L) (qq s j) = sk := by rw [hcl _ (by omega), q3, h2]
  refine ⟨L &&& (((1 : Int32) <<< (nI (qq s j) &&& 31)) ^^^ (-1 : Int32)), fun p hp => ?_, ?_⟩
  · rw [bit_and hp, bit_not hp, bit_one q1 hp, hl p hp, Nat.testBit_xor, Nat.testBit_two_pow]
    cases hb : bit s p with
    | false => rfl
    | true =>
      rw [Bool.true_and, Bool.true_and]
      by_cases hc : j = cntB (bit s) p
      · have : p = qq s j := by rw [hc]; exact (qq_of hp hb).symm
        rw [decide_eq_true hc, decide_eq_true this, ← hc, h1]; rfl
      · have : ¬ p = qq s j := fun e => hc (by rw [e]; exact q3.symm)
        rw [decide_eq_false hc, decide_eq_false this, Bool.not_false, Bool.and_true, Bool.xor_false]
  · have e0 : sk = sk - cntB (bit L) 0 := rfl
    conv => lhs; rw [e0]
    refine wl2_to (F := X8_layOrder_B66 I m (nI n) L x5 x6 (nI k) kk) (fun p => nI (sk - cntB (bit L) p)) (fun p => nI p) (m := qq s j) (fun p k2 hp => ?_) (fun k2 => ?_) (qq s j) 0 5000 (by omega) (by omega)
    · unfold X8_layOrder_B66 X8_layOrder_J81 X8_layOrder_J98
      rw [r8_has, bd1s, bd1s]
      cases hb : bit L p with
      | false =>
        have e : cntB (bit L) (p + 1) = cntB (bit L) p := by rw [cntB, hb]; rfl
        rw [if_pos bZf, if_pos bZf, lt1s, lt1s, ninc, Int32.sub_zero, e]
      | true =>
        have e := cnt_succ (f := bit L) hb
        have e2 := cnt_mono (f := bit L) (a := p + 1) (b := qq s j) (by omega)
        rw [if_neg bZt, if_pos (show 0 < nI (sk - cntB (bit L) p) by rw [n0pos (by omega)]; omega), if_neg bZt, lt1s, lt1s, ninc, i_1, nsub (by omega), e]
        rfl
    · unfold X8_layOrder_B66
      rw [r8_has, bd1s, eL, if_neg bZt, ec, Nat.sub_self, if_neg (show ¬ 0 < nI 0 by decide), gv (by omega) (by omega), lt1s, ncl (by omega), lt1s, lt1s, ninc]
theorem r8_layOrder {I : HI} {m i : Nat} {s : Int32} (h1 : 1 ≤ pop s) (hn : pop s ≤ 5) (hi : i < fct (pop s)) : ∃ I', ((∀ k, k < pop s → I' (m + 17) k = nI (qq s (pi (pop s) i k))) ∧ ∀ z, z ≠ m + 17 → I' z = I z) ∧ f_X8_layOrder I m s (nI (pop s)) (nI i) = some I' := by
  obtain ⟨f120, f0⟩ := fct5 (pop s) (by omega)
  have e1 : fct (pop s - 1 + 1) = fct (pop s) := by rw [show pop s - 1 + 1 = pop s by omega]
  have key := wl5_inv (F := X8_layOrder_B34 m (nI (pop s))) (Post := fun I' => (∀ k, k < pop s → I' (m + 17) k = nI (qq s (pi (pop s) i k))) ∧ ∀ z, z ≠ m + 17 → I' z = I z) (Inv := fun k (I1 : HI) (L x5 x6 z : Int32) => ((∀ j, j < k → I1 (m + 17) j = nI (qq s (pi (pop s) i j))) ∧ ∀ z, z ≠ m + 17 → I1 z = I z) ∧ (∀ p, p < 32 → bit L p = (bit s p && (pst (pop s) i k).1.testBit (cntB (bit s) p))) ∧ x5 = nI (pst (pop s) i k).2.1 ∧ x6 = nI (pst (pop s) i k).2.2 ∧ z = nI k) (m := pop s) ?_ ?_ (pop s) 0 5000 I s (nI i) (nI (fct (pop s))) (nI 0) (by omega) (by omega) ⟨⟨fun j hj => absurd hj (Nat.not_lt_zero _), fun z _ => rfl⟩, fun p hp => ?_, rfl, rfl, rfl⟩
  · obtain ⟨I', h, e⟩ := key
    refine ⟨I', h, ?_⟩
    unfold f_X8_layOrder
    refine wl2_to (F := X8_layOrder_B12 I m (nI (pop s)) s (nI i)) (fun j => nI (fct (j + 1))) (fun j => nI (j + 2)) (m := pop s - 1) (fun j kk hj => ?_) (fun kk => ?_) (pop s - 1) 0 5000 (by omega) (by omega)
    · unfold X8_layOrder_B12
      rw [if_neg (show ¬ nI (pop s) < nI (j + 2) by rw [nlt (by omega) (by omega)]; omega), nmul, lt1s, ninc, lt1s]
      rfl
    · unfold X8_layOrder_B12
      rw [if_pos (show nI (pop s) < nI (pop s - 1 + 2) by rw [nlt (by omega) (by omega)]; omega), e1]
      exact e
  · rintro k I1 L x5 x6 z hk ⟨⟨a1, a2⟩, a3, rfl, rfl, rfl⟩
    obtain ⟨b1, b2, b3, b4, b5, b6⟩ := pokE (by omega) hi hk
    have hd := Nat.div_le_self (pst (pop s) i k).2.2 (pop s - k)
    have hd2 := Nat.div_le_self (pst (pop s) i k).2.1 ((pst (pop s) i k).2.2 / (pop s - k))
    refine Or.inl ?_
    have pick : ∀ kk, ∃ L', (∀ p, p < 32 → bit L' p = (bit s p && ((pst (pop s) i k).1 ^^^ 2 ^ pi (pop s) i k).testBit (cntB (bit s) p))) ∧ X8_layOrder_B34 m (nI (pop s)) kk I1 L (nI (pst (pop s) i k).2.1) (nI (pst (pop s) i k).2.2) (nI k) = kk (sI I1 (m + 17) k (nI (qq s (pi (pop s) i k)))) L' (nI ((pst (pop s) i k).2.1 % ((pst (pop s) i k).2.2 / (pop s - k)))) (nI ((pst (pop s) i k).2.2 / (pop s - k))) (nI (k + 1)) := by
      intro kk
      obtain ⟨L', c1, c2⟩ := r8_pick (I := I1) (m := m) (x5 := nI ((pst (pop s) i k).2.1 % ((pst (pop s) i k).2.2 / (pop s - k)))) (x6 := nI ((pst (pop s) i k).2.2 / (pop s - k))) (kk := kk) hn hk a3 b4 b5 b6 (by omega)
      refine ⟨L', c1, ?_⟩
      unfold X8_layOrder_B34
      rw [if_pos (show nI k < nI (pop s) by rw [nlt (by omega) (by omega)]; exact hk), nsub (by omega), gdt (show ¬ nI (pop s - k) = 0 by rw [n0eq (by omega)]; omega), div_n (by omega) (by omega), lt1s, gdt (show ¬ nI ((pst (pop s) i k).2.2 / (pop s - k)) = 0 by rw [n0eq (by omega)]; omega), div_n (by omega) (by omega), lt1s, gdt (show ¬ nI ((pst (pop s) i k).2.2 / (pop s - k)) = 0 by rw [n0eq (by omega)]; omega), rem_n (by omega) (by omega) b1, lt1s]
      exact c2
    -- the left bits do not depend on the continuation
    refine ⟨sI I1 (m + 17) k (nI (qq s (pi (pop s) i k))), L &&& (((1 : Int32) <<< (nI (qq s (pi (pop s) i k)) &&& 31)) ^^^ (-1 : Int32)), nI ((pst (pop s) i k).2.1 % ((pst (pop s) i k).2.2 / (pop s - k))), nI ((pst (pop s) i k).2.2 / (pop s - k)), nI (k + 1), ⟨⟨fun j hj => ?_, fun z hz => ?_⟩, fun p hp => ?_, rfl, rfl, rfl⟩, fun kk => ?_⟩
    · rw [sI_eq]
      unfold uR
      by_cases hjk : j = k
      · rw [if_pos hjk, hjk]
      · rw [if_neg hjk]; exact a1 j (by omega)
    · rw [sI_ne hz]; exact a2 z hz
    · obtain ⟨L', c1, -⟩ := pick (fun _ _ _ _ _ => none)
      obtain ⟨q1, q2, q3⟩ := qq_spec b4
      show _ = (bit s p && ((pst (pop s) i k).1 ^^^ 2 ^ pi (pop s) i k).testBit (cntB (bit s) p))
      rw [bit_and hp, bit_not hp, bit_one q1 hp, a3 p hp, Nat.testBit_xor, Nat.testBit_two_pow]
      cases hb : bit s p with
      | false => rfl
      | true =>
        rw [Bool.true_and, Bool.true_and]
        by_cases hc : pi (pop s) i k = cntB (bit s) p
        · have : p = qq s (pi (pop s) i k) := by rw [hc]; exact (qq_of hp hb).symm
          rw [decide_eq_true hc, decide_eq_true this, ← hc, b5]; rfl
        · have : ¬ p = qq s (pi (pop s) i k) := fun e => hc (by rw [e]; exact q3.symm)
          rw [decide_eq_false hc, decide_eq_false this, Bool.not_false, Bool.and_true, Bool.xor_false]
    · obtain ⟨L', c1, c2⟩ := pick kk
      obtain ⟨q1, q2, q3⟩ := qq_spec b4
      have eL : L' = L &&& (((1 : Int32) <<< (nI (qq s (pi (pop s) i k)) &&& 31)) ^^^ (-1 : Int32)) := by
        refine bit_ext fun p hp => ?_
        rw [c1 p hp, bit_and hp, bit_not hp, bit_one q1 hp, a3 p hp, Nat.testBit_xor, Nat.testBit_two_pow]
        cases hb : bit s p with
        | false => rfl
        | true =>
          rw [Bool.true_and, Bool.true_and]
          by_cases hc : pi (pop s) i k = cntB (bit s) p
          · have : p = qq s (pi (pop s) i k) := by rw [hc]; exact (qq_of hp hb).symm
            rw [decide_eq_true hc, decide_eq_true this, ← hc, b5]; rfl
          · have : ¬ p = qq s (pi (pop s) i k) := fun e => hc (by rw [e]; exact q3.symm)
            rw [decide_eq_false hc, decide_eq_false this, Bool.not_false, Bool.and_true, Bool.xor_false]
      rw [c2, eL]
  · rintro I1 L x5 x6 z ⟨⟨a1, a2⟩, -, rfl, rfl, rfl⟩
    refine ⟨I1, ⟨a1, a2⟩, fun kk => ?_⟩
    unfold X8_layOrder_B34
    rw [if_neg (show ¬ nI (pop s) < nI (pop s) by rw [nlt (by omega) (by omega)]; omega)]
  · show _ = (bit s p && (2 ^ pop s - 1).testBit (cntB (bit s) p))
    rw [Nat.testBit_two_pow_sub_one]
    cases hb : bit s p with
    | false => rfl
    | true => rw [decide_eq_true (cnt_lt hp hb)]; rfl
def OffR7 (I I' : HI) (m : Nat) : Prop := (∀ z, z ≠ m → z ≠ m + 10 → z ≠ m + 17 → z ≠ m + 18 → I' z = I z) ∧ ∀ k, k ≠ 0 → k ≠ 32 → I' m k = I m k
theorem OffR7.tr {I I1 I2 : HI} {m : Nat} (h1 : OffR7 I I1 m) (h2 : OffR7 I1 I2 m) : OffR7 I I2 m := ⟨fun z a b c d => (h2.1 z a b c d).trans (h1.1 z a b c d), fun k a b => (h2.2 k a b).trans (h1.2 k a b)⟩
theorem OffR7.row {I : HI} {m : Nat} (r : Nat → Int32) : OffR7 I (rowS I (m + 10) r) m := ⟨fun z _ b _ _ => rowS_ne b, fun k _ _ => by rw [rowS_ne (by omega)]⟩
theorem OffR7.z {I : HI} {m : Nat} : OffR7 I (sI I m 0 0) m := ⟨fun z a _ _ _ => sI_ne a, fun k a _ => by rw [sI_eq, uR_ne a]⟩
theorem CfAt.off7 {I I' : HI} {m : Nat} {C : Cf} (h : CfAt I m C) (ho : OffR7 I I' m) : CfAt I' m C := by
  obtain ⟨a, b, c, d, e, f, g⟩ := h
  exact ⟨by rw [ho.2 _ (by omega) (by omega)]; exact a, by rw [ho.2 _ (by omega) (by omega)]; exact b, by rw [ho.2 _ (by omega) (by omega)]; exact c, by rw [ho.2 _ (by omega) (by omega)]; exact d, fun k hk => by rw [ho.1 _ (by omega) (by omega) (by omega) (by omega)]; exact e k hk, fun k hk => by rw [ho.1 _ (by omega) (by omega) (by omega) (by omega)]; exact f k hk, fun k hk => by rw [ho.1 _ (by omega) (by omega) (by omega) (by omega)]; exact g k hk⟩
/-- one order is tried -/
theorem r8_one {I : HI} {m x t i : Nat} {C : Cf} {N : Nt} {s : Int32} (hC : WfC C) (ht : t + 30 < 1000000) (hx : x < cN C) (h : CfAt I m C) (hr : RnAt (I (m + 9)) C N) (hw : WfN C t N) (h1 : 1 ≤ pop s) (hn : pop s ≤ 5) (hi : i < fct (pop s)) (hb : 0 < i → I m 32 = (bo (cOf C N x s) (i - 1)).1 ∧ ∀ k, k < pop s → I (m + 18) k = nI (qq s (pi (pop s) (bo (cOf C N x s) (i - 1)).2 k))) : ∃ I', ((I' m 32 = (bo (cOf C N x s) i).1 ∧ ∀ k, k < pop s → I' (m + 18) k = nI (qq s (pi (pop s) (bo (cOf C N x s) i).2 k))) ∧ OffR7 I I' m) ∧ ∀ K, X8_layBest_B39 m (nI x) s (nI (pop s)) (nI (fct (pop s))) K I (nI i) = K I' (nI (i + 1)) := by
  have hnn := hC.2.2.2.2.1
  obtain ⟨f120, f0⟩ := fct5 (pop s) (by omega)
  obtain ⟨I1, ⟨a1, a2⟩, a3⟩ := r8_layOrder (I := I) (m := m) h1 hn hi
  have o1 : OffR7 I I1 m := ⟨fun z _ _ b _ => a2 z b, fun k _ _ => by rw [a2 _ (by omega)]⟩
  have hr1 : RnAt (I1 (m + 9)) C N := by rw [a2 _ (by omega)]; exact hr
  have hC1 := h.off7 o1
  obtain ⟨r0, c1, c2⟩ := r8_layTrial hC hr1
  have hπ : ∀ k, k < pop s → pi (pop s) i k < pop s := fun k hk => (pokE (by omega) hi hk).2.2.2.1
  have hp : ∀ j, j < pop s → qq s (pi (pop s) i j) < 32 := fun j hj => (qq_spec (hπ j hj)).1
  -- what follows the choice
  have fin : ∀ r : Nat → Int32, ∃ I', ((I' m 32 = (bo (cOf C N x s) i).1 ∧ ∀ k, k < pop s → I' (m + 18) k = nI (qq s (pi (pop s) (bo (cOf C N x s) i).2 k))) ∧ OffR7 I I' m) ∧ ∀ K, (if nI i = 0 then X8_layBest_J121 (rowS I1 (m + 10) r) m (nI x) s (nI (pop s)) (nI (fct (pop s))) (nI i) (cOf C N x s i) K else if cOf C N x s i < rowS I1 (m + 10) r m 32 then X8_layBest_J121 (rowS I1 (m + 10) r) m (nI x) s (nI (pop s)) (nI (fct (pop s))) (nI i) (cOf C N x s i) K else X8_layBest_J156 (rowS I1 (m + 10) r) m (nI x) s (nI (pop s)) (nI (fct (pop s))) (nI i) K) = K I' (nI (i + 1)) := by
    intro r
    have o2 : OffR7 I (rowS I1 (m + 10) r) m := o1.tr (OffR7.row r)
    have put : ∃ I', ((I' m 32 = cOf C N x s i ∧ ∀ k, k < pop s → I' (m + 18) k = nI (qq s (pi (pop s) i k))) ∧ OffR7 I I' m) ∧ ∀ K, X8_layBest_J121 (rowS I1 (m + 10) r) m (nI x) s (nI (pop s)) (nI (fct (pop s))) (nI i) (cOf C N x s i) K = K I' (nI (i + 1)) := by
      refine ⟨rowS (sI (rowS I1 (m + 10) r) m 32 (cOf C N x s i)) (m + 18) (fun q => if q < pop s then I1 (m + 17) q else I1 (m + 18) q), ⟨⟨?_, fun k hk => ?_⟩, ⟨fun z z1 z2 z3 z4 => ?_, fun k k1 k2 => ?_⟩⟩, fun K => ?_⟩
      · rw [rowS_ne (by omega), sI_eq, uR_eq]
      · rw [rowS_at, if_pos hk]; exact a1 k hk
      · rw [rowS_ne z4, sI_ne z1]; exact o2.1 z z1 z2 z3 z4
      · rw [rowS_ne (by omega), sI_eq, uR_ne k2]; exact o2.2 k k1 k2
      · unfold X8_layBest_J121
        rw [lt1s]
        have e0 : sI (rowS I1 (m + 10) r) m 32 (cOf C N x s i) = rowS (sI (rowS I1 (m + 10) r) m 32 (cOf C N x s i)) (m + 18) (fun q => if q < 0 then I1 (m + 17) q else I1 (m + 18) q) := by
          have e : (fun q => if q < 0 then I1 (m + 17) q else I1 (m + 18) q) = sI (rowS I1 (m + 10) r) m 32 (cOf C N x s i) (m + 18) := by
            funext q; rw [if_neg (by omega), sI_ne (by omega), rowS_ne (by omega)]
          rw [e, rowS_id]
        conv => lhs; rw [e0]
        refine wl2_to (F := X8_layBest_B130 m (nI x) s (nI (pop s)) (nI (fct (pop s))) (nI i) K) (fun j => rowS (sI (rowS I1 (m + 10) r) m 32 (cOf C N x s i)) (m + 18) (fun q => if q < j then I1 (m + 17) q else I1 (m + 18) q)) (fun j => nI j) (m := pop s) (fun j k2 hj => ?_) (fun k2 => ?_) (pop s) 0 5000 (by omega) (by omega)
        · unfold X8_layBest_B130
          rw [if_pos (show nI j < nI (pop s) by rw [nlt (by omega) (by omega)]; exact hj), gv (by omega) (by omega), gv (by omega) (by omega), lt1s, ncl (by omega), rowS_ne (by omega), sI_ne (by omega), rowS_ne (by omega), rowS_s, ninc, lt1s]
          congr 2
          funext q
          unfold uR
          by_cases hq : q = j
          · rw [if_pos hq, if_pos (by omega), hq]
          · rw [if_neg hq]
            dsimp only
            by_cases h2 : q < j
            · rw [if_pos h2, if_pos (by omega)]
            · rw [if_neg h2, if_neg (by omega)]
        · unfold X8_layBest_B130 X8_layBest_J156
          rw [if_neg (show ¬ nI (pop s) < nI (pop s) by rw [nlt (by omega) (by omega)]; omega), ninc, lt1s]
    cases i with
    | zero =>
      obtain ⟨I', p1, p2⟩ := put
      refine ⟨I', p1, fun K => ?_⟩
      rw [if_pos (show nI 0 = 0 from rfl)]
      exact p2 K
    | succ i =>
      obtain ⟨l1, l2⟩ := hb (by omega)
      rw [Nat.add_sub_cancel] at l1 l2
      have e32 : rowS I1 (m + 10) r m 32 = (bo (cOf C N x s) i).1 := by rw [rowS_ne (by omega), a2 _ (by omega)]; exact l1
      rw [bo]
      by_cases hlt : cOf C N x s (i + 1) < (bo (cOf C N x s) i).1
      · obtain ⟨I', p1, p2⟩ := put
        rw [if_pos hlt]
        refine ⟨I', p1, fun K => ?_⟩
        rw [if_neg (show ¬ nI (i + 1) = 0 by rw [n0eq (by omega)]; omega), e32, if_pos hlt]
        exact p2 K
      · rw [if_neg hlt]
        refine ⟨rowS I1 (m + 10) r, ⟨⟨e32, fun k hk => ?_⟩, o2⟩, fun K => ?_⟩
        · rw [rowS_ne (by omega), a2 _ (by omega)]; exact l2 k hk
        · rw [if_neg (show ¬ nI (i + 1) = 0 by rw [n0eq (by omega)]; omega), e32, if_neg hlt]
          unfold X8_layBest_J156
          rw [ninc, lt1s]
  -- the requests
  have run : ∀ (j y M : Nat) (r : Nat → Int32), y + j = pop s → j < M → RnAt r C (asks C (fun _ => x) (fun k => qq s (pi (pop s) i k)) N y) → ∃ I', ((I' m 32 = (bo (cOf C N x s) i).1 ∧ ∀ k, k < pop s → I' (m + 18) k = nI (qq s (pi (pop s) (bo (cOf C N x s) i).2 k))) ∧ OffR7 I I' m) ∧ ∀ K, wl2 (X8_layBest_B61 m (nI x) s (nI (pop s)) (nI (fct (pop s))) (nI i) K) M (rowS I1 (m + 10) r) (nI y) = K I' (nI (i + 1)) := by
    intro j
    induction j with
    | zero =>
      intro y M r hy hM hrn
      obtain ⟨M, rfl⟩ : ∃ L, M = L + 1 := ⟨M - 1, by omega⟩
      have ey : y = pop s := by omega
      subst ey
      obtain ⟨I', p1, p2⟩ := fin r
      refine ⟨I', p1, fun K => ?_⟩
      rw [wl2_0]
      unfold X8_layBest_B61
      have g1 : RnAt (rowS I1 (m + 10) r (m + 10)) C (asks C (fun _ => x) (fun k => qq s (pi (pop s) i k)) N (pop s)) := by rw [rowS_at]; exact hrn
      have g2 : RnAt (rowS I1 (m + 10) r (m + 9)) C N := by rw [rowS_ne (by omega)]; exact hr1
      rw [if_neg (show ¬ nI (pop s) < nI (pop s) by rw [nlt (by omega) (by omega)]; omega), r8_costOf g1, bd1s, r8_costOf g2, bd1s, lt1s]
      exact p2 K
    | succ j ih =>
      intro y M r hy hM hrn
      obtain ⟨M, rfl⟩ : ∃ L, M = L + 1 := ⟨M - 1, by omega⟩
      have hy' : y < pop s := by omega
      have hw1 : WfN C (t + 6 * y) (asks C (fun _ => x) (fun k => qq s (pi (pop s) i k)) N y) := asks_wf hC hw (fun j hj => ⟨hx, hp j (by omega)⟩) (by omega)
      obtain ⟨r2, d1, d2⟩ := r8_askOn (I := I1) (w := m + 10) hC hC1 (by omega) (by omega) hrn hw1 hx (hp y hy')
      obtain ⟨I', p1, p2⟩ := ih (y + 1) M r2 (by omega) (by omega) d1
      refine ⟨I', p1, fun K => ?_⟩
      have ihy := p2 K
      rw [wl2_0]
      generalize wl2 (X8_layBest_B61 m (nI x) s (nI (pop s)) (nI (fct (pop s))) (nI i) K) M = K2 at ihy ⊢
      unfold X8_layBest_B61
      rw [if_pos (show nI y < nI (pop s) by rw [nlt (by omega) (by omega)]; exact hy'), gv (by omega) (by omega), ncl (by omega), rowS_ne (by omega), a1 y hy', d2, bd2s, ninc, lt1s]
      exact ihy
  obtain ⟨I', p1, p2⟩ := run (pop s) 0 5000 r0 (by omega) (by omega) c1
  refine ⟨I', p1, fun K => ?_⟩
  unfold X8_layBest_B39
  rw [if_pos (show nI i < nI (fct (pop s)) by rw [nlt (by omega) (by omega)]; exact hi), a3, bd1s, c2, bd1s]
  exact p2 K
theorem r8_layBest {I : HI} {m x t : Nat} {C : Cf} {N : Nt} {s : Int32} (hC : WfC C) (ht : t + 30 < 1000000) (hx : x < cN C) (h : CfAt I m C) (hr : RnAt (I (m + 9)) C N) (hw : WfN C t N) (h1 : 1 ≤ pop s) (hn : pop s ≤ 5) : ∃ I', ((I' m 32 = (bo (cOf C N x s) (fct (pop s) - 1)).1 ∧ ∀ k, k < pop s → I' (m + 18) k = nI (qq s (pi (pop s) (bo (cOf C N x s) (fct (pop s) - 1)).2 k))) ∧ OffR7 I I' m) ∧ f_X8_layBest I m (nI x) s = some I' := by
  obtain ⟨f120, f0⟩ := fct5 (pop s) (by omega)
  have e1 : fct (pop s - 1 + 1) = fct (pop s) := by rw [show pop s - 1 + 1 = pop s by omega]
  have o0 : OffR7 I (sI I m 32 (-9)) m := ⟨fun z a _ _ _ => sI_ne a, fun k _ b => by rw [sI_eq, uR_ne b]⟩
  have key := wl2_inv (F := X8_layBest_B39 m (nI x) s (nI (pop s)) (nI (fct (pop s)))) (Post := fun I' => (I' m 32 = (bo (cOf C N x s) (fct (pop s) - 1)).1 ∧ ∀ k, k < pop s → I' (m + 18) k = nI (qq s (pi (pop s) (bo (cOf C N x s) (fct (pop s) - 1)).2 k))) ∧ OffR7 I I' m) (Inv := fun i (I1 : HI) (z : Int32) => OffR7 I I1 m ∧ (0 < i → I1 m 32 = (bo (cOf C N x s) (i - 1)).1 ∧ ∀ k, k < pop s → I1 (m + 18) k = nI (qq s (pi (pop s) (bo (cOf C N x s) (i - 1)).2 k))) ∧ z = nI i) (m := fct (pop s)) ?_ ?_ (fct (pop s)) 0 5000 (sI I m 32 (-9)) (nI 0) (by omega) (by omega) ⟨o0, fun q => absurd q (Nat.not_lt_zero _), rfl⟩
  · obtain ⟨I', ha, e⟩ := key
    refine ⟨I', ha, ?_⟩
    unfold f_X8_layBest
    rw [r8_ones, bd1s]
    refine wl2_to (F := X8_layBest_B11 I m (nI x) s (nI (pop s))) (fun j => nI (fct (j + 1))) (fun j => nI (j + 2)) (m := pop s - 1) (fun j kk hj => ?_) (fun kk => ?_) (pop s - 1) 0 5000 (by omega) (by omega)
    · unfold X8_layBest_B11
      rw [if_neg (show ¬ nI (pop s) < nI (j + 2) by rw [nlt (by omega) (by omega)]; omega), nmul, lt1s, ninc, lt1s]
      rfl
    · unfold X8_layBest_B11
      rw [if_pos (show nI (pop s) < nI (pop s - 1 + 2) by rw [nlt (by omega) (by omega)]; omega), e1, lt1s]
      exact e
  · rintro i I1 z hi ⟨a1, a2, rfl⟩
    have hr1 : RnAt (I1 (m + 9)) C N := by rw [a1.1 _ (by omega) (by omega) (by omega) (by omega)]; exact hr
    obtain ⟨I2, ⟨b1, b2⟩, b3⟩ := r8_one hC ht hx (h.off7 a1) hr1 hw h1 hn hi a2
    exact Or.inl ⟨I2, nI (i + 1), ⟨a1.tr b2, fun _ => by rw [Nat.add_sub_cancel]; exact b1, rfl⟩, b3⟩
  · rintro I1 z ⟨a1, a2, rfl⟩
    refine ⟨I1, ⟨a2 f0, a1⟩, fun kk => ?_⟩
    unfold X8_layBest_B39
    rw [if_neg (show ¬ nI (fct (pop s)) < nI (fct (pop s)) by rw [nlt (by omega) (by omega)]; omega)]
theorem r8_in5 {n : Nat} (h : n < 1000) : f_X8_in (nI n).toInt64 1 5 = some (bZ (decide (1 ≤ n ∧ n ≤ 5))) := by
  rw [show (5 : Int64) = nL 5 from rfl, r8_inK _ (by omega)]
  unfold is14
  have e : (nI n).toInt = n := nI_toInt (by omega)
  rw [e]
  congr 2
  exact decide_eq_decide.mpr (by omega)
theorem r8_order {I : HI} {m t : Nat} {C : Cf} {S : St} {v s k : Int32} (hC : WfC C) (ht : t + 30 < 1000000) (h : RfAt I m C S) (hw : WfS C t S) : ∃ I', OffR7 I I' m ∧ f_X8_order I m v s k = some (aOrder C v s k S, I') := by
  have hn := hC.2.2.2.2.1
  have hp32 := pop_le s
  have hz := h.z
  have oz : OffR7 I (sI I m 0 0) m := OffR7.z
  unfold f_X8_order
  rw [lt1s, r8_noProxy hC hz.1.2.2.2.1, bd1s]
  generalize sI I m 0 0 = I0 at hz oz
  cases e1 : isIn v (cN C) with
  | false =>
    have ea : aOrder C v s k S = -1 := if_neg (by rw [e1]; simp)
    rw [if_neg (show ¬ bZ (!false) = 0 from bZt), ea]
    exact ⟨_, oz, rfl⟩
  | true =>
    obtain ⟨x, hx, rfl⟩ := isIn_of e1 (by omega)
    unfold aOrder
    rw [if_pos (show bZ (!true) = 0 from bZf), if_pos e1, ncl (by omega), r8_ones, bd1s, r8_in5 (by omega), bd1s]
    by_cases a12 : 1 ≤ pop s ∧ pop s ≤ 5
    · rw [decide_eq_true a12, if_neg bZt]
      obtain ⟨a1, a2⟩ := a12
      by_cases a3 : k < -1
      · rw [if_pos a3, if_neg (fun q => q.2.2 a3)]
        exact ⟨_, oz, rfl⟩
      · obtain ⟨I1, ⟨⟨b1, b2⟩, b3⟩, b4⟩ := r8_layBest hC ht hx hz.1 hz.2.1 hw.1 a1 a2
        rw [if_neg a3, b4, bd1s, if_pos (show 1 ≤ pop s ∧ pop s ≤ 5 ∧ ¬ k < -1 from ⟨a1, a2, a3⟩)]
        rcases m1_cases a3 with rfl | h0
        · rw [if_pos rfl, if_pos rfl, b1]
          exact ⟨I1, oz.tr b3, rfl⟩
        · obtain ⟨j, hj, rfl⟩ := nI_of h0
          have hne : ¬ nI j = -1 := fun q => by rw [q] at h0; exact h0 (by decide)
          rw [if_neg hne, if_neg hne]
          by_cases hjn : j < pop s
          · have hlt : nI j < nI (pop s) := by rw [nlt (by omega) (by omega)]; exact hjn
            rw [if_pos hlt, if_pos hlt, gv (by omega) (by omega), ncl (by omega), b2 j hjn]
            exact ⟨I1, oz.tr b3, rfl⟩
          · have hlt : ¬ nI j < nI (pop s) := by rw [nlt (by omega) (by omega)]; exact hjn
            rw [if_neg hlt, if_neg hlt]
            exact ⟨I1, oz.tr b3, rfl⟩
    · rw [decide_eq_false a12, if_pos bZf, if_neg (fun q => a12 ⟨q.1, q.2.1⟩)]
      exact ⟨_, oz, rfl⟩

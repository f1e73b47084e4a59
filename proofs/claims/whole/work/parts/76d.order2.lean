/-! the cheapest order: the class -/
/-- the cost of the i-th order -/
def cOf (C : Cf) (N : Nt) (x : Nat) (s : Int32) (i : Nat) : Int32 := cst (asks C (fun _ => x) (fun k => qq s (pi (pop s) i k)) N (pop s)) - cst N
/-- the cheapest of the first orders, and its number -/
def bo (g : Nat → Int32) : Nat → Int32 × Nat
  | 0 => (g 0, 0)
  | i + 1 => if g (i + 1) < (bo g i).1 then (g (i + 1), i + 1) else bo g i
theorem bo_le (g : Nat → Int32) : ∀ i, (bo g i).2 ≤ i
  | 0 => Nat.le_refl _
  | i + 1 => by
    have := bo_le g i
    rw [bo]
    by_cases h : g (i + 1) < (bo g i).1
    · rw [if_pos h]; exact Nat.le_refl _
    · rw [if_neg h]; omega
def OffT7 (I I' : HI) (B : Nat) : Prop := ∀ z, ¬ (B + 37 ≤ z ∧ z < B + 54) → ¬ (B + 300 ≤ z ∧ z < B + 304) → I' z = I z
theorem OffT7.rf {I : HI} {B : Nat} : OffT7 I I B := fun _ _ _ => rfl
theorem OffT7.tr {I I1 I2 : HI} {B : Nat} (h1 : OffT7 I I1 B) (h2 : OffT7 I1 I2 B) : OffT7 I I2 B := fun q a b => (h2 q a b).trans (h1 q a b)
theorem OffT7.t {I I1 : HI} {B : Nat} (h : Off I I1 (B + 37) 17) : OffT7 I I1 B := fun q a _ => h q a
theorem OffT7.o {I I1 : HI} {B a : Nat} (h : Off I I1 a 2) (h1 : B + 300 ≤ a) (h2 : a + 2 ≤ B + 304) : OffT7 I I1 B := fun q _ b => h q (by omega)
theorem x7_triedCost {I : HI} {B x t : Nat} {C : Cf} {N : Nt} {s : Int32} {π : Nat → Nat} (hC : WfC C) (ht : t + 30 < 1000000) (hx : x < cN C) (h : NtAt I (B + 20) C N) (hw : WfN C t N) (hT : TrAt I (B + 300) (pop s) s π) (hn5 : pop s ≤ 5) (hπ : ∀ k, k < pop s → π k < pop s) : ∃ I', Off I I' (B + 37) 17 ∧ f_X7_triedCost I B (nI x) = some (cst (asks C (fun _ => x) (fun k => qq s (π k)) N (pop s)) - cst N, I') := by
  have hn := hC.2.2.2.2.1
  obtain ⟨I1, ⟨a1, a2⟩, a3⟩ := x1_take (I := I) (a := B + 37) (b := B + 20) hC (by omega) h hw
  unfold f_X7_triedCost
  rw [a3, bd1s]
  have key := wl2_inv (F := X7_triedCost_B13 B (nI x)) (Post := fun r => ∃ I', Off I I' (B + 37) 17 ∧ r = (cst (asks C (fun _ => x) (fun k => qq s (π k)) N (pop s)) - cst N, I')) (Inv := fun i (I2 : HI) (z : Int32) => NtAt I2 (B + 37) C (asks C (fun _ => x) (fun k => qq s (π k)) N i) ∧ Off I I2 (B + 37) 17 ∧ z = nI i) (m := pop s) ?_ ?_ (pop s) 0 5000 I1 (nI 0) (by omega) (by omega) ⟨a1, a2, rfl⟩
  · obtain ⟨r, ⟨I', b, rfl⟩, e⟩ := key
    exact ⟨I', b, e⟩
  · rintro i I2 z hi ⟨b1, b2, rfl⟩
    have hp : ∀ j, j < pop s → qq s (π j) < 32 := fun j hj => (qq_spec (hπ j hj)).1
    have hw1 : WfN C (t + 6 * i) (asks C (fun _ => x) (fun k => qq s (π k)) N i) := asks_wf hC hw (fun j hj => ⟨hx, hp j (by omega)⟩) (by omega)
    have hT2 : TrAt I2 (B + 300) (pop s) s π := hT.kept (b2 _ (by omega)) (b2 _ (by omega))
    obtain ⟨I3, ⟨c1, c2, -⟩, c3⟩ := x1_request hC (hp i hi) hx (by omega) b1 hw1
    refine Or.inl ⟨I3, nI (i + 1), ⟨c1, b2.tr c2, rfl⟩, fun k => ?_⟩
    unfold X7_triedCost_B13
    rw [hT2.1, if_pos (show nI i < nI (pop s) by rw [nlt (by omega) (by omega)]; exact hi), x2_pageAt hT2.1 hn5 hi, bd1s, hT2.2 i hi, c3, bd2s, ninc, lt1s]
  · rintro I2 z ⟨b1, b2, rfl⟩
    refine ⟨_, ⟨I2, b2, rfl⟩, fun k => ?_⟩
    have hT2 : TrAt I2 (B + 300) (pop s) s π := hT.kept (b2 _ (by omega)) (b2 _ (by omega))
    have h01 : NtAt I2 (B + 20) C N := h.kept hn fun q _ _ => b2 q (by omega)
    unfold X7_triedCost_B13
    rw [hT2.1, if_neg (show ¬ nI (pop s) < nI (pop s) by rw [nlt (by omega) (by omega)]; omega), x1_cost b1, bd1s, x1_cost h01, bd1s]
theorem x7_findL {I0 : HI} {B x t : Nat} {C : Cf} {N : Nt} {s : Int32} (hC : WfC C) (ht : t + 30 < 1000000) (hx : x < cN C) (h0 : NtAt I0 (B + 20) C N) (hw : WfN C t N) (h1 : 1 ≤ pop s) (hn5 : pop s ≤ 5) : ∀ (j i M : Nat) (I : HI) (l0 : Int32), i + j + 1 = fct (pop s) → j + 2 < M → OffT7 I0 I B → TrAt I (B + 300) (pop s) s (pi (pop s) i) → (0 < i → l0 = (bo (cOf C N x s) (i - 1)).1 ∧ TrAt I (B + 302) (pop s) s (pi (pop s) (bo (cOf C N x s) (i - 1)).2)) → ∃ I', (TrAt I' (B + 302) (pop s) s (pi (pop s) (bo (cOf C N x s) (fct (pop s) - 1)).2) ∧ OffT7 I0 I' B) ∧ wl4 (X7_findCheapest_B16 B (nI x)) M I l0 1 (nI i) = some ((bo (cOf C N x s) (fct (pop s) - 1)).1, I') := by
  have hn := hC.2.2.2.2.1
  obtain ⟨f120, f0⟩ := fct5 (pop s) (by omega)
  intro j
  induction j with
  | zero =>
    intro i M I l0 hi hM ho hT hb
    obtain ⟨M, rfl⟩ : ∃ K, M = K + 2 := ⟨M - 2, by omega⟩
    have hπ : ∀ k, k < pop s → pi (pop s) i k < pop s := fun k hk => (pokE (by omega) (by omega) hk).2.2.2.1
    have hI : NtAt I (B + 20) C N := h0.kept hn fun q _ _ => ho q (by omega) (by omega)
    obtain ⟨I1, a1, a2⟩ := x7_triedCost hC ht hx hI hw hT hn5 hπ
    have hT1 : TrAt I1 (B + 300) (pop s) s (pi (pop s) i) := hT.kept (a1 _ (by omega)) (a1 _ (by omega))
    have ei : i = fct (pop s) - 1 := by omega
    have hlast : tnF (pi (pop s) i) (pop s - 1) = 0 := by rw [ei]; exact adv_last _ (by omega) h1
    have a2' : f_X7_triedCost I B (nI x) = some (cOf C N x s i, I1) := a2
    -- what the choice leaves
    have ch : ∃ I2, (TrAt I2 (B + 302) (pop s) s (pi (pop s) (bo (cOf C N x s) i).2) ∧ TrAt I2 (B + 300) (pop s) s (pi (pop s) i) ∧ OffT7 I0 I2 B) ∧ ∀ K, (if nI i = 0 then X7_findCheapest_J46 I1 B (nI x) (nI i) (cOf C N x s i) K else if cOf C N x s i < l0 then X7_findCheapest_J46 I1 B (nI x) (nI i) (cOf C N x s i) K else X7_findCheapest_J60 I1 B (nI x) l0 (nI i) K) = X7_findCheapest_J60 I2 B (nI x) (bo (cOf C N x s) i).1 (nI i) K := by
      obtain ⟨I2, ⟨b1, b2⟩, b3⟩ := x2_take (I := I1) (a := B + 302) (b := B + 300) (by omega) hn5 hT1
      have o1 : OffT7 I0 I1 B := ho.tr (OffT7.t a1)
      have hT2 : TrAt I2 (B + 300) (pop s) s (pi (pop s) i) := hT1.kept (b2 _ (by omega)) (b2 _ (by omega))
      have o2 : OffT7 I0 I2 B := o1.tr (OffT7.o b2 (by omega) (by omega))
      cases i with
      | zero =>
        refine ⟨I2, ⟨b1, hT2, o2⟩, fun K => ?_⟩
        rw [if_pos (show nI 0 = 0 from rfl)]
        unfold X7_findCheapest_J46
        rw [b3, bd1s]
        rfl
      | succ i =>
        obtain ⟨l1, l2⟩ := hb (by omega)
        rw [Nat.add_sub_cancel] at l1 l2
        subst l1
        rw [bo]
        by_cases hlt : cOf C N x s (i + 1) < (bo (cOf C N x s) i).1
        · rw [if_pos hlt]
          refine ⟨I2, ⟨b1, hT2, o2⟩, fun K => ?_⟩
          rw [if_neg (show ¬ nI (i + 1) = 0 by rw [n0eq (by omega)]; omega), if_pos hlt]
          unfold X7_findCheapest_J46
          rw [b3, bd1s]
        · rw [if_neg hlt]
          refine ⟨I1, ⟨l2.kept (a1 _ (by omega)) (a1 _ (by omega)), hT1, o1⟩, fun K => ?_⟩
          rw [if_neg (show ¬ nI (i + 1) = 0 by rw [n0eq (by omega)]; omega), if_neg hlt]
    obtain ⟨I2, ⟨c1, c2, c3⟩, c4⟩ := ch
    have hadv := x2_advanceNo c2 h1 hn5 hπ hlast
    refine ⟨I2, ⟨by rw [← ei]; exact c1, c3⟩, ?_⟩
    show wl4 _ (M + 1 + 1) _ _ _ _ = _
    rw [wl4_0]
    generalize hK : wl4 (X7_findCheapest_B16 B (nI x)) (M + 1) = K
    unfold X7_findCheapest_B16
    rw [if_pos (show nI i < (120 : Int32) by rw [show (120 : Int32) = nI 120 from rfl, nlt (by omega) (by omega)]; omega), if_neg (by decide), a2', bd2s, c4]
    unfold X7_findCheapest_J60
    rw [hadv, bd2s, ninc, lt1s, ← hK, wl4_0]
    unfold X7_findCheapest_B16
    rw [if_pos (show (0 : Int32) = 0 from rfl), ite_self, ei]
  | succ j ih =>
    intro i M I l0 hi hM ho hT hb
    obtain ⟨M, rfl⟩ : ∃ K, M = K + 1 := ⟨M - 1, by omega⟩
    have hπ : ∀ k, k < pop s → pi (pop s) i k < pop s := fun k hk => (pokE (by omega) (by omega) hk).2.2.2.1
    have hI : NtAt I (B + 20) C N := h0.kept hn fun q _ _ => ho q (by omega) (by omega)
    obtain ⟨I1, a1, a2⟩ := x7_triedCost hC ht hx hI hw hT hn5 hπ
    have hT1 : TrAt I1 (B + 300) (pop s) s (pi (pop s) i) := hT.kept (a1 _ (by omega)) (a1 _ (by omega))
    obtain ⟨hne, hnext⟩ := adv_all (pop s) (by omega) h1 i (by omega)
    have a2' : f_X7_triedCost I B (nI x) = some (cOf C N x s i, I1) := a2
    have ch : ∃ I2, (TrAt I2 (B + 302) (pop s) s (pi (pop s) (bo (cOf C N x s) i).2) ∧ TrAt I2 (B + 300) (pop s) s (pi (pop s) i) ∧ OffT7 I0 I2 B) ∧ ∀ K, (if nI i = 0 then X7_findCheapest_J46 I1 B (nI x) (nI i) (cOf C N x s i) K else if cOf C N x s i < l0 then X7_findCheapest_J46 I1 B (nI x) (nI i) (cOf C N x s i) K else X7_findCheapest_J60 I1 B (nI x) l0 (nI i) K) = X7_findCheapest_J60 I2 B (nI x) (bo (cOf C N x s) i).1 (nI i) K := by
      obtain ⟨I2, ⟨b1, b2⟩, b3⟩ := x2_take (I := I1) (a := B + 302) (b := B + 300) (by omega) hn5 hT1
      have o1 : OffT7 I0 I1 B := ho.tr (OffT7.t a1)
      have hT2 : TrAt I2 (B + 300) (pop s) s (pi (pop s) i) := hT1.kept (b2 _ (by omega)) (b2 _ (by omega))
      have o2 : OffT7 I0 I2 B := o1.tr (OffT7.o b2 (by omega) (by omega))
      cases i with
      | zero =>
        refine ⟨I2, ⟨b1, hT2, o2⟩, fun K => ?_⟩
        rw [if_pos (show nI 0 = 0 from rfl)]
        unfold X7_findCheapest_J46
        rw [b3, bd1s]
        rfl
      | succ i =>
        obtain ⟨l1, l2⟩ := hb (by omega)
        rw [Nat.add_sub_cancel] at l1 l2
        subst l1
        rw [bo]
        by_cases hlt : cOf C N x s (i + 1) < (bo (cOf C N x s) i).1
        · rw [if_pos hlt]
          refine ⟨I2, ⟨b1, hT2, o2⟩, fun K => ?_⟩
          rw [if_neg (show ¬ nI (i + 1) = 0 by rw [n0eq (by omega)]; omega), if_pos hlt]
          unfold X7_findCheapest_J46
          rw [b3, bd1s]
        · rw [if_neg hlt]
          refine ⟨I1, ⟨l2.kept (a1 _ (by omega)) (a1 _ (by omega)), hT1, o1⟩, fun K => ?_⟩
          rw [if_neg (show ¬ nI (i + 1) = 0 by rw [n0eq (by omega)]; omega), if_neg hlt]
    obtain ⟨I2, ⟨c1, c2, c3⟩, c4⟩ := ch
    obtain ⟨I3, ⟨d1, d2⟩, d3⟩ := x2_advance c2 h1 hn5 hπ hne
    obtain ⟨I4, ⟨e1, e2⟩, e3⟩ := ih (i + 1) M I3 (bo (cOf C N x s) i).1 (by omega) (by omega) (c3.tr (OffT7.o d2 (by omega) (by omega))) (d1.congr hnext) (fun _ => by rw [Nat.add_sub_cancel]; exact ⟨rfl, c1.kept (d2 _ (by omega)) (d2 _ (by omega))⟩)
    refine ⟨I4, ⟨e1, e2⟩, ?_⟩
    rw [wl4_0]
    generalize wl4 (X7_findCheapest_B16 B (nI x)) M = K at e3 ⊢
    unfold X7_findCheapest_B16
    rw [if_pos (show nI i < (120 : Int32) by rw [show (120 : Int32) = nI 120 from rfl, nlt (by omega) (by omega)]; omega), if_neg (by decide), a2', bd2s, c4]
    unfold X7_findCheapest_J60
    rw [d3, bd2s, ninc, lt1s]
    exact e3
def aOrder (C : Cf) (v s k : Int32) (S : St) : Int32 := if isIn v (cN C) = true then (if 1 ≤ pop s ∧ pop s ≤ 5 ∧ ¬ k < -1 then (if k = -1 then (bo (cOf C S.1 v.toNatClampNeg s) (fct (pop s) - 1)).1 else if k < nI (pop s) then nI (qq s (pi (pop s) (bo (cOf C S.1 v.toNatClampNeg s) (fct (pop s) - 1)).2 k.toNatClampNeg)) else m9) else -2) else -1
theorem m1_cases {k : Int32} (h : ¬ k < -1) : k = -1 ∨ ¬ k < 0 := by
  rw [Int32.lt_iff_toInt_lt] at h ⊢
  have e1 : (-1 : Int32).toInt = -1 := by decide
  have e0 : (0 : Int32).toInt = 0 := by decide
  by_cases hk : k.toInt = -1
  · left; exact Int32.toInt_inj.mp (by rw [e1]; exact hk)
  · right; omega
theorem x7_order {I : HI} {B t : Nat} {C : Cf} {S : St} {v s k : Int32} (hC : WfC C) (ht : t + 30 < 1000000) (h : ClAt I B C S) (hw : WfS C t S) : ∃ I', OffT7 I I' B ∧ f_X7_order I B v s k = some (aOrder C v s k S, I') := by
  have hn := hC.2.2.2.2.1
  have hp32 := pop_le s
  unfold f_X7_order
  rcases x1_proxyIn hC h.1 v with ⟨x, hx, rfl, e1, e2⟩ | ⟨e1, e2⟩
  · unfold aOrder
    rw [e2, bd1s, mNs, j6_pop, bd1s, if_pos e1, ncl (by omega)]
    by_cases a1 : 1 ≤ pop s
    · rw [if_neg (show ¬ nI (pop s) < (1 : Int32) by rw [i_1, nlt (by omega) (by omega)]; omega)]
      by_cases a2 : pop s ≤ 5
      · rw [if_neg (show ¬ (5 : Int32) < nI (pop s) by rw [i_5, nlt (by omega) (by omega)]; omega)]
        by_cases a3 : k < -1
        · rw [if_pos a3, if_neg (fun q => q.2.2 a3)]
          exact ⟨I, OffT7.rf, rfl⟩
        · obtain ⟨f120, f0⟩ := fct5 (pop s) (by omega)
          obtain ⟨I1, ⟨b1, b2⟩, b3⟩ := x2_begin (I := I) (a := B + 300) (s := s) a2
          have b1' : TrAt I1 (B + 300) (pop s) s (pi (pop s) 0) := b1.congr fun j hj => (pi_inj_all _ (by omega) j hj).symm
          obtain ⟨I2, ⟨c1, c2⟩, c3⟩ := x7_findL hC ht hx h.1 hw.1 a1 a2 (fct (pop s) - 1) 0 5000 I1 0 (by omega) (by omega) (OffT7.o b2 (by omega) (by omega)) b1' (fun q => absurd q (Nat.not_lt_zero _))
          have ef : f_X7_findCheapest I B (nI x) s = some ((bo (cOf C S.1 x s) (fct (pop s) - 1)).1, I2) := by
            unfold f_X7_findCheapest
            rw [b3, bd1s]
            exact c3
          rw [if_neg a3, ef, bd2s, if_pos (show 1 ≤ pop s ∧ pop s ≤ 5 ∧ ¬ k < -1 from ⟨a1, a2, a3⟩)]
          rcases m1_cases a3 with rfl | h0
          · rw [if_pos (show (-1 : Int32) < 0 by decide), if_pos rfl]
            exact ⟨I2, c2, rfl⟩
          · obtain ⟨j, hj, rfl⟩ := nI_of h0
            rw [if_neg h0, if_neg (show ¬ nI j = -1 from fun q => by rw [q] at h0; exact h0 (by decide))]
            by_cases hjn : j < pop s
            · rw [x2_pageAt c1.1 a2 hjn, bd1s, if_pos (show nI j < nI (pop s) by rw [nlt (by omega) (by omega)]; exact hjn), c1.2 j hjn, ncl (by omega)]
              exact ⟨I2, c2, rfl⟩
            · rw [x2_pageNo c1.1 a2 hjn hj, bd1s, if_neg (show ¬ nI j < nI (pop s) by rw [nlt (by omega) (by omega)]; exact hjn)]
              exact ⟨I2, c2, rfl⟩
      · rw [if_pos (show (5 : Int32) < nI (pop s) by rw [i_5, nlt (by omega) (by omega)]; omega), if_neg (fun q => a2 q.2.1)]
        exact ⟨I, OffT7.rf, rfl⟩
    · rw [if_pos (show nI (pop s) < (1 : Int32) by rw [i_1, nlt (by omega) (by omega)]; omega), if_neg (fun q => a1 q.1)]
      exact ⟨I, OffT7.rf, rfl⟩
  · have ea : aOrder C v s k S = -1 := if_neg (by rw [e1]; simp)
    rw [e2, bd1s, mNn, ea]
    exact ⟨I, OffT7.rf, rfl⟩

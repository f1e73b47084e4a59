/-! copies -/
theorem x7_copyRow {I : HI} {a b n : Nat} (hn : n < 5000) (hab : a ≠ b) : f_X7_copyRow I a n b n = some (rowS I b (fun k => if k < n then I a k else I b k)) := by
  unfold f_X7_copyRow
  have en : Int32.ofNat n = nI n := rfl
  have key := wl2_inv (F := X7_copyRow_B2 a n b n) (Post := fun o => o = rowS I b (fun k => if k < n then I a k else I b k)) (Inv := fun i (I1 : HI) (x : Int32) => I1 = rowS I b (fun k => if k < i then I a k else I b k) ∧ x = nI i) (m := n) ?_ ?_ n 0 5000 I (nI 0) (by omega) (by omega) ⟨?_, rfl⟩
  · obtain ⟨o, e, h⟩ := key
    rw [← e]; exact h
  · rintro i I1 x hi ⟨rfl, rfl⟩
    refine Or.inl ⟨_, nI (i + 1), ⟨rfl, rfl⟩, fun k => ?_⟩
    unfold X7_copyRow_B2
    rw [en, if_pos (show nI i < nI n by rw [nlt (by omega) (by omega)]; exact hi), if_pos (show nI i < nI n by rw [nlt (by omega) (by omega)]; exact hi), gv hi (by omega), gv hi (by omega), lt1s, ncl (by omega), rowS_ne hab, rowS_s, lt1s, ninc]
    congr 2
    funext q
    unfold uR
    by_cases hq : q = i
    · rw [if_pos hq, if_pos (by omega), hq]
    · rw [if_neg hq]
      dsimp only
      by_cases h2 : q < i
      · rw [if_pos h2, if_pos (by omega)]
      · rw [if_neg h2, if_neg (by omega)]
  · rintro I1 x ⟨rfl, rfl⟩
    refine ⟨_, rfl, fun k => ?_⟩
    unfold X7_copyRow_B2
    rw [en, if_neg (show ¬ nI n < nI n by rw [nlt (by omega) (by omega)]; omega)]
  · have e : (fun k => if k < 0 then I a k else I b k) = I b := by
      funext k; rw [if_neg (by omega)]
    rw [e, rowS_id]
theorem x4_take {I : HI} {a b : Nat} (hab : a + 3 ≤ b ∨ b + 3 ≤ a) : ∃ I', ((∀ k, k < 5 → I' a k = I b k) ∧ (∀ k, k < 9 → I' (a + 1) k = I (b + 1) k) ∧ (∀ k, k < 16 → I' (a + 2) k = I (b + 2) k) ∧ Off I I' a 3) ∧ f_X4_take I a b = some I' := by
  unfold f_X4_take
  rw [lt1s, lt1s, lt1s, lt1s, lt1s, x7_copyRow (by omega) (by omega), bd1s, x7_copyRow (by omega) (by omega), bd1s]
  refine ⟨_, ⟨fun k hk => ?_, fun k hk => ?_, fun k hk => ?_, fun q hq => ?_⟩, rfl⟩
  · rw [rowS_ne (by omega), rowS_ne (by omega)]
    have hb : b ≠ a := by omega
    rcases (show k = 0 ∨ k = 1 ∨ k = 2 ∨ k = 3 ∨ k = 4 by omega) with rfl | rfl | rfl | rfl | rfl <;> simp [sI_at, hb]
  · rw [rowS_ne (by omega), rowS_at, if_pos hk]
    have h1 : b + 1 ≠ a := by omega
    simp [sI_at, h1]
  · rw [rowS_at, if_pos hk]
    have h1 : b + 2 ≠ a := by omega
    rw [rowS_ne (by omega)]
    simp [sI_at, h1]
  · rw [rowS_ne (by omega), rowS_ne (by omega), sI_ne (by omega), sI_ne (by omega), sI_ne (by omega), sI_ne (by omega), sI_ne (by omega)]
theorem x0_take {I : HI} {a b : Nat} (hab : a + 3 ≤ b ∨ b + 3 ≤ a) : ∃ I', ((∀ k, k < 4 → I' a k = I b k) ∧ (∀ k, k < 3 → I' (a + 1) k = I (b + 1) k) ∧ (∀ k, k < 3 → I' (a + 2) k = I (b + 2) k) ∧ Off I I' a 3) ∧ f_X0_take I a b = some I' := by
  unfold f_X0_take
  rw [lt1s, lt1s, lt1s, lt1s, x7_copyRow (by omega) (by omega), bd1s, x7_copyRow (by omega) (by omega), bd1s]
  refine ⟨_, ⟨fun k hk => ?_, fun k hk => ?_, fun k hk => ?_, fun q hq => ?_⟩, rfl⟩
  · rw [rowS_ne (by omega), rowS_ne (by omega)]
    have hb : b ≠ a := by omega
    rcases (show k = 0 ∨ k = 1 ∨ k = 2 ∨ k = 3 by omega) with rfl | rfl | rfl | rfl <;> simp [sI_at, hb]
  · rw [rowS_ne (by omega), rowS_at, if_pos hk]
    have h1 : b + 1 ≠ a := by omega
    simp [sI_at, h1]
  · rw [rowS_at, if_pos hk]
    have h1 : b + 2 ≠ a := by omega
    rw [rowS_ne (by omega)]
    simp [sI_at, h1]
  · rw [rowS_ne (by omega), rowS_ne (by omega), sI_ne (by omega), sI_ne (by omega), sI_ne (by omega), sI_ne (by omega)]
theorem PxAt.copy {I I' : HI} {a b rm : Nat} {P : Prx} (h : PxAt I b rm P) (h9 : pN P ≤ 9) (h0 : ∀ k, k < 5 → I' a k = I b k) (h1 : ∀ k, k < 9 → I' (a + 1) k = I (b + 1) k) (h2 : ∀ k, k < 16 → I' (a + 2) k = I (b + 2) k) : PxAt I' a rm P := by
  obtain ⟨p0, p1, p2, p3, p4, p5, p6⟩ := h
  exact ⟨by rw [h0 _ (by omega)]; exact p0, by rw [h0 _ (by omega)]; exact p1, by rw [h0 _ (by omega)]; exact p2, by rw [h0 _ (by omega)]; exact p3, by rw [h0 _ (by omega)]; exact p4, fun k hk => by rw [h1 _ (by omega)]; exact p5 k hk, fun k hk => by rw [h2 _ hk]; exact p6 k hk⟩
theorem HsAt.copy {I I' : HI} {a b fam : Nat} {C : Cf} (hC : WfC C) (h : HsAt I b C fam) (h0 : ∀ k, k < 4 → I' a k = I b k) (h1 : ∀ k, k < 3 → I' (a + 1) k = I (b + 1) k) (h2 : ∀ k, k < 3 → I' (a + 2) k = I (b + 2) k) : HsAt I' a C fam := by
  have hF := hC.2.2.1
  obtain ⟨p0, p1, p2, p3, p4, p5⟩ := h
  exact ⟨by rw [h0 _ (by omega)]; exact p0, by rw [h0 _ (by omega)]; exact p1, by rw [h0 _ (by omega)]; exact p2, by rw [h0 _ (by omega)]; exact p3, fun k hk => by rw [h1 _ (by omega)]; exact p4 k hk, fun k hk => by rw [h2 _ (by omega)]; exact p5 k hk⟩
theorem x1_take {I : HI} {a b t : Nat} {C : Cf} {N : Nt} (hC : WfC C) (hab : a + 17 ≤ b ∨ b + 17 ≤ a) (h : NtAt I b C N) (hw : WfN C t N) : ∃ I', (NtAt I' a C N ∧ Off I I' a 17) ∧ f_X1_take I a b = some I' := by
  have hn := hC.2.2.2.2.1
  unfold f_X1_take
  obtain ⟨I0, ⟨a0, a1, a2, a3⟩, a4⟩ := x0_take (I := I) (a := a + 1) (b := b + 1) (by omega)
  rw [a4, bd1s]
  have hh0 : HsAt I0 (a + 1) C (nF N) := h.1.copy hC a0 a1 a2
  have hb0 : ∀ q, b ≤ q → q < b + 17 → I0 q = I q := fun q h1 h2 => a3 q (by omega)
  refine wl2_inv (F := X1_take_B13 a b) (Inv := fun i (I1 : HI) (x : Int32) => (HsAt I1 (a + 1) C (nF N) ∧ (∀ y, y < i → y < cN C → PxAt I1 (a + 4 + 1 + 3 * y) (cR C y) (nP N y)) ∧ Off I I1 a 17) ∧ x = nI i) (m := 4) ?_ ?_ 4 0 5000 I0 (nI 0) (by omega) (by omega) ⟨⟨hh0, fun y hy => absurd hy (by omega), a3.wid (by omega) (by omega)⟩, rfl⟩
  · rintro i I1 x hi ⟨⟨b1, b2, b3⟩, rfl⟩
    obtain ⟨I2, ⟨c1, c2, c3, c4⟩, c5⟩ := x4_take (I := I1) (a := a + 4 + 1 + 3 * i) (b := b + 4 + 1 + 3 * i) (by omega)
    refine Or.inl ⟨I2, nI (i + 1), ⟨⟨b1.kept (c4 _ (by omega)) (c4 _ (by omega)) (c4 _ (by omega)), fun y hy hyn => ?_, b3.tr (c4.wid (by omega) (by omega))⟩, rfl⟩, fun k => ?_⟩
    · by_cases hyi : y = i
      · subst hyi
        have hs := hw.shf hyn
        have hk : PxAt I1 (b + 4 + 1 + 3 * y) (cR C y) (nP N y) := (h.2.2.2.2.2.2 y hyn).kept (b3 _ (by omega)) (b3 _ (by omega)) (b3 _ (by omega))
        exact hk.copy (Nat.le_trans hs.1 hs.2.1) c1 c2 c3
      · exact (b2 y (by omega) hyn).kept (c4 _ (by omega)) (c4 _ (by omega)) (c4 _ (by omega))
    · unfold X1_take_B13 X1_take_J64
      rw [if_pos (show nI i < (4 : Int32) by rw [i_4, nlt (by omega) (by omega)]; exact hi), if_pos (show nI i < (4 : Int32) by rw [i_4, nlt (by omega) (by omega)]; exact hi), gv hi (by omega), gv hi (by omega), gv hi (by omega), gv hi (by omega), ncl (by omega), c5, bd1s, lt1s, ninc]
  · rintro I1 x ⟨⟨b1, b2, b3⟩, rfl⟩
    have eb : I1 b = I b := b3 b (by omega)
    obtain ⟨-, d2, d3, d4, d5, d6, -⟩ := h
    rw [← eb] at d2 d3 d4 d5 d6
    have hb : b ≠ a := by omega
    refine ⟨sI (sI (sI (sI (sI I1 a 2 (I1 b 2)) a 3 (I1 b 3)) a 4 (I1 b 4)) a 5 (I1 b 5)) a 6 (I1 b 6), ⟨⟨?_, ?_, ?_, ?_, ?_, ?_, fun y hy => ?_⟩, ?_⟩, fun k => ?_⟩
    · refine b1.kept ?_ ?_ ?_ <;> rw [sI_ne (by omega), sI_ne (by omega), sI_ne (by omega), sI_ne (by omega), sI_ne (by omega)]
    · simp only [sI_at]; simpa using d2
    · simp only [sI_at]; simpa using d3
    · simp only [sI_at]; simpa using d4
    · simp only [sI_at]; simpa using d5
    · simp only [sI_at]; simpa using d6
    · refine (b2 y (by omega) hy).kept ?_ ?_ ?_ <;> rw [sI_ne (by omega), sI_ne (by omega), sI_ne (by omega), sI_ne (by omega), sI_ne (by omega)]
    · exact ((((b3.tr (Off.s (by omega))).tr (Off.s (by omega))).tr (Off.s (by omega))).tr (Off.s (by omega))).tr (Off.s (by omega))
    · unfold X1_take_B13 X1_take_J70
      rw [if_neg (show ¬ nI 4 < (4 : Int32) by decide), lt1s, lt1s, lt1s, lt1s, lt1s]
      have e : ∀ (J : HI) (k : Nat) (v : Int32), sI J a k v b = J b := fun J k v => sI_ne hb
      simp only [e]

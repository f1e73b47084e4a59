/-! the reference: one row holds a net -/
def CfAt (I : HI) (m : Nat) (C : Cf) : Prop := I m 4 = nI (cM C) ∧ I m 5 = nI (cK C) ∧ I m 6 = nI (cF C) ∧ I m 9 = nI (cN C) ∧ (∀ f, f < cF C → I (m + 2) f = nI (cA C f)) ∧ (∀ f, f < cF C → I (m + 3) f = nI (cB C f)) ∧ ∀ x, x < cN C → I (m + 4) x = nI (cR C x)
def RxAt (r : Nat → Int32) (x : Nat) (P : Prx) : Prop := (∀ k, k < pN P → r (29 * x + k) = nI (pS P k)) ∧ r (29 * x + 9) = nI (pN P) ∧ (∀ c, c < 16 → r (29 * x + 10 + c) = pC P c) ∧ r (29 * x + 26) = pM P ∧ r (29 * x + 27) = pH P ∧ r (29 * x + 28) = pL P ∧ pN P ≤ 9
def RnAt (r : Nat → Int32) (C : Cf) (N : Nt) : Prop := (∀ x, x < cN C → RxAt r x (nP N x)) ∧ r 116 = nI (nF N) ∧ r 117 = nRq N ∧ r 118 = nFl N ∧ r 119 = nFt N ∧ r 120 = nMs N
def ROff (r r' : Nat → Int32) (x : Nat) : Prop := ∀ k, ¬ (29 * x ≤ k ∧ k < 29 * x + 29) → r' k = r k
theorem ROff.rf {r : Nat → Int32} {x : Nat} : ROff r r x := fun _ _ => rfl
theorem ROff.tr {r r1 r2 : Nat → Int32} {x : Nat} (h1 : ROff r r1 x) (h2 : ROff r1 r2 x) : ROff r r2 x := fun q h => (h2 q h).trans (h1 q h)
theorem ROff.u {r : Nat → Int32} {x k : Nat} {v : Int32} (h : 29 * x ≤ k ∧ k < 29 * x + 29) : ROff r (uR r k v) x := fun q hq => uR_ne (by rintro rfl; exact hq h)
theorem CfAt.row {I : HI} {m w : Nat} {C : Cf} (h : CfAt I m C) (hw : m + 5 ≤ w) (r : Nat → Int32) : CfAt (rowS I w r) m C := by
  obtain ⟨a, b, c, d, e, f, g⟩ := h
  refine ⟨?_, ?_, ?_, ?_, fun k hk => ?_, fun k hk => ?_, fun k hk => ?_⟩
  · rw [rowS_ne (by omega)]; exact a
  · rw [rowS_ne (by omega)]; exact b
  · rw [rowS_ne (by omega)]; exact c
  · rw [rowS_ne (by omega)]; exact d
  · rw [rowS_ne (by omega)]; exact e k hk
  · rw [rowS_ne (by omega)]; exact f k hk
  · rw [rowS_ne (by omega)]; exact g k hk
theorem RnAt.px {r r' : Nat → Int32} {C : Cf} {N : Nt} {x : Nat} {P : Prx} (hn : cN C ≤ 4) (h : RnAt r C N) (hx : x < cN C) (hP : RxAt r' x P) (ho : ROff r r' x) : RnAt r' C (stP N x P) := by
  obtain ⟨g, a, b, c, d, e⟩ := h
  refine ⟨fun y hy => ?_, by rw [ho _ (by omega)]; exact a, by rw [ho _ (by omega)]; exact b, by rw [ho _ (by omega)]; exact c, by rw [ho _ (by omega)]; exact d, by rw [ho _ (by omega)]; exact e⟩
  by_cases hyx : y = x
  · subst hyx; rw [stP_eq]; exact hP
  · rw [stP_ne hyx]
    obtain ⟨p0, p1, p2, p3, p4, p5, p6⟩ := g y hy
    refine ⟨fun k hk => ?_, ?_, fun k hk => ?_, ?_, ?_, ?_, p6⟩
    · rw [ho _ (by omega)]; exact p0 k hk
    · rw [ho _ (by omega)]; exact p1
    · rw [ho _ (by omega)]; exact p2 k hk
    · rw [ho _ (by omega)]; exact p3
    · rw [ho _ (by omega)]; exact p4
    · rw [ho _ (by omega)]; exact p5
theorem and_one (s : Int32) : s &&& 1 = 0 ∨ s &&& 1 = 1 := by
  have h : (s &&& 1).toBitVec = (BitVec.ofBool (s.toBitVec.getLsbD 0)).setWidth 32 := by
    rw [Int32.toBitVec_and]
    exact BitVec.and_one_eq_setWidth_ofBool_getLsbD
  cases hb : s.toBitVec.getLsbD 0 with
  | false => left; rw [hb] at h; exact Int32.toBitVec_inj.mp h
  | true => right; rw [hb] at h; exact Int32.toBitVec_inj.mp h
theorem r8_has (s : Int32) (c : Nat) : f_X8_has s (nI c) = some (bZ (bit s c)) := by
  unfold f_X8_has bit
  rcases and_one (s >>> (nI c &&& 31)) with h | h
  · rw [h, if_neg (by decide), decide_eq_true rfl]; rfl
  · rw [h, if_pos rfl, decide_eq_false (by decide)]; rfl
theorem r8_hashOf {I : HI} {m : Nat} {C : Cf} (hC : WfC C) (hh : CfAt I m C) {f p i : Nat} (hf : f < cF C) (hp : p < 32) (hi : i < 3) : f_X8_hashOf I m (nI f) (nI p) (nI i) = some (nI (cel C f p i)) := by
  obtain ⟨g0, g1, g2, g3, gA, gB, gR⟩ := hh
  obtain ⟨⟨m1, m2⟩, -, ⟨-, f3⟩, hAB, -⟩ := hC
  obtain ⟨hA, hB⟩ := hAB f hf
  have hf3 : f < 3 := by omega
  have b1 := mul2 hA hp
  have b2 := mul3 (b := i + 1) (c := 0) hB (by omega)
  unfold f_X8_hashOf
  have e3 : ∀ {x : Option Int32}, gd (vp_in (nI f) 3) x = x := gv hf3 (by omega)
  rw [g0, e3, e3, gdt (by rw [n0eq (by omega)]; omega), ncl (by omega), gA f hf, gB f hf, ninc, nmul, nmul, nmul, nadd, i_37, rem_n (by omega) (by omega) (by omega), rem_n (by omega) (by omega) (by omega)]
  rfl
theorem r8_isSaid {I : HI} {m : Nat} {C : Cf} (hC : WfC C) (hh : CfAt I m C) {f p : Nat} (hf : f < cF C) (hp : p < 32) (s : Int32) : f_X8_isSaid I m s (nI f) (nI p) = some (bZ (con s (cel C f p) (cK C))) := by
  have hK := hC.2.1
  have hM := hC.1
  unfold f_X8_isSaid
  have key := wl2_inv (F := X8_isSaid_B6 I m s (nI f) (nI p)) (Post := fun v => v = bZ (con s (cel C f p) (cK C))) (Inv := fun i (y x : Int32) => y = bZ (con s (cel C f p) i) ∧ x = nI i) (m := cK C) ?_ ?_ (cK C) 0 5000 1 (nI 0) (by omega) (by omega) ⟨rfl, rfl⟩
  · obtain ⟨r, e, h⟩ := key
    rw [← e]; exact h
  · rintro i y x hi ⟨rfl, rfl⟩
    refine Or.inl ⟨_, nI (i + 1), ⟨rfl, rfl⟩, fun k => ?_⟩
    have hc : f_X8_hashOf I m (nI f) (nI p) (nI i) = some (nI (cel C f p i)) := r8_hashOf hC hh hf hp (by omega)
    unfold X8_isSaid_B6 X8_isSaid_J39 X8_isSaid_J40
    rw [hh.2.1, if_pos (by rw [nlt (by omega) (by omega)]; exact hi)]
    rw [con]
    cases hb : con s (cel C f p) i with
    | false => rw [if_pos bZf, lt1s, ninc]; rfl
    | true =>
      rw [if_neg bZt, hc, bd1s, r8_has, bd1s]
      cases hb2 : bit s (cel C f p i) with
      | false => rw [if_pos bZf, lt1s, ninc]; rfl
      | true => rw [if_neg bZt, lt1s, ninc]; rfl
  · rintro y x ⟨rfl, rfl⟩
    refine ⟨_, rfl, fun k => ?_⟩
    unfold X8_isSaid_B6
    rw [hh.2.1, if_neg (by rw [nlt (by omega) (by omega)]; omega), gdt (bZ_zb _)]
theorem r8_placeOf {I : HI} {w x rm p : Nat} {r : Nat → Int32} {P : Prx} (h : RxAt r x P) (hs : Shf rm (pN P) (pS P)) (hx : x < 4) (hp : p < 32) : f_X8_placeOf (rowS I w r) w (nI x) (nI p) = some (plV (pl (pS P) p (pN P))) := by
  obtain ⟨s1, s2, s3, s4⟩ := hs
  unfold f_X8_placeOf
  have key := wl2_inv (F := X8_placeOf_B6 (rowS I w r) w (nI x) (nI p)) (Post := fun v => v = plV (pl (pS P) p (pN P))) (Inv := fun i (y z : Int32) => y = plV (pl (pS P) p i) ∧ z = nI i) (m := pN P) ?_ ?_ (pN P) 0 5000 (-9) (nI 0) (by omega) (by omega) ⟨rfl, rfl⟩
  · obtain ⟨v, e, h⟩ := key
    rw [← e]; exact h
  · rintro i y z hi ⟨rfl, rfl⟩
    refine Or.inl ⟨_, nI (i + 1), ⟨rfl, rfl⟩, fun k => ?_⟩
    unfold X8_placeOf_B6 X8_placeOf_J39
    rw [i_29, i_9, nmul, nadd, gv (by omega) (by omega), ncl (by omega), rowS_at, h.2.1, if_pos (by rw [nlt (by omega) (by omega)]; exact hi), nadd, gv (by omega) (by omega), ncl (by omega), h.1 i hi, lt1s, lt1s, ninc]
    have h32 := s3 i hi
    by_cases he : pS P i = p
    · rw [if_pos (by rw [he]), pl]
      have hn : pl (pS P) p i = none := pl_no (fun j hj e => by
        have := s4 j i (by omega) hi (e.trans he.symm)
        omega)
      rw [hn]
      dsimp only
      rw [if_pos he]
      rfl
    · rw [if_neg (by rw [neq (by omega) (by omega)]; exact he), pl]
      cases hn : pl (pS P) p i with
      | none => dsimp only; rw [if_neg he]
      | some j => rfl
  · rintro y z ⟨rfl, rfl⟩
    refine ⟨_, rfl, fun k => ?_⟩
    unfold X8_placeOf_B6
    rw [i_29, i_9, nmul, nadd, gv (by omega) (by omega), ncl (by omega), rowS_at, h.2.1, if_neg (by rw [nlt (by omega) (by omega)]; omega)]

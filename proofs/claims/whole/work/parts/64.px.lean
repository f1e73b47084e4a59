/-! proxy and count, on both sides -/
theorem wl1_to {α ρ : Type} {F : (α → Option ρ) → α → Option ρ} (a : Nat → α) {m : Nat} {R : Option ρ} (hs : ∀ i k, i < m → F k (a i) = k (a (i + 1))) (he : ∀ k, F k (a m) = R) : ∀ (j i N : Nat), i + j = m → j < N → wl1 F N (a i) = R
  | 0, i, N, hi, hN => by
    obtain ⟨N, rfl⟩ : ∃ M, N = M + 1 := ⟨N - 1, by omega⟩
    rw [Nat.add_zero] at hi
    subst hi
    exact (wl1_0 F N _).trans (he _)
  | j + 1, i, N, hi, hN => by
    obtain ⟨N, rfl⟩ : ∃ M, N = M + 1 := ⟨N - 1, by omega⟩
    exact (wl1_0 F N _).trans ((hs i _ (by omega)).trans (wl1_to a hs he j (i + 1) N (by omega) (by omega)))
theorem wl2_to {α β ρ : Type} {F : (α → β → Option ρ) → α → β → Option ρ} (a : Nat → α) (b : Nat → β) {m : Nat} {R : Option ρ} (hs : ∀ i k, i < m → F k (a i) (b i) = k (a (i + 1)) (b (i + 1))) (he : ∀ k, F k (a m) (b m) = R) : ∀ (j i N : Nat), i + j = m → j < N → wl2 F N (a i) (b i) = R
  | 0, i, N, hi, hN => by
    obtain ⟨N, rfl⟩ : ∃ M, N = M + 1 := ⟨N - 1, by omega⟩
    rw [Nat.add_zero] at hi
    subst hi
    exact (wl2_0 F N _ _).trans (he _)
  | j + 1, i, N, hi, hN => by
    obtain ⟨N, rfl⟩ : ∃ M, N = M + 1 := ⟨N - 1, by omega⟩
    exact (wl2_0 F N _ _).trans ((hs i _ (by omega)).trans (wl2_to a b hs he j (i + 1) N (by omega) (by omega)))
theorem wl3_to {α β γ ρ : Type} {F : (α → β → γ → Option ρ) → α → β → γ → Option ρ} (a : Nat → α) (b : Nat → β) (c : Nat → γ) {m : Nat} {R : Option ρ} (hs : ∀ i k, i < m → F k (a i) (b i) (c i) = k (a (i + 1)) (b (i + 1)) (c (i + 1))) (he : ∀ k, F k (a m) (b m) (c m) = R) : ∀ (j i N : Nat), i + j = m → j < N → wl3 F N (a i) (b i) (c i) = R
  | 0, i, N, hi, hN => by
    obtain ⟨N, rfl⟩ : ∃ M, N = M + 1 := ⟨N - 1, by omega⟩
    rw [Nat.add_zero] at hi
    subst hi
    exact (wl3_0 F N _ _ _).trans (he _)
  | j + 1, i, N, hi, hN => by
    obtain ⟨N, rfl⟩ : ∃ M, N = M + 1 := ⟨N - 1, by omega⟩
    exact (wl3_0 F N _ _ _).trans ((hs i _ (by omega)).trans (wl3_to a b c hs he j (i + 1) N (by omega) (by omega)))
/-- what proxy() answers of a proxy that is there -/
def aPx1 (C : Cf) (N : Nt) (x : Nat) (k : Int32) : Int32 :=
  if k = 0 then nI (cR C x) else if k = 1 then pL (nP N x) else if k = 2 then nI (pN (nP N x)) else if k = 3 then pH (nP N x) else if k = 4 then pM (nP N x)
  else if k = 5 then nI (cntB (fun p => !onS (nP N x) p && con (pM (nP N x)) (cel C (nF N) p) (cK C)) 32)
  else if k = 6 then nI (cntB (fun p => onS (nP N x) p && !con (pM (nP N x)) (cel C (nF N) p) (cK C)) 32)
  else if k = 7 then sset (pS (nP N x)) (pN (nP N x)) else -2
def aPx (C : Cf) (v k : Int32) (S : St) : Int32 := if isIn v (cN C) = true then aPx1 C S.1 v.toNatClampNeg k else -1
theorem shf_bit {rm : Nat} {P : Prx} (h : Shf rm (pN P) (pS P)) {p : Nat} (hp : p < 32) : bit (sset (pS P) (pN P)) p = onS P p := sset_bit hp h.2.2.1
theorem pgs_bit {C : Cf} {f p : Nat} {s : Int32} (hp : p < 32) : bit (pgs C f s) p = con s (cel C f p) (cK C) := by
  unfold pgs
  rw [bsI_bit hp (Nat.le_refl _), decide_eq_true hp, Bool.true_and]
theorem x7_proxy {I : HI} {B t : Nat} {C : Cf} {S : St} {v k : Int32} (hC : WfC C) (h : ClAt I B C S) (hw : WfS C t S) : f_X7_proxy I B v k = some (aPx C v k S) := by
  have hn := hC.2.2.2.2.1
  unfold f_X7_proxy
  rcases x1_proxyIn hC h.1 v with ⟨x, hx, rfl, e1, e2⟩ | ⟨e1, e2⟩
  · have ea : aPx C (nI x) k S = aPx1 C S.1 x k := by
      unfold aPx
      rw [if_pos e1, ncl (by omega)]
    have hpx := h.1.2.2.2.2.2.2 x hx
    have hsh := hw.1.shf hx
    have ec : f_X1_claimed I (B + 20) (B + 20 + 4 + 1 + 3 * x) = some (pgs C (nF S.1) (pM (nP S.1 x))) := by
      unfold f_X1_claimed
      rw [hpx.2.2.2.2.1, h.1.1.2.2.2.1, x0_pagesIn hC h.1.1 hw.1.1, bd1s]
    rw [e2, bd1s, mNs, ea]
    unfold aPx1
    by_cases h0 : k = 0
    · rw [if_pos h0, if_pos h0, hpx.1]
    · rw [if_neg h0, if_neg h0]
      by_cases h1 : k = 1
      · rw [if_pos h1, if_pos h1, hpx.2.1]
      · rw [if_neg h1, if_neg h1]
        by_cases h2 : k = 2
        · rw [if_pos h2, if_pos h2, hpx.2.2.1]
        · rw [if_neg h2, if_neg h2]
          by_cases h3 : k = 3
          · rw [if_pos h3, if_pos h3, hpx.2.2.2.1]
          · rw [if_neg h3, if_neg h3]
            by_cases h4 : k = 4
            · rw [if_pos h4, if_pos h4, hpx.2.2.2.2.1]
            · rw [if_neg h4, if_neg h4]
              by_cases h5 : k = 5
              · rw [if_pos h5, if_pos h5, ec, bd1s, x4_shelfSet hpx hsh, bd1s, j6_pop, bd1s]
                unfold pop
                congr 2
                refine cnt_congr fun p hp => ?_
                rw [bit_and hp, bit_not hp, pgs_bit hp, shf_bit hsh hp, Bool.and_comm]
              · rw [if_neg h5, if_neg h5]
                by_cases h6 : k = 6
                · rw [if_pos h6, if_pos h6, ec, x4_shelfSet hpx hsh, bd1s, bd1s, j6_pop, bd1s]
                  unfold pop
                  congr 2
                  refine cnt_congr fun p hp => ?_
                  rw [bit_and hp, bit_not hp, pgs_bit hp, shf_bit hsh hp]
                · rw [if_neg h6, if_neg h6]
                  by_cases h7 : k = 7
                  · rw [if_pos h7, if_pos h7, x4_shelfSet hpx hsh, bd1s]
                  · rw [if_neg h7, if_neg h7]
  · have ea : aPx C v k S = -1 := if_neg (by rw [e1]; simp)
    rw [e2, bd1s, mNn, ea]
theorem r8_sayS {I : HI} {m x p t : Nat} {C : Cf} {S : St} (hC : WfC C) (h : RfAt I m C S) (hw : WfS C t S) (hx : x < cN C) (hp : p < 32) : f_X8_summarySays I m (m + 9) (nI x) (nI p) = some (bZ (con (pM (nP S.1 x)) (cel C (nF S.1) p) (cK C))) := by
  have hn := hC.2.2.2.2.1
  unfold f_X8_summarySays
  rw [i_29, i_26, i_116, nmul, nadd, gv (by omega) (by omega), gv (by omega) (by omega), ncl (by omega), ncl (by omega), (h.2.1.1 x hx).2.2.2.1, h.2.1.2.1, r8_isSaid hC h.1 hw.1.1 hp, bd1s, gdt (bZ_zb _)]
theorem r8_shelfS {I : HI} {m x t : Nat} {C : Cf} {S : St} (hC : WfC C) (h : RfAt I m C S) (hw : WfS C t S) (hx : x < cN C) : f_X8_shelfOf I (m + 9) (nI x) = some (sset (pS (nP S.1 x)) (pN (nP S.1 x))) := by
  have hn := hC.2.2.2.2.1
  have e := r8_shelfOf (I := I) (w := m + 9) (h.2.1.1 x hx) (hw.1.shf hx) (by omega)
  rw [rowS_id] at e
  exact e
theorem r8_denied {I : HI} {m x t : Nat} {C : Cf} {S : St} (hC : WfC C) (h : RfAt I m C S) (hw : WfS C t S) (hx : x < cN C) : f_X8_denied I m (nI x) = some (nI (cntB (fun p => onS (nP S.1 x) p && !con (pM (nP S.1 x)) (cel C (nF S.1) p) (cK C)) 32)) := by
  unfold f_X8_denied
  refine wl2_to (F := X8_denied_B4 I m (nI x)) (fun i => nI (cntB (fun p => onS (nP S.1 x) p && !con (pM (nP S.1 x)) (cel C (nF S.1) p) (cK C)) i)) (fun i => nI i) (m := 32) (fun i k hi => ?_) (fun k => ?_) 32 0 5000 (by omega) (by omega)
  · unfold X8_denied_B4 X8_denied_J43 X8_denied_J44
    rw [if_pos (show nI i < (32 : Int32) by rw [i_32, nlt (by omega) (by omega)]; exact hi), r8_shelfS hC h hw hx, bd1s, r8_has, bd1s, shf_bit (hw.1.shf hx) hi, cntB]
    cases onS (nP S.1 x) i with
    | false => rw [if_pos bZf, lt1s, lt1s, ninc, Int32.add_zero]; rfl
    | true =>
      rw [if_neg bZt, r8_sayS hC h hw hx hi, bd1s]
      cases con (pM (nP S.1 x)) (cel C (nF S.1) i) (cK C) with
      | false => rw [if_pos bZf, lt1s, lt1s, ninc, ninc]; rfl
      | true => rw [if_neg bZt, lt1s, lt1s, ninc, Int32.add_zero]; rfl
  · unfold X8_denied_B4
    rw [if_neg (show ¬ nI 32 < (32 : Int32) by decide)]
theorem r8_proxy {I : HI} {m t : Nat} {C : Cf} {S : St} {v k : Int32} (hC : WfC C) (h : RfAt I m C S) (hw : WfS C t S) : f_X8_proxy I m v k = some (aPx C v k S, sI I m 0 0) := by
  have hn := hC.2.2.2.2.1
  unfold f_X8_proxy
  rw [lt1s, r8_noProxy hC h.z.1.2.2.2.1, bd1s]
  cases e1 : isIn v (cN C) with
  | false =>
    have ea : aPx C v k S = -1 := if_neg (by rw [e1]; simp)
    rw [if_neg (show ¬ bZ (!false) = 0 from bZt), ea]
  | true =>
    obtain ⟨x, hx, rfl⟩ := isIn_of e1 (by omega)
    have ea : aPx C (nI x) k S = aPx1 C S.1 x k := by
      unfold aPx
      rw [if_pos e1, ncl (by omega)]
    have hr := h.z.2.1.1 x hx
    have hsh := hw.1.shf hx
    rw [if_pos (show bZ (!true) = 0 from bZf), lt1s, ea, i_29, nmul]
    unfold aPx1
    by_cases h0 : k = 0
    · rw [if_pos h0, if_pos h0, gv (by omega) (by omega), ncl (by omega), h.z.1.2.2.2.2.2.2 x hx]
    · rw [if_neg h0, if_neg h0]
      by_cases h1 : k = 1
      · rw [if_pos h1, if_pos h1, i_28, nadd, gv (by omega) (by omega), ncl (by omega), hr.2.2.2.2.2.1]
      · rw [if_neg h1, if_neg h1]
        by_cases h2 : k = 2
        · rw [if_pos h2, if_pos h2, i_9, nadd, gv (by omega) (by omega), ncl (by omega), hr.2.1]
        · rw [if_neg h2, if_neg h2]
          by_cases h3 : k = 3
          · rw [if_pos h3, if_pos h3, i_27, nadd, gv (by omega) (by omega), ncl (by omega), hr.2.2.2.2.1]
          · rw [if_neg h3, if_neg h3]
            by_cases h4 : k = 4
            · rw [if_pos h4, if_pos h4, i_26, nadd, gv (by omega) (by omega), ncl (by omega), hr.2.2.2.1]
            · rw [if_neg h4, if_neg h4]
              by_cases h5 : k = 5
              · rw [if_pos h5, if_pos h5, i_26, i_116, nadd, gv (by omega) (by omega), gv (by omega) (by omega), ncl (by omega), ncl (by omega), hr.2.2.2.1, h.z.2.1.2.1, r8_shelfS hC h.z hw hx, bd1s, r8_falseOnes hC h.z.1 hw.1.1, bd1s]
                congr 3
                refine cnt_congr fun p hp => ?_
                rw [shf_bit hsh hp]
              · rw [if_neg h5, if_neg h5]
                by_cases h6 : k = 6
                · rw [if_pos h6, if_pos h6, r8_denied hC h.z hw hx, bd1s]
                · rw [if_neg h6, if_neg h6]
                  by_cases h7 : k = 7
                  · rw [if_pos h7, if_pos h7, r8_shelfS hC h.z hw hx, bd1s]
                  · rw [if_neg h7, if_neg h7]
def sumP (N : Nt) : Nat → Nat
  | 0 => 0
  | x + 1 => sumP N x + pN (nP N x)
def aCnt1 (C : Cf) (S : St) (T q : Nat) (k : Int32) : Int32 :=
  if k = 0 then nI T else if k = 1 then nI (cN C) else if k = 2 then nI (cF C) else if k = 3 then nI (cM C) else if k = 4 then nI (cK C) else if k = 5 then nI (nF S.1)
  else if k = 6 then nRq S.1 else if k = 7 then nFl S.1 else if k = 8 then nFt S.1 else if k = 9 then nMs S.1 else if k = 10 then nI (sumP S.1 (cN C)) else if k = 11 then nI S.2.1 else if k = 12 then nI q else -2
theorem x1_allPages {I : HI} {n : Nat} {C : Cf} {N : Nt} (hC : WfC C) (h : NtAt I n C N) : f_X1_allPages I n = some (nI (sumP N (cN C))) := by
  have hn := hC.2.2.2.2.1
  unfold f_X1_allPages
  refine wl2_to (F := X1_allPages_B4 I n) (fun i => nI (sumP N i)) (fun i => nI i) (m := cN C) (fun i k hi => ?_) (fun k => ?_) (cN C) 0 5000 (by omega) (by omega)
  · unfold X1_allPages_B4 X1_allPages_J29
    rw [h.2.1, if_pos (show nI i < nI (cN C) by rw [nlt (by omega) (by omega)]; exact hi), x1_proxyAt hn h hi, bd1s, mNs, (h.2.2.2.2.2.2 i hi).2.2.1, lt1s, nadd, lt1s, ninc]
    rfl
  · unfold X1_allPages_B4
    rw [h.2.1, if_neg (show ¬ nI (cN C) < nI (cN C) by rw [nlt (by omega) (by omega)]; omega)]
theorem r8_onShelves {I : HI} {m : Nat} {C : Cf} {S : St} (hC : WfC C) (h : RfAt I m C S) : f_X8_onShelves I m = some (nI (sumP S.1 (cN C))) := by
  have hn := hC.2.2.2.2.1
  unfold f_X8_onShelves
  refine wl2_to (F := X8_onShelves_B4 I m) (fun i => nI (sumP S.1 i)) (fun i => nI i) (m := cN C) (fun i k hi => ?_) (fun k => ?_) (cN C) 0 5000 (by omega) (by omega)
  · unfold X8_onShelves_B4
    rw [h.1.2.2.2.1, if_pos (show nI i < nI (cN C) by rw [nlt (by omega) (by omega)]; exact hi), i_29, i_9, nmul, nadd, gv (by omega) (by omega), ncl (by omega), (h.2.1.1 i hi).2.1, lt1s, nadd, lt1s, ninc]
    rfl
  · unfold X8_onShelves_B4
    rw [h.1.2.2.2.1, if_neg (show ¬ nI (cN C) < nI (cN C) by rw [nlt (by omega) (by omega)]; omega)]
theorem x7_count {I : HI} {B T q : Nat} {C : Cf} {S : St} {k : Int32} (hC : WfC C) (h : ClAt I B C S) (hT : I (B + 1) 0 = nI T) (hq : I (B + 296) 3 = nI q) : f_X7_count I B k = some (aCnt1 C S T q k) := by
  obtain ⟨⟨⟨a0, a1, a2, a3, -⟩, b, c, d, e, f, -⟩, ⟨-, -, -, -, g, -⟩⟩ := id h
  unfold f_X7_count
  rw [x1_allPages hC h.1, bd1s, hT, hq, a0, a1, a2, a3, b, c, d, e, f, g]
  unfold aCnt1
  simp only [apply_ite some]
theorem r8_count {I : HI} {m T q : Nat} {C : Cf} {S : St} {k : Int32} (hC : WfC C) (h : RfAt I m C S) (hT : I m 2 = nI T) (hq : I m 25 = nI q) : f_X8_count I m k = some (aCnt1 C S T q k, sI I m 0 0) := by
  have hz := h.z
  obtain ⟨⟨a0, a1, a2, a3, -⟩, ⟨-, b, c, d, e, f⟩, g, -⟩ := id hz
  have hT' : sI I m 0 0 m 2 = nI T := by rw [sI_eq, uR_ne (by omega)]; exact hT
  have hq' : sI I m 0 0 m 25 = nI q := by rw [sI_eq, uR_ne (by omega)]; exact hq
  have ej : ∀ j : Nat, j < 10 → 6 ≤ j → X8_count_J105 (sI I m 0 0) m (nI j) = some (sI I m 0 0 (m + 9) (117 + j - 6), sI I m 0 0) := by
    intro j hj h6
    unfold X8_count_J105
    rw [show (117 : Int32) = nI 117 from rfl, i_6, nadd, nsub (by omega), gv (by omega) (by omega), ncl (by omega)]
  unfold f_X8_count aCnt1
  rw [lt1s]
  by_cases h0 : k = 0
  · rw [if_pos h0, if_pos h0, hT']
  · rw [if_neg h0, if_neg h0]
    by_cases h1 : k = 1
    · rw [if_pos h1, if_pos h1, a3]
    · rw [if_neg h1, if_neg h1]
      by_cases h2 : k = 2
      · rw [if_pos h2, if_pos h2, a2]
      · rw [if_neg h2, if_neg h2]
        by_cases h3 : k = 3
        · rw [if_pos h3, if_pos h3, a0]
        · rw [if_neg h3, if_neg h3]
          by_cases h4 : k = 4
          · rw [if_pos h4, if_pos h4, a1]
          · rw [if_neg h4, if_neg h4]
            by_cases h5 : k = 5
            · rw [if_pos h5, if_pos h5, i_116, gv (by omega) (by omega), ncl (by omega), b]
            · rw [if_neg h5, if_neg h5]
              by_cases h6 : k = 6
              · rw [if_pos h6, if_pos h6, h6]; exact (ej 6 (by omega) (by omega)).trans (by rw [c])
              · rw [if_neg h6, if_neg h6]
                by_cases h7 : k = 7
                · rw [if_pos h7, if_pos h7, h7]; exact (ej 7 (by omega) (by omega)).trans (by rw [d])
                · rw [if_neg h7, if_neg h7]
                  by_cases h8 : k = 8
                  · rw [if_pos h8, if_pos h8, h8]; exact (ej 8 (by omega) (by omega)).trans (by rw [e])
                  · rw [if_neg h8, if_neg h8]
                    by_cases h9 : k = 9
                    · rw [if_pos h9, if_pos h9, h9]; exact (ej 9 (by omega) (by omega)).trans (by rw [f])
                    · rw [if_neg h9, if_neg h9]
                      by_cases h10 : k = 10
                      · rw [if_pos h10, if_pos h10, r8_onShelves hC hz, bd1s]
                      · rw [if_neg h10, if_neg h10]
                        by_cases h11 : k = 11
                        · rw [if_pos h11, if_pos h11, g]
                        · rw [if_neg h11, if_neg h11]
                          by_cases h12 : k = 12
                          · rw [if_pos h12, if_pos h12, hq']
                          · rw [if_neg h12, if_neg h12]

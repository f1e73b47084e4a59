/-! lost, whole -/
theorem rowS_rowS (I : HI) (q : Nat) (f g : Nat → Int32) : rowS (rowS I q f) q g = rowS I q g := by
  funext z
  by_cases h : z = q
  · subst h; rw [rowS_at, rowS_at]
  · rw [rowS_ne h, rowS_ne h, rowS_ne h]
theorem r8_isRight {I : HI} {m x p g t : Nat} {C : Cf} {N : Nt} (hC : WfC C) (ht : t + 6 < 1000000) (hh : CfAt I m C) (h : RnAt (I (m + 9)) C N) (hw : WfN C t N) (hx : x < cN C) (hp : p < 32) (r : Nat → Int32) : ∃ r', f_X8_isRight (rowS I (m + 10) r) m (nI x) (nI p) (nI g) = some (bZ (rgt C N x p g), rowS I (m + 10) r') := by
  have hn := hC.2.2.2.2.1
  have h0 : RnAt (rowS I (m + 10) r (m + 9)) C N := by rw [rowS_ne (by omega)]; exact h
  obtain ⟨r0, c1, c2⟩ := r8_layTrial hC h0
  rw [rowS_rowS] at c2
  unfold f_X8_isRight
  rw [c2, bd1s]
  have key := wl3_inv (F := X8_isRight_B10 m (nI x) (nI p) (nI g)) (Post := fun o => ∃ r', o = (bZ (rgt C N x p g), rowS I (m + 10) r')) (Inv := fun i (I1 : HI) (y z : Int32) => (∃ r1, RnAt r1 C (snW C N g i) ∧ I1 = rowS I (m + 10) r1) ∧ y = bZ (oth N x p i) ∧ z = nI i) (m := cN C) ?_ ?_ (cN C) 0 5000 (rowS I (m + 10) r0) 0 (nI 0) (by omega) (by omega) ⟨⟨r0, c1, rfl⟩, rfl, rfl⟩
  · obtain ⟨o, ⟨r', rfl⟩, e⟩ := key
    exact ⟨r', e⟩
  · rintro i I1 y z hi ⟨⟨r1, a1, rfl⟩, rfl, rfl⟩
    have hhr := hh.row (w := m + 10) (by omega) r1
    have e9 : rowS I (m + 10) r1 m 9 = nI (cN C) := hhr.2.2.2.1
    -- the send
    have snd : ∃ r2, RnAt r2 C (snW C N g (i + 1)) ∧ ∀ (b : Int32) (k : HI → Int32 → Int32 → Option (Int32 × HI)), X8_isRight_J50 (rowS I (m + 10) r1) m (nI x) (nI p) (nI g) (nI i) b k = k (rowS I (m + 10) r2) b (nI (i + 1)) := by
      rw [snW]
      unfold X8_isRight_J50 X8_isRight_J71
      cases hb : bit (nI g) i with
      | true =>
        refine ⟨r1, by rw [if_pos rfl]; exact a1, fun b k => ?_⟩
        rw [r8_has, hb, bd1s, if_neg bZt, lt1s, ninc]
      | false =>
        obtain ⟨r2, b1, b2⟩ := r8_sendOn (I := I) (w := m + 10) hC hh (by omega) a1 (snW_wf hw i) hi
        refine ⟨r2, by rw [if_neg (by decide)]; exact b1, fun b k => ?_⟩
        rw [r8_has, hb, bd1s, if_pos bZf, b2, bd1s, lt1s, ninc]
    obtain ⟨r2, b1, b2⟩ := snd
    refine Or.inl ⟨rowS I (m + 10) r2, bZ (oth N x p (i + 1)), nI (i + 1), ⟨⟨r2, b1, rfl⟩, rfl, rfl⟩, fun k => ?_⟩
    have hsh := hw.shf hi
    have hpo := r8_placeOf (I := I) (w := m + 9) (h.1 i hi) hsh (by omega) hp
    rw [rowS_id] at hpo
    have hpo' : f_X8_placeOf (rowS I (m + 10) r1) (m + 9) (nI i) (nI p) = some (plV (pl (pS (nP N i)) p (pN (nP N i)))) := by
      have hpo2 := r8_placeOf (I := rowS I (m + 10) r1) (w := m + 9) (r := I (m + 9)) (h.1 i hi) hsh (by omega) hp
      have er : rowS (rowS I (m + 10) r1) (m + 9) (I (m + 9)) = rowS I (m + 10) r1 := by
        have : I (m + 9) = rowS I (m + 10) r1 (m + 9) := (rowS_ne (by omega)).symm
        rw [this, rowS_id]
      rw [er] at hpo2
      exact hpo2
    have eo : oth N x p (i + 1) = (oth N x p i || (!decide (i = x) && onS (nP N i) p)) := rfl
    unfold X8_isRight_B10 X8_isRight_J49 X8_isRight_J45
    rw [e9, if_pos (show nI i < nI (cN C) by rw [nlt (by omega) (by omega)]; exact hi), b2, b2, eo]
    cases oth N x p i with
    | true => rw [if_neg bZt]; rfl
    | false =>
      rw [if_pos bZf]
      by_cases hix : i = x
      · rw [if_pos (show nI i = nI x by rw [hix]), decide_eq_true hix]; rfl
      · rw [if_neg (show ¬ nI i = nI x by rw [neq (by omega) (by omega)]; exact hix), decide_eq_false hix, hpo', bd1s]
        unfold onS
        cases hpl : pl (pS (nP N i)) p (pN (nP N i)) with
        | none => rw [if_pos (show plV none = (-9 : Int32) from rfl)]; rfl
        | some q =>
          have hq := (pl_some hpl).1
          rw [if_neg (show ¬ plV (some q) = (-9 : Int32) by show ¬ nI q = m9; rw [nI_m9 (by have := hsh.1; have := hsh.2.1; omega)]; exact id)]
          rfl
  · rintro I1 y z ⟨⟨r1, a1, rfl⟩, rfl, rfl⟩
    have hhr := hh.row (w := m + 10) (by omega) r1
    have e9 : rowS I (m + 10) r1 m 9 = nI (cN C) := hhr.2.2.2.1
    obtain ⟨r2, b1, b2⟩ := r8_askOn (I := I) (w := m + 10) hC hh (by omega) ht a1 (snW_wf hw (cN C)) hx hp
    refine ⟨_, ⟨r2, rfl⟩, fun k => ?_⟩
    unfold X8_isRight_B10
    rw [e9, if_neg (show ¬ nI (cN C) < nI (cN C) by rw [nlt (by omega) (by omega)]; omega), i_118, gv (by omega) (by omega), lt1s, b2, bd2s, gv (by omega) (by omega), ncl (by omega), rowS_at, rowS_at, b1.2.2.2.1, a1.2.2.2.1]
    unfold rgt
    by_cases h10 : (ask C x p (snW C N g (cN C))).1 = 10
    · rw [if_pos h10, if_pos h10]; rfl
    · rw [if_neg h10, if_neg h10]
      by_cases hf : nFl (ask C x p (snW C N g (cN C))).2 = nFl (snW C N g (cN C))
      · rw [if_pos hf, if_pos hf]
        by_cases h9 : (ask C x p (snW C N g (cN C))).1 = m9
        · rw [if_pos (show (ask C x p (snW C N g (cN C))).1 = (-9 : Int32) from h9), if_pos h9]
          cases oth N x p (cN C) with
          | true => rw [if_neg bZt]; rfl
          | false => rw [if_pos bZf]; rfl
        · rw [if_neg (show ¬ (ask C x p (snW C N g (cN C))).1 = (-9 : Int32) from h9), if_neg h9]; rfl
      · rw [if_neg hf, if_neg hf]; rfl
/-- the weight of what is lost -/
def wtg (n x g : Nat) : Nat := x ^ cntB (bit (nI g)) n * (10 - x) ^ (n - cntB (bit (nI g)) n)
def lsum (f : Nat → Bool) (n x : Nat) : Nat → Nat
  | 0 => 0
  | g + 1 => lsum f n x g + (if f g = true then wtg n x g else 0)
theorem lsum_all : ∀ n, n < 5 → ∀ x, x < 11 → lsum (fun _ => true) n x (2 ^ n) = 10 ^ n := by decide +kernel
theorem pop_n : ∀ n, n < 5 → ∀ g, g < 2 ^ n → pop (nI g) = cntB (bit (nI g)) n := by decide +kernel
theorem shl_n : ∀ n, n < 5 → (1 : Int32) <<< (nI n &&& 31) = nI (2 ^ n) := by decide +kernel
theorem lsum_le (f : Nat → Bool) (n x : Nat) : ∀ g, lsum f n x g ≤ lsum (fun _ => true) n x g
  | 0 => Nat.le_refl _
  | g + 1 => by
    have := lsum_le f n x g
    rw [lsum, lsum, if_pos rfl]
    by_cases h : f g = true
    · rw [if_pos h]; omega
    · rw [if_neg h]; omega
theorem lsum_congr {f g : Nat → Bool} (n x : Nat) (h : ∀ k, f k = g k) : ∀ k, lsum f n x k = lsum g n x k
  | 0 => rfl
  | k + 1 => by rw [lsum, lsum, lsum_congr n x h k, h k]
theorem p10n {n : Nat} (h : n < 5) : 10 ^ n ≤ 10000 ∧ 0 < 10 ^ n ∧ 2 ^ n ≤ 16 := by
  have h1 := Nat.pow_le_pow_right (n := 10) (by omega) (show n ≤ 4 by omega)
  have h2 := Nat.pow_le_pow_right (n := 2) (by omega) (show n ≤ 4 by omega)
  exact ⟨by omega, Nat.pow_pos (by omega), by omega⟩
theorem lsum_b {n x : Nat} (f : Nat → Bool) (hn : n < 5) (hx : x < 11) : lsum f n x (2 ^ n) ≤ 10 ^ n := by
  rw [← lsum_all n hn x hx]; exact lsum_le f n x _
theorem x7_wayWeight {I : HI} {B g x : Nat} {C : Cf} {N : Nt} (hC : WfC C) (h : NtAt I (B + 20) C N) (hx : x < 11) : f_X7_wayWeight I B (nI g) (nI x) = some (nI (wtg (cN C) x g)) := by
  have hn := hC.2.2.2.2.1
  have i10 : (10 : Int32) - nI x = nI (10 - x) := nsub (a := 10) (by omega)
  unfold f_X7_wayWeight
  refine wl2_to (F := X7_wayWeight_B5 I B (nI g) (nI x)) (fun i => nI (wtg i x g)) (fun i => nI i) (m := cN C) (fun i k hi => ?_) (fun k => ?_) (cN C) 0 5000 (by omega) (by omega)
  · have hc := cnt_le (bit (nI g)) i
    unfold X7_wayWeight_B5 X7_wayWeight_J36
    rw [h.2.1, if_pos (show nI i < nI (cN C) by rw [nlt (by omega) (by omega)]; exact hi), bit_bZ, i10]
    unfold wtg
    rw [cntB]
    cases bit (nI g) i with
    | true =>
      rw [if_pos (show bZ true = 1 from rfl), if_pos rfl, lt1s, nmul, lt1s, ninc]
      congr 2
      rw [Nat.pow_succ, show i + 1 - (cntB (bit (nI g)) i + 1) = i - cntB (bit (nI g)) i by omega, Nat.mul_assoc, Nat.mul_comm ((10 - x) ^ _) x, ← Nat.mul_assoc]
    | false =>
      rw [if_neg (show ¬ bZ false = 1 by decide), if_neg (show ¬ false = true by decide), lt1s, nmul, lt1s, ninc]
      congr 2
      rw [Nat.add_zero, show i + 1 - cntB (bit (nI g)) i = i - cntB (bit (nI g)) i + 1 by omega, Nat.pow_succ, Nat.mul_assoc]
  · unfold X7_wayWeight_B5
    rw [h.2.1, if_neg (show ¬ nI (cN C) < nI (cN C) by rw [nlt (by omega) (by omega)]; omega)]
def aLost (C : Cf) (v p x u : Int32) (S : St) : Int32 := if isIn v (cN C) = true ∧ isIn p 32 = true then (if isIn x 11 = true then frc (lsum (isR C S.1 v.toNatClampNeg p.toNatClampNeg) (cN C) x.toNatClampNeg (2 ^ cN C)) (10 ^ cN C) u else -2) else -1
theorem frc_one {a : Nat} (h : 0 < a) (u : Int32) : frc a a u = 1 := by
  unfold frc
  rw [Nat.gcd_self, Nat.div_self h, ite_self]
  rfl
theorem x7_lost {I : HI} {B t : Nat} {C : Cf} {S : St} {v p x u : Int32} (hC : WfC C) (h : ClAt I B C S) (hw : WfS C t S) : f_X7_lost I B v p x u = some (aLost C v p x u S) := by
  have hn := hC.2.2.2.2.1
  unfold f_X7_lost
  rcases x1_proxyIn hC h.1 v with ⟨v, hv, rfl, e1, e2⟩ | ⟨e1, e2⟩
  · obtain ⟨b1, b2, b3⟩ := p10n (n := cN C) (by omega)
    rw [e2, bd1s, mNs, x7_isPage, bd1s]
    cases hp : isIn p 32 with
    | false =>
      have ea : aLost C (nI v) p x u S = -1 := if_neg (by rw [hp]; simp)
      rw [if_pos bZf, ea]
    | true =>
      obtain ⟨p, hp32, rfl⟩ := isIn_of hp (by omega)
      have hpx := h.1.2.2.2.2.2.2 v hv
      have hsh := hw.1.shf hv
      have eh : f_X4_has I (B + 20 + 4 + 1 + 3 * v) (nI p) = some (bZ (onS (nP S.1 v) p)) := x4_has hpx hsh hp32
      unfold aLost
      rw [if_neg bZt, if_pos (show isIn (nI v) (cN C) = true ∧ isIn (nI p) 32 = true from ⟨e1, hp⟩), ncl (by omega), ncl (by omega)]
      by_cases h0 : x < 0
      · rw [if_pos h0, if_neg (by rw [isIn_no (v := x) (by omega) (Or.inl h0)]; decide)]
      · obtain ⟨x, hx31, rfl⟩ := nI_of h0
        rw [if_neg h0]
        by_cases hx : x < 11
        · rw [if_neg (show ¬ (10 : Int32) < nI x by rw [i_10, nlt (by omega) (by omega)]; omega), if_pos (isIn_nI hx (by omega)), eh, bd1s, ncl (by omega)]
          cases hon : onS (nP S.1 v) p with
          | true =>
            rw [if_neg bZt]
            have ea : lsum (isR C S.1 v p) (cN C) x (2 ^ cN C) = 10 ^ cN C := by
              rw [← lsum_all (cN C) (by omega) x hx]
              exact lsum_congr _ _ (fun k => by unfold isR; rw [hon, Bool.true_or]) _
            rw [ea, frc_one b2]
          | false =>
            have ea : lsum (isR C S.1 v p) (cN C) x (2 ^ cN C) = lsum (lOK C S.1 v p) (cN C) x (2 ^ cN C) := lsum_congr _ _ (fun k => by unfold isR; rw [hon, Bool.false_or]) _
            have hb := lsum_b (lOK C S.1 v p) (n := cN C) (x := x) (by omega) hx
            rw [if_pos bZf, h.1.2.1, shl_n _ (by omega), lt1s, ea]
            refine wl2_to (F := X7_lost_B65 I B (nI v) (nI p) (nI x) u (nI (2 ^ cN C))) (fun g => nI (lsum (lOK C S.1 v p) (cN C) x g)) (fun g => nI g) (m := 2 ^ cN C) (fun g k hg => ?_) (fun k => ?_) (2 ^ cN C) 0 5000 (by omega) (by omega)
            · unfold X7_lost_B65 X7_lost_J98
              rw [if_pos (show nI g < nI (2 ^ cN C) by rw [nlt (by omega) (by omega)]; exact hg), x1_serves hC h.1 hw.1 hp32 hv, bd1s, lsum]
              cases lOK C S.1 v p g with
              | false => rw [if_pos bZf, lt1s, ninc, if_neg (by decide)]; rfl
              | true => rw [if_neg bZt, x7_wayWeight hC h.1 hx, bd1s, lt1s, lt1s, ninc, nadd, if_pos rfl]
            · unfold X7_lost_B65
              rw [if_neg (show ¬ nI (2 ^ cN C) < nI (2 ^ cN C) by rw [nlt (by omega) (by omega)]; omega), h.1.2.1, x7_powerOfTen (by omega), bd1s, nL_I, x7_ofFraction (by omega) (by omega) b2, bd1s]
        · rw [if_pos (show (10 : Int32) < nI x by rw [i_10, nlt (by omega) (by omega)]; omega), if_neg (by rw [isIn_no (v := nI x) (n := 11) (by omega) (Or.inr (by rw [nle (by omega) (by omega)]; omega))]; decide)]
  · have ea : aLost C v p x u S = -1 := if_neg (by rw [e1]; simp)
    rw [e2, bd1s, mNn, ea]
theorem r8_in10 (v : Int32) : f_X8_in v.toInt64 0 10 = some (bZ (isIn v 11)) := by
  rw [r8_in]
  have e0 : (0 : Int64).toInt = 0 := by decide
  have e1 : (10 : Int64).toInt = 10 := by decide
  rw [e0, e1]
  unfold isIn
  congr 2
  exact decide_eq_decide.mpr (by omega)
theorem r8_lost {I : HI} {m t : Nat} {C : Cf} {S : St} {v p x u : Int32} (hC : WfC C) (ht : t + 6 < 1000000) (h : RfAt I m C S) (hw : WfS C t S) : ∃ r, f_X8_lost I m v p x u = some (aLost C v p x u S, rowS (sI I m 0 0) (m + 10) r) := by
  have hn := hC.2.2.2.2.1
  have same : ∀ v : Int32, ∃ r, some (v, sI I m 0 0) = some (v, rowS (sI I m 0 0) (m + 10) r) := fun v => ⟨_, by rw [rowS_id]⟩
  have hz := h.z
  unfold f_X8_lost
  rw [lt1s, r8_noProxy hC hz.1.2.2.2.1, bd1s]
  cases e1 : isIn v (cN C) with
  | false =>
    have ea : aLost C v p x u S = -1 := if_neg (by rw [e1]; simp)
    rw [if_neg (show ¬ bZ (!false) = 0 from bZt), ea]
    exact same _
  | true =>
    obtain ⟨v, hv, rfl⟩ := isIn_of e1 (by omega)
    obtain ⟨b1, b2, b3⟩ := p10n (n := cN C) (by omega)
    rw [if_pos (show bZ (!true) = 0 from bZf), r8_noPage, bd1s]
    cases hp : isIn p 32 with
    | false =>
      have ea : aLost C (nI v) p x u S = -1 := if_neg (by rw [hp]; simp)
      rw [if_neg (show ¬ bZ (!false) = 0 from bZt), ea]
      exact same _
    | true =>
      obtain ⟨p, hp32, rfl⟩ := isIn_of hp (by omega)
      unfold aLost
      rw [if_pos (show bZ (!true) = 0 from bZf), if_pos (show isIn (nI v) (cN C) = true ∧ isIn (nI p) 32 = true from ⟨e1, hp⟩), r8_in10, bd1s, ncl (by omega), ncl (by omega)]
      cases hx : isIn x 11 with
      | false =>
        rw [if_pos bZf, if_neg (show ¬ false = true by decide)]
        exact same _
      | true =>
        obtain ⟨x, hx11, rfl⟩ := isIn_of hx (by omega)
        have i10 : (10 : Int32) - nI x = nI (10 - x) := nsub (a := 10) (by omega)
        have hb := lsum_b (isR C S.1 v p) (n := cN C) (x := x) (by omega) hx11
        rw [if_neg bZt, if_pos rfl, ncl (by omega)]
        generalize sI I m 0 0 = I0 at hz same
        have key := wl3_inv (F := X8_lost_B43 m (nI v) (nI p) (nI x) u) (Post := fun o => ∃ r, o = (frc (lsum (isR C S.1 v p) (cN C) x (2 ^ cN C)) (10 ^ cN C) u, rowS I0 (m + 10) r)) (Inv := fun g (I1 : HI) (y z : Int32) => (∃ r, I1 = rowS I0 (m + 10) r) ∧ y = nI (lsum (isR C S.1 v p) (cN C) x g) ∧ z = nI g) (m := 2 ^ cN C) ?_ ?_ (2 ^ cN C) 0 5000 I0 0 (nI 0) (by omega) (by omega) ⟨⟨I0 (m + 10), (rowS_id _ _).symm⟩, rfl, rfl⟩
        · obtain ⟨o, ⟨r, rfl⟩, e⟩ := key
          exact ⟨r, e⟩
        · rintro g I1 y z hg ⟨⟨r1, rfl⟩, rfl, rfl⟩
          have e9 : ∀ r, rowS I0 (m + 10) r m 9 = nI (cN C) := fun r => (hz.1.row (by omega) r).2.2.2.1
          obtain ⟨r2, c1⟩ := r8_isRight (g := g) hC ht hz.1 hz.2.1 hw.1 hv hp32 r1
          have hcl := cnt_le (bit (nI g)) (cN C)
          refine Or.inl ⟨rowS I0 (m + 10) r2, _, nI (g + 1), ⟨⟨r2, rfl⟩, rfl, rfl⟩, fun k => ?_⟩
          unfold X8_lost_B43 X8_lost_J98
          rw [e9, shl_n _ (by omega), if_pos (show nI g < nI (2 ^ cN C) by rw [nlt (by omega) (by omega)]; exact hg), c1, bd2s, rgt_eq hC, lsum]
          cases isR C S.1 v p g with
          | false => rw [if_pos bZf, lt1s, lt1s, ninc, if_neg (by decide), Int32.add_zero]; rfl
          | true => rw [if_neg bZt, r8_ones, bd1s, pop_n _ (by omega) g hg, r8_power x (by omega), bd1s, bd1s, e9, i10, nsub hcl, r8_power _ (by omega), bd1s, nmul, lt1s, nadd, lt1s, ninc, if_pos rfl]; rfl
        · rintro I1 y z ⟨⟨r1, rfl⟩, rfl, rfl⟩
          have e9 : ∀ r, rowS I0 (m + 10) r m 9 = nI (cN C) := fun r => (hz.1.row (by omega) r).2.2.2.1
          refine ⟨_, ⟨r1, rfl⟩, fun k => ?_⟩
          unfold X8_lost_B43
          rw [e9, shl_n _ (by omega), if_neg (show ¬ nI (2 ^ cN C) < nI (2 ^ cN C) by rw [nlt (by omega) (by omega)]; omega), i_10, r8_power 10 (by omega), bd1s, r8_fraction (by omega) (by omega) b2, bd1s]

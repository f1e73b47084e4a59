/-! dropping a page; using a family -/
def dsc (C : Cf) (x p : Nat) (N : Nt) : Int32 × Nt :=
  match pl (pS (nP N x)) p (pN (nP N x)) with
  | none => (0, N)
  | some i => (1, sdu C (stP N x (aGo C (nF N) i (nP N x))) (cN C))
theorem x1_discard {I : HI} {n x p t : Nat} {C : Cf} {N : Nt} (hC : WfC C) (hp : p < 32) (hx : x < cN C) (ht : t + 3 < 1000000) (h : NtAt I n C N) (hw : WfN C t N) : ∃ I', (NtAt I' n C (dsc C x p N).2 ∧ Off I I' n 17 ∧ WfN C (t + 3) (dsc C x p N).2) ∧ f_X1_discard I n (n + 4 + 1 + 3 * x) (nI p) = some ((dsc C x p N).1, I') := by
  have hn := hC.2.2.2.2.1
  have hpx := h.2.2.2.2.2.2 x hx
  have hsh := hw.shf hx
  have hcn := (hw.2 x hx).2
  unfold f_X1_discard
  rw [x4_has hpx hsh hp, bd1s]
  unfold dsc
  cases hpl : pl (pS (nP N x)) p (pN (nP N x)) with
  | none =>
    rw [if_pos (show bZ (Option.isSome (none : Option Nat)) = 0 from rfl)]
    exact ⟨I, ⟨h, Off.rf, hw.mono (by omega)⟩, rfl⟩
  | some i =>
    rw [if_neg (show ¬ bZ (Option.isSome (some i)) = 0 from bZt)]
    obtain ⟨hi, he, _⟩ := pl_some hpl
    obtain ⟨I1, ⟨b1, b2⟩, b3⟩ := x1_removePage (i := i) hC h.1 hw.1 hpx hsh (by omega) (by omega) hcn hi
    rw [he] at b3
    rw [b3, bd1s]
    have h1 := h.px hn hx b1 b2
    have w1 : WfN C (t + 3) (stP N x (aGo C (nF N) i (nP N x))) := hw.px (by omega) (shf_del hsh hi) ((hcn.tal hC (Or.inr rfl) (by omega) (cK C) (by have := hC.2.1; omega)).mono (by have := hC.2.1; omega))
    obtain ⟨I2, ⟨c1, c2⟩, c3⟩ := x1_spreadDue hn h1
    rw [c3, bd1s]
    exact ⟨I2, ⟨c1, (b2.px hn hx).tr c2, WfN.sdu w1 _⟩, rfl⟩
/-- the counters of a shelf, from its oldest page on -/
def reb (C : Cf) (f : Nat) (P : Prx) : Nat → (Nat → Int32)
  | 0 => fun _ => 0
  | i + 1 => tal C f (pS P (pN P - 1 - i)) 1 (reb C f P i) (cK C)
def aReb (C : Cf) (f : Nat) (P : Prx) : Prx := (pN P, pS P, reb C f P (pN P), P.2.2.2)
theorem reb_cnt {C : Cf} {f : Nat} {P : Prx} (hC : WfC C) : ∀ i, i ≤ 9 → Cnt (cM C) (3 * i) (reb C f P i)
  | 0, _ => ⟨fun c _ => ⟨by show -((3 * 0 : Nat) : Int) ≤ (0 : Int32).toInt; decide, by show (0 : Int32).toInt ≤ 7; decide⟩, fun _ _ _ => rfl⟩
  | i + 1, hi => ((reb_cnt hC i (by omega)).tal hC (Or.inl rfl) (by omega) (cK C) (by have := hC.2.1; omega)).mono (by have := hC.2.1; omega)
theorem x1_rebuild {I : HI} {n a rm fam : Nat} {C : Cf} {P : Prx} (hC : WfC C) (hh : HsAt I (n + 1) C fam) (hf : fam < cF C) (h : PxAt I a rm P) (hs : Shf rm (pN P) (pS P)) (ha : n + 4 ≤ a) : ∃ I', (PxAt I' a rm (aReb C fam P) ∧ Off I I' a 3) ∧ f_X1_rebuild I n a = some I' := by
  have h9 : pN P ≤ 9 := Nat.le_trans hs.1 hs.2.1
  unfold f_X1_rebuild
  obtain ⟨I1, ⟨b1, b2⟩, b3⟩ := x4_clear h
  rw [b3, bd1s, lt1s, b1.2.2.1]
  refine wl2_inv (F := X1_rebuild_B11 n a) (Inv := fun i (I2 : HI) (x : Int32) => (PxAt I2 a rm (pN P, pS P, reb C fam P i, P.2.2.2) ∧ Off I I2 a 3) ∧ (i < pN P → x = nI (pN P - 1 - i)) ∧ (pN P ≤ i → x = -1)) (m := pN P) ?_ ?_ (pN P) 0 5000 I1 _ (by omega) (by omega) ⟨⟨b1, b2⟩, fun h0 => ?_, fun h0 => ?_⟩
  · rintro i I2 x hi ⟨⟨h1, h2⟩, h3, -⟩
    rw [h3 hi]
    have hh1 : HsAt I2 (n + 1) C fam := hh.kept (h2 _ (by omega)) (h2 _ (by omega)) (h2 _ (by omega))
    obtain ⟨I3, ⟨c1, c2⟩, c3⟩ := x1_tally (t := 3 * i) (p := pS P (pN P - 1 - i)) (v := 1) hC hh1 hf h1 ha (hs.2.2.1 _ (by omega)) (Or.inl rfl) (by omega) (reb_cnt hC i (by omega))
    refine Or.inl ⟨I3, nI (pN P - 1 - i) + (-1 : Int32), ⟨⟨c1, h2.tr c2⟩, fun h4 => ?_, fun h4 => ?_⟩, fun k => ?_⟩
    · show nI (pN P - 1 - i) + -nI 1 = _
      rw [ndec (by omega)]
      congr 1
    · rw [show pN P - 1 - i = 0 by omega]; rfl
    · unfold X1_rebuild_B11
      rw [if_neg (nI_pos (by omega)), x4_pageAt h1 hs (by show pN P - 1 - i < pN P; omega), bd1s, c3, bd1s, lt1s]
  · rintro I2 x ⟨⟨h1, h2⟩, -, h3⟩
    rw [h3 (by omega)]
    refine ⟨I2, ⟨h1, h2⟩, fun k => ?_⟩
    unfold X1_rebuild_B11
    rw [if_pos (by decide)]
  · show nI (pN P) - nI 1 = _
    rw [nsub (by omega)]
    rfl
  · show nI (pN P) - nI 1 = _
    rw [show pN P = 0 by omega]; rfl
/-- every shelf is read anew, and its summary is sent -/
def adp (C : Cf) (N : Nt) : Nat → Nt
  | 0 => N
  | x + 1 => snd1 C x (stP (adp C N x) x (aReb C (nF N) (nP (adp C N x) x)))
def nFam (N : Nt) (f : Nat) : Nt := (nP N, f, N.2.2)
theorem snd1_nF (C : Cf) (x : Nat) (N : Nt) : nF (snd1 C x N) = nF N := rfl
theorem adp_nF (C : Cf) (N : Nt) : ∀ x, nF (adp C N x) = nF N
  | 0 => rfl
  | x + 1 => adp_nF C N x
theorem adp_wf {C : Cf} {t : Nat} {N : Nt} (hC : WfC C) (ht : 27 ≤ t) (h : WfN C t N) : ∀ x, x ≤ cN C → WfN C t (adp C N x)
  | 0, _ => h
  | x + 1, hx => by
    have ih := adp_wf hC ht h x (by omega)
    have hs := ih.shf (x := x) (by omega)
    refine WfN.snd (ih.px (by omega) hs ?_)
    have h9 : pN (nP (adp C N x) x) ≤ 9 := Nat.le_trans hs.1 hs.2.1
    exact (reb_cnt hC (pN (nP (adp C N x) x)) h9).mono (by omega)
theorem NtAt.fam {I : HI} {n f : Nat} {C : Cf} {N : Nt} (hn : cN C ≤ 4) (h : NtAt I n C N) : NtAt (sI I (n + 1) 3 (nI f)) n C (nFam N f) := by
  obtain ⟨⟨a0, a1, a2, a3, a4, a5⟩, b, c, d, e, f', g⟩ := h
  refine ⟨⟨?_, ?_, ?_, ?_, ?_, ?_⟩, ?_, ?_, ?_, ?_, ?_, fun x hx => (g x hx).kept (sI_ne (by omega)) (sI_ne (by omega)) (sI_ne (by omega))⟩
  · rw [sI_eq, uR_ne (by omega)]; exact a0
  · rw [sI_eq, uR_ne (by omega)]; exact a1
  · rw [sI_eq, uR_ne (by omega)]; exact a2
  · rw [sI_eq, uR_eq]; rfl
  · rw [sI_ne (by omega)]; exact a4
  · rw [sI_ne (by omega)]; exact a5
  · rw [sI_ne (by omega)]; exact b
  · rw [sI_ne (by omega)]; exact c
  · rw [sI_ne (by omega)]; exact d
  · rw [sI_ne (by omega)]; exact e
  · rw [sI_ne (by omega)]; exact f'
theorem x0_isFamily {I : HI} {h fam : Nat} {C : Cf} (hC : WfC C) (hh : HsAt I h C fam) (v : Int32) : (∃ f, f < cF C ∧ v = nI f ∧ f_X0_isFamily I h v = some 1) ∨ ((v < 0 ∨ nI (cF C) ≤ v) ∧ f_X0_isFamily I h v = some 0) := by
  have hF := hC.2.2.1
  unfold f_X0_isFamily
  by_cases h0 : v < 0
  · right; exact ⟨Or.inl h0, if_pos h0⟩
  · obtain ⟨j, hj, rfl⟩ := nI_of h0
    rw [if_neg h0, hh.2.2.1]
    by_cases hx : j < cF C
    · left; exact ⟨j, hx, rfl, if_pos (by rw [nlt (by omega) (by omega)]; exact hx)⟩
    · right; exact ⟨Or.inr (nI_le (by omega) hj), if_neg (by rw [nlt (by omega) (by omega)]; exact hx)⟩
theorem x1_adopt {I : HI} {n f t : Nat} {C : Cf} {N : Nt} (hC : WfC C) (hf : f < cF C) (ht : 27 ≤ t) (h : NtAt I n C N) (hw : WfN C t N) : ∃ I', (NtAt I' n C (adp C (nFam N f) (cN C)) ∧ Off I I' n 17 ∧ WfN C t (adp C (nFam N f) (cN C))) ∧ f_X1_adopt I n (nI f) = some (1, I') := by
  have hn := hC.2.2.2.2.1
  have hF := hC.2.2.1
  have w0 : WfN C t (nFam N f) := ⟨hf, hw.2⟩
  have e1 : f_X0_isFamily I (n + 1) (nI f) = some 1 := by
    unfold f_X0_isFamily
    rw [if_neg (nI_pos (by omega)), h.1.2.2.1, if_pos (by rw [nlt (by omega) (by omega)]; exact hf)]
  unfold f_X1_adopt
  rw [e1, bd1s, if_neg (by decide), lt1s]
  have key : ∃ r, (∃ I', r = ((1 : Int32), I') ∧ NtAt I' n C (adp C (nFam N f) (cN C)) ∧ Off I I' n 17) ∧ wl2 (X1_adopt_B23 n) 5000 (sI I (n + 1) 3 (nI f)) (nI 0) = some r := by
    refine wl2_inv (F := X1_adopt_B23 n) (Inv := fun i (I1 : HI) (x : Int32) => (NtAt I1 n C (adp C (nFam N f) i) ∧ Off I I1 n 17) ∧ x = nI i) (m := cN C) ?_ ?_ (cN C) 0 5000 _ _ (by omega) (by omega) ⟨⟨h.fam hn, Off.s (by omega)⟩, rfl⟩
    · rintro i I1 x hi ⟨⟨h1, h2⟩, rfl⟩
      have hw1 := adp_wf hC ht w0 i (by omega)
      have hp := h1.2.2.2.2.2.2 i hi
      obtain ⟨I2, ⟨b1, b2⟩, b3⟩ := x1_rebuild hC h1.1 hw1.1 hp (hw1.shf hi) (by omega)
      obtain ⟨I3, ⟨c1, c2⟩, c3⟩ := x1_spread hn (h1.px hn hi b1 b2) hi
      rw [adp_nF] at c1
      refine Or.inl ⟨I3, nI (i + 1), ⟨⟨c1, (h2.tr (b2.px hn hi)).tr c2⟩, rfl⟩, fun k => ?_⟩
      unfold X1_adopt_B23
      rw [h1.2.1, if_pos (by rw [nlt (by omega) (by omega)]; exact hi), x1_proxyAt hn h1 hi, bd1s, mNs, b3, bd1s, c3, bd2s]
      unfold X1_adopt_J52
      rw [lt1s, ninc]
    · rintro I1 x ⟨⟨h1, h2⟩, rfl⟩
      refine ⟨_, ⟨I1, rfl, h1, h2⟩, fun k => ?_⟩
      unfold X1_adopt_B23
      rw [h1.2.1, if_neg (by rw [nlt (by omega) (by omega)]; omega)]
  obtain ⟨r, ⟨I', rfl, k1, k2⟩, k3⟩ := key
  exact ⟨I', ⟨k1, k2, adp_wf hC ht w0 _ (by omega)⟩, k3⟩

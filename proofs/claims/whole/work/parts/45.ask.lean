/-! a request, whole -/
theorem shf_fr {rm n i : Nat} {sh : Nat → Nat} (h : Shf rm n sh) (hi : i < n) : Shf rm n (aFr i sh) := by
  obtain ⟨a1, a2, a3, a4⟩ := h
  have key : ∀ k, k < n → ∃ m, m < n ∧ aFr i sh k = sh m ∧ m = (if k = 0 then i else if k ≤ i then k - 1 else k) := by
    intro k hk
    unfold aFr
    by_cases h1 : k = 0
    · exact ⟨i, hi, by rw [if_pos h1], by rw [if_pos h1]⟩
    · by_cases h2 : k ≤ i
      · exact ⟨k - 1, by omega, by rw [if_neg h1, if_pos h2], by rw [if_neg h1, if_pos h2]⟩
      · exact ⟨k, hk, by rw [if_neg h1, if_neg h2], by rw [if_neg h1, if_neg h2]⟩
  refine ⟨a1, a2, fun k hk => ?_, fun k l hk hl e => ?_⟩
  · obtain ⟨m, hm, e, -⟩ := key k hk; rw [e]; exact a3 m hm
  · obtain ⟨m, hm, e1, e2⟩ := key k hk
    obtain ⟨m', hm', e3, e4⟩ := key l hl
    rw [e1, e3] at e
    have h1 := a4 m m' hm hm' e
    by_cases c1 : k = 0
    · rw [if_pos c1] at e2
      by_cases c2 : l = 0
      · omega
      · rw [if_neg c2] at e4
        by_cases c3 : l ≤ i
        · rw [if_pos c3] at e4; omega
        · rw [if_neg c3] at e4; omega
    · rw [if_neg c1] at e2
      by_cases c2 : l = 0
      · rw [if_pos c2] at e4
        by_cases c3 : k ≤ i
        · rw [if_pos c3] at e2; omega
        · rw [if_neg c3] at e2; omega
      · rw [if_neg c2] at e4
        by_cases c3 : k ≤ i
        · rw [if_pos c3] at e2
          by_cases c4 : l ≤ i
          · rw [if_pos c4] at e4; omega
          · rw [if_neg c4] at e4; omega
        · rw [if_neg c3] at e2
          by_cases c4 : l ≤ i
          · rw [if_pos c4] at e4; omega
          · rw [if_neg c4] at e4; omega
theorem shf_add {rm n p : Nat} {sh : Nat → Nat} (h : Shf rm n sh) (hn : n < rm) (hp : p < 32) (hno : ∀ k, k < n → sh k ≠ p) : Shf rm (n + 1) (aAdd p sh) := by
  obtain ⟨a1, a2, a3, a4⟩ := h
  refine ⟨by omega, a2, fun k hk => ?_, fun k l hk hl e => ?_⟩
  · unfold aAdd
    by_cases h1 : k = 0
    · rw [if_pos h1]; exact hp
    · rw [if_neg h1]; exact a3 _ (by omega)
  · unfold aAdd at e
    by_cases h1 : k = 0
    · rw [if_pos h1] at e
      by_cases h2 : l = 0
      · omega
      · rw [if_neg h2] at e; exact absurd e.symm (hno _ (by omega))
    · rw [if_neg h1] at e
      by_cases h2 : l = 0
      · rw [if_pos h2] at e; exact absurd e (hno _ (by omega))
      · rw [if_neg h2] at e; have := a4 _ _ (by omega) (by omega) e; omega
theorem shf_del {rm n i : Nat} {sh : Nat → Nat} (h : Shf rm n sh) (hi : i < n) : Shf rm (n - 1) (aDel i sh) := by
  obtain ⟨a1, a2, a3, a4⟩ := h
  refine ⟨by omega, a2, fun k hk => ?_, fun k l hk hl e => ?_⟩
  · unfold aDel
    by_cases h1 : k < i
    · rw [if_pos h1]; exact a3 _ (by omega)
    · rw [if_neg h1]; exact a3 _ (by omega)
  · unfold aDel at e
    by_cases h1 : k < i
    · rw [if_pos h1] at e
      by_cases h2 : l < i
      · rw [if_pos h2] at e; exact a4 _ _ (by omega) (by omega) e
      · rw [if_neg h2] at e; have := a4 _ _ (by omega) (by omega) e; omega
    · rw [if_neg h1] at e
      by_cases h2 : l < i
      · rw [if_pos h2] at e; have := a4 _ _ (by omega) (by omega) e; omega
      · rw [if_neg h2] at e; have := a4 _ _ (by omega) (by omega) e; omega
theorem WfN.px {C : Cf} {t t' x : Nat} {N : Nt} {P : Prx} (h : WfN C t N) (ht : t ≤ t') (hs : Shf (cR C x) (pN P) (pS P)) (hc : Cnt (cM C) t' (pC P)) : WfN C t' (stP N x P) := by
  refine ⟨h.1, fun z hz => ?_⟩
  by_cases hzx : z = x
  · subst hzx; rw [stP_eq]; exact ⟨hs, hc⟩
  · rw [stP_ne hzx]; exact ⟨(h.2 z hz).1, (h.2 z hz).2.mono ht⟩
theorem WfN.mono {C : Cf} {t t' : Nat} {N : Nt} (h : WfN C t N) (ht : t ≤ t') : WfN C t' N := ⟨h.1, fun z hz => ⟨(h.2 z hz).1, (h.2 z hz).2.mono ht⟩⟩
theorem WfN.snd {C : Cf} {t x : Nat} {N : Nt} (h : WfN C t N) : WfN C t (snd1 C x N) := by
  refine ⟨h.1, fun z hz => ?_⟩
  show Shf (cR C z) (pN (nP (stP N x (aSnd (nP N x))) z)) (pS (nP (stP N x (aSnd (nP N x))) z)) ∧ Cnt (cM C) t (pC (nP (stP N x (aSnd (nP N x))) z))
  by_cases hzx : z = x
  · subst hzx; rw [stP_eq]; exact h.2 z hz
  · rw [stP_ne hzx]; exact h.2 z hz
theorem WfN.sdu {C : Cf} {t : Nat} {N : Nt} (h : WfN C t N) : ∀ x, WfN C t (sdu C N x)
  | 0 => h
  | x + 1 => by
    unfold _root_.Jvm.Pilot.CShelfFiltersLaw_law_r9920_f6d990.sdu
    by_cases hl : pH (nP (_root_.Jvm.Pilot.CShelfFiltersLaw_law_r9920_f6d990.sdu C N x) x) < pL (nP (_root_.Jvm.Pilot.CShelfFiltersLaw_law_r9920_f6d990.sdu C N x) x)
    · rw [if_pos hl]; exact WfN.sdu h x
    · rw [if_neg hl]; exact (WfN.sdu h x).snd
theorem srch_px {x p : Nat} {C : Cf} : ∀ (j y : Nat) (N : Nt), nP (srch C x p j y N).2 x = nP N x
  | 0, y, N => rfl
  | j + 1, y, N => by
    rw [srch]
    by_cases hyx : y = x
    · rw [if_pos hyx]; exact srch_px j (y + 1) N
    · rw [if_neg hyx]
      by_cases hc : con (pM (nP N y)) (cel C (nF N) p) (cK C) = true
      · rw [if_pos hc]
        cases hpl : pl (pS (nP N y)) p (pN (nP N y)) with
        | none => exact srch_px j (y + 1) (nFlS (nRqS N))
        | some i =>
          show nP (stP (nRqS N) y (aRen i (nP N y))) x = _
          rw [stP_ne (fun e => hyx e.symm)]
          rfl
      · rw [if_neg hc]; exact srch_px j (y + 1) N
/-- what a search leaves, and whether a page was fetched -/
def aft (C : Cf) (x p : Nat) (N : Nt) : Nt := if (srch C x p (cN C) 0 N).1 = m9 then nFtS (srch C x p (cN C) 0 N).2 else (srch C x p (cN C) 0 N).2
theorem aft_px (C : Cf) (x p : Nat) (N : Nt) : nP (aft C x p N) x = nP N x := by
  unfold aft
  by_cases h : (srch C x p (cN C) 0 N).1 = m9
  · rw [if_pos h]; exact srch_px _ _ _
  · rw [if_neg h]; exact srch_px _ _ _
theorem aft_wf {C : Cf} {t x p : Nat} {N : Nt} (h : WfN C t N) : WfN C t (aft C x p N) := by
  unfold aft
  by_cases h1 : (srch C x p (cN C) 0 N).1 = m9
  · rw [if_pos h1]; exact (srch_wf _ _ _ h).1
  · rw [if_neg h1]; exact (srch_wf _ _ _ h).1
/-- a page comes to a proxy, the oldest going first where there is no room -/
def cme (C : Cf) (x p : Nat) (N : Nt) : Nt :=
  let N2 := if pN (nP N x) < cR C x then N else stP N x (aGo C (nF N) (pN (nP N x) - 1) (nP N x))
  stP N2 x (aCome C (nF N2) p (nP N2 x))
theorem ask_eq (C : Cf) (x p : Nat) (N : Nt) : ask C x p N = match pl (pS (nP N x)) p (pN (nP N x)) with
  | some i => (nI 10, sdu C (stP N x (aRen i (nP N x))) (cN C))
  | none => ((srch C x p (cN C) 0 N).1, sdu C (cme C x p (aft C x p N)) (cN C)) := rfl
theorem x1_cme {I : HI} {n x p t : Nat} {C : Cf} {N : Nt} {v : Int32} (hC : WfC C) (hp : p < 32) (hx : x < cN C) (ht : t + 6 < 1000000) (h : NtAt I n C N) (hw : WfN C t N) (hno : ∀ k, k < pN (nP N x) → pS (nP N x) k ≠ p) : ∃ I', (NtAt I' n C (sdu C (cme C x p N) (cN C)) ∧ Off I I' n 17 ∧ WfN C (t + 6) (sdu C (cme C x p N) (cN C))) ∧ X1_request_J57 I n (nI p) (n + 4 + 1 + 3 * x) v = some (v, I') := by
  have hn := hC.2.2.2.2.1
  have hpx := h.2.2.2.2.2.2 x hx
  have hsh := hw.shf hx
  have hcn := (hw.2 x hx).2
  have hrm := (hC.2.2.2.2.2 x hx).1
  have g1 := hsh.1
  have g2 := hsh.2.1
  have main : ∀ (I1 : HI) (N2 : Nt) (t1 : Nat), t1 + 3 < 1000000 → NtAt I1 n C N2 → Off I I1 n 17 → WfN C t1 N2 → pN (nP N2 x) < cR C x → (∀ k, k < pN (nP N2 x) → pS (nP N2 x) k ≠ p) → ∃ I', (NtAt I' n C (sdu C (stP N2 x (aCome C (nF N2) p (nP N2 x))) (cN C)) ∧ Off I I' n 17 ∧ WfN C (t1 + 3) (sdu C (stP N2 x (aCome C (nF N2) p (nP N2 x))) (cN C))) ∧ X1_request_J79 I1 n (nI p) (n + 4 + 1 + 3 * x) v = some (v, I') := by
    intro I1 N2 t1 ht1 h1 o1 w1 hlt hno1
    have hpx1 := h1.2.2.2.2.2.2 x hx
    have hsh1 := w1.shf hx
    have hcn1 := (w1.2 x hx).2
    unfold X1_request_J79
    obtain ⟨I2, ⟨b1, b2⟩, b3⟩ := x1_addPage (p := p) hC h1.1 w1.1 hpx1 (by omega) hp ht1 hcn1 (by omega)
    rw [b3, bd1s]
    unfold X1_request_J85
    have h2 := h1.px hn hx b1 b2
    obtain ⟨I3, ⟨c1, c2⟩, c3⟩ := x1_spreadDue hn h2
    rw [c3, bd1s]
    refine ⟨I3, ⟨c1, (o1.tr (b2.px hn hx)).tr c2, WfN.sdu (w1.px (by omega) (shf_add hsh1 hlt hp hno1) ?_) _⟩, rfl⟩
    exact (hcn1.tal hC (Or.inl rfl) ht1 (cK C) (by have := hC.2.1; omega)).mono (by have := hC.2.1; omega)
  unfold X1_request_J57
  rw [x4_hasRoom hpx hsh, bd1s]
  by_cases hlt : pN (nP N x) < cR C x
  · rw [if_neg (by rw [decide_eq_true hlt]; exact bZt)]
    obtain ⟨I', ⟨a1, a2, a3⟩, a4⟩ := main I N (t + 3) (by omega) h Off.rf (hw.mono (by omega)) hlt hno
    refine ⟨I', ⟨?_, a2, ?_⟩, a4⟩
    · rw [cme, if_pos hlt]; exact a1
    · rw [cme, if_pos hlt]; exact a3
  · rw [if_pos (by rw [decide_eq_false hlt]; rfl), hpx.2.2.1, i_1, nsub (by omega), x4_pageAt hpx hsh (by omega), bd1s]
    obtain ⟨I1, ⟨b1, b2⟩, b3⟩ := x1_removePage (i := pN (nP N x) - 1) hC h.1 hw.1 hpx hsh (by omega) (by omega) hcn (by omega)
    rw [b3, bd1s]
    have h1 := h.px hn hx b1 b2
    have w1 : WfN C (t + 3) (stP N x (aGo C (nF N) (pN (nP N x) - 1) (nP N x))) := hw.px (by omega) (shf_del hsh (by omega)) ((hcn.tal hC (Or.inr rfl) (by omega) (cK C) (by have := hC.2.1; omega)).mono (by have := hC.2.1; omega))
    have e : nP (stP N x (aGo C (nF N) (pN (nP N x) - 1) (nP N x))) x = aGo C (nF N) (pN (nP N x) - 1) (nP N x) := stP_eq _ _ _
    obtain ⟨I', ⟨a1, a2, a3⟩, a4⟩ := main I1 _ (t + 3) (by omega) h1 (b2.px hn hx) w1 (by rw [e]; show pN (nP N x) - 1 < cR C x; omega) (by
      rw [e]
      intro k hk
      have hk' : k < pN (nP N x) - 1 := hk
      show aDel (pN (nP N x) - 1) (pS (nP N x)) k ≠ p
      unfold aDel
      rw [if_pos hk']
      exact hno k (by omega))
    refine ⟨I', ⟨?_, a2, ?_⟩, a4⟩
    · rw [cme, if_neg hlt]; exact a1
    · rw [cme, if_neg hlt]; exact a3
theorem x1_request {I : HI} {n x p t : Nat} {C : Cf} {N : Nt} (hC : WfC C) (hp : p < 32) (hx : x < cN C) (ht : t + 6 < 1000000) (h : NtAt I n C N) (hw : WfN C t N) : ∃ I', (NtAt I' n C (ask C x p N).2 ∧ Off I I' n 17 ∧ WfN C (t + 6) (ask C x p N).2) ∧ f_X1_request I n (nI x) (nI p) = some ((ask C x p N).1, I') := by
  have hn := hC.2.2.2.2.1
  have hpx := h.2.2.2.2.2.2 x hx
  have hsh := hw.shf hx
  unfold f_X1_request
  rw [x1_proxyAt hn h hx, bd1s, mNs, x4_has hpx hsh hp, bd1s, ask_eq]
  cases hpl : pl (pS (nP N x)) p (pN (nP N x)) with
  | some i =>
    rw [if_neg (show ¬ bZ (Option.isSome (some i)) = 0 from bZt)]
    obtain ⟨I1, ⟨b1, b2⟩, b3⟩ := x4_renew hpx hsh hp hpl
    rw [b3, bd1s]
    unfold X1_request_J85
    obtain ⟨I2, ⟨c1, c2⟩, c3⟩ := x1_spreadDue hn (h.px hn hx b1 b2)
    rw [c3, bd1s]
    exact ⟨I2, ⟨c1, (b2.px hn hx).tr c2, WfN.sdu (WfN.px (t := t) (t' := t + 6) (P := aRen i (nP N x)) hw (by omega) (shf_fr hsh (pl_some hpl).1) ((hw.2 x hx).2.mono (by omega))) _⟩, rfl⟩
  | none =>
    rw [if_pos (show bZ (Option.isSome (none : Option Nat)) = 0 from rfl)]
    obtain ⟨I1, ⟨b1, b2⟩, b3⟩ := x1_search (t := t) hC hp hx (cN C) 0 5000 I N (by omega) (by omega) h hw
    have b3' : f_X1_searchOthers I n (nI x) (nI p) = some ((srch C x p (cN C) 0 N).1, I1) := b3
    rw [b3', bd2s]
    have hno : ∀ k, k < pN (nP (aft C x p N) x) → pS (nP (aft C x p N) x) k ≠ p := by rw [aft_px]; exact pl_none hpl
    by_cases h9 : (srch C x p (cN C) 0 N).1 = m9
    · have ea : aft C x p N = nFtS (srch C x p (cN C) 0 N).2 := if_pos h9
      have h1 : NtAt (sI I1 n 5 (I1 n 5 + 1)) n C (aft C x p N) := by rw [ea]; exact b1.net hn (k := 5) (by omega) (by rw [b1.2.2.2.2.1]; rfl)
      rw [if_pos (show (srch C x p (cN C) 0 N).1 = (-9 : Int32) from h9), lt1s]
      obtain ⟨I2, ⟨c1, c2, c3⟩, c4⟩ := x1_cme (v := (srch C x p (cN C) 0 N).1) hC hp hx ht h1 (aft_wf hw) hno
      exact ⟨I2, ⟨c1, (b2.tr (Off.s (by omega))).tr c2, c3⟩, c4⟩
    · have ea : aft C x p N = (srch C x p (cN C) 0 N).2 := if_neg h9
      have h1 : NtAt I1 n C (aft C x p N) := by rw [ea]; exact b1
      rw [if_neg (show ¬ (srch C x p (cN C) 0 N).1 = (-9 : Int32) from h9)]
      obtain ⟨I2, ⟨c1, c2, c3⟩, c4⟩ := x1_cme (v := (srch C x p (cN C) 0 N).1) hC hp hx ht h1 (aft_wf hw) hno
      exact ⟨I2, ⟨c1, b2.tr c2, c3⟩, c4⟩

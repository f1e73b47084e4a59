/-! requests -/
def nMsS (N : Nt) (v : Int32) : Nt := (nP N, nF N, nRq N, nFl N, nFt N, v)
/-- a summary is sent -/
def snd1 (C : Cf) (x : Nat) (N : Nt) : Nt := nMsS (stP N x (aSnd (nP N x))) (nMs N + (nI (cN C) - nI 1))
/-- all that are due, below x -/
def sdu (C : Cf) (N : Nt) : Nat → Nt
  | 0 => N
  | x + 1 => if pH (nP (sdu C N x) x) < pL (nP (sdu C N x) x) then sdu C N x else snd1 C x (sdu C N x)
theorem NtAt.net {I : HI} {n k : Nat} {C : Cf} {N N' : Nt} {v : Int32} (hn : cN C ≤ 4) (h : NtAt I n C N) (hk : k = 3 ∨ k = 4 ∨ k = 5 ∨ k = 6) (hN : N' = (if k = 3 then (nP N, nF N, v, nFl N, nFt N, nMs N) else if k = 4 then (nP N, nF N, nRq N, v, nFt N, nMs N) else if k = 5 then (nP N, nF N, nRq N, nFl N, v, nMs N) else (nP N, nF N, nRq N, nFl N, nFt N, v))) : NtAt (sI I n k v) n C N' := by
  obtain ⟨a, b, c, d, e, f, g⟩ := h
  subst hN
  have ha : HsAt (sI I n k v) (n + 1) C (nF N) := a.kept (sI_ne (by omega)) (sI_ne (by omega)) (sI_ne (by omega))
  have hg : ∀ x, x < cN C → PxAt (sI I n k v) (n + 4 + 1 + 3 * x) (cR C x) (nP N x) := fun x hx => (g x hx).kept (sI_ne (by omega)) (sI_ne (by omega)) (sI_ne (by omega))
  rcases hk with rfl | rfl | rfl | rfl
  · exact ⟨ha, by rw [sI_at, if_neg (by omega)]; exact b, by rw [sI_at, if_pos ⟨rfl, rfl⟩]; rfl, by rw [sI_at, if_neg (by omega)]; exact d, by rw [sI_at, if_neg (by omega)]; exact e, by rw [sI_at, if_neg (by omega)]; exact f, hg⟩
  · exact ⟨ha, by rw [sI_at, if_neg (by omega)]; exact b, by rw [sI_at, if_neg (by omega)]; exact c, by rw [sI_at, if_pos ⟨rfl, rfl⟩]; rfl, by rw [sI_at, if_neg (by omega)]; exact e, by rw [sI_at, if_neg (by omega)]; exact f, hg⟩
  · exact ⟨ha, by rw [sI_at, if_neg (by omega)]; exact b, by rw [sI_at, if_neg (by omega)]; exact c, by rw [sI_at, if_neg (by omega)]; exact d, by rw [sI_at, if_pos ⟨rfl, rfl⟩]; rfl, by rw [sI_at, if_neg (by omega)]; exact f, hg⟩
  · exact ⟨ha, by rw [sI_at, if_neg (by omega)]; exact b, by rw [sI_at, if_neg (by omega)]; exact c, by rw [sI_at, if_neg (by omega)]; exact d, by rw [sI_at, if_neg (by omega)]; exact e, by rw [sI_at, if_pos ⟨rfl, rfl⟩]; rfl, hg⟩
theorem x1_spread {I : HI} {n x : Nat} {C : Cf} {N : Nt} (hn : cN C ≤ 4) (h : NtAt I n C N) (hx : x < cN C) : ∃ I', (NtAt I' n C (snd1 C x N) ∧ Off I I' n 17) ∧ f_X1_spread I n (n + 4 + 1 + 3 * x) = some (1, I') := by
  unfold f_X1_spread
  have hp := h.2.2.2.2.2.2 x hx
  rw [x4_filterSet hp, bd1s, lt1s, lt1s, lt1s]
  have h1 := px_sm hp (flt (pC (nP N x)) 16)
  have h2 := px_ch h1 0
  have ho : Off I (sI (sI I (n + 4 + 1 + 3 * x) 4 (flt (pC (nP N x)) 16)) (n + 4 + 1 + 3 * x) 3 0) (n + 4 + 1 + 3 * x) 3 := (Off.s (by omega)).tr (Off.s (by omega))
  have h3 := h.px hn hx h2 ho
  refine ⟨_, ⟨h3.net hn (k := 6) (by omega) ?_, (ho.px hn hx).tr (Off.s (by omega))⟩, rfl⟩
  rw [h3.2.2.2.2.2.1, h3.2.1]
  rfl
theorem snd1_li (C : Cf) (x : Nat) (N : Nt) (y : Nat) : pL (nP (snd1 C x N) y) = pL (nP N y) := by
  show pL (nP (stP N x (aSnd (nP N x))) y) = _
  by_cases h : y = x
  · subst h; rw [stP_eq]; rfl
  · rw [stP_ne h]
theorem x1_spreadDue {I : HI} {n : Nat} {C : Cf} {N : Nt} (hn : cN C ≤ 4) (h : NtAt I n C N) : ∃ I', (NtAt I' n C (sdu C N (cN C)) ∧ Off I I' n 17) ∧ f_X1_spreadDue I n = some I' := by
  unfold f_X1_spreadDue
  refine wl2_inv (F := X1_spreadDue_B2 n) (Inv := fun i (I1 : HI) (x : Int32) => (NtAt I1 n C (sdu C N i) ∧ Off I I1 n 17) ∧ x = nI i) (m := cN C) ?_ ?_ (cN C) 0 5000 I (nI 0) (by omega) (by omega) ⟨⟨h, Off.rf⟩, rfl⟩
  · rintro i I1 x hi ⟨⟨h1, h2⟩, rfl⟩
    have hp := h1.2.2.2.2.2.2 i hi
    by_cases hlt : pH (nP (sdu C N i) i) < pL (nP (sdu C N i) i)
    · refine Or.inl ⟨I1, nI (i + 1), ⟨⟨?_, h2⟩, rfl⟩, fun k => ?_⟩
      · rw [sdu, if_pos hlt]; exact h1
      · unfold X1_spreadDue_B2
        rw [h1.2.1, if_pos (by rw [nlt (by omega) (by omega)]; exact hi), x1_proxyAt hn h1 hi, bd1s, mNs, hp.2.2.2.1, hp.2.1, if_pos hlt]
        unfold X1_spreadDue_J37
        rw [lt1s, ninc]
    · obtain ⟨I2, ⟨b1, b2⟩, b3⟩ := x1_spread hn h1 hi
      refine Or.inl ⟨I2, nI (i + 1), ⟨⟨?_, h2.tr b2⟩, rfl⟩, fun k => ?_⟩
      · rw [sdu, if_neg hlt]; exact b1
      · unfold X1_spreadDue_B2
        rw [h1.2.1, if_pos (by rw [nlt (by omega) (by omega)]; exact hi), x1_proxyAt hn h1 hi, bd1s, mNs, hp.2.2.2.1, hp.2.1, if_neg hlt, b3, bd2s]
        unfold X1_spreadDue_J37
        rw [lt1s, ninc]
  · rintro I1 x ⟨⟨h1, h2⟩, rfl⟩
    refine ⟨I1, ⟨h1, h2⟩, fun k => ?_⟩
    unfold X1_spreadDue_B2
    rw [h1.2.1, if_neg (by rw [nlt (by omega) (by omega)]; omega)]
def nRqS (N : Nt) : Nt := (nP N, nF N, nRq N + 1, nFl N, nFt N, nMs N)
def nFlS (N : Nt) : Nt := (nP N, nF N, nRq N, nFl N + 1, nFt N, nMs N)
def nFtS (N : Nt) : Nt := (nP N, nF N, nRq N, nFl N, nFt N + 1, nMs N)
/-- the other proxies are asked, from y on, j of them -/
def srch (C : Cf) (x p : Nat) : Nat → Nat → Nt → Int32 × Nt
  | 0, _, N => (m9, N)
  | j + 1, y, N => if y = x then srch C x p j (y + 1) N
    else if con (pM (nP N y)) (cel C (nF N) p) (cK C) = true then
      (match pl (pS (nP N y)) p (pN (nP N y)) with
        | some i => (nI y, stP (nRqS N) y (aRen i (nP N y)))
        | none => srch C x p j (y + 1) (nFlS (nRqS N)))
    else srch C x p j (y + 1) N
theorem WfN.shf {C : Cf} {t x : Nat} {N : Nt} (h : WfN C t N) (hx : x < cN C) : Shf (cR C x) (pN (nP N x)) (pS (nP N x)) := (h.2 x hx).1
theorem bZf : bZ false = 0 := rfl
theorem bZt : ¬ bZ true = 0 := by decide
theorem x1_search {n x p t : Nat} {C : Cf} (hC : WfC C) (hp : p < 32) (hx : x < cN C) : ∀ (j y M : Nat) (I : HI) (N : Nt), y + j = cN C → j < M → NtAt I n C N → WfN C t N → ∃ I', (NtAt I' n C (srch C x p j y N).2 ∧ Off I I' n 17) ∧ wl2 (X1_searchOthers_B2 n (nI x) (nI p)) M I (nI y) = some ((srch C x p j y N).1, I')
  | 0, y, M, I, N, hy, hM, h, hw => by
    obtain ⟨M, rfl⟩ : ∃ K, M = K + 1 := ⟨M - 1, by omega⟩
    have hn := hC.2.2.2.2.1
    refine ⟨I, ⟨h, Off.rf⟩, ?_⟩
    rw [wl2_0]
    unfold X1_searchOthers_B2
    rw [h.2.1, if_neg (by rw [nlt (by omega) (by omega)]; omega)]
    rfl
  | j + 1, y, M, I, N, hy, hM, h, hw => by
    obtain ⟨M, rfl⟩ : ∃ K, M = K + 1 := ⟨M - 1, by omega⟩
    have hn := hC.2.2.2.2.1
    have hyn : y < cN C := by omega
    have hpx := h.2.2.2.2.2.2 y hyn
    rw [wl2_0]
    unfold X1_searchOthers_B2
    rw [h.2.1, if_pos (by rw [nlt (by omega) (by omega)]; exact hyn), x1_proxyAt hn h hyn, bd1s, mNs]
    by_cases hyx : y = x
    · rw [if_pos (by rw [hyx])]
      unfold X1_searchOthers_J87
      rw [lt1s, ninc]
      have ih := x1_search hC hp hx j (y + 1) M I N (by omega) (by omega) h hw
      rw [srch, if_pos hyx]
      exact ih
    · rw [if_neg (by rw [neq (by omega) (by omega)]; exact hyx), hpx.2.2.2.2.1, h.1.2.2.2.1, x0_contains hC h.1 hw.1 hp, bd1s]
      rw [srch, if_neg hyx]
      cases hcon : con (pM (nP N y)) (cel C (nF N) p) (cK C) with
      | false =>
        rw [if_pos bZf, if_neg (by simp)]
        unfold X1_searchOthers_J87
        rw [lt1s, ninc]
        exact x1_search hC hp hx j (y + 1) M I N (by omega) (by omega) h hw
      | true =>
        rw [if_neg bZt, if_pos rfl, lt1s]
        have h1 : NtAt (sI I n 3 (I n 3 + 1)) n C (nRqS N) := h.net hn (k := 3) (by omega) (by rw [h.2.2.1]; rfl)
        have o1 : Off I (sI I n 3 (I n 3 + 1)) n 17 := Off.s (by omega)
        have hpx1 : PxAt (sI I n 3 (I n 3 + 1)) (n + 4 + 1 + 3 * y) (cR C y) (nP N y) := h1.2.2.2.2.2.2 y hyn
        rw [x4_has hpx1 (hw.shf hyn) hp, bd1s]
        cases hpl : pl (pS (nP N y)) p (pN (nP N y)) with
        | none =>
          rw [if_pos (show bZ (Option.isSome (none : Option Nat)) = 0 from rfl), lt1s]
          unfold X1_searchOthers_J87
          rw [lt1s, ninc]
          have h2 : NtAt (sI (sI I n 3 (I n 3 + 1)) n 4 ((sI I n 3 (I n 3 + 1)) n 4 + 1)) n C (nFlS (nRqS N)) := h1.net hn (k := 4) (by omega) (by rw [h1.2.2.2.1]; rfl)
          obtain ⟨I2, ⟨b1, b2⟩, b3⟩ := x1_search hC hp hx j (y + 1) M _ (nFlS (nRqS N)) (by omega) (by omega) h2 hw
          exact ⟨I2, ⟨b1, (o1.tr (Off.s (by omega))).tr b2⟩, b3⟩
        | some i =>
          rw [if_neg (show ¬ bZ (Option.isSome (some i)) = 0 from bZt)]
          obtain ⟨I2, ⟨b1, b2⟩, b3⟩ := x4_renew hpx1 (hw.shf hyn) hp hpl
          rw [b3, bd1s]
          exact ⟨I2, ⟨h1.px hn hyn b1 b2, o1.tr (b2.px hn hyn)⟩, rfl⟩
/-- a request at proxy x -/
def ask (C : Cf) (x p : Nat) (N : Nt) : Int32 × Nt :=
  match pl (pS (nP N x)) p (pN (nP N x)) with
  | some i => (nI 10, sdu C (stP N x (aRen i (nP N x))) (cN C))
  | none =>
    let r := srch C x p (cN C) 0 N
    let N1 := if r.1 = m9 then nFtS r.2 else r.2
    let N2 := if pN (nP N1 x) < cR C x then N1 else stP N1 x (aGo C (nF N1) (pN (nP N1 x) - 1) (nP N1 x))
    (r.1, sdu C (stP N2 x (aCome C (nF N2) p (nP N2 x))) (cN C))
/-- what a search leaves -/
theorem srch_wf {x p t : Nat} {C : Cf} : ∀ (j y : Nat) (N : Nt), WfN C t N → WfN C t (srch C x p j y N).2 ∧ nF (srch C x p j y N).2 = nF N
  | 0, y, N, h => ⟨h, rfl⟩
  | j + 1, y, N, h => by
    rw [srch]
    by_cases hyx : y = x
    · rw [if_pos hyx]; exact srch_wf j (y + 1) N h
    · rw [if_neg hyx]
      by_cases hc : con (pM (nP N y)) (cel C (nF N) p) (cK C) = true
      · rw [if_pos hc]
        cases hpl : pl (pS (nP N y)) p (pN (nP N y)) with
        | none => exact srch_wf j (y + 1) (nFlS (nRqS N)) h
        | some i =>
          refine ⟨⟨h.1, fun z hz => ?_⟩, rfl⟩
          show Shf (cR C z) (pN (nP (stP (nRqS N) y (aRen i (nP N y))) z)) (pS (nP (stP (nRqS N) y (aRen i (nP N y))) z)) ∧ Cnt (cM C) t (pC (nP (stP (nRqS N) y (aRen i (nP N y))) z))
          by_cases hzy : z = y
          · subst hzy
            rw [stP_eq]
            obtain ⟨⟨a1, a2, a3, a4⟩, a5⟩ := h.2 z hz
            obtain ⟨b1, b2, -⟩ := pl_some hpl
            refine ⟨⟨a1, a2, fun k hk => ?_, fun k l hk hl e => ?_⟩, a5⟩
            · show aFr i (pS (nP N z)) k < 32
              have hk' : k < pN (nP N z) := hk
              unfold aFr
              by_cases h1 : k = 0
              · rw [if_pos h1]; exact a3 _ b1
              · rw [if_neg h1]
                by_cases h2 : k ≤ i
                · rw [if_pos h2]; exact a3 _ (by omega)
                · rw [if_neg h2]; exact a3 _ (by omega)
            · have e' : aFr i (pS (nP N z)) k = aFr i (pS (nP N z)) l := e
              have hk' : k < pN (nP N z) := hk
              have hl' : l < pN (nP N z) := hl
              unfold aFr at e'
              by_cases h1 : k = 0
              · rw [if_pos h1] at e'
                by_cases h2 : l = 0
                · omega
                · rw [if_neg h2] at e'
                  by_cases h3 : l ≤ i
                  · rw [if_pos h3] at e'; have := a4 _ _ b1 (by omega) e'; omega
                  · rw [if_neg h3] at e'; have := a4 _ _ b1 (by omega) e'; omega
              · rw [if_neg h1] at e'
                by_cases h2 : l = 0
                · rw [if_pos h2] at e'
                  by_cases h3 : k ≤ i
                  · rw [if_pos h3] at e'; have := a4 _ _ (by omega) b1 e'; omega
                  · rw [if_neg h3] at e'; have := a4 _ _ (by omega) b1 e'; omega
                · rw [if_neg h2] at e'
                  by_cases h3 : k ≤ i
                  · rw [if_pos h3] at e'
                    by_cases h4 : l ≤ i
                    · rw [if_pos h4] at e'; have := a4 _ _ (by omega) (by omega) e'; omega
                    · rw [if_neg h4] at e'; have := a4 _ _ (by omega) (by omega) e'; omega
                  · rw [if_neg h3] at e'
                    by_cases h4 : l ≤ i
                    · rw [if_pos h4] at e'; have := a4 _ _ (by omega) (by omega) e'; omega
                    · rw [if_neg h4] at e'; have := a4 _ _ (by omega) (by omega) e'; omega
          · rw [stP_ne hzy]; exact h.2 z hz
      · rw [if_neg hc]; exact srch_wf j (y + 1) N h

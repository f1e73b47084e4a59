/-! counters and hash functions -/
def bmp (c : Nat) (v : Int32) (cn : Nat → Int32) : Nat → Int32 := fun j => if j = c then (if cn c = 7 then cn c else cn c + v) else cn j
/-- counters within their bounds after t acts -/
def Cnt (M t : Nat) (cn : Nat → Int32) : Prop := (∀ c, c < 16 → -(t : Int) ≤ (cn c).toInt ∧ (cn c).toInt ≤ 7) ∧ ∀ c, M ≤ c → c < 16 → cn c = 0
theorem x4_move {I : HI} {a rm : Nat} {P : Prx} (h : PxAt I a rm P) {c : Nat} (hc : c < 16) (h7 : (pC P c).toInt ≤ 7) {v : Int32} : ∃ I', (PxAt I' a rm (pN P, pS P, bmp c v (pC P), P.2.2.2) ∧ Off I I' a 3) ∧ f_X4_move I a (nI c) v = some I' := by
  obtain ⟨n, sh, cn, sm, ch, li⟩ := P
  obtain ⟨h0, h1, hn, h3, h4, hs, hcn⟩ := h
  dsimp only [pN, pS, pC, pM, pH, pL] at *
  unfold f_X4_move
  have e1 : ∀ {x : Option HI}, gd (vp_in (nI c) 16) x = x := gv hc (by omega)
  rw [if_neg (nI_pos (by omega)), if_pos (by rw [i_16, nlt (by omega) (by omega)]; exact hc), e1, ncl (by omega), hcn c hc]
  by_cases hlt : cn c < 7
  · rw [if_pos hlt, e1, e1, lt1s]
    refine ⟨_, ⟨⟨?_, ?_, ?_, ?_, ?_, fun k hk => ?_, fun j hj => ?_⟩, Off.s (by omega)⟩, rfl⟩
    · rw [sI_at, if_neg (by omega)]; exact h0
    · rw [sI_at, if_neg (by omega)]; exact h1
    · rw [sI_at, if_neg (by omega)]; exact hn
    · rw [sI_at, if_neg (by omega)]; exact h3
    · rw [sI_at, if_neg (by omega)]; exact h4
    · rw [sI_at, if_neg (by omega)]; exact hs k hk
    · rw [sI_at]
      show _ = bmp c v cn j
      unfold bmp
      by_cases hj2 : j = c
      · rw [if_pos ⟨rfl, hj2⟩, if_pos hj2, if_neg (fun e : cn c = 7 => i_not_lt_self 7 (by rw [e] at hlt; exact hlt))]
      · rw [if_neg (fun e => hj2 e.2), if_neg hj2]; exact hcn j hj
  · rw [if_neg hlt]
    refine ⟨I, ⟨⟨h0, h1, hn, h3, h4, hs, fun j hj => ?_⟩, Off.rf⟩, rfl⟩
    show _ = bmp c v cn j
    have h7' : cn c = 7 := by
      have e7 : (7 : Int32).toInt = 7 := by decide
      rw [Int32.lt_iff_toInt_lt, e7] at hlt
      exact Int32.toInt_inj.mp (by rw [e7]; omega)
    unfold bmp
    by_cases hj2 : j = c
    · subst hj2; rw [if_pos rfl, if_pos h7']; exact hcn j hj
    · rw [if_neg hj2]; exact hcn j hj
theorem x4_clear {I : HI} {a rm : Nat} {P : Prx} (h : PxAt I a rm P) : ∃ I', (PxAt I' a rm (pN P, pS P, (fun _ => 0), P.2.2.2) ∧ Off I I' a 3) ∧ f_X4_clearCounters I a = some I' := by
  obtain ⟨n, sh, cn, sm, ch, li⟩ := P
  obtain ⟨h0, h1, hn, h3, h4, hs, hcn⟩ := h
  dsimp only [pN, pS, pC, pM, pH, pL] at *
  unfold f_X4_clearCounters
  refine wl2_inv (F := X4_clearCounters_B2 a) (Inv := fun i (I1 : HI) (x : Int32) => I1 = rowS I (a + 2) (fun k => if k < i then 0 else I (a + 2) k) ∧ x = nI i) (m := 16) ?_ ?_ 16 0 5000 I (nI 0) (by omega) (by omega) ⟨?_, rfl⟩
  · rintro i I1 x hi ⟨rfl, rfl⟩
    refine Or.inl ⟨rowS I (a + 2) (fun k => if k < i + 1 then 0 else I (a + 2) k), nI (i + 1), ⟨rfl, rfl⟩, fun k => ?_⟩
    unfold X4_clearCounters_B2
    rw [if_pos (by rw [i_16, nlt (by omega) (by omega)]; exact hi), gv (by omega) (by omega), lt1s, lt1s, ncl (by omega), rowS_s, ninc]
    congr 2
    funext k
    unfold uR
    dsimp only
    by_cases hk : k = i
    · rw [if_pos hk, if_pos (by omega)]
    · rw [if_neg hk]
      by_cases hk2 : k < i
      · rw [if_pos hk2, if_pos (by omega)]
      · rw [if_neg hk2, if_neg (by omega)]
  · rintro I1 x ⟨rfl, rfl⟩
    refine ⟨rowS I (a + 2) (fun k => if k < 16 then 0 else I (a + 2) k), ⟨⟨?_, ?_, ?_, ?_, ?_, fun k hk => ?_, fun j hj => ?_⟩, fun q hq => rowS_ne (by omega)⟩, fun k => ?_⟩
    · rw [rowS_ne (by omega)]; exact h0
    · rw [rowS_ne (by omega)]; exact h1
    · rw [rowS_ne (by omega)]; exact hn
    · rw [rowS_ne (by omega)]; exact h3
    · rw [rowS_ne (by omega)]; exact h4
    · rw [rowS_ne (by omega)]; exact hs k hk
    · rw [rowS_at]; exact if_pos hj
    · unfold X4_clearCounters_B2
      rw [if_neg (by rw [i_16, nlt (by omega) (by omega)]; omega)]
  · have e : (fun k => if k < 0 then 0 else I (a + 2) k) = I (a + 2) := by
      funext k; rw [if_neg (by omega)]
    rw [e, rowS_id]
/-- cells, functions, families, their numbers A and B, proxies, rooms -/
abbrev Cf : Type := Nat × Nat × Nat × (Nat → Nat) × (Nat → Nat) × Nat × (Nat → Nat)
abbrev cM (C : Cf) : Nat := C.1
abbrev cK (C : Cf) : Nat := C.2.1
abbrev cF (C : Cf) : Nat := C.2.2.1
abbrev cA (C : Cf) : Nat → Nat := C.2.2.2.1
abbrev cB (C : Cf) : Nat → Nat := C.2.2.2.2.1
abbrev cN (C : Cf) : Nat := C.2.2.2.2.2.1
abbrev cR (C : Cf) : Nat → Nat := C.2.2.2.2.2.2
def WfC (C : Cf) : Prop := (4 ≤ cM C ∧ cM C ≤ 16) ∧ (1 ≤ cK C ∧ cK C ≤ 3) ∧ (1 ≤ cF C ∧ cF C ≤ 3) ∧ (∀ f, f < cF C → cA C f ≤ 9 ∧ cB C f ≤ 9) ∧ cN C ≤ 4 ∧ ∀ x, x < cN C → 1 ≤ cR C x ∧ cR C x ≤ 9
def HsAt (I : HI) (h : Nat) (C : Cf) (fam : Nat) : Prop := I h 0 = nI (cM C) ∧ I h 1 = nI (cK C) ∧ I h 2 = nI (cF C) ∧ I h 3 = nI fam ∧ (∀ f, f < cF C → I (h + 1) f = nI (cA C f)) ∧ ∀ f, f < cF C → I (h + 2) f = nI (cB C f)
def cel (C : Cf) (f p i : Nat) : Nat := (cA C f * p + cB C f * (i + 1) * (i + 1)) % 37 % cM C
theorem cel_lt {C : Cf} (hC : WfC C) (f p i : Nat) : cel C f p i < cM C := Nat.mod_lt _ (by have := hC.1.1; omega)
theorem mul3 {a b c : Nat} (ha : a ≤ 9) (hb : b ≤ 3) : a * b * b ≤ 81 := by
  have h1 : a * b ≤ 9 * 3 := Nat.mul_le_mul ha hb
  have h2 : a * b * b ≤ 9 * 3 * 3 := Nat.mul_le_mul h1 hb
  omega
theorem mul2 {a p : Nat} (ha : a ≤ 9) (hp : p < 32) : a * p ≤ 279 := by
  have h1 : a * p ≤ 9 * 31 := Nat.mul_le_mul ha (by omega)
  omega
theorem x0_cell {I : HI} {h fam : Nat} {C : Cf} (hC : WfC C) (hh : HsAt I h C fam) {f p i : Nat} (hf : f < cF C) (hp : p < 32) (hi : i < 3) : f_X0_cell I h (nI f) (nI p) (nI i) = some (nI (cel C f p i)) := by
  obtain ⟨g0, g1, g2, g3, gA, gB⟩ := hh
  obtain ⟨⟨m1, m2⟩, -, ⟨-, f3⟩, hAB, -⟩ := hC
  obtain ⟨hA, hB⟩ := hAB f hf
  have hf3 : f < 3 := by omega
  have b1 := mul2 hA hp
  have b2 := mul3 (b := i + 1) (c := 0) hB (by omega)
  unfold f_X0_cell
  have e3 : ∀ {x : Option Int32}, gd (vp_in (nI f) 3) x = x := gv hf3 (by omega)
  rw [g0, if_pos (by rw [n0pos (by omega)]; omega), if_neg (nI_pos (by omega)), if_pos (by rw [i_3, nlt (by omega) (by omega)]; exact hf3), if_pos (by rw [i_3, nlt (by omega) (by omega)]; exact hf3), e3, e3, gdt (by rw [n0eq (by omega)]; omega), ncl (by omega), gA f hf, gB f hf, ninc, nmul, nmul, nmul, nadd, i_37, rem_n (by omega) (by omega) (by omega), rem_n (by omega) (by omega) (by omega)]
  rfl
/-- whether a set of cells has a cell -/
def bit (s : Int32) (c : Nat) : Bool := !decide (((s >>> (nI c &&& 31)) &&& 1) = 0)
def con (s : Int32) (c : Nat → Nat) : Nat → Bool
  | 0 => true
  | i + 1 => con s c i && bit s (c i)
theorem con_false {s : Int32} {c : Nat → Nat} {i : Nat} (h : bit s (c i) = false) : ∀ {n : Nat}, i < n → con s c n = false
  | n + 1, hn => by
    unfold con
    rcases Nat.lt_or_eq_of_le (Nat.lt_succ_iff.mp hn) with h1 | h1
    · rw [con_false h h1]; rfl
    · subst h1; rw [h]; simp
theorem x0_contains {I : HI} {h fam : Nat} {C : Cf} (hC : WfC C) (hh : HsAt I h C fam) {f p : Nat} (hf : f < cF C) (hp : p < 32) (s : Int32) : f_X0_contains I h s (nI f) (nI p) = some (bZ (con s (cel C f p) (cK C))) := by
  have hK := hC.2.1
  have hM := hC.1
  unfold f_X0_contains
  have key := wl1_inv (F := X0_contains_B3 I h s (nI f) (nI p)) (Post := fun v => v = bZ (con s (cel C f p) (cK C))) (Inv := fun i (x : Int32) => x = nI i ∧ con s (cel C f p) i = true) (m := cK C) ?_ ?_ (cK C) 0 5000 (nI 0) (by omega) (by omega) ⟨rfl, rfl⟩
  · obtain ⟨r, e, h⟩ := key
    rw [← e]; exact h
  · rintro i x hi ⟨rfl, hb⟩
    have hc : f_X0_cell I h (nI f) (nI p) (nI i) = some (nI (cel C f p i)) := x0_cell hC hh hf hp (by omega)
    by_cases hz : ((s >>> (nI (cel C f p i) &&& 31)) &&& 1) = 0
    · have hbt : bit s (cel C f p i) = false := by unfold bit; rw [decide_eq_true hz]; rfl
      refine Or.inr ⟨0, ?_, fun k => ?_⟩
      · rw [con_false hbt hi]; rfl
      · unfold X0_contains_B3
        rw [hh.2.1, if_pos (by rw [nlt (by omega) (by omega)]; exact hi), hc, bd1s, if_pos hz]
    · have hbt : bit s (cel C f p i) = true := by unfold bit; rw [decide_eq_false hz]; rfl
      refine Or.inl ⟨nI (i + 1), ⟨rfl, by rw [con, hb, hbt]; rfl⟩, fun k => ?_⟩
      unfold X0_contains_B3
      rw [hh.2.1, if_pos (by rw [nlt (by omega) (by omega)]; exact hi), hc, bd1s, if_neg hz, lt1s, ninc]
  · rintro x ⟨rfl, hb⟩
    refine ⟨1, ?_, fun k => ?_⟩
    · rw [hb]; rfl
    · unfold X0_contains_B3
      rw [hh.2.1, if_neg (by rw [nlt (by omega) (by omega)]; omega)]
/-- numbers with a property, as a bit set -/
def bsI (c : Nat → Bool) : Nat → Int32
  | 0 => 0
  | k + 1 => if c k = true then bsI c k ||| ((1 : Int32) <<< (nI k &&& 31)) else bsI c k
/-- the pages that a set of cells contains -/
def pgs (C : Cf) (f : Nat) (s : Int32) : Int32 := bsI (fun p => con s (cel C f p) (cK C)) 32
theorem x0_pagesIn {I : HI} {h fam : Nat} {C : Cf} (hC : WfC C) (hh : HsAt I h C fam) {f : Nat} (hf : f < cF C) (s : Int32) : f_X0_pagesIn I h s (nI f) = some (pgs C f s) := by
  have hFn := hC.2.2.1
  unfold f_X0_pagesIn
  have key := wl2_inv (F := X0_pagesIn_B5 I h s (nI f)) (Post := fun v => v = pgs C f s) (Inv := fun i (x y : Int32) => x = bsI (fun p => con s (cel C f p) (cK C)) i ∧ y = nI i) (m := 32) ?_ ?_ 32 0 5000 0 (nI 0) (by omega) (by omega) ⟨rfl, rfl⟩
  · obtain ⟨r, e, h⟩ := key
    rw [← e]; exact h
  · rintro i x y hi ⟨rfl, rfl⟩
    refine Or.inl ⟨_, _, ⟨rfl, rfl⟩, fun k => ?_⟩
    unfold X0_pagesIn_B5
    rw [if_pos (by rw [i_32, nlt (by omega) (by omega)]; exact hi), x0_contains hC hh hf hi, bd1s, bsI]
    cases hb : con s (cel C f i) (cK C) with
    | true =>
      rw [if_neg (by rw [bZ_0]; simp), lt1s]
      unfold X0_pagesIn_J30
      rw [lt1s, ninc]
      rfl
    | false =>
      rw [if_pos (by rw [bZ_0])]
      unfold X0_pagesIn_J30
      rw [lt1s, ninc]
      rfl
  · rintro x y ⟨rfl, rfl⟩
    refine ⟨_, rfl, fun k => ?_⟩
    unfold X0_pagesIn_B5
    rw [if_neg (by rw [i_32, nlt (by omega) (by omega)]; omega)]
    rfl
/-- the cells of a page -/
def orN (c : Nat → Nat) : Nat → Int32
  | 0 => 0
  | i + 1 => orN c i ||| ((1 : Int32) <<< (nI (c i) &&& 31))
theorem x0_cellSet {I : HI} {h fam : Nat} {C : Cf} (hC : WfC C) (hh : HsAt I h C fam) {f p : Nat} (hf : f < cF C) (hp : p < 32) : f_X0_cellSet I h (nI f) (nI p) = some (orN (cel C f p) (cK C)) := by
  have hK := hC.2.1
  unfold f_X0_cellSet
  have key := wl2_inv (F := X0_cellSet_B5 I h (nI f) (nI p)) (Post := fun v => v = orN (cel C f p) (cK C)) (Inv := fun i (x y : Int32) => x = orN (cel C f p) i ∧ y = nI i) (m := cK C) ?_ ?_ (cK C) 0 5000 0 (nI 0) (by omega) (by omega) ⟨rfl, rfl⟩
  · obtain ⟨r, e, h⟩ := key
    rw [← e]; exact h
  · rintro i x y hi ⟨rfl, rfl⟩
    refine Or.inl ⟨_, _, ⟨rfl, rfl⟩, fun k => ?_⟩
    unfold X0_cellSet_B5
    rw [hh.2.1, if_pos (by rw [nlt (by omega) (by omega)]; exact hi), x0_cell hC hh hf hp (by omega), bd1s, lt1s, lt1s, ninc]
    rfl
  · rintro x y ⟨rfl, rfl⟩
    refine ⟨_, rfl, fun k => ?_⟩
    unfold X0_cellSet_B5
    rw [hh.2.1, if_neg (by rw [nlt (by omega) (by omega)]; omega)]

/-! nets: proxies, the present family, the four counts -/
abbrev Nt : Type := (Nat → Prx) × Nat × Int32 × Int32 × Int32 × Int32
abbrev nP (N : Nt) : Nat → Prx := N.1
abbrev nF (N : Nt) : Nat := N.2.1
abbrev nRq (N : Nt) : Int32 := N.2.2.1
abbrev nFl (N : Nt) : Int32 := N.2.2.2.1
abbrev nFt (N : Nt) : Int32 := N.2.2.2.2.1
abbrev nMs (N : Nt) : Int32 := N.2.2.2.2.2
def NtAt (I : HI) (n : Nat) (C : Cf) (N : Nt) : Prop := HsAt I (n + 1) C (nF N) ∧ I n 2 = nI (cN C) ∧ I n 3 = nRq N ∧ I n 4 = nFl N ∧ I n 5 = nFt N ∧ I n 6 = nMs N ∧ ∀ x, x < cN C → PxAt I (n + 4 + 1 + 3 * x) (cR C x) (nP N x)
def WfN (C : Cf) (t : Nat) (N : Nt) : Prop := nF N < cF C ∧ ∀ x, x < cN C → Shf (cR C x) (pN (nP N x)) (pS (nP N x)) ∧ Cnt (cM C) t (pC (nP N x))
def stP (N : Nt) (x : Nat) (P : Prx) : Nt := ((fun y => if y = x then P else nP N y), N.2)
theorem stP_eq (N : Nt) (x : Nat) (P : Prx) : nP (stP N x P) x = P := if_pos rfl
theorem stP_ne {N : Nt} {x y : Nat} {P : Prx} (h : y ≠ x) : nP (stP N x P) y = nP N y := if_neg h
theorem HsAt.kept {I I' : HI} {h fam : Nat} {C : Cf} (hh : HsAt I h C fam) (h0 : I' h = I h) (h1 : I' (h + 1) = I (h + 1)) (h2 : I' (h + 2) = I (h + 2)) : HsAt I' h C fam := by
  obtain ⟨a, b, c, d, e, f⟩ := hh
  exact ⟨by rw [h0]; exact a, by rw [h0]; exact b, by rw [h0]; exact c, by rw [h0]; exact d, by rw [h1]; exact e, by rw [h2]; exact f⟩
theorem PxAt.kept {I I' : HI} {a rm : Nat} {P : Prx} (h : PxAt I a rm P) (h0 : I' a = I a) (h1 : I' (a + 1) = I (a + 1)) (h2 : I' (a + 2) = I (a + 2)) : PxAt I' a rm P := by
  obtain ⟨b, c, d, e, f, g, i⟩ := h
  exact ⟨by rw [h0]; exact b, by rw [h0]; exact c, by rw [h0]; exact d, by rw [h0]; exact e, by rw [h0]; exact f, by rw [h1]; exact g, by rw [h2]; exact i⟩
theorem NtAt.kept {I I' : HI} {n : Nat} {C : Cf} {N : Nt} (hn : cN C ≤ 4) (h : NtAt I n C N) (ho : ∀ q, n ≤ q → q < n + 17 → I' q = I q) : NtAt I' n C N := by
  obtain ⟨a, b, c, d, e, f, g⟩ := h
  have h0 := ho n (by omega) (by omega)
  exact ⟨a.kept (ho _ (by omega) (by omega)) (ho _ (by omega) (by omega)) (ho _ (by omega) (by omega)), by rw [h0]; exact b, by rw [h0]; exact c, by rw [h0]; exact d, by rw [h0]; exact e, by rw [h0]; exact f, fun x hx => (g x hx).kept (ho _ (by omega) (by omega)) (ho _ (by omega) (by omega)) (ho _ (by omega) (by omega))⟩
/-- one proxy changes -/
theorem NtAt.px {I I' : HI} {n x : Nat} {C : Cf} {N : Nt} {P : Prx} (hn : cN C ≤ 4) (h : NtAt I n C N) (hx : x < cN C) (hP : PxAt I' (n + 4 + 1 + 3 * x) (cR C x) P) (ho : Off I I' (n + 4 + 1 + 3 * x) 3) : NtAt I' n C (stP N x P) := by
  obtain ⟨a, b, c, d, e, f, g⟩ := h
  have h0 := ho n (by omega)
  refine ⟨a.kept (ho _ (by omega)) (ho _ (by omega)) (ho _ (by omega)), by rw [h0]; exact b, by rw [h0]; exact c, by rw [h0]; exact d, by rw [h0]; exact e, by rw [h0]; exact f, fun y hy => ?_⟩
  by_cases hyx : y = x
  · subst hyx; rw [stP_eq]; exact hP
  · rw [stP_ne hyx]
    exact (g y hy).kept (ho _ (by omega)) (ho _ (by omega)) (ho _ (by omega))
theorem Off.px {I I' : HI} {n x : Nat} {C : Cf} (hn : cN C ≤ 4) (hx : x < cN C) (ho : Off I I' (n + 4 + 1 + 3 * x) 3) : Off I I' n 17 := ho.wid (by omega) (by omega)
theorem x1_proxyAt {I : HI} {n x : Nat} {C : Cf} {N : Nt} (hn : cN C ≤ 4) (h : NtAt I n C N) (hx : x < cN C) : f_X1_proxyAt I n (nI x) = some (some (n + 4 + 1 + 3 * x)) := by
  unfold f_X1_proxyAt
  rw [h.2.1, if_neg (nI_pos (by omega)), if_pos (by rw [nlt (by omega) (by omega)]; exact hx), if_pos (by rw [i_4, nlt (by omega) (by omega)]; omega), gv (by omega) (by omega), ncl (by omega)]
/-- any proxy that is asked for -/
theorem x1_proxyAt' {I : HI} {n : Nat} {C : Cf} {N : Nt} (hn : cN C ≤ 4) (h : NtAt I n C N) (v : Int32) : (∃ x, x < cN C ∧ v = nI x ∧ f_X1_proxyAt I n v = some (some (n + 4 + 1 + 3 * x))) ∨ ((v < 0 ∨ nI (cN C) ≤ v) ∧ f_X1_proxyAt I n v = some none) := by
  by_cases h0 : v < 0
  · right
    refine ⟨Or.inl h0, ?_⟩
    unfold f_X1_proxyAt
    rw [if_pos h0]
  · obtain ⟨j, hj, rfl⟩ := nI_of h0
    by_cases hx : j < cN C
    · exact Or.inl ⟨j, hx, rfl, x1_proxyAt hn h hx⟩
    · right
      refine ⟨Or.inr (nI_le (by omega) hj), ?_⟩
      unfold f_X1_proxyAt
      rw [if_neg h0, h.2.1, if_neg (by rw [nlt (by omega) (by omega)]; exact hx)]
/-- the counters of a page's cells move -/
def tal (C : Cf) (f p : Nat) (v : Int32) (cn : Nat → Int32) : Nat → (Nat → Int32)
  | 0 => cn
  | i + 1 => bmp (cel C f p i) v (tal C f p v cn i)
theorem i_add1 {x v : Int32} (hv : v = 1 ∨ v = -1) {t : Nat} (ht : t < 1000000) (h1 : -(t : Int) ≤ x.toInt) (h2 : x.toInt ≤ 7) : (x + v).toInt = x.toInt + v.toInt := by
  rw [Int32.toInt_add]
  have e1 : (1 : Int32).toInt = 1 := by decide
  have e2 : (-1 : Int32).toInt = -1 := by decide
  rcases hv with rfl | rfl
  · rw [e1]; exact Int.bmod_eq_of_le (by omega) (by omega)
  · rw [e2]; exact Int.bmod_eq_of_le (by omega) (by omega)
theorem Cnt.bmp {M t c : Nat} {cn : Nat → Int32} {v : Int32} (hv : v = 1 ∨ v = -1) (ht : t < 1000000) (h : Cnt M t cn) (hc : c < M) (hM : M ≤ 16) : Cnt M (t + 1) (bmp c v cn) := by
  refine ⟨fun j hj => ?_, fun j h1 h2 => ?_⟩
  · have h3 := h.1 j hj
    have h4 := h.1 c (by omega)
    unfold _root_.Jvm.Pilot.CShelfFiltersLaw_law_r9920_f6d990.bmp
    by_cases hjc : j = c
    · rw [if_pos hjc]
      by_cases h7 : cn c = 7
      · rw [if_pos h7]; omega
      · rw [if_neg h7, i_add1 hv ht h4.1 h4.2]
        have e7 : (7 : Int32).toInt = 7 := by decide
        have h8 : (cn c).toInt ≠ 7 := fun e => h7 (Int32.toInt_inj.mp (by rw [e7]; exact e))
        have e1 : (1 : Int32).toInt = 1 := by decide
        have e2 : (-1 : Int32).toInt = -1 := by decide
        rcases hv with rfl | rfl
        · rw [e1]; omega
        · rw [e2]; omega
    · rw [if_neg hjc]; omega
  · unfold _root_.Jvm.Pilot.CShelfFiltersLaw_law_r9920_f6d990.bmp
    rw [if_neg (by omega)]
    exact h.2 j h1 h2
theorem Cnt.mono {M t t' : Nat} {cn : Nat → Int32} (h : Cnt M t cn) (ht : t ≤ t') : Cnt M t' cn := ⟨fun c hc => by have := h.1 c hc; omega, h.2⟩
theorem Cnt.tal {C : Cf} {f p t : Nat} {v : Int32} {cn : Nat → Int32} (hC : WfC C) (hv : v = 1 ∨ v = -1) (ht : t + 3 < 1000000) (h : Cnt (cM C) t cn) : ∀ i, i ≤ 3 → Cnt (cM C) (t + i) (tal C f p v cn i)
  | 0, _ => h
  | i + 1, hi => (Cnt.tal hC hv ht h i (by omega)).bmp (t := t + i) hv (by omega) (cel_lt hC f p i) hC.1.2
theorem x1_tally {I : HI} {n a rm fam p t : Nat} {C : Cf} {P : Prx} {v : Int32} (hC : WfC C) (hh : HsAt I (n + 1) C fam) (hf : fam < cF C) (h : PxAt I a rm P) (ha : n + 4 ≤ a) (hp : p < 32) (hv : v = 1 ∨ v = -1) (ht : t + 3 < 1000000) (hc : Cnt (cM C) t (pC P)) : ∃ I', (PxAt I' a rm (pN P, pS P, tal C fam p v (pC P) (cK C), P.2.2.2) ∧ Off I I' a 3) ∧ f_X1_tally I n a (nI p) v = some I' := by
  have hK := hC.2.1
  have hM := hC.1
  unfold f_X1_tally
  refine wl2_inv (F := X1_tally_B3 n a (nI p) v) (Inv := fun i (I1 : HI) (x : Int32) => (PxAt I1 a rm (pN P, pS P, tal C fam p v (pC P) i, P.2.2.2) ∧ Off I I1 a 3) ∧ x = nI i) (m := cK C) ?_ ?_ (cK C) 0 5000 I (nI 0) (by omega) (by omega) ⟨⟨h, Off.rf⟩, rfl⟩
  · rintro i I1 x hi ⟨⟨h1, h2⟩, rfl⟩
    have hh1 : HsAt I1 (n + 1) C fam := hh.kept (h2 _ (by omega)) (h2 _ (by omega)) (h2 _ (by omega))
    have hc1 := hc.tal (f := fam) (p := p) (v := v) hC hv ht i (by omega)
    obtain ⟨I2, ⟨h3, h4⟩, h5⟩ := x4_move h1 (c := cel C fam p i) (v := v) (Nat.lt_of_lt_of_le (cel_lt hC _ _ _) hM.2) (hc1.1 _ (Nat.lt_of_lt_of_le (cel_lt hC _ _ _) hM.2)).2
    refine Or.inl ⟨I2, nI (i + 1), ⟨⟨h3, h2.tr h4⟩, rfl⟩, fun k => ?_⟩
    unfold X1_tally_B3
    rw [hh1.2.1, if_pos (by rw [nlt (by omega) (by omega)]; exact hi), hh1.2.2.2.1, x0_cell hC hh1 hf hp (by omega), bd1s, h5, bd1s, lt1s, ninc]
  · rintro I1 x ⟨⟨h1, h2⟩, rfl⟩
    have hh1 : HsAt I1 (n + 1) C fam := hh.kept (h2 _ (by omega)) (h2 _ (by omega)) (h2 _ (by omega))
    refine ⟨I1, ⟨h1, h2⟩, fun k => ?_⟩
    unfold X1_tally_B3
    rw [hh1.2.1, if_neg (by rw [nlt (by omega) (by omega)]; omega)]
/-- a page comes to a shelf, goes from it, becomes its newest; a summary is sent -/
def aCome (C : Cf) (f p : Nat) (P : Prx) : Prx := (pN P + 1, aAdd p (pS P), tal C f p 1 (pC P) (cK C), pM P, pH P + 1, pL P)
def aGo (C : Cf) (f i : Nat) (P : Prx) : Prx := (pN P - 1, aDel i (pS P), tal C f (pS P i) (-1) (pC P) (cK C), pM P, pH P + 1, pL P)
def aRen (i : Nat) (P : Prx) : Prx := (pN P, aFr i (pS P), P.2.2)
def aSnd (P : Prx) : Prx := (pN P, pS P, pC P, flt (pC P) 16, 0, pL P)
theorem px_ch {I : HI} {a rm : Nat} {P : Prx} (h : PxAt I a rm P) (v : Int32) : PxAt (sI I a 3 v) a rm (pN P, pS P, pC P, pM P, v, pL P) := by
  obtain ⟨h0, h1, hn, h3, h4, hs, hcn⟩ := h
  refine ⟨?_, ?_, ?_, ?_, ?_, fun k hk => ?_, fun j hj => ?_⟩
  · rw [sI_at, if_neg (by omega)]; exact h0
  · rw [sI_at, if_neg (by omega)]; exact h1
  · rw [sI_at, if_neg (by omega)]; exact hn
  · rw [sI_at, if_pos ⟨rfl, rfl⟩]
  · rw [sI_at, if_neg (by omega)]; exact h4
  · rw [sI_at, if_neg (by omega)]; exact hs k hk
  · rw [sI_at, if_neg (by omega)]; exact hcn j hj
theorem px_sm {I : HI} {a rm : Nat} {P : Prx} (h : PxAt I a rm P) (v : Int32) : PxAt (sI I a 4 v) a rm (pN P, pS P, pC P, v, pH P, pL P) := by
  obtain ⟨h0, h1, hn, h3, h4, hs, hcn⟩ := h
  refine ⟨?_, ?_, ?_, ?_, ?_, fun k hk => ?_, fun j hj => ?_⟩
  · rw [sI_at, if_neg (by omega)]; exact h0
  · rw [sI_at, if_neg (by omega)]; exact h1
  · rw [sI_at, if_neg (by omega)]; exact hn
  · rw [sI_at, if_neg (by omega)]; exact h3
  · rw [sI_at, if_pos ⟨rfl, rfl⟩]
  · rw [sI_at, if_neg (by omega)]; exact hs k hk
  · rw [sI_at, if_neg (by omega)]; exact hcn j hj
theorem x1_addPage {I : HI} {n a rm fam p t : Nat} {C : Cf} {P : Prx} (hC : WfC C) (hh : HsAt I (n + 1) C fam) (hf : fam < cF C) (h : PxAt I a rm P) (ha : n + 4 ≤ a) (hp : p < 32) (ht : t + 3 < 1000000) (hc : Cnt (cM C) t (pC P)) (h9 : pN P < 9) : ∃ I', (PxAt I' a rm (aCome C fam p P) ∧ Off I I' a 3) ∧ f_X1_addPage I n a (nI p) = some I' := by
  unfold f_X1_addPage
  obtain ⟨I1, ⟨a1, a2⟩, a3⟩ := x4_addNewest h h9 (p := p)
  rw [a3, bd1s]
  have hh1 : HsAt I1 (n + 1) C fam := hh.kept (a2 _ (by omega)) (a2 _ (by omega)) (a2 _ (by omega))
  obtain ⟨I2, ⟨b1, b2⟩, b3⟩ := x1_tally (v := 1) hC hh1 hf a1 ha hp (Or.inl rfl) ht hc
  rw [b3, bd1s, lt1s]
  refine ⟨_, ⟨?_, (a2.tr b2).tr (Off.s (by omega))⟩, rfl⟩
  rw [b1.2.2.2.1]
  exact px_ch b1 _
theorem x1_removePage {I : HI} {n a rm fam i t : Nat} {C : Cf} {P : Prx} (hC : WfC C) (hh : HsAt I (n + 1) C fam) (hf : fam < cF C) (h : PxAt I a rm P) (hs : Shf rm (pN P) (pS P)) (ha : n + 4 ≤ a) (ht : t + 3 < 1000000) (hc : Cnt (cM C) t (pC P)) (hi : i < pN P) : ∃ I', (PxAt I' a rm (aGo C fam i P) ∧ Off I I' a 3) ∧ f_X1_removePage I n a (nI (pS P i)) = some I' := by
  have hp : pS P i < 32 := hs.2.2.1 i hi
  have g1 := hs.1
  have g2 := hs.2.1
  unfold f_X1_removePage
  have hpl : pl (pS P) (pS P i) (pN P) = some i := pl_of hi rfl (fun j hj e => by have := hs.2.2.2 j i (by omega) hi e; omega)
  rw [x4_placeOf h hs hp, bd1s, hpl]
  obtain ⟨I1, ⟨a1, a2⟩, a3⟩ := x4_removeAt h (by omega) hi
  show ∃ I', _ ∧ bd1 (f_X4_removeAt I a (nI i)) _ = some I'
  rw [a3, bd1s]
  have hh1 : HsAt I1 (n + 1) C fam := hh.kept (a2 _ (by omega)) (a2 _ (by omega)) (a2 _ (by omega))
  obtain ⟨I2, ⟨b1, b2⟩, b3⟩ := x1_tally (v := -1) hC hh1 hf a1 ha hp (Or.inr rfl) ht hc
  rw [b3, bd1s, lt1s]
  refine ⟨_, ⟨?_, (a2.tr b2).tr (Off.s (by omega))⟩, rfl⟩
  rw [b1.2.2.2.1]
  exact px_ch b1 _

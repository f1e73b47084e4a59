/-! abstract proxies, and the class's -/
/-- a proxy: length of the shelf, shelf, counters, summary, changes, threshold -/
abbrev Prx : Type := Nat × (Nat → Nat) × (Nat → Int32) × Int32 × Int32 × Int32
abbrev pN (P : Prx) : Nat := P.1
abbrev pS (P : Prx) : Nat → Nat := P.2.1
abbrev pC (P : Prx) : Nat → Int32 := P.2.2.1
abbrev pM (P : Prx) : Int32 := P.2.2.2.1
abbrev pH (P : Prx) : Int32 := P.2.2.2.2.1
abbrev pL (P : Prx) : Int32 := P.2.2.2.2.2
def PxAt (I : HI) (a rm : Nat) (P : Prx) : Prop := I a 0 = nI rm ∧ I a 1 = pL P ∧ I a 2 = nI (pN P) ∧ I a 3 = pH P ∧ I a 4 = pM P ∧ (∀ k, k < pN P → I (a + 1) k = nI (pS P k)) ∧ (∀ c, c < 16 → I (a + 2) c = pC P c)
/-- sound shelves -/
def Shf (rm : Nat) (n : Nat) (sh : Nat → Nat) : Prop := n ≤ rm ∧ rm ≤ 9 ∧ (∀ k, k < n → sh k < 32) ∧ (∀ i j, i < n → j < n → sh i = sh j → i = j)
/-- where a page stands -/
def pl (sh : Nat → Nat) (p : Nat) : Nat → Option Nat
  | 0 => none
  | n + 1 => match pl sh p n with
    | some k => some k
    | none => if sh n = p then some n else none
theorem pl_none {sh : Nat → Nat} {p : Nat} : ∀ {n : Nat}, pl sh p n = none → ∀ k, k < n → sh k ≠ p
  | 0, _, k, hk => absurd hk (Nat.not_lt_zero _)
  | n + 1, h, k, hk => by
    unfold pl at h
    cases h1 : pl sh p n with
    | some j => rw [h1] at h; cases h
    | none =>
      rw [h1] at h
      dsimp only at h
      by_cases h2 : sh n = p
      · rw [if_pos h2] at h; cases h
      · rcases Nat.lt_or_eq_of_le (Nat.lt_succ_iff.mp hk) with h3 | h3
        · exact pl_none h1 k h3
        · subst h3; exact h2
theorem pl_some {sh : Nat → Nat} {p : Nat} : ∀ {n k : Nat}, pl sh p n = some k → k < n ∧ sh k = p ∧ ∀ j, j < k → sh j ≠ p
  | 0, k, h => by cases h
  | n + 1, k, h => by
    unfold pl at h
    cases h1 : pl sh p n with
    | some j =>
      rw [h1] at h; cases h
      obtain ⟨a, b, c⟩ := pl_some h1
      exact ⟨by omega, b, c⟩
    | none =>
      rw [h1] at h
      dsimp only at h
      by_cases h2 : sh n = p
      · rw [if_pos h2] at h; cases h
        exact ⟨by omega, h2, pl_none h1⟩
      · rw [if_neg h2] at h; cases h
theorem pl_of {sh : Nat → Nat} {p n k : Nat} (hk : k < n) (h : sh k = p) (hf : ∀ j, j < k → sh j ≠ p) : pl sh p n = some k := by
  cases h1 : pl sh p n with
  | none => exact absurd h (pl_none h1 k hk)
  | some j =>
    obtain ⟨a, b, c⟩ := pl_some h1
    rcases Nat.lt_trichotomy j k with h2 | h2 | h2
    · exact absurd b (hf j h2)
    · rw [h2]
    · exact absurd h (c k h2)
theorem pl_no {sh : Nat → Nat} {p n : Nat} (h : ∀ k, k < n → sh k ≠ p) : pl sh p n = none := by
  cases h1 : pl sh p n with
  | none => rfl
  | some j => exact absurd (pl_some h1).2.1 (h j (pl_some h1).1)
def plV : Option Nat → Int32
  | some k => nI k
  | none => m9
def bZ (b : Bool) : Int32 := if b then 1 else 0
theorem bZ_0 (b : Bool) : (bZ b = 0) = (b = false) := by cases b <;> simp [bZ]
theorem bZ_zb (b : Bool) : zb (bZ b) := by cases b <;> first | exact Or.inl rfl | exact Or.inr rfl
section X4
variable {I : HI} {a rm : Nat} {P : Prx}
theorem x4_placeOf (h : PxAt I a rm P) (h9 : Shf rm (pN P) (pS P)) {p : Nat} (hp : p < 32) : f_X4_placeOf I a (nI p) = some (plV (pl (pS P) p (pN P))) := by
  obtain ⟨n, sh, cn, sm, ch, li⟩ := P
  obtain ⟨-, -, hn, -, -, hs, -⟩ := h
  obtain ⟨g1, g2, g3, -⟩ := h9
  dsimp only [pN, pS] at *
  unfold f_X4_placeOf
  have key := wl1_inv (F := X4_placeOf_B2 I a (nI p)) (Post := fun v => v = plV (pl sh p n)) (Inv := fun i (x : Int32) => x = nI i ∧ ∀ k, k < i → sh k ≠ p) (m := n) ?_ ?_ n 0 5000 (nI 0) (by omega) (by omega) ⟨rfl, fun k hk => absurd hk (Nat.not_lt_zero _)⟩
  · obtain ⟨r, e, h⟩ := key
    rw [← e]; exact h
  · rintro i x hi ⟨rfl, hb⟩
    by_cases hsp : sh i = p
    · refine Or.inr ⟨nI i, ?_, fun k => ?_⟩
      · rw [pl_of hi hsp hb]; rfl
      · unfold X4_placeOf_B2
        rw [hn, if_pos (by rw [nlt (by omega) (by omega)]; exact hi), i_9, if_pos (by rw [nlt (by omega) (by omega)]; omega), gv (by omega) (by omega), ncl (by omega), hs i hi, if_pos (by rw [hsp])]
    · refine Or.inl ⟨nI (i + 1), ⟨rfl, fun k hk => ?_⟩, fun k => ?_⟩
      · rcases Nat.lt_or_eq_of_le (Nat.lt_succ_iff.mp hk) with h3 | h3
        · exact hb k h3
        · subst h3; exact hsp
      · unfold X4_placeOf_B2
        have := g3 i hi
        rw [hn, if_pos (by rw [nlt (by omega) (by omega)]; exact hi), i_9, if_pos (by rw [nlt (by omega) (by omega)]; omega), gv (by omega) (by omega), ncl (by omega), hs i hi, if_neg (by rw [neq (by omega) (by omega)]; exact hsp), lt1s, ninc]
  · rintro x ⟨rfl, hb⟩
    refine ⟨m9, ?_, fun k => ?_⟩
    · rw [pl_no hb]; rfl
    · unfold X4_placeOf_B2
      rw [hn, if_neg (by rw [nlt (by omega) (by omega)]; omega)]
      rfl
theorem x4_has (h : PxAt I a rm P) (h9 : Shf rm (pN P) (pS P)) {p : Nat} (hp : p < 32) : f_X4_has I a (nI p) = some (bZ (pl (pS P) p (pN P)).isSome) := by
  have hl : ∀ k, pl (pS P) p (pN P) = some k → k < 9 := fun k hk => by have := (pl_some hk).1; have := h9.1; have := h9.2.1; omega
  unfold f_X4_has
  rw [x4_placeOf h h9 hp, bd1s]
  cases hpl : pl (pS P) p (pN P) with
  | none => rfl
  | some k =>
    have := hl k hpl
    show (if nI k = -9 then _ else _) = _
    rw [if_neg (by rw [show (-9 : Int32) = m9 from rfl, nI_m9 (by omega)]; exact id)]
    rfl
/-- the pages of a shelf, as a bit set -/
def sset (sh : Nat → Nat) : Nat → Int32
  | 0 => 0
  | k + 1 => sset sh k ||| ((1 : Int32) <<< (nI (sh k) &&& 31))
theorem x4_shelfSet (h : PxAt I a rm P) (h9 : Shf rm (pN P) (pS P)) : f_X4_shelfSet I a = some (sset (pS P) (pN P)) := by
  obtain ⟨n, sh, cn, sm, ch, li⟩ := P
  obtain ⟨-, -, hn, -, -, hs, -⟩ := h
  obtain ⟨g1, g2, g3, -⟩ := h9
  dsimp only [pN, pS] at *
  unfold f_X4_shelfSet
  have key := wl2_inv (F := X4_shelfSet_B4 I a) (Post := fun v => v = sset sh n) (Inv := fun i (s x : Int32) => s = sset sh i ∧ x = nI i) (m := n) ?_ ?_ n 0 5000 0 (nI 0) (by omega) (by omega) ⟨rfl, rfl⟩
  · obtain ⟨r, e, h⟩ := key
    rw [← e]; exact h
  · rintro i s x hi ⟨rfl, rfl⟩
    refine Or.inl ⟨_, _, ⟨rfl, rfl⟩, fun k => ?_⟩
    unfold X4_shelfSet_B4
    rw [hn, if_pos (by rw [nlt (by omega) (by omega)]; exact hi), if_pos (by rw [show (9 : Int32) = nI 9 from rfl, nlt (by omega) (by omega)]; omega), gv (by omega) (by omega), ncl (by omega), hs i hi, lt1s, lt1s, ninc]
    rfl
  · rintro s x ⟨rfl, rfl⟩
    refine ⟨_, rfl, fun k => ?_⟩
    unfold X4_shelfSet_B4
    rw [hn, if_neg (by rw [nlt (by omega) (by omega)]; omega)]
/-- the cells whose counters are above 0, as a bit set -/
def flt (cn : Nat → Int32) : Nat → Int32
  | 0 => 0
  | c + 1 => if 0 < cn c then flt cn c ||| ((1 : Int32) <<< (nI c &&& 31)) else flt cn c
theorem x4_filterSet (h : PxAt I a rm P) : f_X4_filterSet I a = some (flt (pC P) 16) := by
  obtain ⟨n, sh, cn, sm, ch, li⟩ := P
  obtain ⟨-, -, -, -, -, -, hc⟩ := h
  dsimp only [pC] at *
  unfold f_X4_filterSet
  have key := wl2_inv (F := X4_filterSet_B4 I a) (Post := fun v => v = flt cn 16) (Inv := fun i (s x : Int32) => s = flt cn i ∧ x = nI i) (m := 16) ?_ ?_ 16 0 5000 0 (nI 0) (by omega) (by omega) ⟨rfl, rfl⟩
  · obtain ⟨r, e, h⟩ := key
    rw [← e]; exact h
  · rintro i s x hi ⟨rfl, rfl⟩
    refine Or.inl ⟨_, _, ⟨rfl, rfl⟩, fun k => ?_⟩
    unfold X4_filterSet_B4
    rw [if_pos (by rw [show (16 : Int32) = nI 16 from rfl, nlt (by omega) (by omega)]; exact hi), gv (by omega) (by omega), ncl (by omega), hc i hi]
    by_cases h0 : 0 < cn i
    · rw [if_pos h0, lt1s]
      unfold X4_filterSet_J28
      rw [lt1s, ninc, flt, if_pos h0]
    · rw [if_neg h0]
      unfold X4_filterSet_J28
      rw [lt1s, ninc, flt, if_neg h0]
  · rintro s x ⟨rfl, rfl⟩
    refine ⟨_, rfl, fun k => ?_⟩
    unfold X4_filterSet_B4
    rw [if_neg (by rw [show (16 : Int32) = nI 16 from rfl, nlt (by omega) (by omega)]; omega)]
theorem x4_hasRoom (h : PxAt I a rm P) (h9 : Shf rm (pN P) (pS P)) : f_X4_hasRoom I a = some (bZ (decide (pN P < rm))) := by
  obtain ⟨hr, -, hn, -⟩ := h
  obtain ⟨g1, g2, -⟩ := h9
  unfold f_X4_hasRoom
  by_cases h1 : pN P < rm
  · rw [hr, hn, if_pos (by rw [nlt (by omega) (by omega)]; exact h1), i_9, if_pos (by rw [nlt (by omega) (by omega)]; omega), bZ, decide_eq_true h1]; rfl
  · rw [hr, hn, if_neg (by rw [nlt (by omega) (by omega)]; exact h1), bZ, decide_eq_false h1]; rfl
theorem x4_pageAt (h : PxAt I a rm P) (h9 : Shf rm (pN P) (pS P)) {k : Nat} (hk : k < pN P) : f_X4_pageAt I a (nI k) = some (nI (pS P k)) := by
  obtain ⟨-, -, hn, -, -, hs, -⟩ := h
  obtain ⟨g1, g2, -⟩ := h9
  unfold f_X4_pageAt
  rw [hn, if_neg (nI_pos (by omega)), if_pos (by rw [nlt (by omega) (by omega)]; exact hk), if_pos (by rw [show (9 : Int32) = nI 9 from rfl, nlt (by omega) (by omega)]; omega), gv (by omega) (by omega), ncl (by omega), hs k hk]
end X4
/-! the shelves' changes -/
def aAdd (p : Nat) (sh : Nat → Nat) : Nat → Nat := fun k => if k = 0 then p else sh (k - 1)
def aDel (i : Nat) (sh : Nat → Nat) : Nat → Nat := fun k => if k < i then sh k else sh (k + 1)
def aFr (i : Nat) (sh : Nat → Nat) : Nat → Nat := fun k => if k = 0 then sh i else if k ≤ i then sh (k - 1) else sh k
theorem aFr_eq (i : Nat) (sh : Nat → Nat) : aAdd (sh i) (aDel i sh) = aFr i sh := by
  funext k
  unfold aAdd aDel aFr
  by_cases h : k = 0
  · rw [if_pos h, if_pos h]
  · rw [if_neg h, if_neg h]
    by_cases h2 : k ≤ i
    · rw [if_pos (by omega), if_pos h2]
    · rw [if_neg (by omega), if_neg h2, show k - 1 + 1 = k by omega]
def rowS (I : HI) (q : Nat) (f : Nat → Int32) : HI := fun z => if z = q then f else I z
theorem rowS_at (I : HI) (q : Nat) (f : Nat → Int32) : rowS I q f q = f := if_pos rfl
theorem rowS_ne {I : HI} {q z : Nat} {f : Nat → Int32} (h : z ≠ q) : rowS I q f z = I z := if_neg h
theorem rowS_s (I : HI) (q k : Nat) (f : Nat → Int32) (v : Int32) : sI (rowS I q f) q k v = rowS I q (uR f k v) := by
  funext z
  by_cases h : z = q
  · subst h; rw [sI_eq, rowS_at, rowS_at]
  · rw [sI_ne h, rowS_ne h, rowS_ne h]
theorem rowS_id (I : HI) (q : Nat) : rowS I q (I q) = I := by
  funext z
  by_cases h : z = q
  · subst h; exact rowS_at _ _ _
  · exact rowS_ne h
section X4b
variable {I : HI} {a rm : Nat} {P : Prx}
theorem x4_addNewest (h : PxAt I a rm P) (hlt : pN P < 9) {p : Nat} : ∃ I', (PxAt I' a rm (pN P + 1, aAdd p (pS P), P.2.2) ∧ Off I I' a 3) ∧ f_X4_addNewest I a (nI p) = some I' := by
  obtain ⟨n, sh, cn, sm, ch, li⟩ := P
  obtain ⟨h0, h1, hn, h3, h4, hs, hc⟩ := h
  dsimp only [pN, pS, pC, pM, pH, pL] at *
  unfold f_X4_addNewest
  rw [hn, if_neg (nI_pos (by omega)), if_pos (by rw [show (9 : Int32) = nI 9 from rfl, nlt (by omega) (by omega)]; omega), lt1s]
  refine wl2_inv (F := X4_addNewest_B24 a (nI p)) (Inv := fun i (I1 : HI) (x : Int32) => I1 = rowS I (a + 1) (fun k => if n - i < k ∧ k ≤ n then I (a + 1) (k - 1) else I (a + 1) k) ∧ x = nI (n - i)) (m := n) ?_ ?_ n 0 5000 I (nI n) (by omega) (by omega) ⟨?_, rfl⟩
  · rintro i I1 x hi ⟨rfl, rfl⟩
    refine Or.inl ⟨rowS I (a + 1) (fun k => if n - (i + 1) < k ∧ k ≤ n then I (a + 1) (k - 1) else I (a + 1) k), nI (n - (i + 1)), ⟨rfl, rfl⟩, fun k => ?_⟩
    · unfold X4_addNewest_B24
      rw [if_pos (by rw [n0pos (by omega)]; omega), show (1 : Int32) = nI 1 from rfl, nsub (by omega), gv (by omega) (by omega), gv (by omega) (by omega), lt1s, lt1s, ncl (by omega), ncl (by omega), rowS_at, rowS_s]
      rw [ndec (by omega), show n - i - 1 = n - (i + 1) by omega]
      congr 2
      funext k
      unfold uR
      dsimp only
      by_cases hk : k = n - i
      · subst hk
        rw [if_pos rfl, if_neg (by omega), if_pos (by omega)]
        exact congrArg (I (a + 1)) (by omega)
      · rw [if_neg hk]
        by_cases hk2 : n - i < k ∧ k ≤ n
        · rw [if_pos hk2, if_pos (by omega)]
        · rw [if_neg hk2, if_neg (by omega)]
  · rintro I1 x ⟨rfl, rfl⟩
    refine ⟨sI (sI (rowS I (a + 1) (fun k => if n - n < k ∧ k ≤ n then I (a + 1) (k - 1) else I (a + 1) k)) (a + 1) 0 (nI p)) a 2 (nI (n + 1)), ?_, fun k => ?_⟩
    · refine ⟨⟨?_, ?_, ?_, ?_, ?_, fun k hk => ?_, fun c hc2 => ?_⟩, fun q hq => ?_⟩
      · rw [sI_at, if_neg (by omega), rowS_s, rowS_ne (by omega)]; exact h0
      · rw [sI_at, if_neg (by omega), rowS_s, rowS_ne (by omega)]; exact h1
      · rw [sI_at, if_pos ⟨rfl, rfl⟩]
      · rw [sI_at, if_neg (by omega), rowS_s, rowS_ne (by omega)]; exact h3
      · rw [sI_at, if_neg (by omega), rowS_s, rowS_ne (by omega)]; exact h4
      · rw [sI_at, if_neg (by omega), rowS_s, rowS_at]
        unfold uR aAdd
        dsimp only [pN, pS] at hk ⊢
        by_cases hk0 : k = 0
        · rw [if_pos hk0, if_pos hk0]
        · rw [if_neg hk0, if_neg hk0, if_pos (by omega)]
          exact hs _ (by omega)
      · rw [sI_at, if_neg (by omega), rowS_s, rowS_ne (by omega)]; exact hc c hc2
      · rw [sI_ne (by omega), rowS_s, rowS_ne (by omega)]
    · unfold X4_addNewest_B24
      rw [if_neg (by rw [n0pos (by omega)]; omega), show (0 : Int32) = nI 0 from rfl, gv (by omega) (by omega), lt1s, lt1s, ncl (by omega), sI_at, if_neg (by omega), rowS_ne (by omega), hn, ninc]
  · have e : (fun k => if n - 0 < k ∧ k ≤ n then I (a + 1) (k - 1) else I (a + 1) k) = I (a + 1) := by
      funext k; rw [if_neg (by omega)]
    rw [e, rowS_id]
theorem x4_removeAt (h : PxAt I a rm P) (h9 : pN P ≤ 9) {i : Nat} (hi : i < pN P) : ∃ I', (PxAt I' a rm (pN P - 1, aDel i (pS P), P.2.2) ∧ Off I I' a 3) ∧ f_X4_removeAt I a (nI i) = some I' := by
  obtain ⟨n, sh, cn, sm, ch, li⟩ := P
  obtain ⟨h0, h1, hn, h3, h4, hs, hc⟩ := h
  dsimp only [pN, pS, pC, pM, pH, pL] at *
  unfold f_X4_removeAt
  rw [hn, if_neg (nI_pos (by omega)), if_pos (by rw [nlt (by omega) (by omega)]; omega), if_neg (by rw [show (9 : Int32) = nI 9 from rfl, nlt (by omega) (by omega)]; omega), lt1s, ninc]
  refine wl2_inv (F := X4_removeAt_B28 a) (Inv := fun j (I1 : HI) (x : Int32) => I1 = rowS I (a + 1) (fun k => if i ≤ k ∧ k < i + j then I (a + 1) (k + 1) else I (a + 1) k) ∧ x = nI (i + 1 + j)) (m := n - (i + 1)) ?_ ?_ (n - (i + 1)) 0 5000 I (nI (i + 1)) (by omega) (by omega) ⟨?_, rfl⟩
  · rintro j I1 x hj ⟨rfl, rfl⟩
    refine Or.inl ⟨rowS I (a + 1) (fun k => if i ≤ k ∧ k < i + (j + 1) then I (a + 1) (k + 1) else I (a + 1) k), nI (i + 1 + (j + 1)), ⟨rfl, rfl⟩, fun k => ?_⟩
    unfold X4_removeAt_B28
    rw [rowS_ne (by omega), hn, if_pos (by rw [nlt (by omega) (by omega)]; omega), gv (by omega) (by omega), show (1 : Int32) = nI 1 from rfl, nsub (by omega), gv (by omega) (by omega), lt1s, lt1s, ncl (by omega), ncl (by omega), rowS_at, rowS_s, nadd]
    congr 2
    funext k
    unfold uR
    dsimp only
    by_cases hk : k = i + 1 + j - 1
    · subst hk
      rw [if_pos rfl, if_neg (by omega), if_pos (by omega)]
      congr 1
      omega
    · rw [if_neg hk]
      by_cases hk2 : i ≤ k ∧ k < i + j
      · rw [if_pos hk2, if_pos (by omega)]
      · rw [if_neg hk2, if_neg (by omega)]
  · rintro I1 x ⟨rfl, rfl⟩
    refine ⟨sI (rowS I (a + 1) (fun k => if i ≤ k ∧ k < i + (n - (i + 1)) then I (a + 1) (k + 1) else I (a + 1) k)) a 2 (nI (n - 1)), ?_, fun k => ?_⟩
    · refine ⟨⟨?_, ?_, ?_, ?_, ?_, fun k hk => ?_, fun c hc2 => ?_⟩, fun q hq => ?_⟩
      · rw [sI_at, if_neg (by omega), rowS_ne (by omega)]; exact h0
      · rw [sI_at, if_neg (by omega), rowS_ne (by omega)]; exact h1
      · rw [sI_at, if_pos ⟨rfl, rfl⟩]
      · rw [sI_at, if_neg (by omega), rowS_ne (by omega)]; exact h3
      · rw [sI_at, if_neg (by omega), rowS_ne (by omega)]; exact h4
      · rw [sI_at, if_neg (by omega), rowS_at]
        unfold aDel
        dsimp only [pN, pS] at hk ⊢
        by_cases hk0 : k < i
        · rw [if_neg (by omega), if_pos hk0]; exact hs k (by omega)
        · rw [if_pos (by omega), if_neg hk0]; exact hs _ (by omega)
      · rw [sI_at, if_neg (by omega), rowS_ne (by omega)]; exact hc c hc2
      · rw [sI_ne (by omega), rowS_ne (by omega)]
    · unfold X4_removeAt_B28
      rw [rowS_ne (by omega), hn, if_neg (by rw [nlt (by omega) (by omega)]; omega), lt1s, show (1 : Int32) = nI 1 from rfl, nsub (by omega)]
  · have e : (fun k => if i ≤ k ∧ k < i + 0 then I (a + 1) (k + 1) else I (a + 1) k) = I (a + 1) := by
      funext k; rw [if_neg (by omega)]
    rw [e, rowS_id]
theorem x4_renew (h : PxAt I a rm P) (h9 : Shf rm (pN P) (pS P)) {p i : Nat} (hp : p < 32) (hi : pl (pS P) p (pN P) = some i) : ∃ I', (PxAt I' a rm (pN P, aFr i (pS P), P.2.2) ∧ Off I I' a 3) ∧ f_X4_renew I a (nI p) = some I' := by
  obtain ⟨b1, b2, -⟩ := pl_some hi
  have g1 := h9.1
  have g2 := h9.2.1
  unfold f_X4_renew
  rw [x4_placeOf h h9 hp, bd1s, hi]
  obtain ⟨I1, ⟨c1, c2⟩, c3⟩ := x4_removeAt h (by omega) b1
  show ∃ I', _ ∧ bd1 (f_X4_removeAt I a (nI i)) _ = some I'
  rw [c3, bd1s]
  obtain ⟨I2, ⟨d1, d2⟩, d3⟩ := x4_addNewest c1 (p := p) (by show pN P - 1 < 9; omega)
  rw [d3, bd1s]
  refine ⟨I2, ⟨?_, c2.tr d2⟩, rfl⟩
  have e : aAdd p (aDel i (pS P)) = aFr i (pS P) := by rw [← b2]; exact aFr_eq i _
  have e2 : pN P - 1 + 1 = pN P := by omega
  dsimp only [pN, pS] at d1 e e2 ⊢
  rw [e, e2] at d1
  exact d1
end X4b

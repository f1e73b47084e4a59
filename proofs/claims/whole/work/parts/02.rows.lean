/-- the words of the tables that any method may be asked for -/
def gTbl : List Cond := lw_tbl.filter goodWord
theorem gTbl_of {w : Cond} (h : w ∈ lw_tbl) (hg : goodWord w = true) : w ∈ gTbl := List.mem_filter.mpr ⟨h, hg⟩
def nwL : List (String × Nat × MethodName × String) := [(RX7, 9, yX6_init, "ShelfFilters"), (RX1, 11, yX0_init, "ShelfFilters"), (RX1, 40, yX4_init, "ShelfFilters"), (RX7, 43, yX5_init, "ShelfFilters"), (RX7, 50, yX2_init, "ShelfFilters"), (RX6, 101, yX7_isPage, "ShelfFilters"), (RX0, 31, yX7_copyRow, "ShelfFilters"), (RX4, 34, yX7_copyRow, "ShelfFilters"), (RX3, 25, yX7_netAt, "ShelfFilters"), (RX2, 19, yX7_copyRow, "ShelfFilters")]
def NW (U : State) : Prop := ∀ q ∈ nwL, va_Nw (.methodLinkNest q.1 q.2.1 q.2.2.1 q.2.2.2) U
/-! the shadow state: ints of every object and array by address and place, longs by address -/
abbrev HI : Type := Nat → Nat → Int32
abbrev HJ : Type := Nat → Int64
def uR (f : Nat → Int32) (k : Nat) (v : Int32) : Nat → Int32 := fun k' => if k' = k then v else f k'
def sI (I : HI) (a k : Nat) (v : Int32) : HI := fun a' => if a' = a then uR (I a) k v else I a'
def sJ (J : HJ) (a : Nat) (v : Int64) : HJ := fun a' => if a' = a then v else J a'
/-- kinds by address, addresses, class numbers -/
abbrev GX : Type := (Nat → Nat) × List Nat × va_G × ClassId × ClassId × ClassId × ClassId
abbrev gK (G : GX) : Nat → Nat := G.1
abbrev gL (G : GX) : List Nat := G.2.1
abbrev gD (G : GX) : va_G := G.2.2.1
abbrev gcI (G : GX) : ClassId := G.2.2.2.1
abbrev gcZ (G : GX) : ClassId := G.2.2.2.2.1
abbrev gcP (G : GX) : ClassId := G.2.2.2.2.2.1
abbrev gcN (G : GX) : ClassId := G.2.2.2.2.2.2
def gT (G : GX) : List (ClassId × FieldType) := [(gcI G, .int), (gcZ G, .boolean), (gcP G, .object "ShelfFilters$Proxy"), (gcN G, .object "ShelfFilters$Net")]
/-- what an object of a kind holds: its ints out of its row, its references by the layout -/
def fsR (f : Nat → Int32) (j : Int64) (a : Nat) : Nat → List Value
  | 1 => [.int (f 0), .int (f 1), .int (f 2), .int (f 3), .ref (a + 1), .ref (a + 2)]
  | 2 => [.ref (a + 1), .ref (a + 4), .int (f 2), .int (f 3), .int (f 4), .int (f 5), .int (f 6)]
  | 3 => [.int (f 0), .ref (a + 1)]
  | 4 => [.ref (a + 1), .int (f 1), .int (f 2)]
  | 5 => [.int (f 0), .int (f 1), .int (f 2), .int (f 3), .int (f 4), .ref (a + 1), .ref (a + 2)]
  | 6 => [.ref (a + 1), .ref (a + 2), .ref (a + 3), .int (f 3)]
  | 7 => [.int (f 0), .ref (a + 1), .ref (a + 18), .int (f 3), .int (f 4)]
  | 8 => [.ref (a + 1), .ref (a + 20), .ref (a + 37), .ref (a + 54), .ref (a + 294), .ref (a + 295), .ref (a + 296), .ref (a + 300), .ref (a + 302), .long j]
  | 9 => [.int (f 0), .ref (a + 1), .int (f 2), .int (f 3), .int (f 4), .int (f 5), .int (f 6), .ref (a + 2), .ref (a + 3), .int (f 9), .ref (a + 4), .int (f 11), .int (f 12), .int (f 13), .ref (a + 5), .ref (a + 6), .int (f 16), .ref (a + 7), .ref (a + 8), .ref (a + 9), .ref (a + 10), .ref (a + 11), .int (f 22), .ref (a + 12), .ref (a + 13), .int (f 25), .ref (a + 14), .ref (a + 15), .ref (a + 16), .long j, .ref (a + 17), .ref (a + 18), .int (f 32)]
  | _ => []
def eR (G : GX) (f : Nat → Int32) (j : Int64) (a : Nat) : va_E :=
  if gK G a < 10 then .inr (gK G a - 1, fsR f j a (gK G a))
  else if gK G a = 10 then .inl (gcP G, 4, .inr (.inr (.inr (.inr (fun i => some (a + 1 + 3 * i))))))
  else if gK G a = 11 then .inl (gcN G, 14, .inr (.inr (.inr (.inr (fun i => some (a + 1 + 17 * i))))))
  else if gK G a = 12 then .inl (gcN G, 2, .inr (.inr (.inr (.inr (fun i => some (a + 10 + 17 * i))))))
  else if gK G a < 100 then .inl (gcZ G, gK G a - 50, .inl f)
  else .inl (gcI G, gK G a - 100, .inl f)
def eK (G : GX) (I : HI) (J : HJ) (a : Nat) : va_E := eR G (I a) (J a) a
/-- the closure of the kinds -/
def clo (K : Nat → Nat) : Prop := ∀ a, (K a = 1 → K (a + 1) = 103 ∧ K (a + 2) = 103)
  ∧ (K a = 2 → K (a + 1) = 1 ∧ K (a + 4) = 10)
  ∧ (K a = 3 → K (a + 1) = 105)
  ∧ (K a = 4 → K (a + 1) = 11)
  ∧ (K a = 5 → K (a + 1) = 109 ∧ K (a + 2) = 116)
  ∧ (K a = 6 → K (a + 1) = 106 ∧ K (a + 2) = 106 ∧ K (a + 3) = 56)
  ∧ (K a = 7 → K (a + 1) = 2 ∧ K (a + 18) = 200)
  ∧ (K a = 8 → K (a + 1) = 7 ∧ K (a + 20) = 2 ∧ K (a + 37) = 2 ∧ K (a + 54) = 4 ∧ K (a + 294) = 12 ∧ K (a + 295) = 52 ∧ K (a + 296) = 6 ∧ K (a + 300) = 3 ∧ K (a + 302) = 3)
  ∧ (K a = 9 → K (a + 1) = 200 ∧ K (a + 2) = 103 ∧ K (a + 3) = 103 ∧ K (a + 4) = 104 ∧ K (a + 5) = 103 ∧ K (a + 6) = 103 ∧ K (a + 7) = 104 ∧ K (a + 8) = 221 ∧ K (a + 9) = 221 ∧ K (a + 10) = 221 ∧ K (a + 11) = 1794 ∧ K (a + 12) = 342 ∧ K (a + 13) = 52 ∧ K (a + 14) = 106 ∧ K (a + 15) = 106 ∧ K (a + 16) = 106 ∧ K (a + 17) = 105 ∧ K (a + 18) = 105)
  ∧ (K a = 10 → ∀ i, i < 4 → K (a + 1 + 3 * i) = 5)
  ∧ (K a = 11 → ∀ i, i < 14 → K (a + 1 + 17 * i) = 2)
  ∧ (K a = 12 → ∀ i, i < 2 → K (a + 10 + 17 * i) = 2)
def OKG (G : GX) : Prop := (gL G).Nodup ∧ (∀ a, gK G a ≠ 0 → a ∈ gL G) ∧ clo (gK G)
def Wd (G : GX) (I : HI) (J : HJ) (H : Heap) : Prop := va_P (gD G) vwCl (va_pl (gL G) (eK G I J)) H
/-- the place where a method stands -/
abbrev CX : Type := GX × Launch × Program × Env × Room × State × MethodId × Array Value × List Frame × Method × Code × (State → Prop) × (Nat → Prop) × Nat × Nat × Nat
abbrev xG (X : CX) := X.1
abbrev xl (X : CX) := X.2.1
abbrev xp (X : CX) := X.2.2.1
abbrev xe (X : CX) := X.2.2.2.1
abbrev xR (X : CX) := X.2.2.2.2.1
abbrev xs (X : CX) := X.2.2.2.2.2.1
abbrev xm (X : CX) := X.2.2.2.2.2.2.1
abbrev xa (X : CX) := X.2.2.2.2.2.2.2.1
abbrev xb (X : CX) := X.2.2.2.2.2.2.2.2.1
abbrev xM (X : CX) := X.2.2.2.2.2.2.2.2.2.1
abbrev xc (X : CX) := X.2.2.2.2.2.2.2.2.2.2.1
abbrev xQ (X : CX) := X.2.2.2.2.2.2.2.2.2.2.2.1
abbrev xA (X : CX) := X.2.2.2.2.2.2.2.2.2.2.2.2.1
abbrev xk (X : CX) := X.2.2.2.2.2.2.2.2.2.2.2.2.2.1
abbrev xn (X : CX) := X.2.2.2.2.2.2.2.2.2.2.2.2.2.2.1
abbrev xN (X : CX) := X.2.2.2.2.2.2.2.2.2.2.2.2.2.2.2
/-- W at a place -/
abbrev WX (X : CX) (H : Heap) (locs : List Loc) (pc : Nat) (ls : Array Slot) (st : List Value) : Prop := W (xp X) (xl X) (xe X) (xR X) (xs X) (xm X) (xa X) (xb X) (xM X) (xc X) H locs (xk X) (xn X) (xQ X) (F0 (xm X) pc ls st)
/-- the locals by their places -/
def lvA : Nat → List (Option Value) → List (Nat × Value)
  | _, [] => []
  | k, none :: t => lvA (k + 1) t
  | k, some v :: t => (k, v) :: lvA (k + 1) t
theorem lvA_mem : ∀ (l : List (Option Value)) (n k : Nat) (v : Value), (k, v) ∈ lvA n l ↔ n ≤ k ∧ l[k - n]? = some (some v)
  | [], n, k, v => by simp [lvA]
  | none :: t, n, k, v => by
    rw [lvA, lvA_mem t (n + 1) k v]
    constructor
    · rintro ⟨h1, h2⟩
      refine ⟨by omega, ?_⟩
      rw [show k - n = (k - (n + 1)) + 1 by omega]; exact h2
    · rintro ⟨h1, h2⟩
      rcases Nat.lt_or_eq_of_le h1 with h | h
      · refine ⟨by omega, ?_⟩
        rw [show k - n = (k - (n + 1)) + 1 by omega] at h2; exact h2
      · subst h; simp at h2
  | some u :: t, n, k, v => by
    rw [lvA, List.mem_cons, lvA_mem t (n + 1) k v]
    constructor
    · rintro (h | ⟨h1, h2⟩)
      · cases h; exact ⟨Nat.le_refl _, by simp⟩
      · refine ⟨by omega, ?_⟩
        rw [show k - n = (k - (n + 1)) + 1 by omega]; exact h2
    · rintro ⟨h1, h2⟩
      rcases Nat.lt_or_eq_of_le h1 with h | h
      · right
        refine ⟨by omega, ?_⟩
        rw [show k - n = (k - (n + 1)) + 1 by omega] at h2; exact h2
      · left; subst h; simp at h2; subst h2; rfl
def lvH (ls : Array Slot) (nL : Nat) (lv : List (Option Value)) : Prop := lv_has ls nL (lvA 0 lv)
theorem lvH.at {ls nL lv} (h : lvH ls nL lv) {k : Nat} {v : Value} (hk : lv[k]? = some (some v)) : ls[k]? = some (.val v) := h.2.2 (k, v) ((lvA_mem lv 0 k v).mpr ⟨Nat.zero_le _, hk⟩)
/-- the place below holds no long -/
def c1 (lv : List (Option Value)) : Nat → Bool
  | 0 => true
  | j + 1 => match lv[j]? with
    | some (some v) => v.category == 1
    | _ => true
theorem lvH.of_sub {ls nL} {l : List (Nat × Value)} {lv : List (Option Value)} (h : lv_has ls nL l) (hs : ∀ q ∈ lvA 0 lv, q ∈ l) : lvH ls nL lv := ⟨h.1, h.2.1, fun q hq => h.2.2 q (hs q hq)⟩
theorem lvH.set1 {ls nL lv} {k : Nat} {v : Value} (hc : c1 lv k = true) (h : lv_has ls nL ((k, v) :: (lvA 0 lv).filter (fun q => !(q.1 == k) && !(q.1 + 1 == k && q.2.category == 2)))) : lvH ls nL (lv.set k (some v)) := by
  refine lvH.of_sub h fun q hq => ?_
  obtain ⟨j, u⟩ := q
  have h1 := ((lvA_mem _ 0 j u).mp hq).2
  rw [Nat.sub_zero, List.getElem?_set] at h1
  by_cases hj : k = j
  · subst hj
    by_cases hl : k < lv.length
    · simp [hl] at h1; subst h1; exact List.mem_cons_self
    · simp [hl] at h1
  · rw [if_neg hj] at h1
    refine List.mem_cons_of_mem _ (List.mem_filter.mpr ⟨(lvA_mem lv 0 j u).mpr ⟨Nat.zero_le _, h1⟩, ?_⟩)
    have hj' : ¬ j = k := fun e => hj e.symm
    by_cases hk : j + 1 = k
    · subst hk
      simp [c1, h1] at hc
      simp [hc]
    · simp [hj', hk]
theorem lvH.set2 {ls nL lv} {k : Nat} {v : Value} (hc : c1 lv k = true) (h : lv_has ls nL ((k, v) :: (lvA 0 lv).filter (fun q => !(q.1 == k) && (!(q.1 == k + 1) && !(q.1 + 1 == k && q.2.category == 2))))) : lvH ls nL ((lv.set k (some v)).set (k + 1) none) := by
  refine lvH.of_sub h fun q hq => ?_
  obtain ⟨j, u⟩ := q
  have h1 := ((lvA_mem _ 0 j u).mp hq).2
  rw [Nat.sub_zero, List.getElem?_set] at h1
  by_cases hj2 : k + 1 = j
  · subst hj2
    rw [if_pos rfl] at h1
    split at h1 <;> simp at h1
  · rw [if_neg hj2, List.getElem?_set] at h1
    by_cases hj : k = j
    · subst hj
      by_cases hl : k < lv.length
      · simp [hl] at h1; subst h1; exact List.mem_cons_self
      · simp [hl] at h1
    · rw [if_neg hj] at h1
      refine List.mem_cons_of_mem _ (List.mem_filter.mpr ⟨(lvA_mem lv 0 j u).mpr ⟨Nat.zero_le _, h1⟩, ?_⟩)
      have hj' : ¬ j = k := fun e => hj e.symm
      have hj2' : ¬ j = k + 1 := fun e => hj2 e.symm
      by_cases hk : j + 1 = k
      · subst hk
        simp [c1, h1] at hc
        simp [hc]
        omega
      · simp [hj', hj2', hk]
/-- fewer locals -/
def lmask : List Bool → List (Option Value) → List (Option Value)
  | true :: m, v :: t => v :: lmask m t
  | false :: m, _ :: t => none :: lmask m t
  | _, _ => []
theorem lmask_get : ∀ (m : List Bool) (l : List (Option Value)) (k : Nat) (v : Value), (lmask m l)[k]? = some (some v) → l[k]? = some (some v)
  | [], l, k, v, h => by simp [lmask] at h
  | true :: m, [], k, v, h => by simp [lmask] at h
  | false :: m, [], k, v, h => by simp [lmask] at h
  | true :: m, x :: t, 0, v, h => by simpa [lmask] using h
  | true :: m, x :: t, k + 1, v, h => by simp only [lmask, List.getElem?_cons_succ] at h ⊢; exact lmask_get m t k v h
  | false :: m, x :: t, 0, v, h => by simp [lmask] at h
  | false :: m, x :: t, k + 1, v, h => by simp only [lmask, List.getElem?_cons_succ] at h ⊢; exact lmask_get m t k v h
theorem lvH.mask {ls nL lv} (m : List Bool) (h : lvH ls nL lv) : lvH ls nL (lmask m lv) := lvH.of_sub h fun q hq => by
  obtain ⟨j, u⟩ := q
  have h1 := ((lvA_mem _ 0 j u).mp hq).2
  exact (lvA_mem lv 0 j u).mpr ⟨Nat.zero_le _, lmask_get m lv _ u h1⟩
/-- the machine at a place, over a shadow state -/
def V (X : CX) (I : HI) (J : HJ) (pc : Nat) (lv : List (Option Value)) (st : List Value) : Prop := ∀ (H : Heap) (locs : List Loc) (ls : Array Slot), Wd (xG X) I J H → va_S (xA X) (xs X).heap H locs → lvH ls (xN X) lv → WX X H locs pc ls st
/-- what stands fast in a method: code cc of class own, d frames and loc locals of room, nL locals -/
def OKX (X : CX) (cc : ByteArray) (own : String) (d loc nL : Nat) : Prop :=
  (xp X).tables.exec = Jvm.exec ∧ (xc X).code = cc ∧ (xc X).maxLocals = nL ∧ (xs X).vm.findClass own = some (xm X).cls ∧ (∀ w ∈ gTbl, w.before (xa X) (xs X) = true) ∧ va_K (gD (xG X)) vwCl (gT (xG X)) (xs X) ∧ OKG (xG X) ∧ (∀ q ∈ gL (xG X), xA X q) ∧ xN X = nL ∧ d ≤ (xR X).frames ∧ loc ≤ (xR X).locals ∧ xk X ≤ (xR X).cells ∧ xn X ≤ (xR X).slots ∧ NW (xs X)
section Rows
variable {X : CX} {I : HI} {J : HJ} {pc : Nat} {lv : List (Option Value)} {st : List Value} {cc : ByteArray} {own : String} {d loc nL : Nat}
theorem V.mask (m : List Bool) (h : V X I J pc (lmask m lv) st) : V X I J pc lv st := fun H locs ls a b c => h H locs ls a b (c.mask m)
theorem V.lvc {lv' : List (Option Value)} (e : lv = lv') (h : V X I J pc lv' st) : V X I J pc lv st := e ▸ h
theorem r_iconst (hX : OKX X cc own d loc nL) {n : Int} {v : Int32} (hd : decode cc pc = .ok (.iconst n, 1)) (hv : Int32.ofInt n = v) (k : V X I J (pc + 1) lv (.int v :: st)) : V X I J pc lv (st) := by
  obtain ⟨hx, hb, -⟩ := hX
  intro H locs ls hW hS hl
  exact lv_iconst hx hb hd hv (k H locs ls hW hS hl)
theorem r_bipush (hX : OKX X cc own d loc nL) {n : Int} {v : Int32} (hd : decode cc pc = .ok (.bipush n, 2)) (hv : (Int8.ofInt n).toInt32 = v) (k : V X I J (pc + 2) lv (.int v :: st)) : V X I J pc lv (st) := by
  obtain ⟨hx, hb, -⟩ := hX
  intro H locs ls hW hS hl
  exact lv_bipush hx hb hd hv (k H locs ls hW hS hl)
theorem r_sipush (hX : OKX X cc own d loc nL) {n : Int} {v : Int32} (hd : decode cc pc = .ok (.sipush n, 3)) (hv : (Int16.ofInt n).toInt32 = v) (k : V X I J (pc + 3) lv (.int v :: st)) : V X I J pc lv (st) := by
  obtain ⟨hx, hb, -⟩ := hX
  intro H locs ls hW hS hl
  exact lv_sipush hx hb hd hv (k H locs ls hW hS hl)
theorem r_lconst (hX : OKX X cc own d loc nL) {n : Fin 2} {v : Int64} (hd : decode cc pc = .ok (.lconst n, 1)) (hv : Int64.ofNat (n : Nat) = v) (k : V X I J (pc + 1) lv (.long v :: st)) : V X I J pc lv (st) := by
  obtain ⟨hx, hb, -⟩ := hX
  intro H locs ls hW hS hl
  exact lv_lconst hx hb hd hv (k H locs ls hW hS hl)
theorem r_fconst0 (hX : OKX X cc own d loc nL)  (hd : decode cc pc = .ok (.fconst 0, 1))  (k : V X I J (pc + 1) lv (.float FP.fconst0 :: st)) : V X I J pc lv (st) := by
  obtain ⟨hx, hb, -⟩ := hX
  intro H locs ls hW hS hl
  exact lv_fconst0 hx hb hd  (k H locs ls hW hS hl)
theorem r_fconst1 (hX : OKX X cc own d loc nL)  (hd : decode cc pc = .ok (.fconst 1, 1))  (k : V X I J (pc + 1) lv (.float FP.fconst1 :: st)) : V X I J pc lv (st) := by
  obtain ⟨hx, hb, -⟩ := hX
  intro H locs ls hW hS hl
  exact lv_fconst1 hx hb hd  (k H locs ls hW hS hl)
theorem r_fconst2 (hX : OKX X cc own d loc nL)  (hd : decode cc pc = .ok (.fconst 2, 1))  (k : V X I J (pc + 1) lv (.float FP.fconst2 :: st)) : V X I J pc lv (st) := by
  obtain ⟨hx, hb, -⟩ := hX
  intro H locs ls hW hS hl
  exact lv_fconst2 hx hb hd  (k H locs ls hW hS hl)
theorem r_null (hX : OKX X cc own d loc nL)  (hd : decode cc pc = .ok (.aconst_null, 1))  (k : V X I J (pc + 1) lv (.null :: st)) : V X I J pc lv (st) := by
  obtain ⟨hx, hb, -⟩ := hX
  intro H locs ls hW hS hl
  exact lv_null hx hb hd  (k H locs ls hW hS hl)
theorem r_ldc (hX : OKX X cc own d loc nL) {idx : Nat} {v : Int32} (hd : decode cc pc = .ok (.ldc idx, 2)) (hc : Cond.constant own idx v ∈ gTbl) (k : V X I J (pc + 2) lv (.int v :: st)) : V X I J pc lv st := by
  obtain ⟨hx, hb, -, ho, hts, -⟩ := hX
  intro H locs ls hW hS hl
  exact lv_ldc hx hb ho (hts _ hc) hd (k H locs ls hW hS hl)
theorem r_ldcw (hX : OKX X cc own d loc nL) {idx : Nat} {v : Int32} (hd : decode cc pc = .ok (.ldc_w idx, 3)) (hc : Cond.constant own idx v ∈ gTbl) (k : V X I J (pc + 3) lv (.int v :: st)) : V X I J pc lv st := by
  obtain ⟨hx, hb, -, ho, hts, -⟩ := hX
  intro H locs ls hW hS hl
  exact lv_ldcw hx hb ho (hts _ hc) hd (k H locs ls hW hS hl)
theorem r_ldcf (hX : OKX X cc own d loc nL) {idx : Nat} {v : UInt32} (hd : decode cc pc = .ok (.ldc idx, 2)) (hc : Cond.constantFloat own idx v ∈ gTbl) (k : V X I J (pc + 2) lv (.float v :: st)) : V X I J pc lv st := by
  obtain ⟨hx, hb, -, ho, hts, -⟩ := hX
  intro H locs ls hW hS hl
  exact lv_ldcf hx hb ho (hts _ hc) hd (k H locs ls hW hS hl)
theorem r_ldc2 (hX : OKX X cc own d loc nL) {idx : Nat} {v : Int64} (hd : decode cc pc = .ok (.ldc2_w idx, 3)) (hc : Cond.constantLong own idx v ∈ gTbl) (k : V X I J (pc + 3) lv (.long v :: st)) : V X I J pc lv st := by
  obtain ⟨hx, hb, -, ho, hts, -⟩ := hX
  intro H locs ls hW hS hl
  exact lv_ldc2 hx hb ho (hts _ hc) hd (k H locs ls hW hS hl)
theorem r_iload_n (hX : OKX X cc own d loc nL) {k : Fin 4} {x : Int32} (hd : decode cc pc = .ok (.iload_n k, 1)) (h : lv[(k : Nat)]? = some (some (.int x))) (kk : V X I J (pc + 1) lv (.int x :: st)) : V X I J pc lv st := by
  obtain ⟨hx, hb, -⟩ := hX
  intro H locs ls hW hS hl
  exact lv_iload_n hx hb hd rfl (hl.at h) (kk H locs ls hW hS hl)
theorem r_iload (hX : OKX X cc own d loc nL) {i : Nat} {x : Int32} (hd : decode cc pc = .ok (.iload i, 2)) (h : lv[i]? = some (some (.int x))) (kk : V X I J (pc + 2) lv (.int x :: st)) : V X I J pc lv st := by
  obtain ⟨hx, hb, -⟩ := hX
  intro H locs ls hW hS hl
  exact lv_iload hx hb hd (hl.at h) (kk H locs ls hW hS hl)
theorem r_lload_n (hX : OKX X cc own d loc nL) {k : Fin 4} {x : Int64} (hd : decode cc pc = .ok (.lload_n k, 1)) (h : lv[(k : Nat)]? = some (some (.long x))) (kk : V X I J (pc + 1) lv (.long x :: st)) : V X I J pc lv st := by
  obtain ⟨hx, hb, -⟩ := hX
  intro H locs ls hW hS hl
  exact lv_lload_n hx hb hd rfl (hl.at h) (kk H locs ls hW hS hl)
theorem r_lload (hX : OKX X cc own d loc nL) {i : Nat} {x : Int64} (hd : decode cc pc = .ok (.lload i, 2)) (h : lv[i]? = some (some (.long x))) (kk : V X I J (pc + 2) lv (.long x :: st)) : V X I J pc lv st := by
  obtain ⟨hx, hb, -⟩ := hX
  intro H locs ls hW hS hl
  exact lv_lload hx hb hd (hl.at h) (kk H locs ls hW hS hl)
theorem r_fload_n (hX : OKX X cc own d loc nL) {k : Fin 4} {x : UInt32} (hd : decode cc pc = .ok (.fload_n k, 1)) (h : lv[(k : Nat)]? = some (some (.float x))) (kk : V X I J (pc + 1) lv (.float x :: st)) : V X I J pc lv st := by
  obtain ⟨hx, hb, -⟩ := hX
  intro H locs ls hW hS hl
  exact lv_fload_n hx hb hd rfl (hl.at h) (kk H locs ls hW hS hl)
theorem r_fload (hX : OKX X cc own d loc nL) {i : Nat} {x : UInt32} (hd : decode cc pc = .ok (.fload i, 2)) (h : lv[i]? = some (some (.float x))) (kk : V X I J (pc + 2) lv (.float x :: st)) : V X I J pc lv st := by
  obtain ⟨hx, hb, -⟩ := hX
  intro H locs ls hW hS hl
  exact lv_fload hx hb hd (hl.at h) (kk H locs ls hW hS hl)
theorem r_aload_n (hX : OKX X cc own d loc nL) {k : Fin 4} {x : Nat} (hd : decode cc pc = .ok (.aload_n k, 1)) (h : lv[(k : Nat)]? = some (some (.ref x))) (kk : V X I J (pc + 1) lv (.ref x :: st)) : V X I J pc lv st := by
  obtain ⟨hx, hb, -⟩ := hX
  intro H locs ls hW hS hl
  exact lv_aload_n hx hb hd rfl (hl.at h) (kk H locs ls hW hS hl)
theorem r_aload (hX : OKX X cc own d loc nL) {i : Nat} {x : Nat} (hd : decode cc pc = .ok (.aload i, 2)) (h : lv[i]? = some (some (.ref x))) (kk : V X I J (pc + 2) lv (.ref x :: st)) : V X I J pc lv st := by
  obtain ⟨hx, hb, -⟩ := hX
  intro H locs ls hW hS hl
  exact lv_aload hx hb hd (hl.at h) (kk H locs ls hW hS hl)
theorem r_aload_nN (hX : OKX X cc own d loc nL) {k : Fin 4} (hd : decode cc pc = .ok (.aload_n k, 1)) (h : lv[(k : Nat)]? = some (some .null)) (kk : V X I J (pc + 1) lv (.null :: st)) : V X I J pc lv st := by
  obtain ⟨hx, hb, -⟩ := hX
  intro H locs ls hW hS hl
  exact lv_aload_nN hx hb hd rfl (hl.at h) (kk H locs ls hW hS hl)
theorem r_aloadN (hX : OKX X cc own d loc nL) {i : Nat} (hd : decode cc pc = .ok (.aload i, 2)) (h : lv[i]? = some (some .null)) (kk : V X I J (pc + 2) lv (.null :: st)) : V X I J pc lv st := by
  obtain ⟨hx, hb, -⟩ := hX
  intro H locs ls hW hS hl
  exact lv_aloadN hx hb hd (hl.at h) (kk H locs ls hW hS hl)
theorem r_istore_n (hX : OKX X cc own d loc nL) {k : Fin 4} {x : Int32} (hd : decode cc pc = .ok (.istore_n k, 1)) (hn : Nat.blt k nL = true) (hc : c1 lv k = true) (kk : V X I J (pc + 1) (lv.set k (some (.int x))) st) : V X I J pc lv (.int x :: st) := by
  obtain ⟨hx, hb, -, -, -, -, -, -, hN, -⟩ := hX
  intro H locs ls hW hS hl
  have hl0 : lv_has ls (xN X) (lvA 0 lv) := hl
  exact lv_istore_n hx hb hd rfl hl0 (by rw [hN]; exact Nat.le_of_ble_eq_true hn) rfl (fun ls2 h2 => kk H locs ls2 hW hS (lvH.set1 hc h2))
theorem r_istore (hX : OKX X cc own d loc nL) {k : Nat} {x : Int32} (hd : decode cc pc = .ok (.istore k, 2)) (hn : Nat.blt k nL = true) (hc : c1 lv k = true) (kk : V X I J (pc + 2) (lv.set k (some (.int x))) st) : V X I J pc lv (.int x :: st) := by
  obtain ⟨hx, hb, -, -, -, -, -, -, hN, -⟩ := hX
  intro H locs ls hW hS hl
  have hl0 : lv_has ls (xN X) (lvA 0 lv) := hl
  exact lv_istore hx hb hd hl0 (by rw [hN]; exact Nat.le_of_ble_eq_true hn) rfl (fun ls2 h2 => kk H locs ls2 hW hS (lvH.set1 hc h2))
theorem r_fstore_n (hX : OKX X cc own d loc nL) {k : Fin 4} {x : UInt32} (hd : decode cc pc = .ok (.fstore_n k, 1)) (hn : Nat.blt k nL = true) (hc : c1 lv k = true) (kk : V X I J (pc + 1) (lv.set k (some (.float x))) st) : V X I J pc lv (.float x :: st) := by
  obtain ⟨hx, hb, -, -, -, -, -, -, hN, -⟩ := hX
  intro H locs ls hW hS hl
  have hl0 : lv_has ls (xN X) (lvA 0 lv) := hl
  exact lv_fstore_n hx hb hd rfl hl0 (by rw [hN]; exact Nat.le_of_ble_eq_true hn) rfl (fun ls2 h2 => kk H locs ls2 hW hS (lvH.set1 hc h2))
theorem r_fstore (hX : OKX X cc own d loc nL) {k : Nat} {x : UInt32} (hd : decode cc pc = .ok (.fstore k, 2)) (hn : Nat.blt k nL = true) (hc : c1 lv k = true) (kk : V X I J (pc + 2) (lv.set k (some (.float x))) st) : V X I J pc lv (.float x :: st) := by
  obtain ⟨hx, hb, -, -, -, -, -, -, hN, -⟩ := hX
  intro H locs ls hW hS hl
  have hl0 : lv_has ls (xN X) (lvA 0 lv) := hl
  exact lv_fstore hx hb hd hl0 (by rw [hN]; exact Nat.le_of_ble_eq_true hn) rfl (fun ls2 h2 => kk H locs ls2 hW hS (lvH.set1 hc h2))
theorem r_astore_n (hX : OKX X cc own d loc nL) {k : Fin 4} {x : Nat} (hd : decode cc pc = .ok (.astore_n k, 1)) (hn : Nat.blt k nL = true) (hc : c1 lv k = true) (kk : V X I J (pc + 1) (lv.set k (some (.ref x))) st) : V X I J pc lv (.ref x :: st) := by
  obtain ⟨hx, hb, -, -, -, -, -, -, hN, -⟩ := hX
  intro H locs ls hW hS hl
  have hl0 : lv_has ls (xN X) (lvA 0 lv) := hl
  exact lv_astore_n hx hb hd rfl hl0 (by rw [hN]; exact Nat.le_of_ble_eq_true hn) rfl (fun ls2 h2 => kk H locs ls2 hW hS (lvH.set1 hc h2))
theorem r_astore (hX : OKX X cc own d loc nL) {k : Nat} {x : Nat} (hd : decode cc pc = .ok (.astore k, 2)) (hn : Nat.blt k nL = true) (hc : c1 lv k = true) (kk : V X I J (pc + 2) (lv.set k (some (.ref x))) st) : V X I J pc lv (.ref x :: st) := by
  obtain ⟨hx, hb, -, -, -, -, -, -, hN, -⟩ := hX
  intro H locs ls hW hS hl
  have hl0 : lv_has ls (xN X) (lvA 0 lv) := hl
  exact lv_astore hx hb hd hl0 (by rw [hN]; exact Nat.le_of_ble_eq_true hn) rfl (fun ls2 h2 => kk H locs ls2 hW hS (lvH.set1 hc h2))
theorem r_astore_nN (hX : OKX X cc own d loc nL) {k : Fin 4} (hd : decode cc pc = .ok (.astore_n k, 1)) (hn : Nat.blt k nL = true) (hc : c1 lv k = true) (kk : V X I J (pc + 1) (lv.set k (some .null)) st) : V X I J pc lv (.null :: st) := by
  obtain ⟨hx, hb, -, -, -, -, -, -, hN, -⟩ := hX
  intro H locs ls hW hS hl
  have hl0 : lv_has ls (xN X) (lvA 0 lv) := hl
  exact lv_astore_nN hx hb hd rfl hl0 (by rw [hN]; exact Nat.le_of_ble_eq_true hn) rfl (fun ls2 h2 => kk H locs ls2 hW hS (lvH.set1 hc h2))
theorem r_astoreN (hX : OKX X cc own d loc nL) {k : Nat} (hd : decode cc pc = .ok (.astore k, 2)) (hn : Nat.blt k nL = true) (hc : c1 lv k = true) (kk : V X I J (pc + 2) (lv.set k (some .null)) st) : V X I J pc lv (.null :: st) := by
  obtain ⟨hx, hb, -, -, -, -, -, -, hN, -⟩ := hX
  intro H locs ls hW hS hl
  have hl0 : lv_has ls (xN X) (lvA 0 lv) := hl
  exact lv_astoreN hx hb hd hl0 (by rw [hN]; exact Nat.le_of_ble_eq_true hn) rfl (fun ls2 h2 => kk H locs ls2 hW hS (lvH.set1 hc h2))
theorem r_lstore_n (hX : OKX X cc own d loc nL) {k : Fin 4} {x : Int64} (hd : decode cc pc = .ok (.lstore_n k, 1)) (hn : Nat.blt (k + 1) nL = true) (hc : c1 lv k = true) (kk : V X I J (pc + 1) ((lv.set k (some (.long x))).set (k + 1) none) st) : V X I J pc lv (.long x :: st) := by
  obtain ⟨hx, hb, -, -, -, -, -, -, hN, -⟩ := hX
  intro H locs ls hW hS hl
  have hl0 : lv_has ls (xN X) (lvA 0 lv) := hl
  exact lv_lstore_n hx hb hd rfl hl0 (by rw [hN]; exact Nat.le_of_ble_eq_true hn) rfl (fun ls2 h2 => kk H locs ls2 hW hS (lvH.set2 hc h2))
theorem r_lstore (hX : OKX X cc own d loc nL) {k : Nat} {x : Int64} (hd : decode cc pc = .ok (.lstore k, 2)) (hn : Nat.blt (k + 1) nL = true) (hc : c1 lv k = true) (kk : V X I J (pc + 2) ((lv.set k (some (.long x))).set (k + 1) none) st) : V X I J pc lv (.long x :: st) := by
  obtain ⟨hx, hb, -, -, -, -, -, -, hN, -⟩ := hX
  intro H locs ls hW hS hl
  have hl0 : lv_has ls (xN X) (lvA 0 lv) := hl
  exact lv_lstore hx hb hd hl0 (by rw [hN]; exact Nat.le_of_ble_eq_true hn) rfl (fun ls2 h2 => kk H locs ls2 hW hS (lvH.set2 hc h2))
theorem r_iinc (hX : OKX X cc own d loc nL) {i : Nat} {n : Int} {n' x : Int32} (hd : decode cc pc = .ok (.iinc i n, 3)) (hv : Int32.ofInt n = n') (h : lv[i]? = some (some (.int x))) (hn : Nat.blt i nL = true) (hc : c1 lv i = true) (kk : V X I J (pc + 3) (lv.set i (some (.int (x + n')))) st) : V X I J pc lv st := by
  obtain ⟨hx, hb, -, -, -, -, -, -, hN, -⟩ := hX
  intro H locs ls hW hS hl
  have hl0 : lv_has ls (xN X) (lvA 0 lv) := hl
  obtain ⟨j, hj⟩ := List.getElem?_of_mem ((lvA_mem lv 0 i (.int x)).mpr ⟨Nat.zero_le _, h⟩)
  exact lv_iinc hx hb hd hl0 hj (by rw [hv]) (by rw [hN]; exact Nat.le_of_ble_eq_true hn) rfl (fun ls2 h2 => kk H locs ls2 hW hS (lvH.set1 hc h2))
theorem r_iadd (hX : OKX X cc own d loc nL) {x y : Int32} (hd : decode cc pc = .ok (.iadd, 1))  (k : V X I J (pc + 1) lv (.int (x + y) :: st)) : V X I J pc lv (.int y :: .int x :: st) := by
  obtain ⟨hx, hb, -⟩ := hX
  intro H locs ls hW hS hl
  exact lv_iadd hx hb hd  (k H locs ls hW hS hl)
theorem r_isub (hX : OKX X cc own d loc nL) {x y : Int32} (hd : decode cc pc = .ok (.isub, 1))  (k : V X I J (pc + 1) lv (.int (x - y) :: st)) : V X I J pc lv (.int y :: .int x :: st) := by
  obtain ⟨hx, hb, -⟩ := hX
  intro H locs ls hW hS hl
  exact lv_isub hx hb hd  (k H locs ls hW hS hl)
theorem r_imul (hX : OKX X cc own d loc nL) {x y : Int32} (hd : decode cc pc = .ok (.imul, 1))  (k : V X I J (pc + 1) lv (.int (x * y) :: st)) : V X I J pc lv (.int y :: .int x :: st) := by
  obtain ⟨hx, hb, -⟩ := hX
  intro H locs ls hW hS hl
  exact lv_imul hx hb hd  (k H locs ls hW hS hl)
theorem r_iand (hX : OKX X cc own d loc nL) {x y : Int32} (hd : decode cc pc = .ok (.iand, 1))  (k : V X I J (pc + 1) lv (.int (x &&& y) :: st)) : V X I J pc lv (.int y :: .int x :: st) := by
  obtain ⟨hx, hb, -⟩ := hX
  intro H locs ls hW hS hl
  exact lv_iand hx hb hd  (k H locs ls hW hS hl)
theorem r_ior (hX : OKX X cc own d loc nL) {x y : Int32} (hd : decode cc pc = .ok (.ior, 1))  (k : V X I J (pc + 1) lv (.int (x ||| y) :: st)) : V X I J pc lv (.int y :: .int x :: st) := by
  obtain ⟨hx, hb, -⟩ := hX
  intro H locs ls hW hS hl
  exact lv_ior hx hb hd  (k H locs ls hW hS hl)
theorem r_ixor (hX : OKX X cc own d loc nL) {x y : Int32} (hd : decode cc pc = .ok (.ixor, 1))  (k : V X I J (pc + 1) lv (.int (x ^^^ y) :: st)) : V X I J pc lv (.int y :: .int x :: st) := by
  obtain ⟨hx, hb, -⟩ := hX
  intro H locs ls hW hS hl
  exact lv_ixor hx hb hd  (k H locs ls hW hS hl)
theorem r_ishl (hX : OKX X cc own d loc nL) {x y : Int32} (hd : decode cc pc = .ok (.ishl, 1))  (k : V X I J (pc + 1) lv (.int (x <<< (y &&& 31)) :: st)) : V X I J pc lv (.int y :: .int x :: st) := by
  obtain ⟨hx, hb, -⟩ := hX
  intro H locs ls hW hS hl
  exact lv_ishl hx hb hd  (k H locs ls hW hS hl)
theorem r_ishr (hX : OKX X cc own d loc nL) {x y : Int32} (hd : decode cc pc = .ok (.ishr, 1))  (k : V X I J (pc + 1) lv (.int (x >>> (y &&& 31)) :: st)) : V X I J pc lv (.int y :: .int x :: st) := by
  obtain ⟨hx, hb, -⟩ := hX
  intro H locs ls hW hS hl
  exact lv_ishr hx hb hd  (k H locs ls hW hS hl)
theorem r_iushr (hX : OKX X cc own d loc nL) {x y : Int32} (hd : decode cc pc = .ok (.iushr, 1))  (k : V X I J (pc + 1) lv (.int ((x.toUInt32 >>> (y.toUInt32 &&& Int32.toUInt32 31)).toInt32) :: st)) : V X I J pc lv (.int y :: .int x :: st) := by
  obtain ⟨hx, hb, -⟩ := hX
  intro H locs ls hW hS hl
  exact lv_iushr hx hb hd rfl (k H locs ls hW hS hl)
theorem r_ineg (hX : OKX X cc own d loc nL) {x : Int32} (hd : decode cc pc = .ok (.ineg, 1))  (k : V X I J (pc + 1) lv (.int (-x) :: st)) : V X I J pc lv (.int x :: st) := by
  obtain ⟨hx, hb, -⟩ := hX
  intro H locs ls hW hS hl
  exact lv_ineg hx hb hd  (k H locs ls hW hS hl)
/-- the remainder -/
def jrem (x y : Int32) : Int32 := x - x / y * y
def jreml (x y : Int64) : Int64 := x - x / y * y
theorem r_idiv (hX : OKX X cc own d loc nL) {x y : Int32} (hd : decode cc pc = .ok (.idiv, 1)) (h0 : ¬ y = 0) (k : V X I J (pc + 1) lv (.int (x / y) :: st)) : V X I J pc lv (.int y :: .int x :: st) := by
  obtain ⟨hx, hb, -⟩ := hX
  intro H locs ls hW hS hl
  exact lv_idiv hx hb hd h0 (k H locs ls hW hS hl)
theorem r_irem (hX : OKX X cc own d loc nL) {x y : Int32} (hd : decode cc pc = .ok (.irem, 1)) (h0 : ¬ y = 0) (k : V X I J (pc + 1) lv (.int (jrem x y) :: st)) : V X I J pc lv (.int y :: .int x :: st) := by
  obtain ⟨hx, hb, -⟩ := hX
  intro H locs ls hW hS hl
  exact lv_irem hx hb hd h0 (k H locs ls hW hS hl)
theorem r_ladd (hX : OKX X cc own d loc nL) {x y : Int64} (hd : decode cc pc = .ok (.ladd, 1))  (k : V X I J (pc + 1) lv (.long (x + y) :: st)) : V X I J pc lv (.long y :: .long x :: st) := by
  obtain ⟨hx, hb, -⟩ := hX
  intro H locs ls hW hS hl
  exact lv_ladd hx hb hd  (k H locs ls hW hS hl)
theorem r_lsub (hX : OKX X cc own d loc nL) {x y : Int64} (hd : decode cc pc = .ok (.lsub, 1))  (k : V X I J (pc + 1) lv (.long (x - y) :: st)) : V X I J pc lv (.long y :: .long x :: st) := by
  obtain ⟨hx, hb, -⟩ := hX
  intro H locs ls hW hS hl
  exact lv_lsub hx hb hd  (k H locs ls hW hS hl)
theorem r_lmul (hX : OKX X cc own d loc nL) {x y : Int64} (hd : decode cc pc = .ok (.lmul, 1))  (k : V X I J (pc + 1) lv (.long (x * y) :: st)) : V X I J pc lv (.long y :: .long x :: st) := by
  obtain ⟨hx, hb, -⟩ := hX
  intro H locs ls hW hS hl
  exact lv_lmul hx hb hd  (k H locs ls hW hS hl)
theorem r_land (hX : OKX X cc own d loc nL) {x y : Int64} (hd : decode cc pc = .ok (.land, 1))  (k : V X I J (pc + 1) lv (.long (x &&& y) :: st)) : V X I J pc lv (.long y :: .long x :: st) := by
  obtain ⟨hx, hb, -⟩ := hX
  intro H locs ls hW hS hl
  exact lv_land hx hb hd  (k H locs ls hW hS hl)
theorem r_lor (hX : OKX X cc own d loc nL) {x y : Int64} (hd : decode cc pc = .ok (.lor, 1))  (k : V X I J (pc + 1) lv (.long (x ||| y) :: st)) : V X I J pc lv (.long y :: .long x :: st) := by
  obtain ⟨hx, hb, -⟩ := hX
  intro H locs ls hW hS hl
  exact lv_lor hx hb hd  (k H locs ls hW hS hl)
theorem r_ldiv (hX : OKX X cc own d loc nL) {x y : Int64} (hd : decode cc pc = .ok (.ldiv, 1)) (h0 : ¬ y = 0) (k : V X I J (pc + 1) lv (.long (x / y) :: st)) : V X I J pc lv (.long y :: .long x :: st) := by
  obtain ⟨hx, hb, -⟩ := hX
  intro H locs ls hW hS hl
  exact lv_ldiv hx hb hd h0 (k H locs ls hW hS hl)
theorem r_lrem (hX : OKX X cc own d loc nL) {x y : Int64} (hd : decode cc pc = .ok (.lrem, 1)) (h0 : ¬ y = 0) (k : V X I J (pc + 1) lv (.long (jreml x y) :: st)) : V X I J pc lv (.long y :: .long x :: st) := by
  obtain ⟨hx, hb, -⟩ := hX
  intro H locs ls hW hS hl
  exact lv_lrem hx hb hd h0 (k H locs ls hW hS hl)
theorem r_lshl (hX : OKX X cc own d loc nL) {x : Int64} {y : Int32} (hd : decode cc pc = .ok (.lshl, 1))  (k : V X I J (pc + 1) lv (.long (x <<< (y.toInt64 &&& 63)) :: st)) : V X I J pc lv (.int y :: .long x :: st) := by
  obtain ⟨hx, hb, -⟩ := hX
  intro H locs ls hW hS hl
  exact lv_lshl hx hb hd rfl (k H locs ls hW hS hl)
theorem r_lushr (hX : OKX X cc own d loc nL) {x : Int64} {y : Int32} (hd : decode cc pc = .ok (.lushr, 1))  (k : V X I J (pc + 1) lv (.long ((x.toUInt64 >>> (y.toInt64.toUInt64 &&& Int64.toUInt64 63)).toInt64) :: st)) : V X I J pc lv (.int y :: .long x :: st) := by
  obtain ⟨hx, hb, -⟩ := hX
  intro H locs ls hW hS hl
  exact lv_lushr hx hb hd rfl (k H locs ls hW hS hl)
theorem r_i2l (hX : OKX X cc own d loc nL) {x : Int32} (hd : decode cc pc = .ok (.i2l, 1))  (k : V X I J (pc + 1) lv (.long x.toInt64 :: st)) : V X I J pc lv (.int x :: st) := by
  obtain ⟨hx, hb, -⟩ := hX
  intro H locs ls hW hS hl
  exact lv_i2l hx hb hd rfl (k H locs ls hW hS hl)
theorem r_l2i (hX : OKX X cc own d loc nL) {x : Int64} (hd : decode cc pc = .ok (.l2i, 1))  (k : V X I J (pc + 1) lv (.int x.toInt32 :: st)) : V X I J pc lv (.long x :: st) := by
  obtain ⟨hx, hb, -⟩ := hX
  intro H locs ls hW hS hl
  exact lv_l2i hx hb hd rfl (k H locs ls hW hS hl)
theorem r_i2f (hX : OKX X cc own d loc nL) {x : Int32} (hd : decode cc pc = .ok (.i2f, 1))  (k : V X I J (pc + 1) lv (.float (FP.i2f x) :: st)) : V X I J pc lv (.int x :: st) := by
  obtain ⟨hx, hb, -⟩ := hX
  intro H locs ls hW hS hl
  exact lv_i2f hx hb hd  (k H locs ls hW hS hl)
theorem r_f2i (hX : OKX X cc own d loc nL) {x : UInt32} (hd : decode cc pc = .ok (.f2i, 1))  (k : V X I J (pc + 1) lv (.int (FP.f2i x) :: st)) : V X I J pc lv (.float x :: st) := by
  obtain ⟨hx, hb, -⟩ := hX
  intro H locs ls hW hS hl
  exact lv_f2i hx hb hd  (k H locs ls hW hS hl)
theorem r_fsub (hX : OKX X cc own d loc nL) {x y : UInt32} (hd : decode cc pc = .ok (.fsub, 1)) (h0 : vf_n32 (FP.fsub x y)) (k : V X I J (pc + 1) lv (.float (FP.fsub x y) :: st)) : V X I J pc lv (.float y :: .float x :: st) := by
  obtain ⟨hx, hb, -⟩ := hX
  intro H locs ls hW hS hl
  exact lv_fsub hx hb hd h0 (k H locs ls hW hS hl)
theorem r_fmul (hX : OKX X cc own d loc nL) {x y : UInt32} (hd : decode cc pc = .ok (.fmul, 1)) (h0 : vf_n32 (FP.fmul x y)) (k : V X I J (pc + 1) lv (.float (FP.fmul x y) :: st)) : V X I J pc lv (.float y :: .float x :: st) := by
  obtain ⟨hx, hb, -⟩ := hX
  intro H locs ls hW hS hl
  exact lv_fmul hx hb hd h0 (k H locs ls hW hS hl)
theorem r_fdiv (hX : OKX X cc own d loc nL) {x y : UInt32} (hd : decode cc pc = .ok (.fdiv, 1)) (h0 : vf_n32 (FP.fdiv x y)) (k : V X I J (pc + 1) lv (.float (FP.fdiv x y) :: st)) : V X I J pc lv (.float y :: .float x :: st) := by
  obtain ⟨hx, hb, -⟩ := hX
  intro H locs ls hW hS hl
  exact lv_fdiv hx hb hd h0 (k H locs ls hW hS hl)
theorem r_fcmp (hX : OKX X cc own d loc nL) {x y : UInt32} {op : CmpOp} (hd : decode cc pc = .ok (.fcmp op, 1))  (k : V X I J (pc + 1) lv (.int (Op.cmpValue (FP.fcmp x y) op) :: st)) : V X I J pc lv (.float y :: .float x :: st) := by
  obtain ⟨hx, hb, -⟩ := hX
  intro H locs ls hW hS hl
  exact lv_fcmp hx hb hd  (k H locs ls hW hS hl)
theorem r_lcmp (hX : OKX X cc own d loc nL) {x y : Int64} (hd : decode cc pc = .ok (.lcmp, 1)) (k : V X I J (pc + 1) lv (.int (lg_cmp x y) :: st)) : V X I J pc lv (.long y :: .long x :: st) := by
  obtain ⟨hx, hb, -⟩ := hX
  intro H locs ls hW hS hl
  exact W.lcmp hx hb hd (k H locs ls hW hS hl)
theorem r_dup (hX : OKX X cc own d loc nL) {va : Value} (hd : decode cc pc = .ok (.dup, 1)) (hva : va.category = 1) (k : V X I J (pc + 1) lv (va :: va :: st)) : V X I J pc lv (va :: st) := by
  obtain ⟨hx, hb, -⟩ := hX
  intro H locs ls hW hS hl
  exact lv_dup hx hb hd hva (k H locs ls hW hS hl)
theorem r_dup2 (hX : OKX X cc own d loc nL) {va vb : Value} (hd : decode cc pc = .ok (.dup2, 1)) (hva : va.category = 1) (hvb : vb.category = 1) (k : V X I J (pc + 1) lv (va :: vb :: va :: vb :: st)) : V X I J pc lv (va :: vb :: st) := by
  obtain ⟨hx, hb, -⟩ := hX
  intro H locs ls hW hS hl
  exact lv_dup2_11 hx hb hd hva hvb (k H locs ls hW hS hl)
theorem r_pop (hX : OKX X cc own d loc nL) {va : Value} (hd : decode cc pc = .ok (.pop, 1)) (hva : va.category = 1) (k : V X I J (pc + 1) lv (st)) : V X I J pc lv (va :: st) := by
  obtain ⟨hx, hb, -⟩ := hX
  intro H locs ls hW hS hl
  exact lv_pop hx hb hd hva (k H locs ls hW hS hl)
theorem r_goto (hX : OKX X cc own d loc nL) {off : Int} {tgt : Nat} (hd : decode cc pc = .ok (.goto off, 3)) (ht : (pc : Int) + off = (tgt : Int)) (k : V X I J tgt lv st) : V X I J pc lv st := by
  obtain ⟨hx, hb, -⟩ := hX
  intro H locs ls hW hS hl
  exact lv_goto hx hb hd ht (k H locs ls hW hS hl)
theorem i_nle {x y : Int32} (h : ¬ y ≤ x) : x < y := by rw [Int32.lt_iff_toInt_lt]; rw [Int32.le_iff_toInt_le] at h; omega
theorem i_nlt {x y : Int32} (h : y ≤ x) : ¬ x < y := by rw [Int32.lt_iff_toInt_lt]; rw [Int32.le_iff_toInt_le] at h; omega
theorem r_icmp_eq (hX : OKX X cc own d loc nL) {x y : Int32} {off : Int} {tgt : Nat} (hd : decode cc pc = .ok (.if_icmp .eq off, 3)) (ht : (pc : Int) + off = (tgt : Int)) (k1 : x = y → V X I J (tgt) lv st) (k2 : ¬ (x = y) → V X I J (pc + 3) lv st) : V X I J pc lv (.int y :: .int x :: st) := by
  obtain ⟨hx, hb, -⟩ := hX
  intro H locs ls hW hS hl
  exact lv_icmp_eq hx hb hd ht (fun c => k1 c H locs ls hW hS hl) (fun c => k2 c H locs ls hW hS hl)
theorem r_icmp_ne (hX : OKX X cc own d loc nL) {x y : Int32} {off : Int} {tgt : Nat} (hd : decode cc pc = .ok (.if_icmp .ne off, 3)) (ht : (pc : Int) + off = (tgt : Int)) (k1 : x = y → V X I J (pc + 3) lv st) (k2 : ¬ (x = y) → V X I J (tgt) lv st) : V X I J pc lv (.int y :: .int x :: st) := by
  obtain ⟨hx, hb, -⟩ := hX
  intro H locs ls hW hS hl
  exact lv_icmp_ne hx hb hd ht (fun c => k2 c H locs ls hW hS hl) (fun c => k1 c H locs ls hW hS hl)
theorem r_icmp_lt (hX : OKX X cc own d loc nL) {x y : Int32} {off : Int} {tgt : Nat} (hd : decode cc pc = .ok (.if_icmp .lt off, 3)) (ht : (pc : Int) + off = (tgt : Int)) (k1 : x < y → V X I J (tgt) lv st) (k2 : ¬ (x < y) → V X I J (pc + 3) lv st) : V X I J pc lv (.int y :: .int x :: st) := by
  obtain ⟨hx, hb, -⟩ := hX
  intro H locs ls hW hS hl
  exact lv_icmp_lt hx hb hd ht (fun c => k1 c H locs ls hW hS hl) (fun c => k2 c H locs ls hW hS hl)
theorem r_icmp_ge (hX : OKX X cc own d loc nL) {x y : Int32} {off : Int} {tgt : Nat} (hd : decode cc pc = .ok (.if_icmp .ge off, 3)) (ht : (pc : Int) + off = (tgt : Int)) (k1 : x < y → V X I J (pc + 3) lv st) (k2 : ¬ (x < y) → V X I J (tgt) lv st) : V X I J pc lv (.int y :: .int x :: st) := by
  obtain ⟨hx, hb, -⟩ := hX
  intro H locs ls hW hS hl
  exact lv_icmp_ge hx hb hd ht (fun c => k2 (i_nlt c) H locs ls hW hS hl) (fun c => k1 (i_nle c) H locs ls hW hS hl)
theorem r_icmp_gt (hX : OKX X cc own d loc nL) {x y : Int32} {off : Int} {tgt : Nat} (hd : decode cc pc = .ok (.if_icmp .gt off, 3)) (ht : (pc : Int) + off = (tgt : Int)) (k1 : y < x → V X I J (tgt) lv st) (k2 : ¬ (y < x) → V X I J (pc + 3) lv st) : V X I J pc lv (.int y :: .int x :: st) := by
  obtain ⟨hx, hb, -⟩ := hX
  intro H locs ls hW hS hl
  exact lv_icmp_gt hx hb hd ht (fun c => k1 c H locs ls hW hS hl) (fun c => k2 c H locs ls hW hS hl)
theorem r_icmp_le (hX : OKX X cc own d loc nL) {x y : Int32} {off : Int} {tgt : Nat} (hd : decode cc pc = .ok (.if_icmp .le off, 3)) (ht : (pc : Int) + off = (tgt : Int)) (k1 : y < x → V X I J (pc + 3) lv st) (k2 : ¬ (y < x) → V X I J (tgt) lv st) : V X I J pc lv (.int y :: .int x :: st) := by
  obtain ⟨hx, hb, -⟩ := hX
  intro H locs ls hW hS hl
  exact lv_icmp_le hx hb hd ht (fun c => k2 (i_nlt c) H locs ls hW hS hl) (fun c => k1 (i_nle c) H locs ls hW hS hl)
theorem r_if_eq (hX : OKX X cc own d loc nL) {x : Int32} {off : Int} {tgt : Nat} (hd : decode cc pc = .ok (.ifCond .eq off, 3)) (ht : (pc : Int) + off = (tgt : Int)) (k1 : x = 0 → V X I J (tgt) lv st) (k2 : ¬ (x = 0) → V X I J (pc + 3) lv st) : V X I J pc lv (.int x :: st) := by
  obtain ⟨hx, hb, -⟩ := hX
  intro H locs ls hW hS hl
  exact lv_if_eq hx hb hd ht (fun c => k1 c H locs ls hW hS hl) (fun c => k2 c H locs ls hW hS hl)
theorem r_if_ne (hX : OKX X cc own d loc nL) {x : Int32} {off : Int} {tgt : Nat} (hd : decode cc pc = .ok (.ifCond .ne off, 3)) (ht : (pc : Int) + off = (tgt : Int)) (k1 : x = 0 → V X I J (pc + 3) lv st) (k2 : ¬ (x = 0) → V X I J (tgt) lv st) : V X I J pc lv (.int x :: st) := by
  obtain ⟨hx, hb, -⟩ := hX
  intro H locs ls hW hS hl
  exact lv_if_ne hx hb hd ht (fun c => k2 c H locs ls hW hS hl) (fun c => k1 c H locs ls hW hS hl)
theorem r_if_lt (hX : OKX X cc own d loc nL) {x : Int32} {off : Int} {tgt : Nat} (hd : decode cc pc = .ok (.ifCond .lt off, 3)) (ht : (pc : Int) + off = (tgt : Int)) (k1 : x < 0 → V X I J (tgt) lv st) (k2 : ¬ (x < 0) → V X I J (pc + 3) lv st) : V X I J pc lv (.int x :: st) := by
  obtain ⟨hx, hb, -⟩ := hX
  intro H locs ls hW hS hl
  exact lv_if_lt hx hb hd ht (fun c => k1 c H locs ls hW hS hl) (fun c => k2 c H locs ls hW hS hl)
theorem r_if_ge (hX : OKX X cc own d loc nL) {x : Int32} {off : Int} {tgt : Nat} (hd : decode cc pc = .ok (.ifCond .ge off, 3)) (ht : (pc : Int) + off = (tgt : Int)) (k1 : x < 0 → V X I J (pc + 3) lv st) (k2 : ¬ (x < 0) → V X I J (tgt) lv st) : V X I J pc lv (.int x :: st) := by
  obtain ⟨hx, hb, -⟩ := hX
  intro H locs ls hW hS hl
  exact lv_if_ge hx hb hd ht (fun c => k2 (i_nlt c) H locs ls hW hS hl) (fun c => k1 (i_nle c) H locs ls hW hS hl)
theorem r_if_gt (hX : OKX X cc own d loc nL) {x : Int32} {off : Int} {tgt : Nat} (hd : decode cc pc = .ok (.ifCond .gt off, 3)) (ht : (pc : Int) + off = (tgt : Int)) (k1 : 0 < x → V X I J (tgt) lv st) (k2 : ¬ (0 < x) → V X I J (pc + 3) lv st) : V X I J pc lv (.int x :: st) := by
  obtain ⟨hx, hb, -⟩ := hX
  intro H locs ls hW hS hl
  exact lv_if_gt hx hb hd ht (fun c => k1 c H locs ls hW hS hl) (fun c => k2 c H locs ls hW hS hl)
theorem r_if_le (hX : OKX X cc own d loc nL) {x : Int32} {off : Int} {tgt : Nat} (hd : decode cc pc = .ok (.ifCond .le off, 3)) (ht : (pc : Int) + off = (tgt : Int)) (k1 : 0 < x → V X I J (pc + 3) lv st) (k2 : ¬ (0 < x) → V X I J (tgt) lv st) : V X I J pc lv (.int x :: st) := by
  obtain ⟨hx, hb, -⟩ := hX
  intro H locs ls hW hS hl
  exact lv_if_le hx hb hd ht (fun c => k2 (i_nlt c) H locs ls hW hS hl) (fun c => k1 (i_nle c) H locs ls hW hS hl)
theorem r_ifnull_r (hX : OKX X cc own d loc nL) {x : Nat} {off : Int} (hd : decode cc pc = .ok (.ifnull off, 3)) (k : V X I J (pc + 3) lv st) : V X I J pc lv (.ref x :: st) := by
  obtain ⟨hx, hb, -⟩ := hX
  intro H locs ls hW hS hl
  exact lv_ifnull hx hb hd (k H locs ls hW hS hl)
theorem r_ifnull_n (hX : OKX X cc own d loc nL) {off : Int} {tgt : Nat} (hd : decode cc pc = .ok (.ifnull off, 3)) (ht : (pc : Int) + off = (tgt : Int)) (k : V X I J tgt lv st) : V X I J pc lv (.null :: st) := by
  obtain ⟨hx, hb, -⟩ := hX
  intro H locs ls hW hS hl
  exact lv_ifnullN hx hb hd ht (k H locs ls hW hS hl)
theorem r_ifnonnull_r (hX : OKX X cc own d loc nL) {x : Nat} {off : Int} {tgt : Nat} (hd : decode cc pc = .ok (.ifnonnull off, 3)) (ht : (pc : Int) + off = (tgt : Int)) (k : V X I J tgt lv st) : V X I J pc lv (.ref x :: st) := by
  obtain ⟨hx, hb, -⟩ := hX
  intro H locs ls hW hS hl
  exact lv_ifnonnull hx hb hd ht (k H locs ls hW hS hl)
theorem r_ifnonnull_n (hX : OKX X cc own d loc nL) {off : Int} (hd : decode cc pc = .ok (.ifnonnull off, 3)) (k : V X I J (pc + 3) lv st) : V X I J pc lv (.null :: st) := by
  obtain ⟨hx, hb, -⟩ := hX
  intro H locs ls hW hS hl
  exact lv_ifnonnullN hx hb hd (k H locs ls hW hS hl)
theorem r_tsw (hX : OKX X cc own d loc nL) {dflt lo hi : Int} {offs : Array Int} {len : Nat} {x : Int32} {off : Int} {tgt : Nat} (v : Int32) (hd : decode cc pc = .ok (.tableswitch dflt lo hi offs, len)) (hc : x = v) (h1 : ¬ v.toInt < lo) (h2 : ¬ hi < v.toInt) (ho : offs[(v.toInt - lo).toNat]? = some off) (ht : (pc : Int) + off = (tgt : Int)) (k : V X I J tgt lv st) : V X I J pc lv (.int x :: st) := by
  subst hc
  obtain ⟨hx, hb, -⟩ := hX
  intro H locs ls hW hS hl
  exact lv_tableIn hx hb hd h1 h2 ho ht (k H locs ls hW hS hl)
theorem r_tswD (hX : OKX X cc own d loc nL) {dflt lo hi : Int} {offs : Array Int} {len : Nat} {x : Int32} {tgt : Nat} (hd : decode cc pc = .ok (.tableswitch dflt lo hi offs, len)) (vs : List Int32) (hvs : vs.map Int32.toInt = (List.range (hi - lo + 1).toNat).map (fun k : Nat => lo + (k : Int))) (hc : ∀ v ∈ vs, ¬ x = v) (ht : (pc : Int) + dflt = (tgt : Int)) (k : V X I J tgt lv st) : V X I J pc lv (.int x :: st) := by
  obtain ⟨hx, hb, -⟩ := hX
  intro H locs ls hW hS hl
  refine lv_tableOut hx hb hd ?_ ht (k H locs ls hW hS hl)
  refine Classical.byContradiction fun hno => ?_
  have hm : x.toInt ∈ vs.map Int32.toInt := by
    rw [hvs]
    refine List.mem_map.mpr ⟨(x.toInt - lo).toNat, List.mem_range.mpr (by omega), by omega⟩
  obtain ⟨v, hv, e⟩ := List.mem_map.mp hm
  exact hc v hv (Int32.toInt_inj.mp e).symm
theorem r_lsw (hX : OKX X cc own d loc nL) {dflt : Int} {ps : Array (Int × Int)} {len : Nat} {x : Int32} {off : Int} {tgt : Nat} (hd : decode cc pc = .ok (.lookupswitch dflt ps, len)) (hp : (ps.toList.zip (ps.toList.drop 1)).all (fun (a, next) => a.1 < next.1) = true) (ho : Op.lookupswitch.offset ps.toList dflt x.toInt = off) (ht : (pc : Int) + off = (tgt : Int)) (k : V X I J tgt lv st) : V X I J pc lv (.int x :: st) := by
  obtain ⟨hx, hb, -⟩ := hX
  intro H locs ls hW hS hl
  exact lv_lookup hx hb hd hp ho ht (k H locs ls hW hS hl)
end Rows

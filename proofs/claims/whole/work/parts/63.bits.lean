/-! bits of sets -/
theorem sh_ct : ∀ c, c < 32 → ((nI c &&& 31).toBitVec.smod 32).toNat = c := by decide +kernel
theorem and1_z (v : Int32) : decide (v &&& 1 = 0) = !v.toBitVec.getLsbD 0 := by
  have h : (v &&& 1).toBitVec = (BitVec.ofBool (v.toBitVec.getLsbD 0)).setWidth 32 := by
    rw [Int32.toBitVec_and]
    exact BitVec.and_one_eq_setWidth_ofBool_getLsbD
  cases hb : v.toBitVec.getLsbD 0 with
  | false => rw [hb] at h; exact decide_eq_true (Int32.toBitVec_inj.mp h)
  | true => rw [hb] at h; exact decide_eq_false (fun e => by rw [e] at h; exact absurd h (by decide))
theorem bit_lsb {s : Int32} {c : Nat} (hc : c < 32) : bit s c = s.toBitVec.getLsbD c := by
  unfold bit
  rw [and1_z, Bool.not_not, Int32.toBitVec_shiftRight]
  show (BitVec.sshiftRight s.toBitVec ((nI c &&& 31).toBitVec.smod 32).toNat).getLsbD 0 = _
  rw [sh_ct c hc, BitVec.getLsbD_sshiftRight]
  simp [hc]
theorem bit_and {a b : Int32} {c : Nat} (hc : c < 32) : bit (a &&& b) c = (bit a c && bit b c) := by
  rw [bit_lsb hc, bit_lsb hc, bit_lsb hc, Int32.toBitVec_and, BitVec.getLsbD_and]
theorem bit_or {a b : Int32} {c : Nat} (hc : c < 32) : bit (a ||| b) c = (bit a c || bit b c) := by
  rw [bit_lsb hc, bit_lsb hc, bit_lsb hc, Int32.toBitVec_or, BitVec.getLsbD_or]
theorem m1_bits : ∀ c, c < 32 → (-1 : Int32).toBitVec.getLsbD c = true := by decide +kernel
theorem bit_not {a : Int32} {c : Nat} (hc : c < 32) : bit (a ^^^ (-1 : Int32)) c = !bit a c := by
  rw [bit_lsb hc, bit_lsb hc, Int32.toBitVec_xor, BitVec.getLsbD_xor, m1_bits c hc, Bool.xor_true]
theorem bit_0 {c : Nat} (hc : c < 32) : bit 0 c = false := by
  rw [bit_lsb hc]; exact BitVec.getLsbD_zero
theorem bit_one0 : ∀ k, k < 32 → ∀ c, c < 32 → bit ((1 : Int32) <<< (nI k &&& 31)) c = decide (c = k) := by decide +kernel
theorem bit_one {k c : Nat} (hk : k < 32) (hc : c < 32) : bit ((1 : Int32) <<< (nI k &&& 31)) c = decide (c = k) := bit_one0 k hk c hc
theorem bit_ext {a b : Int32} (h : ∀ c, c < 32 → bit a c = bit b c) : a = b := by
  refine Int32.toBitVec_inj.mp (BitVec.eq_of_getLsbD_eq fun i hi => ?_)
  rw [← bit_lsb hi, ← bit_lsb hi]; exact h i hi
theorem bit_bZ (s : Int32) (c : Nat) : (s >>> (nI c &&& 31)) &&& 1 = bZ (bit s c) := by
  unfold bit
  rcases and_one (s >>> (nI c &&& 31)) with h | h
  · rw [h, decide_eq_true rfl]; rfl
  · rw [h, decide_eq_false (by decide)]; rfl
theorem cnt_congr {f g : Nat → Bool} : ∀ {n : Nat}, (∀ c, c < n → f c = g c) → cntB f n = cntB g n
  | 0, _ => rfl
  | n + 1, h => by rw [cntB, cntB, cnt_congr (n := n) (fun c hc => h c (by omega)), h n (by omega)]
theorem cnt_le (f : Nat → Bool) : ∀ n, cntB f n ≤ n
  | 0 => Nat.le_refl _
  | n + 1 => by
    have := cnt_le f n
    rw [cntB]
    cases f n
    · rw [if_neg (by decide)]; omega
    · rw [if_pos rfl]; omega
/-- how many bits of a set are 1 -/
def pop (s : Int32) : Nat := cntB (bit s) 32
theorem pop_le (s : Int32) : pop s ≤ 32 := cnt_le _ _
theorem j6_pop (s : Int32) : f_J6_bitCount_0f7a4 s = some (nI (pop s)) := by
  have hs : s = nI s.toBitVec.toNat := by
    refine Int32.toBitVec_inj.mp ?_
    show s.toBitVec = BitVec.ofNat 32 s.toBitVec.toNat
    rw [BitVec.ofNat_toNat, BitVec.setWidth_eq]
  have hn : s.toBitVec.toNat < 2 ^ 32 := s.toBitVec.isLt
  have e := j6_bitCount hn
  rw [← hs] at e
  rw [e, pcF_eq hn]
  unfold pop
  rw [cnt_congr (f := bit s) (g := fun i => s.toBitVec.toNat.testBit i)]
  intro c hc
  rw [bit_lsb hc]; rfl
theorem nI_bZ (n : Nat) (b : Bool) : nI n + bZ b = nI (n + (if b = true then 1 else 0)) := by
  cases b
  · rw [if_neg (by decide)]; exact Int32.add_zero _
  · rw [if_pos rfl]; exact ninc n
theorem r8_ones (s : Int32) : f_X8_ones s = some (nI (pop s)) := by
  unfold f_X8_ones
  have key := wl2_inv (F := X8_ones_B4 s) (Post := fun v => v = nI (pop s)) (Inv := fun i (y z : Int32) => y = nI (cntB (bit s) i) ∧ z = nI i) (m := 32) ?_ ?_ 32 0 5000 0 (nI 0) (by omega) (by omega) ⟨rfl, rfl⟩
  · obtain ⟨r, e, h⟩ := key
    rw [← e]; exact h
  · rintro i y z hi ⟨rfl, rfl⟩
    refine Or.inl ⟨_, nI (i + 1), ⟨rfl, rfl⟩, fun k => ?_⟩
    unfold X8_ones_B4
    rw [if_pos (show nI i < (32 : Int32) by rw [i_32, nlt (by omega) (by omega)]; exact hi), bit_bZ, lt1s, nI_bZ, lt1s, ninc]
    rfl
  · rintro y z ⟨rfl, rfl⟩
    refine ⟨_, rfl, fun k => ?_⟩
    unfold X8_ones_B4
    rw [if_neg (show ¬ nI 32 < (32 : Int32) by decide)]
    rfl
theorem dlt1 {k n : Nat} (h : ¬ k = n) : decide (k < n + 1) = decide (k < n) := decide_eq_decide.mpr (by omega)
theorem bsI_bit {c : Nat → Bool} {k : Nat} (hk : k < 32) : ∀ {n : Nat}, n ≤ 32 → bit (bsI c n) k = (decide (k < n) && c k)
  | 0, _ => by rw [bsI, bit_0 hk]; simp
  | n + 1, hn => by
    have ih := bsI_bit (c := c) hk (n := n) (by omega)
    rw [bsI]
    by_cases hc : c n = true
    · rw [if_pos hc, bit_or hk, ih, bit_one (by omega) hk]
      by_cases h : k = n
      · subst h; rw [hc]; simp
      · rw [decide_eq_false h, dlt1 h]; simp
    · rw [if_neg hc, ih]
      by_cases h : k = n
      · subst h; rw [eq_false_of_ne_true hc]; simp
      · rw [dlt1 h]
theorem sset_bit {sh : Nat → Nat} {k : Nat} (hk : k < 32) : ∀ {n : Nat}, (∀ j, j < n → sh j < 32) → bit (sset sh n) k = (pl sh k n).isSome
  | 0, _ => by rw [sset, bit_0 hk]; rfl
  | n + 1, hn => by
    have ih := sset_bit (sh := sh) hk (n := n) (fun j hj => hn j (by omega))
    rw [sset, bit_or hk, ih, bit_one (hn n (by omega)) hk, pl]
    cases pl sh k n with
    | some j => rfl
    | none =>
      dsimp only
      by_cases h : sh n = k
      · rw [if_pos h, decide_eq_true h.symm]; rfl
      · rw [if_neg h, decide_eq_false (fun e => h e.symm)]; rfl
theorem flt_bit {cn : Nat → Int32} {k : Nat} (hk : k < 32) : ∀ {n : Nat}, n ≤ 32 → bit (flt cn n) k = (decide (k < n) && decide (0 < cn k))
  | 0, _ => by rw [flt, bit_0 hk]; simp
  | n + 1, hn => by
    have ih := flt_bit (cn := cn) hk (n := n) (by omega)
    rw [flt]
    by_cases hc : 0 < cn n
    · rw [if_pos hc, bit_or hk, ih, bit_one (by omega) hk]
      by_cases h : k = n
      · subst h; rw [decide_eq_true hc]; simp
      · rw [decide_eq_false h, dlt1 h]; simp
    · rw [if_neg hc, ih]
      by_cases h : k = n
      · subst h; rw [decide_eq_false hc]; simp
      · rw [dlt1 h]
/-- some of the first n -/
def anyB (c : Nat → Bool) : Nat → Bool
  | 0 => false
  | n + 1 => anyB c n || c n
theorem orN_bit {c : Nat → Nat} {k : Nat} (hk : k < 32) : ∀ {n : Nat}, (∀ j, j < n → c j < 32) → bit (orN c n) k = anyB (fun j => decide (k = c j)) n
  | 0, _ => by rw [orN, bit_0 hk]; rfl
  | n + 1, hn => by
    rw [orN, bit_or hk, orN_bit hk (n := n) (fun j hj => hn j (by omega)), bit_one (hn n (by omega)) hk, anyB]
/-- on the shelf -/
def onS (P : Prx) (p : Nat) : Bool := (pl (pS P) p (pN P)).isSome
theorem r8_shelfOf {I : HI} {w x rm : Nat} {r : Nat → Int32} {P : Prx} (h : RxAt r x P) (hs : Shf rm (pN P) (pS P)) (hx : x < 4) : f_X8_shelfOf (rowS I w r) w (nI x) = some (sset (pS P) (pN P)) := by
  obtain ⟨s1, s2, s3, s4⟩ := hs
  unfold f_X8_shelfOf
  have key := wl2_inv (F := X8_shelfOf_B4 (rowS I w r) w (nI x)) (Post := fun v => v = sset (pS P) (pN P)) (Inv := fun i (y z : Int32) => y = sset (pS P) i ∧ z = nI i) (m := pN P) ?_ ?_ (pN P) 0 5000 0 (nI 0) (by omega) (by omega) ⟨rfl, rfl⟩
  · obtain ⟨r, e, h⟩ := key
    rw [← e]; exact h
  · rintro i y z hi ⟨rfl, rfl⟩
    refine Or.inl ⟨_, nI (i + 1), ⟨rfl, rfl⟩, fun k => ?_⟩
    unfold X8_shelfOf_B4
    rw [i_29, i_9, nmul, nadd, gv (by omega) (by omega), ncl (by omega), rowS_at, h.2.1, if_pos (by rw [nlt (by omega) (by omega)]; exact hi), nadd, gv (by omega) (by omega), ncl (by omega), h.1 i hi, lt1s, lt1s, ninc]
    rfl
  · rintro y z ⟨rfl, rfl⟩
    refine ⟨_, rfl, fun k => ?_⟩
    unfold X8_shelfOf_B4
    rw [i_29, i_9, nmul, nadd, gv (by omega) (by omega), ncl (by omega), rowS_at, h.2.1, if_neg (by rw [nlt (by omega) (by omega)]; omega)]
theorem r8_falseOnes {I : HI} {m : Nat} {C : Cf} (hC : WfC C) (hh : CfAt I m C) {f : Nat} (hf : f < cF C) (s sh : Int32) : f_X8_falseOnes I m s (nI f) sh = some (nI (cntB (fun p => !bit sh p && con s (cel C f p) (cK C)) 32)) := by
  unfold f_X8_falseOnes
  have key := wl2_inv (F := X8_falseOnes_B6 I m s (nI f) sh) (Post := fun v => v = nI (cntB (fun p => !bit sh p && con s (cel C f p) (cK C)) 32)) (Inv := fun i (y z : Int32) => y = nI (cntB (fun p => !bit sh p && con s (cel C f p) (cK C)) i) ∧ z = nI i) (m := 32) ?_ ?_ 32 0 5000 0 (nI 0) (by omega) (by omega) ⟨rfl, rfl⟩
  · obtain ⟨r, e, h⟩ := key
    rw [← e]; exact h
  · rintro i y z hi ⟨rfl, rfl⟩
    refine Or.inl ⟨_, nI (i + 1), ⟨rfl, rfl⟩, fun k => ?_⟩
    unfold X8_falseOnes_B6 X8_falseOnes_J39 X8_falseOnes_J40
    rw [if_pos (show nI i < (32 : Int32) by rw [i_32, nlt (by omega) (by omega)]; exact hi), r8_has, bd1s, cntB]
    cases hb : bit sh i with
    | true => rw [if_neg bZt, lt1s, lt1s, ninc, Int32.add_zero]; rfl
    | false =>
      rw [if_pos bZf, r8_isSaid hC hh hf hi, bd1s]
      cases con s (cel C f i) (cK C) with
      | false => rw [if_pos bZf, lt1s, lt1s, ninc, Int32.add_zero]; rfl
      | true => rw [if_neg bZt, lt1s, lt1s, ninc, ninc]; rfl
  · rintro y z ⟨rfl, rfl⟩
    refine ⟨_, rfl, fun k => ?_⟩
    unfold X8_falseOnes_B6
    rw [if_neg (show ¬ nI 32 < (32 : Int32) by decide)]

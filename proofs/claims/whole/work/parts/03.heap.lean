/-! heap rows over the shadow state -/
def CPk (ci : Nat) (C : String) (T : u_T) (N : Nat) (ty : Nat → FieldType) : Prop := vwCl[ci]? = some (C, T, N) ∧ (∀ w ∈ u_ws C T N, w ∈ gTbl) ∧ (∀ k, k < N → parseFieldDescriptor (T k).2.2.1 = some (ty k)) ∧ (∀ a, a < N → ∀ b, b < N → a ≠ b → (T a).2.1 ≠ (T b).2.1)
theorem eK_cls {G : GX} {I : HI} {J : HJ} {a kd ci : Nat} (hk : gK G a = kd) (h1 : kd = ci + 1) (h2 : Nat.blt kd 10 = true) : eK G I J a = .inr (ci, fsR (I a) (J a) a kd) := by
  subst h1
  have h3 : gK G a < 10 := by rw [hk]; exact Nat.le_of_ble_eq_true h2
  unfold eK eR
  rw [if_pos h3, hk]
  rfl
theorem eK_int {G : GX} {I : HI} {J : HJ} {a kd n : Nat} (hk : gK G a = kd) (h1 : kd = 100 + n) : eK G I J a = .inl (gcI G, n, .inl (I a)) := by
  subst h1
  unfold eK eR
  rw [if_neg (by rw [hk]; omega), if_neg (by rw [hk]; omega), if_neg (by rw [hk]; omega), if_neg (by rw [hk]; omega), if_neg (by rw [hk]; omega), hk, Nat.add_sub_cancel_left]
theorem eK_bool {G : GX} {I : HI} {J : HJ} {a kd n : Nat} (hk : gK G a = kd) (h1 : kd = 50 + n) (h2 : Nat.blt n 50 = true) : eK G I J a = .inl (gcZ G, n, .inl (I a)) := by
  subst h1
  have h3 : n < 50 := Nat.le_of_ble_eq_true h2
  unfold eK eR
  rw [if_neg (by rw [hk]; omega), if_neg (by rw [hk]; omega), if_neg (by rw [hk]; omega), if_neg (by rw [hk]; omega), if_pos (by rw [hk]; omega), hk, Nat.add_sub_cancel_left]
theorem eK_10 {G : GX} {I : HI} {J : HJ} {a : Nat} (hk : gK G a = 10) : eK G I J a = .inl (gcP G, 4, .inr (.inr (.inr (.inr (fun i => some (a + 1 + 3 * i)))))) := by
  unfold eK eR
  rw [if_neg (by rw [hk]; omega), if_pos hk]
theorem eK_11 {G : GX} {I : HI} {J : HJ} {a : Nat} (hk : gK G a = 11) : eK G I J a = .inl (gcN G, 14, .inr (.inr (.inr (.inr (fun i => some (a + 1 + 17 * i)))))) := by
  unfold eK eR
  rw [if_neg (by rw [hk]; omega), if_neg (by rw [hk]; omega), if_pos hk]
theorem eK_12 {G : GX} {I : HI} {J : HJ} {a : Nat} (hk : gK G a = 12) : eK G I J a = .inl (gcN G, 2, .inr (.inr (.inr (.inr (fun i => some (a + 10 + 17 * i)))))) := by
  unfold eK eR
  rw [if_neg (by rw [hk]; omega), if_neg (by rw [hk]; omega), if_neg (by rw [hk]; omega), if_pos hk]
theorem up_eK {G : GX} {I : HI} {J : HJ} {a k : Nat} {v : Int32} {e : va_E} (h : e = eR G (uR (I a) k v) (J a) a) (b : Nat) : va_up (eK G I J) a e b = eK G (sI I a k v) J b := by
  unfold va_up eK sI
  by_cases hb : b = a
  · subst hb; simp [h]
  · simp [hb]
theorem up_eJ {G : GX} {I : HI} {J : HJ} {a : Nat} {v : Int64} {e : va_E} (h : e = eR G (I a) v a) (b : Nat) : va_up (eK G I J) a e b = eK G I (sJ J a v) b := by
  unfold va_up eK sJ
  by_cases hb : b = a
  · subst hb; simp [h]
  · simp [hb]
theorem eR_cls {G : GX} {f : Nat → Int32} {j : Int64} {a kd ci : Nat} (hk : gK G a = kd) (h1 : kd = ci + 1) (h2 : Nat.blt kd 10 = true) : eR G f j a = .inr (ci, fsR f j a kd) := eK_cls (G := G) (I := fun _ => f) (J := fun _ => j) hk h1 h2
theorem pl_D {G : GX} (hG : OKG G) {A : Nat → Prop} (hA : ∀ q ∈ gL G, A q) (f : Nat → va_E) : va_D A (va_pl (gL G) f) := by
  refine ⟨fun i j p q hi hj e => ?_, fun k q hk => ?_⟩
  · unfold va_pl at hi hj
    rw [List.getElem?_map] at hi hj
    cases h1 : (gL G)[i]? with
    | none => rw [h1] at hi; cases hi
    | some x =>
      cases h2 : (gL G)[j]? with
      | none => rw [h2] at hj; cases hj
      | some y =>
        rw [h1] at hi; rw [h2] at hj
        cases hi; cases hj
        obtain ⟨l1, e1⟩ := List.getElem?_eq_some_iff.mp h1
        obtain ⟨l2, e2⟩ := List.getElem?_eq_some_iff.mp h2
        have e3 : (gL G)[i] = (gL G)[j] := by rw [e1, e2]; exact e
        have hn := List.pairwise_iff_getElem.mp hG.1
        rcases Nat.lt_trichotomy i j with h | h | h
        · exact absurd e3 (hn i j l1 l2 h)
        · exact h
        · exact absurd e3.symm (hn j i l2 l1 h)
  · unfold va_pl at hk
    rw [List.getElem?_map] at hk
    cases h1 : (gL G)[k]? with
    | none => rw [h1] at hk; cases hk
    | some x => rw [h1] at hk; cases hk; exact hA x (List.mem_of_getElem? h1)
theorem Wd.set {G : GX} {I I' : HI} {J J' : HJ} (hG : OKG G) {a q0 : Nat} {e : va_E} {H1 : Heap} (hm : a ∈ gL G) (hq : (va_pl (gL G) (eK G I J))[q0]? = some (a, eK G I J a)) (hP : va_P (gD G) vwCl ((va_pl (gL G) (eK G I J)).set q0 (a, e)) H1) (he : ∀ b, va_up (eK G I J) a e b = eK G I' J' b) : Wd G I' J' H1 := by
  have h1 := va_pl_set (A := fun _ => True) (X := []) (L := gL G) (f := eK G I J) (a := a) (k := q0) (e := e) (pl_D hG (fun _ _ => trivial) _) hm hq
  have h2 : (va_pl (gL G) (eK G I J)).set q0 (a, e) = va_pl (gL G) (eK G I' J') := h1.trans (va_pl_congr he)
  unfold Wd
  rw [← h2]
  exact hP
theorem Wd.at {G : GX} {I : HI} {J : HJ} {a : Nat} (hm : a ∈ gL G) : ∃ q0 : Nat, (va_pl (gL G) (eK G I J))[q0]? = some (a, eK G I J a) := va_pl_get (X := []) hm
/-- a boolean -/
def zb (x : Int32) : Prop := x = 0 ∨ x = 1
theorem zb_nar {x : Int32} (h : zb x) : vp_nar .boolean x = x := by rcases h with rfl | rfl <;> rfl
theorem zb_0 : zb 0 := Or.inl rfl
theorem zb_1 : zb 1 := Or.inr rfl
section RowsH
variable {X : CX} {I : HI} {J : HJ} {pc : Nat} {lv : List (Option Value)} {st : List Value} {cc : ByteArray} {own : String} {d loc nL : Nat}
theorem r_get (hX : OKX X cc own d loc nL) {ci kd a k idx : Nat} {C : String} {T : u_T} {N : Nat} {ty : Nat → FieldType} {v : Value} (hC : CPk ci C T N ty) (hlink : Cond.fieldLink own idx (T k).1 (T k).2.1 (T k).2.2.1 ∈ gTbl) (hkN : Nat.blt k N = true) (hkd : kd = ci + 1) (h10 : Nat.blt kd 10 = true) (hk : gK (xG X) a = kd) (hv : (fsR (I a) (J a) a kd)[k]? = some v) (hd : decode cc pc = .ok (.getfield idx, 3)) (kk : V X I J (pc + 3) lv (v :: st)) : V X I J pc lv (.ref a :: st) := by
  obtain ⟨hx, hb, -, ho, hts, hK, hG, -⟩ := hX
  intro H locs ls hW hS hl
  have hm : a ∈ gL (xG X) := hG.2.1 a (by rw [hk, hkd]; exact Nat.succ_ne_zero _)
  obtain ⟨q0, hq⟩ := Wd.at (I := I) (J := J) hm
  rw [eK_cls hk hkd h10] at hq
  exact va_get hx hb hts hC.2.1 ho hK hW q0 hq hC.1 k (Nat.le_of_ble_eq_true hkN) (hts _ hlink) (fun _ h => h) hv hd (kk H locs ls hW hS hl)
theorem r_put (hX : OKX X cc own d loc nL) {ci kd a k idx : Nat} {C : String} {T : u_T} {N : Nat} {ty : Nat → FieldType} {x : Int32} (hC : CPk ci C T N ty) (hlink : Cond.fieldLink own idx (T k).1 (T k).2.1 (T k).2.2.1 ∈ gTbl) (hkN : Nat.blt k N = true) (hkd : kd = ci + 1) (h10 : Nat.blt kd 10 = true) (hfin : (T k).2.2.2 = false) (hty : parseFieldDescriptor (T k).2.2.1 = some .int) (hl0 : ∀ f j, k < (fsR f j a kd).length) (hf : ∀ f j, (fsR f j a kd).set k (.int x) = fsR (uR f k x) j a kd) (hk : gK (xG X) a = kd) (hd : decode cc pc = .ok (.putfield idx, 3)) (kk : V X (sI I a k x) J (pc + 3) lv st) : V X I J pc lv (.int x :: .ref a :: st) := by
  obtain ⟨hx, hb, -, ho, hts, hK, hG, hA, -⟩ := hX
  intro H locs ls hW hS hl
  have hm : a ∈ gL (xG X) := hG.2.1 a (by rw [hk, hkd]; exact Nat.succ_ne_zero _)
  obtain ⟨q0, hq⟩ := Wd.at (I := I) (J := J) hm
  have hq2 := hq
  rw [eK_cls hk hkd h10] at hq2
  refine va_put hx hb hts hC.2.1 ty hC.2.2.1 hC.2.2.2 ho hK hW (pl_D hG hA _) hS q0 hq2 hC.1 k (Nat.le_of_ble_eq_true hkN) (hts _ hlink) (fun _ h => h) hfin hty rfl rfl (hl0 _ _) hd (fun H1 locs1 hP1 hD1 hS1 => kk H1 locs1 ls (Wd.set hG hm hq hP1 (up_eK ?_)) hS1 hl)
  rw [eR_cls hk hkd h10, hf]
theorem r_putJ (hX : OKX X cc own d loc nL) {ci kd a k idx : Nat} {C : String} {T : u_T} {N : Nat} {ty : Nat → FieldType} {x : Int64} (hC : CPk ci C T N ty) (hlink : Cond.fieldLink own idx (T k).1 (T k).2.1 (T k).2.2.1 ∈ gTbl) (hkN : Nat.blt k N = true) (hkd : kd = ci + 1) (h10 : Nat.blt kd 10 = true) (hfin : (T k).2.2.2 = false) (hty : parseFieldDescriptor (T k).2.2.1 = some .long) (hl0 : ∀ f j, k < (fsR f j a kd).length) (hf : ∀ f j, (fsR f j a kd).set k (.long x) = fsR f x a kd) (hk : gK (xG X) a = kd) (hd : decode cc pc = .ok (.putfield idx, 3)) (kk : V X I (sJ J a x) (pc + 3) lv st) : V X I J pc lv (.long x :: .ref a :: st) := by
  obtain ⟨hx, hb, -, ho, hts, hK, hG, hA, -⟩ := hX
  intro H locs ls hW hS hl
  have hm : a ∈ gL (xG X) := hG.2.1 a (by rw [hk, hkd]; exact Nat.succ_ne_zero _)
  obtain ⟨q0, hq⟩ := Wd.at (I := I) (J := J) hm
  have hq2 := hq
  rw [eK_cls hk hkd h10] at hq2
  refine va_put hx hb hts hC.2.1 ty hC.2.2.1 hC.2.2.2 ho hK hW (pl_D hG hA _) hS q0 hq2 hC.1 k (Nat.le_of_ble_eq_true hkN) (hts _ hlink) (fun _ h => h) hfin hty rfl rfl (hl0 _ _) hd (fun H1 locs1 hP1 hD1 hS1 => kk H1 locs1 ls (Wd.set hG hm hq hP1 (up_eJ ?_)) hS1 hl)
  rw [eR_cls hk hkd h10, hf]
theorem r_iald (hX : OKX X cc own d loc nL) {a kn n : Nat} {i : Int32} (hn : kn = 100 + n) (hk : gK (xG X) a = kn) (hin : vp_in i n) (hd : decode cc pc = .ok (.iaload, 1)) (kk : V X I J (pc + 1) lv (.int (I a i.toNatClampNeg) :: st)) : V X I J pc lv (.int i :: .ref a :: st) := by
  obtain ⟨hx, hb, -, ho, hts, hK, hG, -⟩ := hX
  intro H locs ls hW hS hl
  have hm : a ∈ gL (xG X) := hG.2.1 a (by rw [hk]; omega)
  obtain ⟨q0, hq⟩ := Wd.at (I := I) (J := J) hm
  rw [eK_int hk hn] at hq
  exact va_iald hx hb hK hW q0 0 hq rfl hin hd (kk H locs ls hW hS hl)
theorem r_zald (hX : OKX X cc own d loc nL) {a kn n : Nat} {i : Int32} (hn : kn = 50 + n) (hn2 : Nat.blt n 50 = true) (hk : gK (xG X) a = kn) (hin : vp_in i n) (hd : decode cc pc = .ok (.baload, 1)) (kk : V X I J (pc + 1) lv (.int (I a i.toNatClampNeg) :: st)) : V X I J pc lv (.int i :: .ref a :: st) := by
  obtain ⟨hx, hb, -, ho, hts, hK, hG, -⟩ := hX
  intro H locs ls hW hS hl
  have hm : a ∈ gL (xG X) := hG.2.1 a (by rw [hk]; omega)
  obtain ⟨q0, hq⟩ := Wd.at (I := I) (J := J) hm
  rw [eK_bool hk hn hn2] at hq
  exact va_zald hx hb hK hW q0 1 hq rfl hin hd (kk H locs ls hW hS hl)
theorem r_iast (hX : OKX X cc own d loc nL) {a kn n : Nat} {i x : Int32} (hn : kn = 100 + n) (hk : gK (xG X) a = kn) (hin : vp_in i n) (hd : decode cc pc = .ok (.iastore, 1)) (kk : V X (sI I a i.toNatClampNeg x) J (pc + 1) lv st) : V X I J pc lv (.int x :: .int i :: .ref a :: st) := by
  obtain ⟨hx, hb, -, ho, hts, hK, hG, hA, -⟩ := hX
  intro H locs ls hW hS hl
  have hm : a ∈ gL (xG X) := hG.2.1 a (by rw [hk]; omega)
  obtain ⟨q0, hq⟩ := Wd.at (I := I) (J := J) hm
  have hq2 := hq
  rw [eK_int hk hn] at hq2
  refine va_iast hx hb hK hW (pl_D hG hA _) hS q0 0 hq2 rfl hin hd (fun H1 locs1 hP1 hD1 hS1 => kk H1 locs1 ls (Wd.set hG hm hq hP1 (up_eK ?_)) hS1 hl)
  exact (eK_int (G := xG X) (I := fun _ => uR (I a) i.toNatClampNeg x) (J := J) hk hn).symm
theorem r_zast (hX : OKX X cc own d loc nL) {a kn n : Nat} {i x : Int32} (hn : kn = 50 + n) (hn2 : Nat.blt n 50 = true) (hk : gK (xG X) a = kn) (hin : vp_in i n) (hz : zb x) (hd : decode cc pc = .ok (.bastore, 1)) (kk : V X (sI I a i.toNatClampNeg x) J (pc + 1) lv st) : V X I J pc lv (.int x :: .int i :: .ref a :: st) := by
  obtain ⟨hx, hb, -, ho, hts, hK, hG, hA, -⟩ := hX
  intro H locs ls hW hS hl
  have hm : a ∈ gL (xG X) := hG.2.1 a (by rw [hk]; omega)
  obtain ⟨q0, hq⟩ := Wd.at (I := I) (J := J) hm
  have hq2 := hq
  rw [eK_bool hk hn hn2] at hq2
  refine va_zast hx hb hK hW (pl_D hG hA _) hS q0 1 hq2 rfl hin hd (fun H1 locs1 hP1 hD1 hS1 => kk H1 locs1 ls (Wd.set hG hm hq hP1 (up_eK ?_)) hS1 hl)
  rw [zb_nar hz]
  exact (eK_bool (G := xG X) (I := fun _ => uR (I a) i.toNatClampNeg x) (J := J) hk hn hn2).symm
theorem r_alen (hX : OKX X cc own d loc nL) {a kn n : Nat} {v : Int32} (hn : kn = 100 + n) (hk : gK (xG X) a = kn) (hv : Int32.ofNat n = v) (hd : decode cc pc = .ok (.arraylength, 1)) (kk : V X I J (pc + 1) lv (.int v :: st)) : V X I J pc lv (.ref a :: st) := by
  obtain ⟨hx, hb, -, ho, hts, hK, hG, -⟩ := hX
  intro H locs ls hW hS hl
  have hm : a ∈ gL (xG X) := hG.2.1 a (by rw [hk]; omega)
  obtain ⟨q0, hq⟩ := Wd.at (I := I) (J := J) hm
  rw [eK_int hk hn] at hq
  exact va_alen hx hb hK hW q0 0 hq rfl hv hd (kk H locs ls hW hS hl)
theorem r_zlen (hX : OKX X cc own d loc nL) {a kn n : Nat} {v : Int32} (hn : kn = 50 + n) (hn2 : Nat.blt n 50 = true) (hk : gK (xG X) a = kn) (hv : Int32.ofNat n = v) (hd : decode cc pc = .ok (.arraylength, 1)) (kk : V X I J (pc + 1) lv (.int v :: st)) : V X I J pc lv (.ref a :: st) := by
  obtain ⟨hx, hb, -, ho, hts, hK, hG, -⟩ := hX
  intro H locs ls hW hS hl
  have hm : a ∈ gL (xG X) := hG.2.1 a (by rw [hk]; omega)
  obtain ⟨q0, hq⟩ := Wd.at (I := I) (J := J) hm
  rw [eK_bool hk hn hn2] at hq
  exact va_alen hx hb hK hW q0 1 hq rfl hv hd (kk H locs ls hW hS hl)
/-- an array of references: its length, the address of its first cell's object, the distance to the next -/
def RA (G : GX) (a n e0 ds : Nat) : Prop := (gK G a = 10 ∧ n = 4 ∧ e0 = a + 1 ∧ ds = 3) ∨ (gK G a = 11 ∧ n = 14 ∧ e0 = a + 1 ∧ ds = 17) ∨ (gK G a = 12 ∧ n = 2 ∧ e0 = a + 10 ∧ ds = 17)
theorem r_qlen (hX : OKX X cc own d loc nL) {a n e0 ds : Nat} {v : Int32} (hk : RA (xG X) a n e0 ds) (hv : Int32.ofNat n = v) (hd : decode cc pc = .ok (.arraylength, 1)) (kk : V X I J (pc + 1) lv (.int v :: st)) : V X I J pc lv (.ref a :: st) := by
  obtain ⟨hx, hb, -, ho, hts, hK, hG, -⟩ := hX
  intro H locs ls hW hS hl
  rcases hk with ⟨hk, rfl, rfl, rfl⟩ | ⟨hk, rfl, rfl, rfl⟩ | ⟨hk, rfl, rfl, rfl⟩
  · have hm : a ∈ gL (xG X) := hG.2.1 a (by rw [hk]; omega)
    obtain ⟨q0, hq⟩ := Wd.at (I := I) (J := J) hm
    rw [eK_10 hk] at hq
    exact va_alen hx hb hK hW q0 2 hq rfl hv hd (kk H locs ls hW hS hl)
  · have hm : a ∈ gL (xG X) := hG.2.1 a (by rw [hk]; omega)
    obtain ⟨q0, hq⟩ := Wd.at (I := I) (J := J) hm
    rw [eK_11 hk] at hq
    exact va_alen hx hb hK hW q0 3 hq rfl hv hd (kk H locs ls hW hS hl)
  · have hm : a ∈ gL (xG X) := hG.2.1 a (by rw [hk]; omega)
    obtain ⟨q0, hq⟩ := Wd.at (I := I) (J := J) hm
    rw [eK_12 hk] at hq
    exact va_alen hx hb hK hW q0 3 hq rfl hv hd (kk H locs ls hW hS hl)
theorem r_aald (hX : OKX X cc own d loc nL) {a n e0 ds : Nat} {i : Int32} (hk : RA (xG X) a n e0 ds) (hin : vp_in i n) (hd : decode cc pc = .ok (.aaload, 1)) (kk : V X I J (pc + 1) lv (.ref (e0 + ds * i.toNatClampNeg) :: st)) : V X I J pc lv (.int i :: .ref a :: st) := by
  obtain ⟨hx, hb, -, ho, hts, hK, hG, -⟩ := hX
  intro H locs ls hW hS hl
  rcases hk with ⟨hk, rfl, rfl, rfl⟩ | ⟨hk, rfl, rfl, rfl⟩ | ⟨hk, rfl, rfl, rfl⟩
  · have hm : a ∈ gL (xG X) := hG.2.1 a (by rw [hk]; omega)
    obtain ⟨q0, hq⟩ := Wd.at (I := I) (J := J) hm
    rw [eK_10 hk] at hq
    exact va_aldq hx hb hK hW q0 2 hq rfl hin hd (kk H locs ls hW hS hl)
  · have hm : a ∈ gL (xG X) := hG.2.1 a (by rw [hk]; omega)
    obtain ⟨q0, hq⟩ := Wd.at (I := I) (J := J) hm
    rw [eK_11 hk] at hq
    exact va_aldq hx hb hK hW q0 3 hq rfl hin hd (kk H locs ls hW hS hl)
  · have hm : a ∈ gL (xG X) := hG.2.1 a (by rw [hk]; omega)
    obtain ⟨q0, hq⟩ := Wd.at (I := I) (J := J) hm
    rw [eK_12 hk] at hq
    exact va_aldq hx hb hK hW q0 3 hq rfl hin hd (kk H locs ls hW hS hl)
end RowsH
theorem vp_in_lt {i : Int32} {n : Nat} (h : vp_in i n) : i.toNatClampNeg < n := Nat.not_le.mp fun q => h (Or.inr q)
/-- what a method says: from the shadow state I, J it answers vo and leaves I', J' -/
def Ctr (G : GX) (l : Launch) (z : MethodName) (bytes : ByteArray) (maxL : Nat) (ret : Option FieldType) (d loc : Nat) (as : List Value) (I : HI) (J : HJ) (vo : Option Value) (I' : HI) (J' : HJ) : Prop :=
  Met l z (.code z bytes maxL ret :: gTbl) { frames := d, cells := 0, slots := 0, locals := loc } (va_Pc as (fun U => (va_K (gD G) vwCl (gT G) U ∧ NW U) ∧ Wd G I J U.heap)) (fun _ s0 oc t => oc = .returned vo ∧ Wd G I' J' t.heap ∧ va_F (fun q => q ∈ gL G) s0 t) 0 0 (fun q => q ∈ gL G)
theorem gAW : ∀ w ∈ gTbl, goodWord w = true := fun w h => (List.mem_filter.mp h).2
theorem gAll : GoodIn gTbl gTbl := fun w h => ⟨h, good_of_word (gAW w h)⟩
theorem gIn_app {big a b : List Cond} (ha : GoodIn big a) (hb : GoodIn big b) : GoodIn big (a ++ b) := fun w h => (List.mem_append.mp h).elim (ha w) (hb w)
/-- the words of a method that is called: instance, static -/
def MPI (z : MethodName) (bytes : ByteArray) (maxL : Nat) (ret : Option FieldType) (n : Nat) : Prop := Cond.instanceMethod z ∈ gTbl ∧ Cond.selects z.cls z z ∈ gTbl ∧ Cond.initialized z.cls ∈ gTbl ∧ Cond.code z bytes maxL ret ∈ gTbl ∧ z.cls ≠ "java/lang/invoke/MethodHandle" ∧ z.cls ≠ "java/lang/invoke/VarHandle" ∧ (parseMethodDescriptor z.desc).map (fun d => d.parameters.length) = some n
def MPS (z : MethodName) (bytes : ByteArray) (maxL : Nat) (ret : Option FieldType) (n : Nat) : Prop := Cond.static z ∈ gTbl ∧ Cond.initialized z.cls ∈ gTbl ∧ Cond.code z bytes maxL ret ∈ gTbl ∧ z.cls ≠ "java/lang/invoke/MethodHandle" ∧ z.cls ≠ "java/lang/invoke/VarHandle" ∧ (parseMethodDescriptor z.desc).map (fun d => d.parameters.length) = some n
theorem gCode {z : MethodName} {bytes : ByteArray} {maxL : Nat} {ret : Option FieldType} (h : Cond.code z bytes maxL ret ∈ gTbl) : GoodIn gTbl (.code z bytes maxL ret :: gTbl) := fun w hw => (List.mem_cons.mp hw).elim (fun e => e ▸ gAll _ h) (gAll w)
theorem NW.warm {s U : State} (hW : s.WarmedH U.vm) (h : NW s) : NW U := fun q hq => va_Nw.warmM hW (h q hq)
theorem fb_Pc {G : GX} {as : List Value} {I : HI} {J : HJ} : FrameBlind (va_Pc as (fun U => (va_K (gD G) vwCl (gT G) U ∧ NW U) ∧ Wd G I J U.heap)) := fun a U g mk q => ⟨q.1, ⟨va_K.moved (u := U) (U := U.calling g mk a) (Vm.Alike.refl U.vm) q.2.1.1, fun w hw => va_Nw.same rfl (u := U) (U := U.calling g mk a) rfl (q.2.1.2 w hw)⟩, q.2.2⟩
section Calls2
variable {X : CX} {I I' : HI} {J J' : HJ} {pc : Nat} {lv : List (Option Value)} {st st0 : List Value} {cc : ByteArray} {own : String} {d loc nL : Nat} {vo : Option Value}
theorem V.run (hX : OKX X cc own d loc nL) {a : Array Value} {Qx : Array Value → State → Outcome → State → Prop} (hQ : Qx = fun _ s0 oc t => oc = .returned vo ∧ Wd (xG X) I' J' t.heap ∧ va_F (fun q => q ∈ gL (xG X)) s0 t)
    (hr : ∀ (H : Heap) (locs : List Loc) (ls : Array Slot), Wd (xG X) I J H → ls.size = nL → va_Run (xp X) (xl X) (xe X) (xR X) (xs X) (xm X) (xa X) (xb X) (xM X) (xc X) H locs (xk X) (xn X) 0 0 (F0 (xm X) pc ls st0) st (Qx a) (fun q => q ∈ gL (xG X)))
    (kk : V X I' J' (pc + 3) lv (vo.toList ++ st)) : V X I J pc lv st0 := by
  obtain ⟨-, -, -, -, -, -, -, hA, hN, -⟩ := hX
  subst hQ
  intro H locs ls hW hS hl T hT Xs
  obtain ⟨v, s0, t, T', L, h0, X', hL, e1, e2, ⟨hv, hw, hz, hq⟩, stp⟩ := hr H locs ls hW (by rw [← hN]; exact hl.1) T hT Xs
  cases hv
  rw [h0] at hz hq
  obtain ⟨t2, a1, b1⟩ := kk T'.heap (locs ++ L) ls (by rw [e1]; exact hw)
    ⟨Nat.le_trans hS.1 (by rw [e1]; exact hz), fun q h1 h2 => by rw [e1, hq q (Nat.lt_of_lt_of_le h1 hS.1) (fun z => h2 (hA q z))]; exact hS.2.1 q h1 h2, fun q hq => by
      rcases List.mem_append.mp hq with h | h
      · exact hS.2.2 q h
      · exact hA _ (hL q h)⟩ hl T' rfl X'
  exact ⟨t2, stp t2 a1, b1⟩
theorem r_callV (hX : OKX X cc own d loc nL) {z : MethodName} {bytes : ByteArray} {maxL : Nat} {ret : Option FieldType} {dz locz n idx b ci kd : Nat} {As : List Value} {q : vw_C} (hc : Ctr (xG X) (xl X) z bytes maxL ret dz locz (.ref b :: As) I J vo I' J') (hp : MPI z bytes maxL ret n) (hl : Cond.methodLink own idx z ∈ gTbl) (hcl : vwCl[ci]? = some q) (hq : q.1 = z.cls) (hkd : kd = ci + 1) (h10 : Nat.blt kd 10 = true) (hk : gK (xG X) b = kd) (hn : As.length = n) (hr : (Nat.ble (dz + 1) d && Nat.ble (8 + (maxL + 11) + locz) loc) = true) (hst : st0 = As.reverse ++ .ref b :: st) (hw : (st.map fun v => v.category).sum ≤ 8) (hd : decode cc pc = .ok (.invokevirtual idx, 3)) (kk : V X I' J' (pc + 3) lv (vo.toList ++ st)) : V X I J pc lv st0 := by
  refine V.run hX rfl (a := (Value.ref b :: As).toArray) (fun H locs ls hW hls => ?_) kk
  obtain ⟨hx, hb, hml, ho, hts, hK, hG, hA, hN, hfr, hlo, hce, hsl, hNW⟩ := hX
  rw [Bool.and_eq_true] at hr
  have hr1 := Nat.le_of_ble_eq_true hr.1
  have hr2 := Nat.le_of_ble_eq_true hr.2
  have hm : b ∈ gL (xG X) := hG.2.1 b (by rw [hk, hkd]; exact Nat.succ_ne_zero _)
  obtain ⟨q0, hq0⟩ := Wd.at (I := I) (J := J) hm
  rw [eK_cls hk hkd h10] at hq0
  have hrc := va_recv hK hW hcl hq0
  rw [hq] at hrc
  exact va_runV ⟨hx, hb, hml, ho, hts⟩ hc (cwV n hts (gIn_app (fun w h => by
      simp only [List.mem_cons, List.not_mem_nil, or_false] at h
      rcases h with rfl | rfl | rfl | rfl
      · exact gAll _ hl
      · exact gAll _ hp.1
      · exact gAll _ hp.2.1
      · exact gAll _ hp.2.2.1) (gCode hp.2.2.2.1)) rfl rfl rfl ⟨rfl, hp.2.2.2.2⟩ ⟨Nat.le_trans hr1 hfr, Nat.le_trans hr2 hlo⟩)
    ⟨fb_Pc, hrc, fun U hU hWU => ⟨rfl, ⟨va_K.moved hWU.alike hK, NW.warm hWU hNW⟩, by rw [hU]; exact hW⟩⟩ rfl hn hls hst (lv_room hw) hd ⟨hce, hsl⟩
theorem r_callS (hX : OKX X cc own d loc nL) {z : MethodName} {bytes : ByteArray} {maxL : Nat} {ret : Option FieldType} {dz locz n idx : Nat} {As : List Value} (hc : Ctr (xG X) (xl X) z bytes maxL ret dz locz As I J vo I' J') (hp : MPS z bytes maxL ret n) (hl : Cond.methodLink own idx z ∈ gTbl) (hn : As.length = n) (hr : (Nat.ble (dz + 1) d && Nat.ble (8 + (maxL + 11) + locz) loc) = true) (hst : st0 = As.reverse ++ st) (hw : (st.map fun v => v.category).sum ≤ 8) (hd : decode cc pc = .ok (.invokestatic idx, 3)) (kk : V X I' J' (pc + 3) lv (vo.toList ++ st)) : V X I J pc lv st0 := by
  refine V.run hX rfl (a := As.toArray) (fun H locs ls hW hls => ?_) kk
  obtain ⟨hx, hb, hml, ho, hts, hK, hG, hA, hN, hfr, hlo, hce, hsl, hNW⟩ := hX
  rw [Bool.and_eq_true] at hr
  have hr1 := Nat.le_of_ble_eq_true hr.1
  have hr2 := Nat.le_of_ble_eq_true hr.2
  have hcb := callB_of (own := own) (index := idx) (rm := { frames := dz, cells := 0, slots := 0, locals := locz }) (R := xR X) (mc := 0) (ms := 0) n hts (gCode hp.2.2.1) rfl rfl rfl (hts _ hp.2.1) (hts _ hl) hp.2.2.2 ⟨Nat.le_trans hr1 hfr, Nat.le_trans hr2 hlo⟩
  exact va_runS ⟨hx, hb, hml, ho, hts⟩ hc ⟨hcb, hts _ hp.1⟩ ⟨fb_Pc, fun U hU hWU => ⟨rfl, ⟨va_K.moved hWU.alike hK, NW.warm hWU hNW⟩, by rw [hU]; exact hW⟩⟩ rfl hn hls hst (lv_room hw) hd ⟨hce, hsl⟩
theorem r_callSN (hX : OKX X cc own d loc nL) {z : MethodName} {bytes : ByteArray} {maxL : Nat} {ret : Option FieldType} {dz locz n idx : Nat} {As : List Value} (hc : Ctr (xG X) (xl X) z bytes maxL ret dz locz As I J vo I' J') (hp : MPS z bytes maxL ret n) (j : Nat) (hl : nwL[j]? = some (own, idx, z, "ShelfFilters")) (hn : As.length = n) (hr : (Nat.ble (dz + 1) d && Nat.ble (8 + (maxL + 11) + locz) loc) = true) (hst : st0 = As.reverse ++ st) (hw : (st.map fun v => v.category).sum ≤ 8) (hd : decode cc pc = .ok (.invokestatic idx, 3)) (kk : V X I' J' (pc + 3) lv (vo.toList ++ st)) : V X I J pc lv st0 := by
  refine V.run hX rfl (a := As.toArray) (fun H locs ls hW hls => ?_) kk
  obtain ⟨hx, hb, hml, ho, hts, hK, hG, hA, hN, hfr, hlo, hce, hsl, hNW⟩ := hX
  rw [Bool.and_eq_true] at hr
  have hr1 := Nat.le_of_ble_eq_true hr.1
  have hr2 := Nat.le_of_ble_eq_true hr.2
  have hcb := va_cnB (own := own) (index := idx) (host := "ShelfFilters") (rm := { frames := dz, cells := 0, slots := 0, locals := locz }) (R := xR X) (mc := 0) (ms := 0) n hts (gCode hp.2.2.1) rfl rfl rfl (hNW _ (List.mem_of_getElem? hl)) (hts _ hp.2.1) hp.2.2.2 ⟨Nat.le_trans hr1 hfr, Nat.le_trans hr2 hlo⟩
  exact va_runSN ⟨hx, hb, hml, ho, hts⟩ hc ⟨hcb, hts _ hp.1, trivial⟩ ⟨fb_Pc, fun U hU hWU => ⟨rfl, ⟨va_K.moved hWU.alike hK, NW.warm hWU hNW⟩, by rw [hU]; exact hW⟩⟩ rfl hn hls hst (lv_room hw) hd ⟨hce, hsl⟩
end Calls2
section Ends
variable {G : GX} {l : Launch} {z : MethodName} {cc : ByteArray} {maxL : Nat} {ret : Option FieldType} {d loc : Nat} {as : List Value} {I I' : HI} {J J' : HJ} {vo : Option Value}
theorem ctr_of (hG : OKG G) (hy : plainName z.cls = true) (lv0 : List (Option Value)) (hlv : lvA 0 lv0 = lv_args 0 as) (hlen : Nat.ble (lg_sl as).length maxL = true)
    (body : ∀ X : CX, xG X = G → xl X = l → OKX X cc z.cls d loc maxL → (xM X).locks = false → (xM X).sig.returnType = ret → (xk X = 0 ∧ xn X = 0 ∧ xQ X = MQ (xb X) (fun _ s0 oc t => oc = .returned vo ∧ Wd G I' J' t.heap ∧ va_F (fun q => q ∈ gL G) s0 t) (xa X) (xs X) 0 0 (fun q => q ∈ gL G)) → (xA X = fun q => q ∈ gL G) → V X I J 0 lv0 []) : Ctr G l z cc maxL ret d loc as I J vo I' J' := by
  refine Met.ofW (cc := cc) (maxL := maxL) (ret := ret) hy rfl ?_
  intro p e s m args below meth c s₁ B hml hv
  obtain ⟨rfl, ⟨hK, hNW⟩, hW⟩ := hv
  have hts := atoms_spec (ws := .code z cc maxL ret :: gTbl) B.pre
  have hb := body (G, l, p, e, { frames := d, cells := 0, slots := 0, locals := loc }, s, m, as.toArray, below, meth, c, MQ below (fun _ s0 oc t => oc = .returned vo ∧ Wd G I' J' t.heap ∧ va_F (fun q => q ∈ gL G) s0 t) as.toArray s 0 0 (fun q => q ∈ gL G), (fun q => q ∈ gL G), 0, 0, maxL) rfl rfl
    ⟨B.exec, B.bytes, hml, findClass_of_methodNamed B.named, fun w h => hts w (List.mem_cons_of_mem _ h), hK, hG, fun _ h => h, rfl, Nat.le_refl _, Nat.le_refl _, Nat.le_refl _, Nat.le_refl _, hNW⟩ B.notSynchronized B.returns ⟨rfl, rfl, rfl⟩ rfl
  have hl := lv_entry as (n := maxL) (Nat.le_of_ble_eq_true hlen)
  rw [lg_entry_eq]
  rw [← hlv] at hl
  exact hb s.heap [] _ hW va_S.rf hl
def RetI (X : CX) (cc : ByteArray) (r : Int32) (I' : HI) (J' : HJ) : Prop := ∀ pc lv, decode cc pc = .ok (.ireturn, 1) → V X I' J' pc lv [.int r]
def RetV (X : CX) (cc : ByteArray) (I' : HI) (J' : HJ) : Prop := ∀ pc lv, decode cc pc = .ok (.return_, 1) → V X I' J' pc lv []
def RetL (X : CX) (cc : ByteArray) (r : Int64) (I' : HI) (J' : HJ) : Prop := ∀ pc lv, decode cc pc = .ok (.lreturn, 1) → V X I' J' pc lv [.long r]
def RetA (X : CX) (cc : ByteArray) (r : Option Nat) (I' : HI) (J' : HJ) : Prop := ∀ pc lv, decode cc pc = .ok (.areturn, 1) → V X I' J' pc lv [va_rf r]
theorem ctr_I {r : Int32} (hG : OKG G) (hy : plainName z.cls = true) (lv0 : List (Option Value)) (hlv : lvA 0 lv0 = lv_args 0 as) (hlen : Nat.ble (lg_sl as).length maxL = true)
    (body : ∀ X : CX, xG X = G → xl X = l → OKX X cc z.cls d loc maxL → RetI X cc r I' J' → V X I J 0 lv0 []) : Ctr G l z cc maxL (some .int) d loc as I J (some (.int r)) I' J' := by
  refine ctr_of hG hy lv0 hlv hlen fun X e1 e2 hX hlk hr h3 hA => body X e1 e2 hX fun pc lv hd => ?_
  obtain ⟨hx, hb, -⟩ := hX
  obtain ⟨g1, g2, g3⟩ := h3
  intro H locs ls hW hS hl
  unfold WX
  rw [g1, g2, g3]
  rw [hA] at hS
  rw [e1] at hW
  exact W.iret hx hb hr (fun t ht hWt => ⟨rfl, by rw [ht]; exact hW, hS.F ht⟩) hS.2.2 hd hlk
theorem ctr_Z {r : Int32} (hz : zb r) (hG : OKG G) (hy : plainName z.cls = true) (lv0 : List (Option Value)) (hlv : lvA 0 lv0 = lv_args 0 as) (hlen : Nat.ble (lg_sl as).length maxL = true)
    (body : ∀ X : CX, xG X = G → xl X = l → OKX X cc z.cls d loc maxL → RetI X cc r I' J' → V X I J 0 lv0 []) : Ctr G l z cc maxL (some .boolean) d loc as I J (some (.int r)) I' J' := by
  refine ctr_of hG hy lv0 hlv hlen fun X e1 e2 hX hlk hr h3 hA => body X e1 e2 hX fun pc lv hd => ?_
  obtain ⟨hx, hb, -⟩ := hX
  obtain ⟨g1, g2, g3⟩ := h3
  intro H locs ls hW hS hl
  unfold WX
  rw [g1, g2, g3]
  rw [hA] at hS
  rw [e1] at hW
  exact W.zret hx hb hr (by rcases hz with rfl | rfl <;> rfl) (fun t ht hWt => ⟨rfl, by rw [ht]; exact hW, hS.F ht⟩) hS.2.2 hd hlk
theorem ctr_V (hG : OKG G) (hy : plainName z.cls = true) (lv0 : List (Option Value)) (hlv : lvA 0 lv0 = lv_args 0 as) (hlen : Nat.ble (lg_sl as).length maxL = true)
    (body : ∀ X : CX, xG X = G → xl X = l → OKX X cc z.cls d loc maxL → RetV X cc I' J' → V X I J 0 lv0 []) : Ctr G l z cc maxL none d loc as I J none I' J' := by
  refine ctr_of hG hy lv0 hlv hlen fun X e1 e2 hX hlk hr h3 hA => body X e1 e2 hX fun pc lv hd => ?_
  obtain ⟨hx, hb, -⟩ := hX
  obtain ⟨g1, g2, g3⟩ := h3
  intro H locs ls hW hS hl
  unfold WX
  rw [g1, g2, g3]
  rw [hA] at hS
  rw [e1] at hW
  exact W.vret hx hb hr (fun t ht hWt => ⟨rfl, by rw [ht]; exact hW, hS.F ht⟩) hS.2.2 hd hlk
theorem ctr_L {r : Int64} (hG : OKG G) (hy : plainName z.cls = true) (lv0 : List (Option Value)) (hlv : lvA 0 lv0 = lv_args 0 as) (hlen : Nat.ble (lg_sl as).length maxL = true)
    (body : ∀ X : CX, xG X = G → xl X = l → OKX X cc z.cls d loc maxL → RetL X cc r I' J' → V X I J 0 lv0 []) : Ctr G l z cc maxL (some .long) d loc as I J (some (.long r)) I' J' := by
  refine ctr_of hG hy lv0 hlv hlen fun X e1 e2 hX hlk hr h3 hA => body X e1 e2 hX fun pc lv hd => ?_
  obtain ⟨hx, hb, -⟩ := hX
  obtain ⟨g1, g2, g3⟩ := h3
  intro H locs ls hW hS hl
  unfold WX
  rw [g1, g2, g3]
  rw [hA] at hS
  rw [e1] at hW
  exact W.lret hx hb hr (fun t ht hWt => ⟨rfl, by rw [ht]; exact hW, hS.F ht⟩) hS.2.2 hd hlk
theorem ctr_A {r : Option Nat} {n : String} (hG : OKG G) (hy : plainName z.cls = true) (lv0 : List (Option Value)) (hlv : lvA 0 lv0 = lv_args 0 as) (hlen : Nat.ble (lg_sl as).length maxL = true)
    (body : ∀ X : CX, xG X = G → xl X = l → OKX X cc z.cls d loc maxL → RetA X cc r I' J' → V X I J 0 lv0 []) : Ctr G l z cc maxL (some (.object n)) d loc as I J (some (va_rf r)) I' J' := by
  refine ctr_of hG hy lv0 hlv hlen fun X e1 e2 hX hlk hr h3 hA => body X e1 e2 hX fun pc lv hd => ?_
  obtain ⟨hx, hb, -⟩ := hX
  obtain ⟨g1, g2, g3⟩ := h3
  intro H locs ls hW hS hl
  unfold WX
  rw [g1, g2, g3]
  rw [hA] at hS
  rw [e1] at hW
  exact W.aret hx hb hr (Or.inl ⟨n, rfl⟩) (by cases r with | none => exact Or.inl rfl | some a => exact Or.inr ⟨a, rfl⟩) (fun t ht hWt => ⟨rfl, by rw [ht]; exact hW, hS.F ht⟩) hS.2.2 hd hlk
end Ends
/-! what a text of the program is: guards, calls, loops -/
noncomputable def gd {α : Type} (c : Prop) (x : Option α) : Option α := @ite _ c (Classical.propDecidable c) x none
theorem gd_some {α : Type} {c : Prop} {x : Option α} {r : α} (h : gd c x = some r) : c ∧ x = some r := by
  unfold gd at h
  by_cases hc : c
  · rw [if_pos hc] at h; exact ⟨hc, h⟩
  · rw [if_neg hc] at h; cases h
theorem gd_pos {α : Type} {c : Prop} {x : Option α} (h : c) : gd c x = x := by unfold gd; rw [if_pos h]
def bd1 {α γ : Type} (x : Option α) (f : α → Option γ) : Option γ := match x with | some a => f a | none => none
def bd2 {α β γ : Type} (x : Option (α × β)) (f : α → β → Option γ) : Option γ := match x with | some q => f q.1 q.2 | none => none
def bd3 {α β γ δ : Type} (x : Option (α × β × γ)) (f : α → β → γ → Option δ) : Option δ := match x with | some q => f q.1 q.2.1 q.2.2 | none => none
theorem bd1_some {α γ : Type} {x : Option α} {f : α → Option γ} {r : γ} (h : bd1 x f = some r) : ∃ a, x = some a ∧ f a = some r := by
  cases x with
  | none => cases h
  | some a => exact ⟨a, rfl, h⟩
theorem bd2_some {α β γ : Type} {x : Option (α × β)} {f : α → β → Option γ} {r : γ} (h : bd2 x f = some r) : ∃ a b, x = some (a, b) ∧ f a b = some r := by
  cases x with
  | none => cases h
  | some q => exact ⟨q.1, q.2, rfl, h⟩
theorem bd3_some {α β γ δ : Type} {x : Option (α × β × γ)} {f : α → β → γ → Option δ} {r : δ} (h : bd3 x f = some r) : ∃ a b c, x = some (a, b, c) ∧ f a b c = some r := by
  cases x with
  | none => cases h
  | some q => exact ⟨q.1, q.2.1, q.2.2, rfl, h⟩
theorem hf_t {α : Type} {c : Prop} {i : Decidable c} {x y : Option α} {r : α} (h : c) (hf : @ite _ c i x y = some r) : x = some r := (if_pos h).symm.trans hf
theorem hf_f {α : Type} {c : Prop} {i : Decidable c} {x y : Option α} {r : α} (h : ¬ c) (hf : @ite _ c i x y = some r) : y = some r := (if_neg h).symm.trans hf
def mN {γ : Type} (r : Option Nat) (n : γ) (f : Nat → γ) : γ := match r with | none => n | some a => f a

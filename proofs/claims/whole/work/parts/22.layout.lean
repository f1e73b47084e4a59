section VOx
variable {X : CX} {k k2 n n2 : Nat} {fs fs2 : List Value} {ka kb : List Nat} {ci : Nat} {pc : Nat} {lv : List (Option Value)} {st : List Value} {a b b' : Nat} {G : GX} {Ω : Heap → Prop}
theorem VO.ks (e : ka = kb) (h : VO X k n (CW G a ci fs kb) pc lv st) : VO X k n (CW G a ci fs ka) pc lv st := e ▸ h
theorem VO.top (e : b = b') (h : VO X k n Ω pc lv (.ref b' :: st)) : VO X k n Ω pc lv (.ref b :: st) := e ▸ h
theorem VO.fss (e3 : fs = fs2) (h : VO X k n (CW G a ci fs2 ka) pc lv st) : VO X k n (CW G a ci fs ka) pc lv st := e3 ▸ h
theorem VO.to (e1 : k = k2) (e2 : n = n2) (e3 : fs = fs2) {lv2 : List (Option Value)} (e4 : lv2 = lv ∨ ∃ m, lv2 = lmask m lv) (h : VO X k2 n2 (CW G a ci fs2 ka) pc lv2 st) : VO X k n (CW G a ci fs ka) pc lv st := by
  subst e1; subst e2; subst e3
  rcases e4 with rfl | ⟨m, rfl⟩
  · exact h
  · exact fun H locs ls hW hS hl => h H locs ls hW hS (hl.mask m)
end VOx
/-! the whole layout from an address on -/
def kf (kl : List Nat) (j : Nat) : Nat := (kl[j]?).getD 0
def KL (a : Nat) (kl : List Nat) : Nat → Nat := fun q => if a ≤ q then kf kl (q - a) else 0
def GL (a : Nat) (kl : List Nat) (G : GX) : GX := (KL a kl, List.range' a kl.length, G.2.2)
def cloL (kl : List Nat) : Prop := ∀ j, j < kl.length → (kf kl j = 1 → kf kl (j + 1) = 103 ∧ kf kl (j + 2) = 103)
  ∧ (kf kl j = 2 → kf kl (j + 1) = 1 ∧ kf kl (j + 4) = 10)
  ∧ (kf kl j = 3 → kf kl (j + 1) = 105)
  ∧ (kf kl j = 4 → kf kl (j + 1) = 11)
  ∧ (kf kl j = 5 → kf kl (j + 1) = 109 ∧ kf kl (j + 2) = 116)
  ∧ (kf kl j = 6 → kf kl (j + 1) = 106 ∧ kf kl (j + 2) = 106 ∧ kf kl (j + 3) = 56)
  ∧ (kf kl j = 7 → kf kl (j + 1) = 2 ∧ kf kl (j + 18) = 200)
  ∧ (kf kl j = 8 → kf kl (j + 1) = 7 ∧ kf kl (j + 20) = 2 ∧ kf kl (j + 37) = 2 ∧ kf kl (j + 54) = 4 ∧ kf kl (j + 294) = 12 ∧ kf kl (j + 295) = 52 ∧ kf kl (j + 296) = 6 ∧ kf kl (j + 300) = 3 ∧ kf kl (j + 302) = 3)
  ∧ (kf kl j = 9 → kf kl (j + 1) = 200 ∧ kf kl (j + 2) = 103 ∧ kf kl (j + 3) = 103 ∧ kf kl (j + 4) = 104 ∧ kf kl (j + 5) = 103 ∧ kf kl (j + 6) = 103 ∧ kf kl (j + 7) = 104 ∧ kf kl (j + 8) = 221 ∧ kf kl (j + 9) = 221 ∧ kf kl (j + 10) = 221 ∧ kf kl (j + 11) = 1794 ∧ kf kl (j + 12) = 342 ∧ kf kl (j + 13) = 52 ∧ kf kl (j + 14) = 106 ∧ kf kl (j + 15) = 106 ∧ kf kl (j + 16) = 106 ∧ kf kl (j + 17) = 105 ∧ kf kl (j + 18) = 105)
  ∧ (kf kl j = 10 → ∀ i, i < 4 → kf kl (j + 1 + 3 * i) = 5)
  ∧ (kf kl j = 11 → ∀ i, i < 14 → kf kl (j + 1 + 17 * i) = 2)
  ∧ (kf kl j = 12 → ∀ i, i < 2 → kf kl (j + 10 + 17 * i) = 2)
theorem KL_at {a : Nat} {kl : List Nat} (j : Nat) : KL a kl (a + j) = kf kl j := by
  unfold KL; rw [if_pos (Nat.le_add_right _ _), Nat.add_sub_cancel_left]
theorem kf_out {kl : List Nat} {j : Nat} (h : kl.length ≤ j) : kf kl j = 0 := by
  unfold kf; rw [List.getElem?_eq_none h]; rfl
theorem clo_of {a : Nat} {kl : List Nat} (h : cloL kl) : clo (KL a kl) := by
  intro q
  by_cases hq : a ≤ q
  · obtain ⟨j, rfl⟩ := Nat.exists_eq_add_of_le hq
    by_cases hj : j < kl.length
    · have h1 := h j hj
      simp only [show ∀ t, a + j + t = a + (j + t) from fun t => Nat.add_assoc a j t, KL_at, Nat.add_assoc] at h1 ⊢
      exact h1
    · have h0 : KL a kl (a + j) = 0 := by rw [KL_at, kf_out (Nat.le_of_not_lt hj)]
      rw [h0]
      refine ⟨?_, ?_, ?_, ?_, ?_, ?_, ?_, ?_, ?_, ?_, ?_, ?_⟩ <;> intro h <;> cases h
  · have h0 : KL a kl q = 0 := by unfold KL; rw [if_neg hq]
    rw [h0]
    refine ⟨?_, ?_, ?_, ?_, ?_, ?_, ?_, ?_, ?_, ?_, ?_, ?_⟩ <;> intro h <;> cases h
theorem OKG_of {a : Nat} {kl : List Nat} {G : GX} (h : cloL kl) : OKG (GL a kl G) := by
  refine ⟨List.nodup_range', fun q hq => ?_, clo_of h⟩
  show q ∈ List.range' a kl.length
  have h1 : KL a kl q ≠ 0 := hq
  unfold KL at h1
  by_cases hle : a ≤ q
  · rw [if_pos hle] at h1
    rw [List.mem_range'_1]
    refine ⟨hle, ?_⟩
    have : ¬ kl.length ≤ q - a := fun h2 => h1 (kf_out h2)
    omega
  · rw [if_neg hle] at h1
    exact absurd rfl h1
def z0 : Nat → Int32 := fun _ => 0
theorem eR_same {G G' : GX} {f : Nat → Int32} {j : Int64} {a : Nat} (h1 : gK G a = gK G' a) (h2 : G.2.2 = G'.2.2) : eR G f j a = eR G' f j a := by
  unfold eR
  have e1 : gcI G = gcI G' := congrArg (fun x : va_G × ClassId × ClassId × ClassId × ClassId => x.2.1) h2
  have e2 : gcZ G = gcZ G' := congrArg (fun x : va_G × ClassId × ClassId × ClassId × ClassId => x.2.2.1) h2
  have e3 : gcP G = gcP G' := congrArg (fun x : va_G × ClassId × ClassId × ClassId × ClassId => x.2.2.2.1) h2
  have e4 : gcN G = gcN G' := congrArg (fun x : va_G × ClassId × ClassId × ClassId × ClassId => x.2.2.2.2) h2
  rw [h1, e1, e2, e3, e4]
theorem vpq_congr {cA : ClassId} {n : Nat} {f g : Nat → Option Nat} (h : ∀ i, i < n → f i = g i) : vp_cell cA (n, .inr (.inr (.inr (.inr f)))) = vp_cell cA (n, .inr (.inr (.inr (.inr g)))) := by
  rw [vp_cell_q, vp_cell_q]
  unfold arrV
  congr 1
  apply Array.ext
  · simp
  · intro i h1 h2
    simp at h1
    simp [h i h1]
/-- a code of a made world, and the kind that it stands for -/
def nkc (c : Nat) : Nat := if c = 20004 then 10 else if c = 20114 then 11 else if c = 20202 then 12 else if c = 30000 then 103 else c
/-- the ints of a made cell -/
def zC (c : Nat) : Nat → Int32 := if c = 30000 then fun i => if i = 0 then 1 else 0 else fun _ => 0
theorem eC_at {G G' : GX} {c q : Nat} {H : Heap} (hc : c < 20000 ∨ c = 20004 ∨ c = 20114 ∨ c = 20202 ∨ c = 30000) (hk : gK G' q = nkc c) (h2 : G.2.2 = G'.2.2) (h : va_at (gD G) vwCl (q, eC G c q) H) : va_at (gD G') vwCl (q, eR G' (zC c) 0 q) H := by
  have hD : gD G = gD G' := congrArg (fun x : va_G × ClassId × ClassId × ClassId × ClassId => x.1) h2
  have e1 : gcI G = gcI G' := congrArg (fun x : va_G × ClassId × ClassId × ClassId × ClassId => x.2.1) h2
  have e3 : gcP G = gcP G' := congrArg (fun x : va_G × ClassId × ClassId × ClassId × ClassId => x.2.2.2.1) h2
  have e4 : gcN G = gcN G' := congrArg (fun x : va_G × ClassId × ClassId × ClassId × ClassId => x.2.2.2.2) h2
  rw [hD] at h
  rcases hc with hc | rfl | rfl | rfl | rfl
  · have e : eC G c q = eR G' (zC c) 0 q := by
      have h3 : zC c = fun _ => 0 := by unfold zC; rw [if_neg (by omega)]
      have h4 : gK G' q = c := by rw [hk]; unfold nkc; rw [if_neg (by omega), if_neg (by omega), if_neg (by omega), if_neg (by omega)]
      unfold eC
      rw [if_pos hc, h3]
      exact eR_same h4.symm h2
    rw [← e]; exact h
  · rw [show eR G' (zC 20004) 0 q = _ from eK_10 (G := G') (I := fun _ => zC 20004) (J := fun _ => 0) hk]
    have h5 : H[q]? = some (vp_cell (gcP G) (4, .inr (.inr (.inr (.inr (fun i => if i < 20004 - 20000 then some (q + 1 + 3 * i) else none)))))) := h
    show H[q]? = some (vp_cell (gcP G') (4, _))
    rw [h5, e3, vpq_congr (g := fun i => some (q + 1 + 3 * i)) (fun i hi => if_pos hi)]
  · rw [show eR G' (zC 20114) 0 q = _ from eK_11 (G := G') (I := fun _ => zC 20114) (J := fun _ => 0) hk]
    have h5 : H[q]? = some (vp_cell (gcN G) (14, .inr (.inr (.inr (.inr (fun i => if i < 20114 - 20100 then some (q + 1 + 17 * i) else none)))))) := h
    show H[q]? = some (vp_cell (gcN G') (14, _))
    rw [h5, e4, vpq_congr (g := fun i => some (q + 1 + 17 * i)) (fun i hi => if_pos hi)]
  · rw [show eR G' (zC 20202) 0 q = _ from eK_12 (G := G') (I := fun _ => zC 20202) (J := fun _ => 0) hk]
    have h5 : H[q]? = some (vp_cell (gcN G) (2, .inr (.inr (.inr (.inr (fun i => if i < 20202 - 20200 then some (q + 10 + 17 * i) else none)))))) := h
    show H[q]? = some (vp_cell (gcN G') (2, _))
    rw [h5, e4, vpq_congr (g := fun i => some (q + 10 + 17 * i)) (fun i hi => if_pos hi)]
  · rw [show eR G' (zC 30000) 0 q = _ from eK_int (G := G') (I := fun _ => zC 30000) (J := fun _ => 0) (n := 3) hk rfl]
    have h5 : H[q]? = some (vp_cell (gcI G) (3, .inl (fun i => if i = 0 then 1 else 0))) := h
    show H[q]? = some (vp_cell (gcI G') (3, .inl (zC 30000)))
    rw [h5, e1]
    rfl
def codeOk (c : Nat) : Bool := Nat.blt c 20000 || c == 20004 || c == 20114 || c == 20202 || c == 30000
theorem codeOk_spec {c : Nat} (h : codeOk c = true) : c < 20000 ∨ c = 20004 ∨ c = 20114 ∨ c = 20202 ∨ c = 30000 := by
  unfold codeOk at h
  simp only [Bool.or_eq_true, beq_iff_eq] at h
  rcases h with (((h | h) | h) | h) | h
  · exact Or.inl (Nat.le_of_ble_eq_true h)
  · exact Or.inr (Or.inl h)
  · exact Or.inr (Or.inr (Or.inl h))
  · exact Or.inr (Or.inr (Or.inr (Or.inl h)))
  · exact Or.inr (Or.inr (Or.inr (Or.inr h)))
/-- a cell of a list's world -/
theorem Wd_of {G : GX} {I : HI} {J : HJ} {H : Heap} (h : ∀ q, q ∈ gL G → va_at (gD G) vwCl (q, eR G (I q) (J q) q) H) : Wd G I J H := by
  intro k x hx
  unfold va_pl at hx
  rw [List.getElem?_map] at hx
  cases h1 : (gL G)[k]? with
  | none => rw [h1] at hx; cases hx
  | some q => rw [h1] at hx; cases hx; exact h q (List.mem_of_getElem? h1)
theorem Wd.mem {G : GX} {I : HI} {J : HJ} {H : Heap} (h : Wd G I J H) {q : Nat} (hq : q ∈ gL G) : va_at (gD G) vwCl (q, eR G (I q) (J q) q) H := by
  obtain ⟨k, hk⟩ := Wd.at (I := I) (J := J) hq
  exact h k _ hk
/-- the object at a with its fields and the cells behind it, as a world of the layout -/
theorem CW_Wd {G : GX} {a ci kd : Nat} {fs : List Value} {klc kl : List Nat} {H : Heap} (hcw : CW G a ci fs klc H) (hkl : kl = kd :: klc.map nkc) (hco : klc.all codeOk = true) (I : HI) (J : HJ) (hI : ∀ j c, klc[j]? = some c → I (a + 1 + j) = zC c) (hJ : ∀ j, J (a + 1 + j) = 0) (hthis : va_at (gD G) vwCl (a, .inr (ci, fs)) H → va_at (gD G) vwCl (a, eR (GL a kl G) (I a) (J a) a) H) : Wd (GL a kl G) I J H := by
  refine Wd_of fun q hq => ?_
  have h1 : q ∈ List.range' a kl.length := hq
  rw [List.mem_range'_1, hkl, List.length_cons, List.length_map] at h1
  obtain ⟨j, rfl⟩ := Nat.exists_eq_add_of_le h1.1
  show va_at (gD G) vwCl _ H
  cases j with
  | zero => exact hthis (hcw.2 0 _ rfl)
  | succ j =>
    have hj : j < klc.length := by omega
    have hc : klc[j]? = some klc[j] := List.getElem?_eq_getElem hj
    have h2 := hcw.2 (j + 1) _ (CW_at hcw hc)
    have h3 := eC_at (G' := GL a kl G) (codeOk_spec (List.all_eq_true.mp hco _ (List.mem_of_getElem? hc))) (by
      show KL a kl (a + 1 + j) = _
      rw [Nat.add_assoc, KL_at, hkl, show 1 + j = j + 1 by omega, kf, List.getElem?_cons_succ, List.getElem?_map, hc]
      rfl) rfl h2
    rw [show a + (j + 1) = a + 1 + j by omega, hI j _ hc, hJ j]
    exact h3

def okC (k : Nat) (t : List Nat) : Bool :=
  if k = 1 then kf t 0 == 103 && kf t 1 == 103
  else if k = 2 then kf t 0 == 1 && kf t 3 == 10
  else if k = 3 then kf t 0 == 105
  else if k = 4 then kf t 0 == 11
  else if k = 5 then kf t 0 == 109 && kf t 1 == 116
  else if k = 6 then kf t 0 == 106 && kf t 1 == 106 && kf t 2 == 56
  else if k = 7 then kf t 0 == 2 && kf t 17 == 200
  else if k = 8 then kf t 0 == 7 && kf t 19 == 2 && kf t 36 == 2 && kf t 53 == 4 && kf t 293 == 12 && kf t 294 == 52 && kf t 295 == 6 && kf t 299 == 3 && kf t 301 == 3
  else if k = 9 then t.take 18 == [200, 103, 103, 104, 103, 103, 104, 221, 221, 221, 1794, 342, 52, 106, 106, 106, 105, 105]
  else if k = 10 then (List.range 4).all (fun i => kf t (3 * i) == 5)
  else if k = 11 then (List.range 14).all (fun i => kf t (17 * i) == 2)
  else if k = 12 then (List.range 2).all (fun i => kf t (9 + 17 * i) == 2)
  else true
def cloT : List Nat → Bool
  | [] => true
  | k :: t => okC k t && cloT t
theorem kf_s (k : Nat) (t : List Nat) (i : Nat) : kf (k :: t) (i + 1) = kf t i := by unfold kf; rw [List.getElem?_cons_succ]
theorem kf_0 (k : Nat) (t : List Nat) : kf (k :: t) 0 = k := rfl
theorem kf_take {t L : List Nat} {n : Nat} (h : t.take n = L) {i : Nat} (hi : i < n) : kf t i = kf L i := by
  rw [← h]; unfold kf; rw [List.getElem?_take_of_lt hi]
theorem cloT_spec : ∀ (kl : List Nat), cloT kl = true → cloL kl
  | [], _ => fun j hj => absurd hj (Nat.not_lt_zero _)
  | k :: t, h => by
    unfold cloT at h
    rw [Bool.and_eq_true] at h
    have ih := cloT_spec t h.2
    intro j hj
    cases j with
    | succ j =>
      have h1 := ih j (by simpa using hj)
      have l0 : kf (k :: t) (j + 1) = kf t j := kf_s k t j
      have l1 : ∀ n, kf (k :: t) (j + 1 + n) = kf t (j + n) := fun n => by rw [show j + 1 + n = (j + n) + 1 by omega, kf_s]
      have l2 : ∀ p n, kf (k :: t) (j + 1 + p + n) = kf t (j + p + n) := fun p n => by rw [show j + 1 + p + n = (j + p + n) + 1 by omega, kf_s]
      simp only [l0, l1, l2]
      exact h1
    | zero =>
      have h0 := h.1
      simp only [Nat.zero_add, kf_0]
      refine ⟨?_, ?_, ?_, ?_, ?_, ?_, ?_, ?_, ?_, ?_, ?_, ?_⟩ <;> intro hk <;> subst hk
      · simp only [okC, if_true, Bool.and_eq_true, beq_iff_eq] at h0
        exact h0
      · simp [okC] at h0
        exact h0
      · simp [okC] at h0
        exact h0
      · simp [okC] at h0
        exact h0
      · simp [okC] at h0
        exact h0
      · simp [okC] at h0
        exact ⟨h0.1.1, h0.1.2, h0.2⟩
      · simp [okC] at h0
        exact h0
      · simp [okC] at h0
        obtain ⟨⟨⟨⟨⟨⟨⟨⟨a1, a2⟩, a3⟩, a4⟩, a5⟩, a6⟩, a7⟩, a8⟩, a9⟩ := h0
        exact ⟨a1, a2, a3, a4, a5, a6, a7, a8, a9⟩
      · have h1 : t.take 18 = [200, 103, 103, 104, 103, 103, 104, 221, 221, 221, 1794, 342, 52, 106, 106, 106, 105, 105] := by simpa [okC] using h0
        refine ⟨?_, ?_, ?_, ?_, ?_, ?_, ?_, ?_, ?_, ?_, ?_, ?_, ?_, ?_, ?_, ?_, ?_, ?_⟩
        all_goals first | exact kf_take h1 (i := 0) (by decide) | exact kf_take h1 (i := 1) (by decide) | exact kf_take h1 (i := 2) (by decide) | exact kf_take h1 (i := 3) (by decide) | exact kf_take h1 (i := 4) (by decide) | exact kf_take h1 (i := 5) (by decide) | exact kf_take h1 (i := 6) (by decide) | exact kf_take h1 (i := 7) (by decide) | exact kf_take h1 (i := 8) (by decide) | exact kf_take h1 (i := 9) (by decide) | exact kf_take h1 (i := 10) (by decide) | exact kf_take h1 (i := 11) (by decide) | exact kf_take h1 (i := 12) (by decide) | exact kf_take h1 (i := 13) (by decide) | exact kf_take h1 (i := 14) (by decide) | exact kf_take h1 (i := 15) (by decide) | exact kf_take h1 (i := 16) (by decide) | exact kf_take h1 (i := 17) (by decide)
      · intro i hi
        simp only [okC, if_true, if_false, List.all_eq_true, List.mem_range, beq_iff_eq, show ¬ (10 = 1) by decide, show ¬ (10 = 2) by decide, show ¬ (10 = 3) by decide, show ¬ (10 = 4) by decide, show ¬ (10 = 5) by decide, show ¬ (10 = 6) by decide, show ¬ (10 = 7) by decide, show ¬ (10 = 8) by decide, show ¬ (10 = 9) by decide] at h0
        rw [show 1 + 3 * i = 3 * i + 1 by omega, kf_s]
        exact h0 i hi
      · intro i hi
        simp only [okC, if_true, if_false, List.all_eq_true, List.mem_range, beq_iff_eq, show ¬ (11 = 1) by decide, show ¬ (11 = 2) by decide, show ¬ (11 = 3) by decide, show ¬ (11 = 4) by decide, show ¬ (11 = 5) by decide, show ¬ (11 = 6) by decide, show ¬ (11 = 7) by decide, show ¬ (11 = 8) by decide, show ¬ (11 = 9) by decide, show ¬ (11 = 10) by decide] at h0
        rw [show 1 + 17 * i = 17 * i + 1 by omega, kf_s]
        exact h0 i hi
      · intro i hi
        simp only [okC, if_true, if_false, List.all_eq_true, List.mem_range, beq_iff_eq, show ¬ (12 = 1) by decide, show ¬ (12 = 2) by decide, show ¬ (12 = 3) by decide, show ¬ (12 = 4) by decide, show ¬ (12 = 5) by decide, show ¬ (12 = 6) by decide, show ¬ (12 = 7) by decide, show ¬ (12 = 8) by decide, show ¬ (12 = 9) by decide, show ¬ (12 = 10) by decide, show ¬ (12 = 11) by decide] at h0
        rw [show 10 + 17 * i = 9 + 17 * i + 1 by omega, kf_s]
        exact h0 i hi
def kx_0 : List Nat := []
theorem kx_0_len : kx_0.length = 0 := rfl
def kx_1 : List Nat := kx_0 ++ kcX6
theorem kx_1_len : kx_1.length = 19 := by decide +kernel
def kx_2 : List Nat := kx_1 ++ kcX1
theorem kx_2_len : kx_2.length = 36 := by decide +kernel
def kx_3 : List Nat := kx_2 ++ kcX1
theorem kx_3_len : kx_3.length = 53 := by decide +kernel
def kx_4 : List Nat := kx_3 ++ kcX3
theorem kx_4_len : kx_4.length = 293 := by decide +kernel
def kx_5 : List Nat := kx_4 ++ [20200]
theorem kx_5_len : kx_5.length = 294 := by decide +kernel
def kx_6 : List Nat := kx_5 ++ [52]
theorem kx_6_len : kx_6.length = 295 := by decide +kernel
def kx_7 : List Nat := kx_6 ++ kcX5
theorem kx_7_len : kx_7.length = 299 := by decide +kernel
def kx_8 : List Nat := kx_7 ++ kcX2
theorem kx_8_len : kx_8.length = 301 := by decide +kernel
def kx_9 : List Nat := kx_8 ++ kcX2
theorem kx_9_len : kx_9.length = 303 := by decide +kernel
theorem kx_9_at_293 : kx_9[293]? = some 20200 := by decide +kernel
def kx_10 : List Nat := kx_9 ++ kcX1
theorem kx_10_len : kx_10.length = 320 := by decide +kernel
theorem kx_10_at_293 : kx_10[293]? = some 20200 := by decide +kernel
theorem kx_10_at_303 : kx_10[303]? = some 2 := by decide +kernel
def kx_11 : List Nat := kx_10.set 293 20201
theorem kx_11_len : kx_11.length = 320 := by decide +kernel
theorem kx_11_at_293 : kx_11[293]? = some 20201 := by decide +kernel
def kx_12 : List Nat := kx_11 ++ kcX1
theorem kx_12_len : kx_12.length = 337 := by decide +kernel
theorem kx_12_at_293 : kx_12[293]? = some 20201 := by decide +kernel
theorem kx_12_at_320 : kx_12[320]? = some 2 := by decide +kernel
def kx_13 : List Nat := kx_12.set 293 20202
theorem kx_13_len : kx_13.length = 337 := by decide +kernel
theorem kx_13_at_293 : kx_13[293]? = some 20202 := by decide +kernel
abbrev klXc : List Nat := kx_13
def km_0 : List Nat := []
theorem km_0_len : km_0.length = 0 := rfl
def km_1 : List Nat := km_0 ++ [200]
theorem km_1_len : km_1.length = 1 := by decide +kernel
def km_2 : List Nat := km_1 ++ [103]
theorem km_2_len : km_2.length = 2 := by decide +kernel
def km_3 : List Nat := km_2 ++ [103]
theorem km_3_len : km_3.length = 3 := by decide +kernel
def km_4 : List Nat := km_3 ++ [104]
theorem km_4_len : km_4.length = 4 := by decide +kernel
def km_5 : List Nat := km_4 ++ [103]
theorem km_5_len : km_5.length = 5 := by decide +kernel
def km_6 : List Nat := km_5 ++ [103]
theorem km_6_len : km_6.length = 6 := by decide +kernel
def km_7 : List Nat := km_6 ++ [104]
theorem km_7_len : km_7.length = 7 := by decide +kernel
def km_8 : List Nat := km_7 ++ [221]
theorem km_8_len : km_8.length = 8 := by decide +kernel
def km_9 : List Nat := km_8 ++ [221]
theorem km_9_len : km_9.length = 9 := by decide +kernel
def km_10 : List Nat := km_9 ++ [221]
theorem km_10_len : km_10.length = 10 := by decide +kernel
def km_11 : List Nat := km_10 ++ [1794]
theorem km_11_len : km_11.length = 11 := by decide +kernel
def km_12 : List Nat := km_11 ++ [342]
theorem km_12_len : km_12.length = 12 := by decide +kernel
def km_13 : List Nat := km_12 ++ [52]
theorem km_13_len : km_13.length = 13 := by decide +kernel
def km_14 : List Nat := km_13 ++ [106]
theorem km_14_len : km_14.length = 14 := by decide +kernel
def km_15 : List Nat := km_14 ++ [106]
theorem km_15_len : km_15.length = 15 := by decide +kernel
def km_16 : List Nat := km_15 ++ [106]
theorem km_16_len : km_16.length = 16 := by decide +kernel
def km_17 : List Nat := km_16 ++ [105]
theorem km_17_len : km_17.length = 17 := by decide +kernel
def km_18 : List Nat := km_17 ++ [105]
theorem km_18_len : km_18.length = 18 := by decide +kernel
theorem km_18_at_1 : km_18[1]? = some 103 := by decide +kernel
def km_19 : List Nat := km_18.set 1 30000
theorem km_19_len : km_19.length = 18 := by decide +kernel
theorem km_19_at_2 : km_19[2]? = some 103 := by decide +kernel
def km_20 : List Nat := km_19.set 2 30000
theorem km_20_len : km_20.length = 18 := by decide +kernel
abbrev klMc : List Nat := km_20
def klX : List Nat := [8, 7, 2, 1, 103, 103, 10, 5, 109, 116, 5, 109, 116, 5, 109, 116, 5, 109, 116, 200, 2, 1, 103, 103, 10, 5, 109, 116, 5, 109, 116, 5, 109, 116, 5, 109, 116, 2, 1, 103, 103, 10, 5, 109, 116, 5, 109, 116, 5, 109, 116, 5, 109, 116, 4, 11, 2, 1, 103, 103, 10, 5, 109, 116, 5, 109, 116, 5, 109, 116, 5, 109, 116, 2, 1, 103, 103, 10, 5, 109, 116, 5, 109, 116, 5, 109, 116, 5, 109, 116, 2, 1, 103, 103, 10, 5, 109, 116, 5, 109, 116, 5, 109, 116, 5, 109, 116, 2, 1, 103, 103, 10, 5, 109, 116, 5, 109, 116, 5, 109, 116, 5, 109, 116, 2, 1, 103, 103, 10, 5, 109, 116, 5, 109, 116, 5, 109, 116, 5, 109, 116, 2, 1, 103, 103, 10, 5, 109, 116, 5, 109, 116, 5, 109, 116, 5, 109, 116, 2, 1, 103, 103, 10, 5, 109, 116, 5, 109, 116, 5, 109, 116, 5, 109, 116, 2, 1, 103, 103, 10, 5, 109, 116, 5, 109, 116, 5, 109, 116, 5, 109, 116, 2, 1, 103, 103, 10, 5, 109, 116, 5, 109, 116, 5, 109, 116, 5, 109, 116, 2, 1, 103, 103, 10, 5, 109, 116, 5, 109, 116, 5, 109, 116, 5, 109, 116, 2, 1, 103, 103, 10, 5, 109, 116, 5, 109, 116, 5, 109, 116, 5, 109, 116, 2, 1, 103, 103, 10, 5, 109, 116, 5, 109, 116, 5, 109, 116, 5, 109, 116, 2, 1, 103, 103, 10, 5, 109, 116, 5, 109, 116, 5, 109, 116, 5, 109, 116, 2, 1, 103, 103, 10, 5, 109, 116, 5, 109, 116, 5, 109, 116, 5, 109, 116, 12, 52, 6, 106, 106, 56, 3, 105, 3, 105, 2, 1, 103, 103, 10, 5, 109, 116, 5, 109, 116, 5, 109, 116, 5, 109, 116, 2, 1, 103, 103, 10, 5, 109, 116, 5, 109, 116, 5, 109, 116, 5, 109, 116]
theorem clo_klX : cloL klX := cloT_spec _ (by decide +kernel)
def klM : List Nat := [9, 200, 103, 103, 104, 103, 103, 104, 221, 221, 221, 1794, 342, 52, 106, 106, 106, 105, 105]
def klA : List Nat := klX ++ klM
theorem clo_klA : cloL klA := cloT_spec _ (by decide +kernel)

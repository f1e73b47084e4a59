/-- the reference's ints when it has been made -/
def iM (j k : Nat) : Int32 := if j = 0 then (if k = 4 then 8 else if k = 5 then 2 else if k = 6 then 1 else 0) else if j = 2 then zC 30000 k else if j = 3 then zC 30000 k else 0
/-- all ints when both have been made -/
def iS (B : Nat) (I : HI) : HI := fun q => if q < B + 338 then I q else iM (q - (B + 338))
section Start
variable {p : Program} {l : Launch} {e : Env} {R : Room} {s : State} {m : MethodId} {args : Array Value} {below : List Frame} {meth : Method} {c : Code} {Q : State → Prop} {cc : ByteArray} {own : String} {G : GX}
/-- 'new', 'dup' and the constructor, anywhere -/
theorem l_new {ci2 N maxL dz locz mcz msz idx1 idx2 k n nL pc : Nat} {C : String} {T : u_T} {ty : Nat → FieldType} {z : MethodName} {bytes : ByteArray} {fs0 : List Value} {Qc : Nat → Array Value → State → Outcome → State → Prop} {A0 : Nat → Prop} {st : List Value} {H : Heap} {locs : List Loc} {ls : Array Slot} (a : Nat) (ha : H.size = a) (hx : p.tables.exec = Jvm.exec) (hb : c.code = cc) (hml : c.maxLocals = nL) (ho : s.vm.findClass own = some m.cls) (hts : ∀ w ∈ gTbl, w.before args s = true) (hKC : KC G s)
    (hC : CPk ci2 C T N ty) (hcl : Cond.classLink own idx1 C ∈ gTbl) (hit : Cond.instantiable C N ∈ gTbl) (hini : Cond.initialized C ∈ gTbl) (hfs : ∀ j, j < N → defaultValue (ty j) = vp_V fs0 j) (hcon : Met l z (.code z bytes maxL none :: gTbl) { frames := dz, cells := mcz, slots := msz, locals := locz } (va_Pc [.ref a] (fun U => KC G U ∧ U.heap.size = a + 1 ∧ va_P (gD G) vwCl [(a, .inr (ci2, fs0))] U.heap)) (Qc a) mcz msz (fun q => a ≤ q)) (hQ : ∀ a v s0 oc t, Qc a v s0 oc t → oc = .returned none ∧ va_F (fun q => a ≤ q) s0 t) (hcode : Cond.code z bytes maxL none ∈ gTbl) (hinst : Cond.instanceMethod z ∈ gTbl) (hlink : Cond.methodLink own idx2 z ∈ gTbl) (hy1 : z.name = "<init>") (hzc : z.cls = C) (hz2 : z.cls ≠ "java/lang/invoke/MethodHandle" ∧ z.cls ≠ "java/lang/invoke/VarHandle" ∧ (parseMethodDescriptor z.desc).map (fun d => d.parameters.length) = some 0)
    (hr : dz + 1 ≤ R.frames ∧ 8 + (maxL + 11) + locz ≤ R.locals) (hk : k + 1 + mcz ≤ R.cells) (hs : n + N + msz ≤ R.slots) (hw : ((Value.ref 0 :: st).map fun v => v.category).sum ≤ 8) (hd1 : decode cc pc = .ok (.new idx1, 3)) (hd2 : decode cc (pc + 3) = .ok (.dup, 1)) (hd3 : decode cc (pc + 3 + 1) = .ok (.invokespecial idx2, 3)) (hls : ls.size = nL) (hS : va_S A0 s.heap H locs) (hA : ∀ q, s.heap.size ≤ q → A0 q)
    (kk : ∀ (H2 : Heap) (locs2 : List Loc) (v : Array Value) (s0 t : State), Qc H.size v s0 (.returned none) t → t.heap = H2 → (∀ q, q < H.size → H2[q]? = H[q]?) → va_S A0 s.heap H2 locs2 → W p l e R s m args below meth c H2 locs2 (k + 1 + mcz) (n + N + msz) Q (F0 m (pc + 3 + 1 + 3) ls (.ref H.size :: st))) : W p l e R s m args below meth c H locs k n Q (F0 m pc ls st) := by
  subst ha
  have hK := hKC.1.1
  have hKn := hK.1 ci2 _ hC.1
  refine W.newcK hx hb ho (hts _ hcl) (hts _ hit) (hts _ hini) rfl hd1 (by omega) (by omega) hKn.2.1 rfl fun H1 kC hkC e1 z1 o1 => ?_
  refine lv_dup hx hb hd2 rfl ?_
  have hat : va_at (gD G) vwCl (H.size, .inr (ci2, fs0)) H1 := ⟨_, hC.1, (u_born ty hts hC.2.1 hKn hkC e1 hC.2.2.1).to hfs⟩
  have hb1 : va_P (gD G) vwCl [(H.size, .inr (ci2, fs0))] H1 := fun j x hx => by
    have hj : j < 1 := (List.getElem?_eq_some_iff.mp hx).1
    rw [show j = 0 by omega] at hx
    cases hx
    exact hat
  have hbl : FrameBlind (va_Pc [.ref H.size] (fun U => KC G U ∧ U.heap.size = H.size + 1 ∧ va_P (gD G) vwCl [(H.size, .inr (ci2, fs0))] U.heap)) := fun as U g mk q => ⟨q.1, q.2.1.call g mk as, q.2.2⟩
  have hpre : PreS s H1 (va_Pc [.ref H.size] (fun U => KC G U ∧ U.heap.size = H.size + 1 ∧ va_P (gD G) vwCl [(H.size, .inr (ci2, fs0))] U.heap)) [.ref H.size] := ⟨hbl, fun U hU hWU => ⟨rfl, hKC.warm hWU, by rw [hU]; exact z1, by rw [hU]; exact hb1⟩⟩
  have hini2 : Cond.initialized z.cls ∈ gTbl := by rw [hzc]; exact hini
  have hrun : va_Run p l e R s m args below meth c H1 locs (k + 1) (n + N) mcz msz (F0 m (pc + 3 + 1) ls (.ref H.size :: .ref H.size :: st)) (.ref H.size :: st) (Qc H.size [Value.ref H.size].toArray) (fun q => H.size ≤ q) :=
    va_runI (As := []) (rest := .ref H.size :: st) (R := R) ⟨hx, hb, hml, ho, hts⟩ hcon (cwI 0 hts (gCode hcode) rfl rfl rfl (hts _ hini2) (hts _ hlink) (hts _ hinst) hy1 hz2 hr) hpre rfl rfl hls rfl (lv_room hw) hd3 ⟨by omega, by omega⟩
  intro T hT Xs
  obtain ⟨v, s0, t, T', L, h0, X', hL, e2, e3, hq0, stp⟩ := hrun T hT Xs
  obtain ⟨hv, hF⟩ := hQ _ _ _ _ _ hq0
  cases hv
  obtain ⟨hz, hq⟩ := hF
  rw [h0] at hz hq
  have hfr : ∀ q, q < H.size → T'.heap[q]? = H[q]? := fun q h => by rw [e2, hq q (by rw [z1]; omega) (by omega)]; exact o1 q h
  obtain ⟨t2, a1, b1⟩ := kk T'.heap (locs ++ L) _ s0 t hq0 e2.symm hfr
    ⟨Nat.le_trans hS.1 (by rw [e2]; omega), fun q h1 h2 => by rw [hfr q (Nat.lt_of_lt_of_le h1 hS.1)]; exact hS.2.1 q h1 h2, fun q hq => by
        rcases List.mem_append.mp hq with h | h
        · exact hS.2.2 q h
        · exact hA _ (Nat.le_trans hS.1 (hL q h))⟩ T' rfl X'
  exact ⟨t2, stp t2 a1, b1⟩
end Start
theorem KL_app {a : Nat} {k1 k2 : List Nat} {q : Nat} (h : q < a + k1.length) : KL a (k1 ++ k2) q = KL a k1 q := by
  unfold KL
  by_cases hq : a ≤ q
  · rw [if_pos hq, if_pos hq, kf, kf, List.getElem?_append_left (by omega)]
  · rw [if_neg hq, if_neg hq]
theorem iS_m (B : Nat) (I : HI) (j : Nat) : iS B I (B + 338 + j) = iM j := by
  unfold iS
  rw [if_neg (by omega), show B + 338 + j - (B + 338) = j by omega]
theorem GL22 (a : Nat) (kl : List Nat) (G : GX) : G.2.2 = (GL a kl G).2.2 := rfl
theorem kf_map {kd c j : Nat} {kl klc : List Nat} (h : kl = kd :: klc.map nkc) (hc : klc[j]? = some c) : kf kl (j + 1) = nkc c := by
  rw [h, kf, List.getElem?_cons_succ, List.getElem?_map, hc]; rfl
theorem gL_GL (a : Nat) (kl : List Nat) (G : GX) : gL (GL a kl G) = List.range' a kl.length := rfl
/-- both objects stand: one world -/
theorem both {G : GX} {B : Nat} {I : HI} {H2 H3 : Heap} (h1 : Wd (GL B klX G) I (fun _ => 0) H2) (ho : ∀ q, q < B + 338 → H3[q]? = H2[q]?) (h2 : CW G (B + 338) 8 (fsM (B + 338)) klMc H3) : Wd (GL B klA G) (iS B I) (fun _ => 0) H3 := by
  refine Wd_of fun q hq => ?_
  have hlx : klX.length = 338 := by decide +kernel
  have hlm : klM = 9 :: klMc.map nkc := by decide +kernel
  have hla : klA.length = 357 := by decide +kernel
  have hq1 := hq
  rw [gL_GL, List.mem_range'_1, hla] at hq1
  show va_at (gD G) vwCl _ H3
  by_cases hx : q < B + 338
  · have h3 := h1.mem (q := q) (by rw [gL_GL, List.mem_range'_1, hlx]; exact ⟨hq1.1, hx⟩)
    have h4 : va_at (gD G) vwCl (q, eR (GL B klX G) (I q) 0 q) H3 := va_at.kept h3 (ho q hx)
    have e : eR (GL B klA G) (I q) 0 q = eR (GL B klX G) (I q) 0 q := eR_same (KL_app (by rw [hlx]; exact hx)) rfl
    have ei : iS B I q = I q := if_pos hx
    rw [ei, e]
    exact h4
  · obtain ⟨j, rfl⟩ := Nat.exists_eq_add_of_le (Nat.le_of_not_lt hx)
    have hk : ∀ i, KL B klA (B + 338 + i) = kf klM i := fun i => by
      rw [Nat.add_assoc, KL_at, kf, kf, klA, List.getElem?_append_right (by rw [hlx]; omega), hlx, show 338 + i - 338 = i by omega]
    rw [iS_m]
    cases j with
    | zero =>
      rw [eR_cls (G := GL B klA G) (kd := 9) (ci := 8) (by show KL B klA (B + 338 + 0) = 9; rw [hk, hlm]; rfl) rfl rfl]
      exact h2.2 0 _ rfl
    | succ j =>
      have hj : j < klMc.length := by have : klMc.length = 18 := (by decide +kernel); omega
      obtain ⟨c, hc⟩ : ∃ c, klMc[j]? = some c := ⟨_, List.getElem?_eq_getElem hj⟩
      have hco : klMc.all codeOk = true := by decide +kernel
      have h5 : va_at (gD G) vwCl (B + 338 + 1 + j, eC G c (B + 338 + 1 + j)) H3 := h2.2 (j + 1) _ (CW_at h2 hc)
      have e1 : B + 338 + 1 + j = B + 338 + (j + 1) := by omega
      have e2 : kf klM (j + 1) = nkc c := kf_map hlm hc
      have h8 : gK (GL B klA G) (B + 338 + 1 + j) = nkc c := by show KL B klA (B + 338 + 1 + j) = nkc c; rw [e1, hk, e2]
      have h22 : G.2.2 = (GL B klA G).2.2 := GL22 B klA G
      have h6 := eC_at (G := G) (G' := GL B klA G) (c := c) (q := B + 338 + 1 + j) (H := H3) (codeOk_spec (List.all_eq_true.mp hco _ (List.mem_of_getElem? hc))) h8 h22 h5
      have hi : iM (j + 1) = zC c := by
        have hall : ∀ j, j < 18 → ((j = 1 ∨ j = 2) ↔ klMc[j]? = some 30000) := by decide +kernel
        have h18 : j < 18 := by have : klMc.length = 18 := (by decide +kernel); omega
        have h7 := hall j h18
        rw [hc] at h7
        funext i
        unfold iM
        by_cases h8 : j = 1 ∨ j = 2
        · have h9 : c = 30000 := Option.some.inj (h7.mp h8)
          rw [h9]
          rcases h8 with rfl | rfl <;> rfl
        · have h9 : ¬ c = 30000 := fun h => h8 (h7.mpr (congrArg some h))
          rw [if_neg (by omega), if_neg (by omega), if_neg (by omega)]
          unfold zC
          rw [if_neg h9]
      rw [hi, show B + 338 + (j + 1) = B + 338 + 1 + j by omega]
      exact h6

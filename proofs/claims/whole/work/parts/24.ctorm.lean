theorem o_iast {X : CX} {k n : Nat} {fs : List Value} {kl : List Nat} {ci : Nat} {pc : Nat} {lv : List (Option Value)} {st : List Value} {cc : ByteArray} {own : String} {d loc nL mc ms a : Nat} (hX : OKC X cc own d loc nL mc ms a) (j : Nat) {b : Nat} (hb0 : b = a + 1 + j) (hj : kl[j]? = some 103) (hd : decode cc pc = .ok (.iastore, 1)) (kk : VO X k n (CW (xG X) a ci fs (kl.set j 30000)) (pc + 1) lv st) : VO X k n (CW (xG X) a ci fs kl) pc lv (.int 1 :: .int 0 :: .ref b :: st) := by
  obtain ⟨hx, hb, -, ho, hts, ⟨⟨hK, -⟩, -⟩, hA, -⟩ := hX
  intro H locs ls hW hS hl
  subst hb0
  have h1 := CW_at hW hj
  rw [show eC (xG X) 103 (a + 1 + j) = .inl (gcI (xG X), 3, .inl (fun _ => 0)) from rfl] at h1
  have hca : H[a + 1 + j]? = some (vp_cell (gcI (xG X)) (3, .inl (fun _ => 0))) := hW.2 _ _ h1
  refine W.iast hx hb hca ((hK.2 0 _ rfl).1 3 (fun j => .int ((fun _ => 0) j))) (fun h => by cases h) (by show ¬ ((0 : Int32) < 0 ∨ (arrV _ _ _).slots.size ≤ _); rw [arrV_size]; decide) rfl rfl hd fun H1 e z oq => ?_
  refine kk H1 _ ls ⟨by rw [z, hW.1, List.length_set], ?_⟩ (by rw [hA]; rw [hA] at hS; exact hS.put z oq (by omega)) hl
  have h3 := va_P.set (A := fun q => a ≤ q) hW.2 CWs_D h1 (e := eC (xG X) 30000 (a + 1 + j)) (H1 := H1) (by
    show H1[_]? = some (vp_cell _ (3, .inl (fun i => if i = 0 then 1 else 0)))
    rw [e, vp_cell_i, vp_cell_i, arrV_store]
    congr 2
    funext q
    by_cases hq : q = 0
    · subst hq; rfl
    · have h2 : ¬ q = (0 : Int32).toNatClampNeg := hq
      simp [updV, hq, h2]) oq
  rw [CWs, List.set_cons_succ, cs_set] at h3
  exact h3
def fsM (a : Nat) : List Value := [.int 0, .ref (a + 1), .int 0, .int 0, .int 8, .int 2, .int 1, .ref (a + 2), .ref (a + 3), .int 0, .ref (a + 4), .int 0, .int 0, .int 0, .ref (a + 5), .ref (a + 6), .int 0, .ref (a + 7), .ref (a + 8), .ref (a + 9), .ref (a + 10), .ref (a + 11), .int 0, .ref (a + 12), .ref (a + 13), .int 0, .ref (a + 14), .ref (a + 15), .ref (a + 16), .long 0, .ref (a + 17), .ref (a + 18), .int 0]
def QM (G : GX) (a : Nat) : Array Value → State → Outcome → State → Prop := fun _ s0 oc t => oc = .returned none ∧ CW G a 8 (fsM a) klMc t.heap ∧ va_F (fun q => a ≤ q) s0 t
set_option maxHeartbeats 8000000 in
set_option maxRecDepth 200000 in
theorem ct_X8_init (G : GX) (l : Launch) (a : Nat) : Met l yX8_init (.code yX8_init cX8_init 1 none :: gTbl) { frames := 1, cells := 18, slots := 2449, locals := 12 } (va_Pc [.ref a] (fun U => KC G U ∧ U.heap.size = a + 1 ∧ va_P (gD G) vwCl [(a, .inr (8, [.int 0, .null, .int 0, .int 0, .int 0, .int 0, .int 0, .null, .null, .int 0, .null, .int 0, .int 0, .int 0, .null, .null, .int 0, .null, .null, .null, .null, .null, .int 0, .null, .null, .int 0, .null, .null, .null, .long 0, .null, .null, .int 0]))] U.heap)) (QM G a) 18 2449 (fun q => a ≤ q) := by
  refine Met.ofW (cc := cX8_init) (maxL := 1) (ret := none) (by decide) rfl ?_
  intro p e s m args below meth c s₁ B hml hv
  obtain ⟨rfl, hKC, hsz, hP⟩ := hv
  have hts := atoms_spec (ws := .code yX8_init cX8_init 1 none :: gTbl) B.pre
  generalize hXe : ((G, l, p, e, { frames := 1, cells := 18, slots := 2449, locals := 12 }, s, m, [Value.ref a].toArray, below, meth, c, MQ below (QM G a) [Value.ref a].toArray s 18 2449 (fun q => a ≤ q), (fun q => a ≤ q), 18, 2449, 1) : CX) = X
  have hX : OKC X cX8_init RX8 1 12 1 18 2449 a := by
    subst hXe
    exact ⟨B.exec, B.bytes, hml, findClass_of_methodNamed B.named, fun w h => hts w (List.mem_cons_of_mem _ h), hKC, rfl, (name_of_methodNamed B.named B.method).1.trans rfl, rfl, Nat.le_refl _, Nat.le_refl _, Nat.le_refl _, Nat.le_refl _, by show s.heap.size ≤ a + 1; omega⟩
  have hG1 : xG X = G := by subst hXe; rfl
  have hL1 : xl X = l := by subst hXe; rfl
  have hret : ∀ pc lv, decode cX8_init pc = .ok (.return_, 1) → VO X 18 2449 (CW G a 8 (fsM a) klMc) pc lv [] := by
    subst hXe
    intro pc lv hd H locs ls hW hS hl
    have hS' : va_S (fun q => a ≤ q) s.heap H locs := hS
    exact W.vret (Qc := QM G a) (free := fun q => a ≤ q) B.exec B.bytes B.returns (fun t ht hWt => ⟨rfl, by rw [ht]; exact hW, hS'.F ht⟩) hS'.2.2 hd B.notSynchronized
  have hbody : VO X 0 0 (CW G a 8 [.int 0, .null, .int 0, .int 0, .int 0, .int 0, .int 0, .null, .null, .int 0, .null, .int 0, .int 0, .int 0, .null, .null, .int 0, .null, .null, .null, .null, .null, .int 0, .null, .null, .int 0, .null, .null, .null, .long 0, .null, .null, .int 0] []) 0 [some (.ref a)] [] := by
    subst hG1; subst hL1
    refine VO.ks (kb := km_0) rfl ?_
    refine o_aload_n hX dX8_init_0 rfl ?_
    refine o_objInit hX ml_X8_1 dX8_init_1 rfl rfl ?_
    refine o_aload_n hX dX8_init_4 rfl ?_
    refine o_bipush (v := 100) hX dX8_init_5 (by decide) ?_
    refine o_newa (atype := .int) (N := 100) (c := 200) hX ac_int (gcI (xG X)) 0 rfl (fun C h => by cases h) (fun q => rfl) rfl (by decide) (by decide) (by decide) rfl rfl dX8_init_7 ?_
    refine VO.ks (kb := km_1) rfl ?_
    refine VO.top (b' := a + 1) (by have := km_0_len; omega) ?_
    refine o_putF (j := 1) (ty := .array .int) hX cp_8 fl_X8_7 rfl rfl rfl (by decide +kernel) rfl rfl rfl dX8_init_9 ?_
    refine VO.fss (fs2 := [.int 0, .ref (a + 1), .int 0, .int 0, .int 0, .int 0, .int 0, .null, .null, .int 0, .null, .int 0, .int 0, .int 0, .null, .null, .int 0, .null, .null, .null, .null, .null, .int 0, .null, .null, .int 0, .null, .null, .null, .long 0, .null, .null, .int 0]) rfl ?_
    refine o_aload_n hX dX8_init_12 rfl ?_
    refine o_bipush (v := 8) hX dX8_init_13 (by decide) ?_
    refine o_put (j := 4) (ty := .int) hX cp_8 fl_X8_13 rfl rfl (by decide +kernel) rfl rfl rfl dX8_init_15 ?_
    refine VO.fss (fs2 := [.int 0, .ref (a + 1), .int 0, .int 0, .int 8, .int 0, .int 0, .null, .null, .int 0, .null, .int 0, .int 0, .int 0, .null, .null, .int 0, .null, .null, .null, .null, .null, .int 0, .null, .null, .int 0, .null, .null, .null, .long 0, .null, .null, .int 0]) rfl ?_
    refine o_aload_n hX dX8_init_18 rfl ?_
    refine o_iconst (v := 2) hX dX8_init_19 rfl ?_
    refine o_put (j := 5) (ty := .int) hX cp_8 fl_X8_17 rfl rfl (by decide +kernel) rfl rfl rfl dX8_init_20 ?_
    refine VO.fss (fs2 := [.int 0, .ref (a + 1), .int 0, .int 0, .int 8, .int 2, .int 0, .null, .null, .int 0, .null, .int 0, .int 0, .int 0, .null, .null, .int 0, .null, .null, .null, .null, .null, .int 0, .null, .null, .int 0, .null, .null, .null, .long 0, .null, .null, .int 0]) rfl ?_
    refine o_aload_n hX dX8_init_23 rfl ?_
    refine o_iconst (v := 1) hX dX8_init_24 rfl ?_
    refine o_put (j := 6) (ty := .int) hX cp_8 fl_X8_20 rfl rfl (by decide +kernel) rfl rfl rfl dX8_init_25 ?_
    refine VO.fss (fs2 := [.int 0, .ref (a + 1), .int 0, .int 0, .int 8, .int 2, .int 1, .null, .null, .int 0, .null, .int 0, .int 0, .int 0, .null, .null, .int 0, .null, .null, .null, .null, .null, .int 0, .null, .null, .int 0, .null, .null, .null, .long 0, .null, .null, .int 0]) rfl ?_
    refine o_aload_n hX dX8_init_28 rfl ?_
    refine o_iconst (v := 3) hX dX8_init_29 rfl ?_
    refine o_newa (atype := .int) (N := 3) (c := 103) hX ac_int (gcI (xG X)) 0 rfl (fun C h => by cases h) (fun q => rfl) rfl (by decide) (by decide) (by decide) rfl rfl dX8_init_30 ?_
    refine VO.ks (kb := km_2) rfl ?_
    refine VO.top (b' := a + 2) (by have := km_1_len; omega) ?_
    refine o_putF (j := 7) (ty := .array .int) hX cp_8 fl_X8_23 rfl rfl rfl (by decide +kernel) rfl rfl rfl dX8_init_32 ?_
    refine VO.fss (fs2 := [.int 0, .ref (a + 1), .int 0, .int 0, .int 8, .int 2, .int 1, .ref (a + 2), .null, .int 0, .null, .int 0, .int 0, .int 0, .null, .null, .int 0, .null, .null, .null, .null, .null, .int 0, .null, .null, .int 0, .null, .null, .null, .long 0, .null, .null, .int 0]) rfl ?_
    refine o_aload_n hX dX8_init_35 rfl ?_
    refine o_iconst (v := 3) hX dX8_init_36 rfl ?_
    refine o_newa (atype := .int) (N := 3) (c := 103) hX ac_int (gcI (xG X)) 0 rfl (fun C h => by cases h) (fun q => rfl) rfl (by decide) (by decide) (by decide) rfl rfl dX8_init_37 ?_
    refine VO.ks (kb := km_3) rfl ?_
    refine VO.top (b' := a + 3) (by have := km_2_len; omega) ?_
    refine o_putF (j := 8) (ty := .array .int) hX cp_8 fl_X8_26 rfl rfl rfl (by decide +kernel) rfl rfl rfl dX8_init_39 ?_
    refine VO.fss (fs2 := [.int 0, .ref (a + 1), .int 0, .int 0, .int 8, .int 2, .int 1, .ref (a + 2), .ref (a + 3), .int 0, .null, .int 0, .int 0, .int 0, .null, .null, .int 0, .null, .null, .null, .null, .null, .int 0, .null, .null, .int 0, .null, .null, .null, .long 0, .null, .null, .int 0]) rfl ?_
    refine o_aload_n hX dX8_init_42 rfl ?_
    refine o_iconst (v := 4) hX dX8_init_43 rfl ?_
    refine o_newa (atype := .int) (N := 4) (c := 104) hX ac_int (gcI (xG X)) 0 rfl (fun C h => by cases h) (fun q => rfl) rfl (by decide) (by decide) (by decide) rfl rfl dX8_init_44 ?_
    refine VO.ks (kb := km_4) rfl ?_
    refine VO.top (b' := a + 4) (by have := km_3_len; omega) ?_
    refine o_putF (j := 10) (ty := .array .int) hX cp_8 fl_X8_29 rfl rfl rfl (by decide +kernel) rfl rfl rfl dX8_init_46 ?_
    refine VO.fss (fs2 := [.int 0, .ref (a + 1), .int 0, .int 0, .int 8, .int 2, .int 1, .ref (a + 2), .ref (a + 3), .int 0, .ref (a + 4), .int 0, .int 0, .int 0, .null, .null, .int 0, .null, .null, .null, .null, .null, .int 0, .null, .null, .int 0, .null, .null, .null, .long 0, .null, .null, .int 0]) rfl ?_
    refine o_aload_n hX dX8_init_49 rfl ?_
    refine o_iconst (v := 3) hX dX8_init_50 rfl ?_
    refine o_newa (atype := .int) (N := 3) (c := 103) hX ac_int (gcI (xG X)) 0 rfl (fun C h => by cases h) (fun q => rfl) rfl (by decide) (by decide) (by decide) rfl rfl dX8_init_51 ?_
    refine VO.ks (kb := km_5) rfl ?_
    refine VO.top (b' := a + 5) (by have := km_4_len; omega) ?_
    refine o_putF (j := 14) (ty := .array .int) hX cp_8 fl_X8_32 rfl rfl rfl (by decide +kernel) rfl rfl rfl dX8_init_53 ?_
    refine VO.fss (fs2 := [.int 0, .ref (a + 1), .int 0, .int 0, .int 8, .int 2, .int 1, .ref (a + 2), .ref (a + 3), .int 0, .ref (a + 4), .int 0, .int 0, .int 0, .ref (a + 5), .null, .int 0, .null, .null, .null, .null, .null, .int 0, .null, .null, .int 0, .null, .null, .null, .long 0, .null, .null, .int 0]) rfl ?_
    refine o_aload_n hX dX8_init_56 rfl ?_
    refine o_iconst (v := 3) hX dX8_init_57 rfl ?_
    refine o_newa (atype := .int) (N := 3) (c := 103) hX ac_int (gcI (xG X)) 0 rfl (fun C h => by cases h) (fun q => rfl) rfl (by decide) (by decide) (by decide) rfl rfl dX8_init_58 ?_
    refine VO.ks (kb := km_6) rfl ?_
    refine VO.top (b' := a + 6) (by have := km_5_len; omega) ?_
    refine o_putF (j := 15) (ty := .array .int) hX cp_8 fl_X8_35 rfl rfl rfl (by decide +kernel) rfl rfl rfl dX8_init_60 ?_
    refine VO.fss (fs2 := [.int 0, .ref (a + 1), .int 0, .int 0, .int 8, .int 2, .int 1, .ref (a + 2), .ref (a + 3), .int 0, .ref (a + 4), .int 0, .int 0, .int 0, .ref (a + 5), .ref (a + 6), .int 0, .null, .null, .null, .null, .null, .int 0, .null, .null, .int 0, .null, .null, .null, .long 0, .null, .null, .int 0]) rfl ?_
    refine o_aload_n hX dX8_init_63 rfl ?_
    refine o_iconst (v := 4) hX dX8_init_64 rfl ?_
    refine o_newa (atype := .int) (N := 4) (c := 104) hX ac_int (gcI (xG X)) 0 rfl (fun C h => by cases h) (fun q => rfl) rfl (by decide) (by decide) (by decide) rfl rfl dX8_init_65 ?_
    refine VO.ks (kb := km_7) rfl ?_
    refine VO.top (b' := a + 7) (by have := km_6_len; omega) ?_
    refine o_putF (j := 17) (ty := .array .int) hX cp_8 fl_X8_38 rfl rfl rfl (by decide +kernel) rfl rfl rfl dX8_init_67 ?_
    refine VO.fss (fs2 := [.int 0, .ref (a + 1), .int 0, .int 0, .int 8, .int 2, .int 1, .ref (a + 2), .ref (a + 3), .int 0, .ref (a + 4), .int 0, .int 0, .int 0, .ref (a + 5), .ref (a + 6), .int 0, .ref (a + 7), .null, .null, .null, .null, .int 0, .null, .null, .int 0, .null, .null, .null, .long 0, .null, .null, .int 0]) rfl ?_
    refine o_aload_n hX dX8_init_70 rfl ?_
    refine o_bipush (v := 121) hX dX8_init_71 (by decide) ?_
    refine o_newa (atype := .int) (N := 121) (c := 221) hX ac_int (gcI (xG X)) 0 rfl (fun C h => by cases h) (fun q => rfl) rfl (by decide) (by decide) (by decide) rfl rfl dX8_init_73 ?_
    refine VO.ks (kb := km_8) rfl ?_
    refine VO.top (b' := a + 8) (by have := km_7_len; omega) ?_
    refine o_putF (j := 18) (ty := .array .int) hX cp_8 fl_X8_41 rfl rfl rfl (by decide +kernel) rfl rfl rfl dX8_init_75 ?_
    refine VO.fss (fs2 := [.int 0, .ref (a + 1), .int 0, .int 0, .int 8, .int 2, .int 1, .ref (a + 2), .ref (a + 3), .int 0, .ref (a + 4), .int 0, .int 0, .int 0, .ref (a + 5), .ref (a + 6), .int 0, .ref (a + 7), .ref (a + 8), .null, .null, .null, .int 0, .null, .null, .int 0, .null, .null, .null, .long 0, .null, .null, .int 0]) rfl ?_
    refine o_aload_n hX dX8_init_78 rfl ?_
    refine o_bipush (v := 121) hX dX8_init_79 (by decide) ?_
    refine o_newa (atype := .int) (N := 121) (c := 221) hX ac_int (gcI (xG X)) 0 rfl (fun C h => by cases h) (fun q => rfl) rfl (by decide) (by decide) (by decide) rfl rfl dX8_init_81 ?_
    refine VO.ks (kb := km_9) rfl ?_
    refine VO.top (b' := a + 9) (by have := km_8_len; omega) ?_
    refine o_putF (j := 19) (ty := .array .int) hX cp_8 fl_X8_44 rfl rfl rfl (by decide +kernel) rfl rfl rfl dX8_init_83 ?_
    refine VO.fss (fs2 := [.int 0, .ref (a + 1), .int 0, .int 0, .int 8, .int 2, .int 1, .ref (a + 2), .ref (a + 3), .int 0, .ref (a + 4), .int 0, .int 0, .int 0, .ref (a + 5), .ref (a + 6), .int 0, .ref (a + 7), .ref (a + 8), .ref (a + 9), .null, .null, .int 0, .null, .null, .int 0, .null, .null, .null, .long 0, .null, .null, .int 0]) rfl ?_
    refine o_aload_n hX dX8_init_86 rfl ?_
    refine o_bipush (v := 121) hX dX8_init_87 (by decide) ?_
    refine o_newa (atype := .int) (N := 121) (c := 221) hX ac_int (gcI (xG X)) 0 rfl (fun C h => by cases h) (fun q => rfl) rfl (by decide) (by decide) (by decide) rfl rfl dX8_init_89 ?_
    refine VO.ks (kb := km_10) rfl ?_
    refine VO.top (b' := a + 10) (by have := km_9_len; omega) ?_
    refine o_putF (j := 20) (ty := .array .int) hX cp_8 fl_X8_47 rfl rfl rfl (by decide +kernel) rfl rfl rfl dX8_init_91 ?_
    refine VO.fss (fs2 := [.int 0, .ref (a + 1), .int 0, .int 0, .int 8, .int 2, .int 1, .ref (a + 2), .ref (a + 3), .int 0, .ref (a + 4), .int 0, .int 0, .int 0, .ref (a + 5), .ref (a + 6), .int 0, .ref (a + 7), .ref (a + 8), .ref (a + 9), .ref (a + 10), .null, .int 0, .null, .null, .int 0, .null, .null, .null, .long 0, .null, .null, .int 0]) rfl ?_
    refine o_aload_n hX dX8_init_94 rfl ?_
    refine o_sipush (v := 1694) hX dX8_init_95 (by decide) ?_
    refine o_newa (atype := .int) (N := 1694) (c := 1794) hX ac_int (gcI (xG X)) 0 rfl (fun C h => by cases h) (fun q => rfl) rfl (by decide) (by decide) (by decide) rfl rfl dX8_init_98 ?_
    refine VO.ks (kb := km_11) rfl ?_
    refine VO.top (b' := a + 11) (by have := km_10_len; omega) ?_
    refine o_putF (j := 21) (ty := .array .int) hX cp_8 fl_X8_50 rfl rfl rfl (by decide +kernel) rfl rfl rfl dX8_init_100 ?_
    refine VO.fss (fs2 := [.int 0, .ref (a + 1), .int 0, .int 0, .int 8, .int 2, .int 1, .ref (a + 2), .ref (a + 3), .int 0, .ref (a + 4), .int 0, .int 0, .int 0, .ref (a + 5), .ref (a + 6), .int 0, .ref (a + 7), .ref (a + 8), .ref (a + 9), .ref (a + 10), .ref (a + 11), .int 0, .null, .null, .int 0, .null, .null, .null, .long 0, .null, .null, .int 0]) rfl ?_
    refine o_aload_n hX dX8_init_103 rfl ?_
    refine o_sipush (v := 242) hX dX8_init_104 (by decide) ?_
    refine o_newa (atype := .int) (N := 242) (c := 342) hX ac_int (gcI (xG X)) 0 rfl (fun C h => by cases h) (fun q => rfl) rfl (by decide) (by decide) (by decide) rfl rfl dX8_init_107 ?_
    refine VO.ks (kb := km_12) rfl ?_
    refine VO.top (b' := a + 12) (by have := km_11_len; omega) ?_
    refine o_putF (j := 23) (ty := .array .int) hX cp_8 fl_X8_53 rfl rfl rfl (by decide +kernel) rfl rfl rfl dX8_init_109 ?_
    refine VO.fss (fs2 := [.int 0, .ref (a + 1), .int 0, .int 0, .int 8, .int 2, .int 1, .ref (a + 2), .ref (a + 3), .int 0, .ref (a + 4), .int 0, .int 0, .int 0, .ref (a + 5), .ref (a + 6), .int 0, .ref (a + 7), .ref (a + 8), .ref (a + 9), .ref (a + 10), .ref (a + 11), .int 0, .ref (a + 12), .null, .int 0, .null, .null, .null, .long 0, .null, .null, .int 0]) rfl ?_
    refine o_aload_n hX dX8_init_112 rfl ?_
    refine o_iconst (v := 2) hX dX8_init_113 rfl ?_
    refine o_newa (atype := .boolean) (N := 2) (c := 52) hX ac_boolean (gcZ (xG X)) 1 rfl (fun C h => by cases h) (fun q => rfl) rfl (by decide) (by decide) (by decide) rfl rfl dX8_init_114 ?_
    refine VO.ks (kb := km_13) rfl ?_
    refine VO.top (b' := a + 13) (by have := km_12_len; omega) ?_
    refine o_putF (j := 24) (ty := .array .boolean) hX cp_8 fl_X8_56 rfl rfl rfl (by decide +kernel) rfl rfl rfl dX8_init_116 ?_
    refine VO.fss (fs2 := [.int 0, .ref (a + 1), .int 0, .int 0, .int 8, .int 2, .int 1, .ref (a + 2), .ref (a + 3), .int 0, .ref (a + 4), .int 0, .int 0, .int 0, .ref (a + 5), .ref (a + 6), .int 0, .ref (a + 7), .ref (a + 8), .ref (a + 9), .ref (a + 10), .ref (a + 11), .int 0, .ref (a + 12), .ref (a + 13), .int 0, .null, .null, .null, .long 0, .null, .null, .int 0]) rfl ?_
    refine o_aload_n hX dX8_init_119 rfl ?_
    refine o_bipush (v := 6) hX dX8_init_120 (by decide) ?_
    refine o_newa (atype := .int) (N := 6) (c := 106) hX ac_int (gcI (xG X)) 0 rfl (fun C h => by cases h) (fun q => rfl) rfl (by decide) (by decide) (by decide) rfl rfl dX8_init_122 ?_
    refine VO.ks (kb := km_14) rfl ?_
    refine VO.top (b' := a + 14) (by have := km_13_len; omega) ?_
    refine o_putF (j := 26) (ty := .array .int) hX cp_8 fl_X8_60 rfl rfl rfl (by decide +kernel) rfl rfl rfl dX8_init_124 ?_
    refine VO.fss (fs2 := [.int 0, .ref (a + 1), .int 0, .int 0, .int 8, .int 2, .int 1, .ref (a + 2), .ref (a + 3), .int 0, .ref (a + 4), .int 0, .int 0, .int 0, .ref (a + 5), .ref (a + 6), .int 0, .ref (a + 7), .ref (a + 8), .ref (a + 9), .ref (a + 10), .ref (a + 11), .int 0, .ref (a + 12), .ref (a + 13), .int 0, .ref (a + 14), .null, .null, .long 0, .null, .null, .int 0]) rfl ?_
    refine o_aload_n hX dX8_init_127 rfl ?_
    refine o_bipush (v := 6) hX dX8_init_128 (by decide) ?_
    refine o_newa (atype := .int) (N := 6) (c := 106) hX ac_int (gcI (xG X)) 0 rfl (fun C h => by cases h) (fun q => rfl) rfl (by decide) (by decide) (by decide) rfl rfl dX8_init_130 ?_
    refine VO.ks (kb := km_15) rfl ?_
    refine VO.top (b' := a + 15) (by have := km_14_len; omega) ?_
    refine o_putF (j := 27) (ty := .array .int) hX cp_8 fl_X8_63 rfl rfl rfl (by decide +kernel) rfl rfl rfl dX8_init_132 ?_
    refine VO.fss (fs2 := [.int 0, .ref (a + 1), .int 0, .int 0, .int 8, .int 2, .int 1, .ref (a + 2), .ref (a + 3), .int 0, .ref (a + 4), .int 0, .int 0, .int 0, .ref (a + 5), .ref (a + 6), .int 0, .ref (a + 7), .ref (a + 8), .ref (a + 9), .ref (a + 10), .ref (a + 11), .int 0, .ref (a + 12), .ref (a + 13), .int 0, .ref (a + 14), .ref (a + 15), .null, .long 0, .null, .null, .int 0]) rfl ?_
    refine o_aload_n hX dX8_init_135 rfl ?_
    refine o_bipush (v := 6) hX dX8_init_136 (by decide) ?_
    refine o_newa (atype := .int) (N := 6) (c := 106) hX ac_int (gcI (xG X)) 0 rfl (fun C h => by cases h) (fun q => rfl) rfl (by decide) (by decide) (by decide) rfl rfl dX8_init_138 ?_
    refine VO.ks (kb := km_16) rfl ?_
    refine VO.top (b' := a + 16) (by have := km_15_len; omega) ?_
    refine o_putF (j := 28) (ty := .array .int) hX cp_8 fl_X8_66 rfl rfl rfl (by decide +kernel) rfl rfl rfl dX8_init_140 ?_
    refine VO.fss (fs2 := [.int 0, .ref (a + 1), .int 0, .int 0, .int 8, .int 2, .int 1, .ref (a + 2), .ref (a + 3), .int 0, .ref (a + 4), .int 0, .int 0, .int 0, .ref (a + 5), .ref (a + 6), .int 0, .ref (a + 7), .ref (a + 8), .ref (a + 9), .ref (a + 10), .ref (a + 11), .int 0, .ref (a + 12), .ref (a + 13), .int 0, .ref (a + 14), .ref (a + 15), .ref (a + 16), .long 0, .null, .null, .int 0]) rfl ?_
    refine o_aload_n hX dX8_init_143 rfl ?_
    refine o_iconst (v := 5) hX dX8_init_144 rfl ?_
    refine o_newa (atype := .int) (N := 5) (c := 105) hX ac_int (gcI (xG X)) 0 rfl (fun C h => by cases h) (fun q => rfl) rfl (by decide) (by decide) (by decide) rfl rfl dX8_init_145 ?_
    refine VO.ks (kb := km_17) rfl ?_
    refine VO.top (b' := a + 17) (by have := km_16_len; omega) ?_
    refine o_putF (j := 30) (ty := .array .int) hX cp_8 fl_X8_69 rfl rfl rfl (by decide +kernel) rfl rfl rfl dX8_init_147 ?_
    refine VO.fss (fs2 := [.int 0, .ref (a + 1), .int 0, .int 0, .int 8, .int 2, .int 1, .ref (a + 2), .ref (a + 3), .int 0, .ref (a + 4), .int 0, .int 0, .int 0, .ref (a + 5), .ref (a + 6), .int 0, .ref (a + 7), .ref (a + 8), .ref (a + 9), .ref (a + 10), .ref (a + 11), .int 0, .ref (a + 12), .ref (a + 13), .int 0, .ref (a + 14), .ref (a + 15), .ref (a + 16), .long 0, .ref (a + 17), .null, .int 0]) rfl ?_
    refine o_aload_n hX dX8_init_150 rfl ?_
    refine o_iconst (v := 5) hX dX8_init_151 rfl ?_
    refine o_newa (atype := .int) (N := 5) (c := 105) hX ac_int (gcI (xG X)) 0 rfl (fun C h => by cases h) (fun q => rfl) rfl (by decide) (by decide) (by decide) rfl rfl dX8_init_152 ?_
    refine VO.ks (kb := km_18) rfl ?_
    refine VO.top (b' := a + 18) (by have := km_17_len; omega) ?_
    refine o_putF (j := 31) (ty := .array .int) hX cp_8 fl_X8_72 rfl rfl rfl (by decide +kernel) rfl rfl rfl dX8_init_154 ?_
    refine VO.fss (fs2 := [.int 0, .ref (a + 1), .int 0, .int 0, .int 8, .int 2, .int 1, .ref (a + 2), .ref (a + 3), .int 0, .ref (a + 4), .int 0, .int 0, .int 0, .ref (a + 5), .ref (a + 6), .int 0, .ref (a + 7), .ref (a + 8), .ref (a + 9), .ref (a + 10), .ref (a + 11), .int 0, .ref (a + 12), .ref (a + 13), .int 0, .ref (a + 14), .ref (a + 15), .ref (a + 16), .long 0, .ref (a + 17), .ref (a + 18), .int 0]) rfl ?_
    refine o_aload_n hX dX8_init_157 rfl ?_
    refine o_get (j := 7) hX cp_8 fl_X8_23 rfl rfl dX8_init_158 ?_
    refine o_iconst (v := 0) hX dX8_init_161 rfl ?_
    refine o_iconst (v := 1) hX dX8_init_162 rfl ?_
    refine o_iast hX 1 rfl km_18_at_1 dX8_init_163 ?_
    refine VO.ks (kb := km_19) rfl ?_
    refine o_aload_n hX dX8_init_164 rfl ?_
    refine o_get (j := 8) hX cp_8 fl_X8_26 rfl rfl dX8_init_165 ?_
    refine o_iconst (v := 0) hX dX8_init_168 rfl ?_
    refine o_iconst (v := 1) hX dX8_init_169 rfl ?_
    refine o_iast hX 2 rfl km_19_at_2 dX8_init_170 ?_
    refine VO.ks (kb := km_20) rfl ?_
    exact hret _ _ dX8_init_171
  have hl := lv_entry [Value.ref a] (n := 1) (Nat.le_of_ble_eq_true rfl)
  rw [lg_entry_eq]
  rw [show lv_args 0 [Value.ref a] = lvA 0 [some (.ref a)] from rfl] at hl
  subst hXe
  exact hbody s.heap [] _ ⟨hsz, hP⟩ va_S.rf hl

def QX (G : GX) (a : Nat) (I : HI) : Array Value → State → Outcome → State → Prop := fun _ s0 oc t => oc = .returned none ∧ t.heap.size = a + 338 ∧ Wd (GL a klX G) I (fun _ => 0) t.heap ∧ va_F (fun q => a ≤ q) s0 t
set_option maxHeartbeats 8000000 in
set_option maxRecDepth 200000 in
theorem ct_X7_init (G : GX) (l : Launch) (a : Nat) {I1 I2 : HI} (h1 : f_X1_begin (fun _ _ => 0) (a + 20) 8 2 = some I1) (h2 : f_X1_complete I1 (a + 20) = some I2) : Met l yX7_init (.code yX7_init cX7_init 2 none :: gTbl) { frames := 5, cells := 337, slots := 3031, locals := 112 } (va_Pc [.ref a] (fun U => KC G U ∧ U.heap.size = a + 1 ∧ va_P (gD G) vwCl [(a, .inr (7, [.null, .null, .null, .null, .null, .null, .null, .null, .null, .long 0]))] U.heap)) (QX G a I2) 337 3031 (fun q => a ≤ q) := by
  refine Met.ofW (cc := cX7_init) (maxL := 2) (ret := none) (by decide) rfl ?_
  intro p e s m args below meth c s₁ B hml hv
  obtain ⟨rfl, hKC, hsz, hP⟩ := hv
  have hts := atoms_spec (ws := .code yX7_init cX7_init 2 none :: gTbl) B.pre
  generalize hXe : ((G, l, p, e, { frames := 5, cells := 337, slots := 3031, locals := 112 }, s, m, [Value.ref a].toArray, below, meth, c, MQ below (QX G a I2) [Value.ref a].toArray s 337 3031 (fun q => a ≤ q), (fun q => a ≤ q), 337, 3031, 2) : CX) = X
  have hX : OKC X cX7_init RX7 5 112 2 337 3031 a := by
    subst hXe
    exact ⟨B.exec, B.bytes, hml, findClass_of_methodNamed B.named, fun w h => hts w (List.mem_cons_of_mem _ h), hKC, rfl, (name_of_methodNamed B.named B.method).1.trans rfl, rfl, Nat.le_refl _, Nat.le_refl _, Nat.le_refl _, Nat.le_refl _, by show s.heap.size ≤ a + 1; omega⟩
  have hG1 : xG X = G := by subst hXe; rfl
  have hL1 : xl X = l := by subst hXe; rfl
  have hret : ∀ lv, VO X 337 3031 (CW G a 7 (fsR (fun _ => 0) 0 a 8) klXc) 131 lv [] → VO X 337 3031 (CW G a 7 (fsR (fun _ => 0) 0 a 8) klXc) 131 lv [] := fun _ h => h
  have key : VO X 337 3031 (CW G a 7 (fsR (fun _ => 0) 0 a 8) klXc) 131 [some (.ref a), none] [] := by
    intro H locs ls hW hS hl
    generalize hYe : ((GL a klX G, l, p, e, { frames := 5, cells := 337, slots := 3031, locals := 112 }, s, m, [Value.ref a].toArray, below, meth, c, MQ below (QX G a I2) [Value.ref a].toArray s 337 3031 (fun q => a ≤ q), (fun q => a ≤ q), 337, 3031, 2) : CX) = Y
    have hWY : Wd (xG Y) (fun _ _ => 0) (fun _ => 0) H := by
      subst hYe
      refine CW_Wd (kd := 8) hW (by decide +kernel) (by decide +kernel) _ _ (fun j c hc => ?_) (fun _ => rfl) (fun h => ?_)
      · have h0 : ∀ c ∈ klXc, c ≠ 30000 := by decide +kernel
        unfold zC; rw [if_neg (h0 c (List.mem_of_getElem? hc))]
      · rw [eR_cls (G := GL a klX G) (kd := 8) (ci := 7) (by show KL a klX (a + 0) = 8; rw [KL_at]; rfl) rfl rfl]
        exact h
    have hY : OKX Y cX7_init RX7 5 112 2 := by
      subst hYe
      exact ⟨B.exec, B.bytes, hml, findClass_of_methodNamed B.named, fun w h => hts w (List.mem_cons_of_mem _ h), hKC.1.1, OKG_of clo_klX, fun q hq => (List.mem_range'_1.mp hq).1, rfl, Nat.le_refl _, Nat.le_refl _, Nat.le_refl _, Nat.le_refl _, hKC.1.2⟩
    have hk0 : gK (xG Y) a = 8 := by subst hYe; show KL a klX (a + 0) = 8; rw [KL_at]; rfl
    have hr : V Y I2 (fun _ => 0) 148 [some (.ref a), none] [] := by
      subst hYe
      intro H locs ls hW hS hl T hT Xs
      have hS' : va_S (fun q => a ≤ q) s.heap H locs := hS
      have hz1 : T.heap.size ≤ s.heap.size + 337 := Xs.same.2.2.1
      have hz2 : a + 337 < H.size := by
        have hm : a + 337 ∈ gL (GL a klX G) := List.mem_range'_1.mpr ⟨by omega, by show a + 337 < a + klX.length; rw [show klX.length = 338 from by decide +kernel]; omega⟩
        obtain ⟨q0, hq⟩ := Wd.at (I := I2) (J := fun _ => 0) hm
        exact (hW q0 _ hq).lt
      have hz : H.size = a + 338 := by rw [hT] at hz1; omega
      exact (W.vret (Qc := QX G a I2) (free := fun q => a ≤ q) B.exec B.bytes B.returns (fun t ht hWt => ⟨rfl, by rw [ht]; exact hz, by rw [ht]; exact hW, hS'.F ht⟩) hS'.2.2 dX7_init_148 B.notSynchronized) T hT Xs
    have hV : V Y (fun _ _ => 0) (fun _ => 0) 131 [some (.ref a), none] [] := by
      refine r_aload_n hY dX7_init_131 rfl ?_
      refine g_7_1 hY fl_X7_19 hk0 dX7_init_132 ?_
      refine r_bipush (v := 8) hY dX7_init_135 (by decide) ?_
      refine r_iconst (v := 2) hY dX7_init_137 rfl ?_
      refine r_callV (As := [.int 8, .int 2]) (ci := 1) hY (k_X1_begin (l := xl Y) (J := fun _ => 0) hY.ok (q_8_1 hY hk0) h1) pk_X1_begin ml_X7_62 rfl rfl rfl rfl (q_8_1 hY hk0) rfl rfl rfl (Nat.le_of_ble_eq_true rfl) dX7_init_138 ?_
      refine r_aload_n hY dX7_init_141 rfl ?_
      refine g_7_1 hY fl_X7_19 hk0 dX7_init_142 ?_
      refine r_callV (As := []) (ci := 1) hY (k_X1_complete (l := xl Y) (J := fun _ => 0) hY.ok (q_8_1 hY hk0) h2) pk_X1_complete ml_X7_66 rfl rfl rfl rfl (q_8_1 hY hk0) rfl rfl rfl (Nat.le_of_ble_eq_true rfl) dX7_init_145 ?_
      exact hr
    have hS2 : va_S (xA Y) (xs Y).heap H locs := by subst hXe; subst hYe; exact hS
    have hl2 : lvH ls (xN Y) [some (.ref a), none] := by subst hXe; subst hYe; exact hl
    have hfin := hV H locs ls hWY hS2 hl2
    subst hXe; subst hYe
    exact hfin
  have hbody : VO X 0 0 (CW G a 7 [.null, .null, .null, .null, .null, .null, .null, .null, .null, .long 0] []) 0 [some (.ref a), none] [] := by
    subst hG1; subst hL1
    refine VO.ks (kb := kx_0) rfl ?_
    refine o_aload_n hX dX7_init_0 rfl ?_
    refine o_objInit hX ml_X7_1 dX7_init_1 rfl rfl ?_
    refine o_aload_n hX dX7_init_4 rfl ?_
    refine o_newC hX cp_6 cl_X7_7 it_X6 in_X6 (fun j hj => by rcases (show j = 0 ∨ j = 1 ∨ j = 2 ∨ j = 3 ∨ j = 4 by omega) with rfl | rfl | rfl | rfl | rfl <;> rfl) (ct_X6_init (xG X) (xl X)) wc_X6_init wi_X6_init (Or.inr ⟨0, rfl⟩) rfl rfl ⟨by decide, by decide, by decide +kernel⟩ (by decide +kernel) rfl rfl rfl rfl dX7_init_5 dX7_init_8 dX7_init_9 ?_
    refine VO.ks (kb := kx_1) rfl ?_
    refine VO.top (b' := a + 1) (by have := kx_0_len; omega) ?_
    refine o_putF (j := 0) (ty := .object "ShelfFilters$Text") hX cp_7 fl_X7_10 rfl rfl rfl (by decide +kernel) rfl rfl rfl dX7_init_12 ?_
    refine VO.fss (fs2 := [.ref (a + 1), .null, .null, .null, .null, .null, .null, .null, .null, .long 0]) rfl ?_
    refine o_aload_n hX dX7_init_15 rfl ?_
    refine o_newC hX cp_1 cl_X7_16 it_X1 in_X1 (fun j hj => by rcases (show j = 0 ∨ j = 1 ∨ j = 2 ∨ j = 3 ∨ j = 4 ∨ j = 5 ∨ j = 6 by omega) with rfl | rfl | rfl | rfl | rfl | rfl | rfl <;> rfl) (ct_X1_init (xG X) (xl X)) wc_X1_init wi_X1_init (Or.inl ml_X7_18) rfl rfl ⟨by decide, by decide, by decide +kernel⟩ (by decide +kernel) rfl rfl rfl rfl dX7_init_16 dX7_init_19 dX7_init_20 ?_
    refine VO.ks (kb := kx_2) rfl ?_
    refine VO.top (b' := a + 20) (by have := kx_1_len; omega) ?_
    refine o_putF (j := 1) (ty := .object "ShelfFilters$Net") hX cp_7 fl_X7_19 rfl rfl rfl (by decide +kernel) rfl rfl rfl dX7_init_23 ?_
    refine VO.fss (fs2 := [.ref (a + 1), .ref (a + 20), .null, .null, .null, .null, .null, .null, .null, .long 0]) rfl ?_
    refine o_aload_n hX dX7_init_26 rfl ?_
    refine o_newC hX cp_1 cl_X7_16 it_X1 in_X1 (fun j hj => by rcases (show j = 0 ∨ j = 1 ∨ j = 2 ∨ j = 3 ∨ j = 4 ∨ j = 5 ∨ j = 6 by omega) with rfl | rfl | rfl | rfl | rfl | rfl | rfl <;> rfl) (ct_X1_init (xG X) (xl X)) wc_X1_init wi_X1_init (Or.inl ml_X7_18) rfl rfl ⟨by decide, by decide, by decide +kernel⟩ (by decide +kernel) rfl rfl rfl rfl dX7_init_27 dX7_init_30 dX7_init_31 ?_
    refine VO.ks (kb := kx_3) rfl ?_
    refine VO.top (b' := a + 37) (by have := kx_2_len; omega) ?_
    refine o_putF (j := 2) (ty := .object "ShelfFilters$Net") hX cp_7 fl_X7_23 rfl rfl rfl (by decide +kernel) rfl rfl rfl dX7_init_34 ?_
    refine VO.fss (fs2 := [.ref (a + 1), .ref (a + 20), .ref (a + 37), .null, .null, .null, .null, .null, .null, .long 0]) rfl ?_
    refine o_aload_n hX dX7_init_37 rfl ?_
    refine o_newC hX cp_3 cl_X7_26 it_X3 in_X3 (fun j hj => by rcases (show j = 0 ∨ j = 1 ∨ j = 2 by omega) with rfl | rfl | rfl <;> rfl) (ct_X3_init (xG X) (xl X)) wc_X3_init wi_X3_init (Or.inl ml_X7_28) rfl rfl ⟨by decide, by decide, by decide +kernel⟩ (by decide +kernel) rfl rfl rfl rfl dX7_init_38 dX7_init_41 dX7_init_42 ?_
    refine VO.ks (kb := kx_4) rfl ?_
    refine VO.top (b' := a + 54) (by have := kx_3_len; omega) ?_
    refine o_putF (j := 3) (ty := .object "ShelfFilters$Past") hX cp_7 fl_X7_29 rfl rfl rfl (by decide +kernel) rfl rfl rfl dX7_init_45 ?_
    refine VO.fss (fs2 := [.ref (a + 1), .ref (a + 20), .ref (a + 37), .ref (a + 54), .null, .null, .null, .null, .null, .long 0]) rfl ?_
    refine o_aload_n hX dX7_init_48 rfl ?_
    refine o_iconst (v := 2) hX dX7_init_49 rfl ?_
    refine o_newq (N := 2) (c := 20200) hX cl_X7_16 (fun h => h.2.2) (gcN (xG X)) 3 rfl (fun q => ⟨_, rfl⟩) (by decide) (by decide) (by decide) rfl rfl dX7_init_50 ?_
    refine VO.ks (kb := kx_5) rfl ?_
    refine VO.top (b' := a + 294) (by have := kx_4_len; omega) ?_
    refine o_putF (j := 4) (ty := .array (.object "ShelfFilters$Net")) hX cp_7 fl_X7_33 rfl rfl rfl (by decide +kernel) rfl rfl rfl dX7_init_53 ?_
    refine VO.fss (fs2 := [.ref (a + 1), .ref (a + 20), .ref (a + 37), .ref (a + 54), .ref (a + 294), .null, .null, .null, .null, .long 0]) rfl ?_
    refine o_aload_n hX dX7_init_56 rfl ?_
    refine o_iconst (v := 2) hX dX7_init_57 rfl ?_
    refine o_newa (atype := .boolean) (N := 2) (c := 52) hX ac_boolean (gcZ (xG X)) 1 rfl (fun C h => by cases h) (fun q => rfl) rfl (by decide) (by decide) (by decide) rfl rfl dX7_init_58 ?_
    refine VO.ks (kb := kx_6) rfl ?_
    refine VO.top (b' := a + 295) (by have := kx_5_len; omega) ?_
    refine o_putF (j := 5) (ty := .array .boolean) hX cp_7 fl_X7_37 rfl rfl rfl (by decide +kernel) rfl rfl rfl dX7_init_60 ?_
    refine VO.fss (fs2 := [.ref (a + 1), .ref (a + 20), .ref (a + 37), .ref (a + 54), .ref (a + 294), .ref (a + 295), .null, .null, .null, .long 0]) rfl ?_
    refine o_aload_n hX dX7_init_63 rfl ?_
    refine o_newC hX cp_5 cl_X7_41 it_X5 in_X5 (fun j hj => by rcases (show j = 0 ∨ j = 1 ∨ j = 2 ∨ j = 3 by omega) with rfl | rfl | rfl | rfl <;> rfl) (ct_X5_init (xG X) (xl X)) wc_X5_init wi_X5_init (Or.inr ⟨3, rfl⟩) rfl rfl ⟨by decide, by decide, by decide +kernel⟩ (by decide +kernel) rfl rfl rfl rfl dX7_init_64 dX7_init_67 dX7_init_68 ?_
    refine VO.ks (kb := kx_7) rfl ?_
    refine VO.top (b' := a + 296) (by have := kx_6_len; omega) ?_
    refine o_putF (j := 6) (ty := .object "ShelfFilters$Sightings") hX cp_7 fl_X7_44 rfl rfl rfl (by decide +kernel) rfl rfl rfl dX7_init_71 ?_
    refine VO.fss (fs2 := [.ref (a + 1), .ref (a + 20), .ref (a + 37), .ref (a + 54), .ref (a + 294), .ref (a + 295), .ref (a + 296), .null, .null, .long 0]) rfl ?_
    refine o_aload_n hX dX7_init_74 rfl ?_
    refine o_newC hX cp_2 cl_X7_48 it_X2 in_X2 (fun j hj => by rcases (show j = 0 ∨ j = 1 by omega) with rfl | rfl <;> rfl) (ct_X2_init (xG X) (xl X)) wc_X2_init wi_X2_init (Or.inr ⟨4, rfl⟩) rfl rfl ⟨by decide, by decide, by decide +kernel⟩ (by decide +kernel) rfl rfl rfl rfl dX7_init_75 dX7_init_78 dX7_init_79 ?_
    refine VO.ks (kb := kx_8) rfl ?_
    refine VO.top (b' := a + 300) (by have := kx_7_len; omega) ?_
    refine o_putF (j := 7) (ty := .object "ShelfFilters$Order") hX cp_7 fl_X7_51 rfl rfl rfl (by decide +kernel) rfl rfl rfl dX7_init_82 ?_
    refine VO.fss (fs2 := [.ref (a + 1), .ref (a + 20), .ref (a + 37), .ref (a + 54), .ref (a + 294), .ref (a + 295), .ref (a + 296), .ref (a + 300), .null, .long 0]) rfl ?_
    refine o_aload_n hX dX7_init_85 rfl ?_
    refine o_newC hX cp_2 cl_X7_48 it_X2 in_X2 (fun j hj => by rcases (show j = 0 ∨ j = 1 by omega) with rfl | rfl <;> rfl) (ct_X2_init (xG X) (xl X)) wc_X2_init wi_X2_init (Or.inr ⟨4, rfl⟩) rfl rfl ⟨by decide, by decide, by decide +kernel⟩ (by decide +kernel) rfl rfl rfl rfl dX7_init_86 dX7_init_89 dX7_init_90 ?_
    refine VO.ks (kb := kx_9) rfl ?_
    refine VO.top (b' := a + 302) (by have := kx_8_len; omega) ?_
    refine o_putF (j := 8) (ty := .object "ShelfFilters$Order") hX cp_7 fl_X7_55 rfl rfl rfl (by decide +kernel) rfl rfl rfl dX7_init_93 ?_
    refine VO.fss (fs2 := [.ref (a + 1), .ref (a + 20), .ref (a + 37), .ref (a + 54), .ref (a + 294), .ref (a + 295), .ref (a + 296), .ref (a + 300), .ref (a + 302), .long 0]) rfl ?_
    refine o_aload_n hX dX7_init_96 rfl ?_
    refine o_lconst (v := 0) hX dX7_init_97 rfl ?_
    refine o_put (j := 9) (ty := .long) hX cp_7 fl_X7_58 rfl rfl (by decide +kernel) rfl rfl rfl dX7_init_98 ?_
    refine VO.fss (fs2 := [.ref (a + 1), .ref (a + 20), .ref (a + 37), .ref (a + 54), .ref (a + 294), .ref (a + 295), .ref (a + 296), .ref (a + 300), .ref (a + 302), .long 0]) rfl ?_
    refine o_iconst (v := 0) hX dX7_init_101 rfl ?_
    refine o_istore_n hX dX7_init_102 rfl rfl ?_
    refine o_iload_n hX dX7_init_103 rfl ?_
    refine o_aload_n hX dX7_init_104 rfl ?_
    refine o_get (j := 4) hX cp_7 fl_X7_33 rfl rfl dX7_init_105 ?_
    refine o_qlen (v := 2) hX 293 20200 3 rfl kx_9_at_293 rfl rfl rfl dX7_init_108 ?_
    refine o_icmp_ge_f (tgt := 131) hX dX7_init_109 (by decide) (by decide) ?_
    refine o_aload_n hX dX7_init_112 rfl ?_
    refine o_get (j := 4) hX cp_7 fl_X7_33 rfl rfl dX7_init_113 ?_
    refine o_iload_n hX dX7_init_116 rfl ?_
    refine o_newC hX cp_1 cl_X7_16 it_X1 in_X1 (fun j hj => by rcases (show j = 0 ∨ j = 1 ∨ j = 2 ∨ j = 3 ∨ j = 4 ∨ j = 5 ∨ j = 6 by omega) with rfl | rfl | rfl | rfl | rfl | rfl | rfl <;> rfl) (ct_X1_init (xG X) (xl X)) wc_X1_init wi_X1_init (Or.inl ml_X7_18) rfl rfl ⟨by decide, by decide, by decide +kernel⟩ (by decide +kernel) rfl rfl rfl rfl dX7_init_117 dX7_init_120 dX7_init_121 ?_
    refine VO.ks (kb := kx_10) rfl ?_
    refine VO.top (b' := a + 304) (by have := kx_9_len; omega) ?_
    refine o_aast (N := 2) hX 293 20200 20201 303 2 3 1 rfl kx_10_at_293 rfl rfl rfl kx_10_at_303 rfl rfl (by unfold vp_in; decide) rfl (fun q => ast_f (t := 0) (g := fun i => a + 1 + 293 + 10 + 17 * i) (by omega) q) dX7_init_124 ?_
    refine VO.ks (kb := kx_11) rfl ?_
    refine o_iinc (x' := 1) hX dX7_init_125 (by decide) rfl rfl rfl ?_
    refine o_goto (tgt := 103) hX dX7_init_128 (by decide) ?_
    refine o_iload_n hX dX7_init_103 rfl ?_
    refine o_aload_n hX dX7_init_104 rfl ?_
    refine o_get (j := 4) hX cp_7 fl_X7_33 rfl rfl dX7_init_105 ?_
    refine o_qlen (v := 2) hX 293 20201 3 rfl kx_11_at_293 rfl rfl rfl dX7_init_108 ?_
    refine o_icmp_ge_f (tgt := 131) hX dX7_init_109 (by decide) (by decide) ?_
    refine o_aload_n hX dX7_init_112 rfl ?_
    refine o_get (j := 4) hX cp_7 fl_X7_33 rfl rfl dX7_init_113 ?_
    refine o_iload_n hX dX7_init_116 rfl ?_
    refine o_newC hX cp_1 cl_X7_16 it_X1 in_X1 (fun j hj => by rcases (show j = 0 ∨ j = 1 ∨ j = 2 ∨ j = 3 ∨ j = 4 ∨ j = 5 ∨ j = 6 by omega) with rfl | rfl | rfl | rfl | rfl | rfl | rfl <;> rfl) (ct_X1_init (xG X) (xl X)) wc_X1_init wi_X1_init (Or.inl ml_X7_18) rfl rfl ⟨by decide, by decide, by decide +kernel⟩ (by decide +kernel) rfl rfl rfl rfl dX7_init_117 dX7_init_120 dX7_init_121 ?_
    refine VO.ks (kb := kx_12) rfl ?_
    refine VO.top (b' := a + 321) (by have := kx_11_len; omega) ?_
    refine o_aast (N := 2) hX 293 20201 20202 320 2 3 1 rfl kx_12_at_293 rfl rfl rfl kx_12_at_320 rfl rfl (by unfold vp_in; decide) rfl (fun q => ast_f (t := 1) (g := fun i => a + 1 + 293 + 10 + 17 * i) (by omega) q) dX7_init_124 ?_
    refine VO.ks (kb := kx_13) rfl ?_
    refine o_iinc (x' := 2) hX dX7_init_125 (by decide) rfl rfl rfl ?_
    refine o_goto (tgt := 103) hX dX7_init_128 (by decide) ?_
    refine o_iload_n hX dX7_init_103 rfl ?_
    refine o_aload_n hX dX7_init_104 rfl ?_
    refine o_get (j := 4) hX cp_7 fl_X7_33 rfl rfl dX7_init_105 ?_
    refine o_qlen (v := 2) hX 293 20202 3 rfl kx_13_at_293 rfl rfl rfl dX7_init_108 ?_
    refine o_icmp_ge_t (tgt := 131) hX dX7_init_109 (by decide) (by decide) ?_
    exact VO.to (by decide) (by decide) rfl (Or.inr ⟨[true, false], rfl⟩) key
  have hl := lv_entry [Value.ref a] (n := 2) (Nat.le_of_ble_eq_true rfl)
  rw [lg_entry_eq]
  rw [show lv_args 0 [Value.ref a] = lvA 0 [some (.ref a), none] from rfl] at hl
  subst hXe
  exact hbody s.heap [] _ ⟨hsz, hP⟩ va_S.rf hl

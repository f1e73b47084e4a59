def kcX0 : List Nat := [1, 103, 103]
set_option maxHeartbeats 8000000 in
set_option maxRecDepth 200000 in
theorem ct_X0_init (G : GX) (l : Launch) : CtrC G l yX0_init cX0_init 1 1 12 0 [.int 0, .int 0, .int 0, .int 0, .null, .null] 2 6 kcX0 := by
  unfold kcX0
  refine ctrC_of (by decide) rfl rfl rfl rfl [some (.ref 0)] rfl (fun _ => rfl) fun a X e1 e2 hX hret => ?_
  subst e1; subst e2
  refine o_aload_n hX dX0_init_0 rfl ?_
  refine o_objInit hX ml_X0_3 dX0_init_1 rfl rfl ?_
  refine o_aload_n hX dX0_init_4 rfl ?_
  refine o_iconst (v := 0) hX dX0_init_5 rfl ?_
  refine o_put (j := 0) (ty := .int) hX cp_0 fl_X0_9 rfl rfl (by decide +kernel) rfl rfl rfl dX0_init_6 ?_
  refine o_aload_n hX dX0_init_9 rfl ?_
  refine o_iconst (v := 0) hX dX0_init_10 rfl ?_
  refine o_put (j := 1) (ty := .int) hX cp_0 fl_X0_15 rfl rfl (by decide +kernel) rfl rfl rfl dX0_init_11 ?_
  refine o_aload_n hX dX0_init_14 rfl ?_
  refine o_iconst (v := 0) hX dX0_init_15 rfl ?_
  refine o_put (j := 2) (ty := .int) hX cp_0 fl_X0_18 rfl rfl (by decide +kernel) rfl rfl rfl dX0_init_16 ?_
  refine o_aload_n hX dX0_init_19 rfl ?_
  refine o_iconst (v := 0) hX dX0_init_20 rfl ?_
  refine o_put (j := 3) (ty := .int) hX cp_0 fl_X0_21 rfl rfl (by decide +kernel) rfl rfl rfl dX0_init_21 ?_
  refine o_aload_n hX dX0_init_24 rfl ?_
  refine o_iconst (v := 3) hX dX0_init_25 rfl ?_
  refine o_newa (atype := .int) (N := 3) (c := 103) hX ac_int (gcI (xG X)) 0 rfl (fun C h => by cases h) (fun q => rfl) rfl (by decide) (by decide) (by decide) rfl rfl dX0_init_26 ?_
  refine o_putF (j := 4) (ty := .array .int) hX cp_0 fl_X0_24 rfl rfl rfl (by decide +kernel) rfl rfl rfl dX0_init_28 ?_
  refine o_aload_n hX dX0_init_31 rfl ?_
  refine o_iconst (v := 3) hX dX0_init_32 rfl ?_
  refine o_newa (atype := .int) (N := 3) (c := 103) hX ac_int (gcI (xG X)) 0 rfl (fun C h => by cases h) (fun q => rfl) rfl (by decide) (by decide) (by decide) rfl rfl dX0_init_33 ?_
  refine o_putF (j := 5) (ty := .array .int) hX cp_0 fl_X0_28 rfl rfl rfl (by decide +kernel) rfl rfl rfl dX0_init_35 ?_
  exact hret _ _ dX0_init_38
def kcX4 : List Nat := [5, 109, 116]
set_option maxHeartbeats 8000000 in
set_option maxRecDepth 200000 in
theorem ct_X4_init (G : GX) (l : Launch) : CtrC G l yX4_init cX4_init 1 1 12 4 [.int 0, .int 0, .int 0, .int 0, .int 0, .null, .null] 2 25 kcX4 := by
  unfold kcX4
  refine ctrC_of (by decide) rfl rfl rfl rfl [some (.ref 0)] rfl (fun _ => rfl) fun a X e1 e2 hX hret => ?_
  subst e1; subst e2
  refine o_aload_n hX dX4_init_0 rfl ?_
  refine o_objInit hX ml_X4_3 dX4_init_1 rfl rfl ?_
  refine o_aload_n hX dX4_init_4 rfl ?_
  refine o_iconst (v := 0) hX dX4_init_5 rfl ?_
  refine o_put (j := 0) (ty := .int) hX cp_4 fl_X4_9 rfl rfl (by decide +kernel) rfl rfl rfl dX4_init_6 ?_
  refine o_aload_n hX dX4_init_9 rfl ?_
  refine o_iconst (v := 0) hX dX4_init_10 rfl ?_
  refine o_put (j := 1) (ty := .int) hX cp_4 fl_X4_15 rfl rfl (by decide +kernel) rfl rfl rfl dX4_init_11 ?_
  refine o_aload_n hX dX4_init_14 rfl ?_
  refine o_iconst (v := 0) hX dX4_init_15 rfl ?_
  refine o_put (j := 2) (ty := .int) hX cp_4 fl_X4_18 rfl rfl (by decide +kernel) rfl rfl rfl dX4_init_16 ?_
  refine o_aload_n hX dX4_init_19 rfl ?_
  refine o_iconst (v := 0) hX dX4_init_20 rfl ?_
  refine o_put (j := 3) (ty := .int) hX cp_4 fl_X4_21 rfl rfl (by decide +kernel) rfl rfl rfl dX4_init_21 ?_
  refine o_aload_n hX dX4_init_24 rfl ?_
  refine o_iconst (v := 0) hX dX4_init_25 rfl ?_
  refine o_put (j := 4) (ty := .int) hX cp_4 fl_X4_24 rfl rfl (by decide +kernel) rfl rfl rfl dX4_init_26 ?_
  refine o_aload_n hX dX4_init_29 rfl ?_
  refine o_bipush (v := 9) hX dX4_init_30 (by decide) ?_
  refine o_newa (atype := .int) (N := 9) (c := 109) hX ac_int (gcI (xG X)) 0 rfl (fun C h => by cases h) (fun q => rfl) rfl (by decide) (by decide) (by decide) rfl rfl dX4_init_32 ?_
  refine o_putF (j := 5) (ty := .array .int) hX cp_4 fl_X4_27 rfl rfl rfl (by decide +kernel) rfl rfl rfl dX4_init_34 ?_
  refine o_aload_n hX dX4_init_37 rfl ?_
  refine o_bipush (v := 16) hX dX4_init_38 (by decide) ?_
  refine o_newa (atype := .int) (N := 16) (c := 116) hX ac_int (gcI (xG X)) 0 rfl (fun C h => by cases h) (fun q => rfl) rfl (by decide) (by decide) (by decide) rfl rfl dX4_init_40 ?_
  refine o_putF (j := 6) (ty := .array .int) hX cp_4 fl_X4_31 rfl rfl rfl (by decide +kernel) rfl rfl rfl dX4_init_42 ?_
  exact hret _ _ dX4_init_45
def kcX2 : List Nat := [3, 105]
set_option maxHeartbeats 8000000 in
set_option maxRecDepth 200000 in
theorem ct_X2_init (G : GX) (l : Launch) : CtrC G l yX2_init cX2_init 1 1 12 2 [.int 0, .null] 1 5 kcX2 := by
  unfold kcX2
  refine ctrC_of (by decide) rfl rfl rfl rfl [some (.ref 0)] rfl (fun _ => rfl) fun a X e1 e2 hX hret => ?_
  subst e1; subst e2
  refine o_aload_n hX dX2_init_0 rfl ?_
  refine o_objInit hX ml_X2_3 dX2_init_1 rfl rfl ?_
  refine o_aload_n hX dX2_init_4 rfl ?_
  refine o_iconst (v := 0) hX dX2_init_5 rfl ?_
  refine o_put (j := 0) (ty := .int) hX cp_2 fl_X2_9 rfl rfl (by decide +kernel) rfl rfl rfl dX2_init_6 ?_
  refine o_aload_n hX dX2_init_9 rfl ?_
  refine o_iconst (v := 5) hX dX2_init_10 rfl ?_
  refine o_newa (atype := .int) (N := 5) (c := 105) hX ac_int (gcI (xG X)) 0 rfl (fun C h => by cases h) (fun q => rfl) rfl (by decide) (by decide) (by decide) rfl rfl dX2_init_11 ?_
  refine o_putF (j := 1) (ty := .array .int) hX cp_2 fl_X2_15 rfl rfl rfl (by decide +kernel) rfl rfl rfl dX2_init_13 ?_
  exact hret _ _ dX2_init_16
def kcX5 : List Nat := [6, 106, 106, 56]
set_option maxHeartbeats 8000000 in
set_option maxRecDepth 200000 in
theorem ct_X5_init (G : GX) (l : Launch) : CtrC G l yX5_init cX5_init 1 1 12 5 [.null, .null, .null, .int 0] 3 18 kcX5 := by
  unfold kcX5
  refine ctrC_of (by decide) rfl rfl rfl rfl [some (.ref 0)] rfl (fun _ => rfl) fun a X e1 e2 hX hret => ?_
  subst e1; subst e2
  refine o_aload_n hX dX5_init_0 rfl ?_
  refine o_objInit hX ml_X5_3 dX5_init_1 rfl rfl ?_
  refine o_aload_n hX dX5_init_4 rfl ?_
  refine o_bipush (v := 6) hX dX5_init_5 (by decide) ?_
  refine o_newa (atype := .int) (N := 6) (c := 106) hX ac_int (gcI (xG X)) 0 rfl (fun C h => by cases h) (fun q => rfl) rfl (by decide) (by decide) (by decide) rfl rfl dX5_init_7 ?_
  refine o_putF (j := 0) (ty := .array .int) hX cp_5 fl_X5_9 rfl rfl rfl (by decide +kernel) rfl rfl rfl dX5_init_9 ?_
  refine o_aload_n hX dX5_init_12 rfl ?_
  refine o_bipush (v := 6) hX dX5_init_13 (by decide) ?_
  refine o_newa (atype := .int) (N := 6) (c := 106) hX ac_int (gcI (xG X)) 0 rfl (fun C h => by cases h) (fun q => rfl) rfl (by decide) (by decide) (by decide) rfl rfl dX5_init_15 ?_
  refine o_putF (j := 1) (ty := .array .int) hX cp_5 fl_X5_15 rfl rfl rfl (by decide +kernel) rfl rfl rfl dX5_init_17 ?_
  refine o_aload_n hX dX5_init_20 rfl ?_
  refine o_bipush (v := 6) hX dX5_init_21 (by decide) ?_
  refine o_newa (atype := .boolean) (N := 6) (c := 56) hX ac_boolean (gcZ (xG X)) 1 rfl (fun C h => by cases h) (fun q => rfl) rfl (by decide) (by decide) (by decide) rfl rfl dX5_init_23 ?_
  refine o_putF (j := 2) (ty := .array .boolean) hX cp_5 fl_X5_18 rfl rfl rfl (by decide +kernel) rfl rfl rfl dX5_init_25 ?_
  refine o_aload_n hX dX5_init_28 rfl ?_
  refine o_iconst (v := 0) hX dX5_init_29 rfl ?_
  refine o_put (j := 3) (ty := .int) hX cp_5 fl_X5_22 rfl rfl (by decide +kernel) rfl rfl rfl dX5_init_30 ?_
  exact hret _ _ dX5_init_33
def kcX1 : List Nat := [2, 1, 103, 103, 20004, 5, 109, 116, 5, 109, 116, 5, 109, 116, 5, 109, 116]
set_option maxHeartbeats 8000000 in
set_option maxRecDepth 200000 in
theorem ct_X1_init (G : GX) (l : Launch) : CtrC G l yX1_init cX1_init 2 2 32 1 [.null, .null, .int 0, .int 0, .int 0, .int 0, .int 0] 16 144 kcX1 := by
  unfold kcX1
  refine ctrC_of (by decide) rfl rfl rfl rfl [some (.ref 0), none] rfl (fun _ => rfl) fun a X e1 e2 hX hret => ?_
  subst e1; subst e2
  refine o_aload_n hX dX1_init_0 rfl ?_
  refine o_objInit hX ml_X1_3 dX1_init_1 rfl rfl ?_
  refine o_aload_n hX dX1_init_4 rfl ?_
  refine o_newC hX cp_0 cl_X1_9 it_X0 in_X0 (fun j hj => by rcases (show j = 0 ∨ j = 1 ∨ j = 2 ∨ j = 3 ∨ j = 4 ∨ j = 5 by omega) with rfl | rfl | rfl | rfl | rfl | rfl <;> rfl) (ct_X0_init (xG X) (xl X)) wc_X0_init wi_X0_init (Or.inr ⟨1, rfl⟩) rfl rfl ⟨by decide, by decide, by decide +kernel⟩ (by decide +kernel) rfl rfl rfl rfl dX1_init_5 dX1_init_8 dX1_init_9 ?_
  refine o_putF (j := 0) (ty := .object "ShelfFilters$Hashing") hX cp_1 fl_X1_12 rfl rfl rfl (by decide +kernel) rfl rfl rfl dX1_init_12 ?_
  refine o_aload_n hX dX1_init_15 rfl ?_
  refine o_iconst (v := 4) hX dX1_init_16 rfl ?_
  refine o_newq (N := 4) (c := 20000) hX cl_X1_18 (fun h => h.2.1) (gcP (xG X)) 2 rfl (fun q => ⟨_, rfl⟩) (by decide) (by decide) (by decide) rfl rfl dX1_init_17 ?_
  refine o_putF (j := 1) (ty := .array (.object "ShelfFilters$Proxy")) hX cp_1 fl_X1_20 rfl rfl rfl (by decide +kernel) rfl rfl rfl dX1_init_20 ?_
  refine o_aload_n hX dX1_init_23 rfl ?_
  refine o_iconst (v := 0) hX dX1_init_24 rfl ?_
  refine o_put (j := 2) (ty := .int) hX cp_1 fl_X1_24 rfl rfl (by decide +kernel) rfl rfl rfl dX1_init_25 ?_
  refine o_aload_n hX dX1_init_28 rfl ?_
  refine o_iconst (v := 0) hX dX1_init_29 rfl ?_
  refine o_put (j := 3) (ty := .int) hX cp_1 fl_X1_28 rfl rfl (by decide +kernel) rfl rfl rfl dX1_init_30 ?_
  refine o_aload_n hX dX1_init_33 rfl ?_
  refine o_iconst (v := 0) hX dX1_init_34 rfl ?_
  refine o_put (j := 4) (ty := .int) hX cp_1 fl_X1_31 rfl rfl (by decide +kernel) rfl rfl rfl dX1_init_35 ?_
  refine o_aload_n hX dX1_init_38 rfl ?_
  refine o_iconst (v := 0) hX dX1_init_39 rfl ?_
  refine o_put (j := 5) (ty := .int) hX cp_1 fl_X1_34 rfl rfl (by decide +kernel) rfl rfl rfl dX1_init_40 ?_
  refine o_aload_n hX dX1_init_43 rfl ?_
  refine o_iconst (v := 0) hX dX1_init_44 rfl ?_
  refine o_put (j := 6) (ty := .int) hX cp_1 fl_X1_37 rfl rfl (by decide +kernel) rfl rfl rfl dX1_init_45 ?_
  refine o_iconst (v := 0) hX dX1_init_48 rfl ?_
  refine o_istore_n hX dX1_init_49 rfl rfl ?_
  refine o_iload_n hX dX1_init_50 rfl ?_
  refine o_aload_n hX dX1_init_51 rfl ?_
  refine o_get (j := 1) hX cp_1 fl_X1_20 rfl rfl dX1_init_52 ?_
  refine o_qlen (v := 4) hX 3 20000 2 rfl rfl rfl rfl rfl dX1_init_55 ?_
  refine o_icmp_ge_f (tgt := 78) hX dX1_init_56 (by decide) (by decide) ?_
  refine o_aload_n hX dX1_init_59 rfl ?_
  refine o_get (j := 1) hX cp_1 fl_X1_20 rfl rfl dX1_init_60 ?_
  refine o_iload_n hX dX1_init_63 rfl ?_
  refine o_newC hX cp_4 cl_X1_18 it_X4 in_X4 (fun j hj => by rcases (show j = 0 ∨ j = 1 ∨ j = 2 ∨ j = 3 ∨ j = 4 ∨ j = 5 ∨ j = 6 by omega) with rfl | rfl | rfl | rfl | rfl | rfl | rfl <;> rfl) (ct_X4_init (xG X) (xl X)) wc_X4_init wi_X4_init (Or.inr ⟨2, rfl⟩) rfl rfl ⟨by decide, by decide, by decide +kernel⟩ (by decide +kernel) rfl rfl rfl rfl dX1_init_64 dX1_init_67 dX1_init_68 ?_
  refine o_aast (N := 4) hX 3 20000 20001 4 5 2 4 rfl rfl rfl rfl rfl rfl rfl rfl (by unfold vp_in; decide) rfl (fun q => ast_f (t := 0) (g := fun i => a + 1 + 3 + 1 + 3 * i) (by omega) q) dX1_init_71 ?_
  refine o_iinc (x' := 1) hX dX1_init_72 (by decide) rfl rfl rfl ?_
  refine o_goto (tgt := 50) hX dX1_init_75 (by decide) ?_
  refine o_iload_n hX dX1_init_50 rfl ?_
  refine o_aload_n hX dX1_init_51 rfl ?_
  refine o_get (j := 1) hX cp_1 fl_X1_20 rfl rfl dX1_init_52 ?_
  refine o_qlen (v := 4) hX 3 20001 2 rfl rfl rfl rfl rfl dX1_init_55 ?_
  refine o_icmp_ge_f (tgt := 78) hX dX1_init_56 (by decide) (by decide) ?_
  refine o_aload_n hX dX1_init_59 rfl ?_
  refine o_get (j := 1) hX cp_1 fl_X1_20 rfl rfl dX1_init_60 ?_
  refine o_iload_n hX dX1_init_63 rfl ?_
  refine o_newC hX cp_4 cl_X1_18 it_X4 in_X4 (fun j hj => by rcases (show j = 0 ∨ j = 1 ∨ j = 2 ∨ j = 3 ∨ j = 4 ∨ j = 5 ∨ j = 6 by omega) with rfl | rfl | rfl | rfl | rfl | rfl | rfl <;> rfl) (ct_X4_init (xG X) (xl X)) wc_X4_init wi_X4_init (Or.inr ⟨2, rfl⟩) rfl rfl ⟨by decide, by decide, by decide +kernel⟩ (by decide +kernel) rfl rfl rfl rfl dX1_init_64 dX1_init_67 dX1_init_68 ?_
  refine o_aast (N := 4) hX 3 20001 20002 7 5 2 4 rfl rfl rfl rfl rfl rfl rfl rfl (by unfold vp_in; decide) rfl (fun q => ast_f (t := 1) (g := fun i => a + 1 + 3 + 1 + 3 * i) (by omega) q) dX1_init_71 ?_
  refine o_iinc (x' := 2) hX dX1_init_72 (by decide) rfl rfl rfl ?_
  refine o_goto (tgt := 50) hX dX1_init_75 (by decide) ?_
  refine o_iload_n hX dX1_init_50 rfl ?_
  refine o_aload_n hX dX1_init_51 rfl ?_
  refine o_get (j := 1) hX cp_1 fl_X1_20 rfl rfl dX1_init_52 ?_
  refine o_qlen (v := 4) hX 3 20002 2 rfl rfl rfl rfl rfl dX1_init_55 ?_
  refine o_icmp_ge_f (tgt := 78) hX dX1_init_56 (by decide) (by decide) ?_
  refine o_aload_n hX dX1_init_59 rfl ?_
  refine o_get (j := 1) hX cp_1 fl_X1_20 rfl rfl dX1_init_60 ?_
  refine o_iload_n hX dX1_init_63 rfl ?_
  refine o_newC hX cp_4 cl_X1_18 it_X4 in_X4 (fun j hj => by rcases (show j = 0 ∨ j = 1 ∨ j = 2 ∨ j = 3 ∨ j = 4 ∨ j = 5 ∨ j = 6 by omega) with rfl | rfl | rfl | rfl | rfl | rfl | rfl <;> rfl) (ct_X4_init (xG X) (xl X)) wc_X4_init wi_X4_init (Or.inr ⟨2, rfl⟩) rfl rfl ⟨by decide, by decide, by decide +kernel⟩ (by decide +kernel) rfl rfl rfl rfl dX1_init_64 dX1_init_67 dX1_init_68 ?_
  refine o_aast (N := 4) hX 3 20002 20003 10 5 2 4 rfl rfl rfl rfl rfl rfl rfl rfl (by unfold vp_in; decide) rfl (fun q => ast_f (t := 2) (g := fun i => a + 1 + 3 + 1 + 3 * i) (by omega) q) dX1_init_71 ?_
  refine o_iinc (x' := 3) hX dX1_init_72 (by decide) rfl rfl rfl ?_
  refine o_goto (tgt := 50) hX dX1_init_75 (by decide) ?_
  refine o_iload_n hX dX1_init_50 rfl ?_
  refine o_aload_n hX dX1_init_51 rfl ?_
  refine o_get (j := 1) hX cp_1 fl_X1_20 rfl rfl dX1_init_52 ?_
  refine o_qlen (v := 4) hX 3 20003 2 rfl rfl rfl rfl rfl dX1_init_55 ?_
  refine o_icmp_ge_f (tgt := 78) hX dX1_init_56 (by decide) (by decide) ?_
  refine o_aload_n hX dX1_init_59 rfl ?_
  refine o_get (j := 1) hX cp_1 fl_X1_20 rfl rfl dX1_init_60 ?_
  refine o_iload_n hX dX1_init_63 rfl ?_
  refine o_newC hX cp_4 cl_X1_18 it_X4 in_X4 (fun j hj => by rcases (show j = 0 ∨ j = 1 ∨ j = 2 ∨ j = 3 ∨ j = 4 ∨ j = 5 ∨ j = 6 by omega) with rfl | rfl | rfl | rfl | rfl | rfl | rfl <;> rfl) (ct_X4_init (xG X) (xl X)) wc_X4_init wi_X4_init (Or.inr ⟨2, rfl⟩) rfl rfl ⟨by decide, by decide, by decide +kernel⟩ (by decide +kernel) rfl rfl rfl rfl dX1_init_64 dX1_init_67 dX1_init_68 ?_
  refine o_aast (N := 4) hX 3 20003 20004 13 5 2 4 rfl rfl rfl rfl rfl rfl rfl rfl (by unfold vp_in; decide) rfl (fun q => ast_f (t := 3) (g := fun i => a + 1 + 3 + 1 + 3 * i) (by omega) q) dX1_init_71 ?_
  refine o_iinc (x' := 4) hX dX1_init_72 (by decide) rfl rfl rfl ?_
  refine o_goto (tgt := 50) hX dX1_init_75 (by decide) ?_
  refine o_iload_n hX dX1_init_50 rfl ?_
  refine o_aload_n hX dX1_init_51 rfl ?_
  refine o_get (j := 1) hX cp_1 fl_X1_20 rfl rfl dX1_init_52 ?_
  refine o_qlen (v := 4) hX 3 20004 2 rfl rfl rfl rfl rfl dX1_init_55 ?_
  refine o_icmp_ge_t (tgt := 78) hX dX1_init_56 (by decide) (by decide) ?_
  exact hret _ _ dX1_init_78
def kcX6 : List Nat := [7, 2, 1, 103, 103, 20004, 5, 109, 116, 5, 109, 116, 5, 109, 116, 5, 109, 116, 200]
set_option maxHeartbeats 8000000 in
set_option maxRecDepth 200000 in
theorem ct_X6_init (G : GX) (l : Launch) : CtrC G l yX6_init cX6_init 1 3 53 6 [.int 0, .null, .null, .int 0, .int 0] 18 251 kcX6 := by
  unfold kcX6
  refine ctrC_of (by decide) rfl rfl rfl rfl [some (.ref 0)] rfl (fun _ => rfl) fun a X e1 e2 hX hret => ?_
  subst e1; subst e2
  refine o_aload_n hX dX6_init_0 rfl ?_
  refine o_objInit hX ml_X6_3 dX6_init_1 rfl rfl ?_
  refine o_aload_n hX dX6_init_4 rfl ?_
  refine o_iconst (v := 0) hX dX6_init_5 rfl ?_
  refine o_put (j := 0) (ty := .int) hX cp_6 fl_X6_9 rfl rfl (by decide +kernel) rfl rfl rfl dX6_init_6 ?_
  refine o_aload_n hX dX6_init_9 rfl ?_
  refine o_newC hX cp_1 cl_X6_15 it_X1 in_X1 (fun j hj => by rcases (show j = 0 ∨ j = 1 ∨ j = 2 ∨ j = 3 ∨ j = 4 ∨ j = 5 ∨ j = 6 by omega) with rfl | rfl | rfl | rfl | rfl | rfl | rfl <;> rfl) (ct_X1_init (xG X) (xl X)) wc_X1_init wi_X1_init (Or.inl ml_X6_17) rfl rfl ⟨by decide, by decide, by decide +kernel⟩ (by decide +kernel) rfl rfl rfl rfl dX6_init_10 dX6_init_13 dX6_init_14 ?_
  refine o_putF (j := 1) (ty := .object "ShelfFilters$Net") hX cp_6 fl_X6_18 rfl rfl rfl (by decide +kernel) rfl rfl rfl dX6_init_17 ?_
  refine o_aload_n hX dX6_init_20 rfl ?_
  refine o_bipush (v := 100) hX dX6_init_21 (by decide) ?_
  refine o_newa (atype := .int) (N := 100) (c := 200) hX ac_int (gcI (xG X)) 0 rfl (fun C h => by cases h) (fun q => rfl) rfl (by decide) (by decide) (by decide) rfl rfl dX6_init_23 ?_
  refine o_putF (j := 2) (ty := .array .int) hX cp_6 fl_X6_22 rfl rfl rfl (by decide +kernel) rfl rfl rfl dX6_init_25 ?_
  refine o_aload_n hX dX6_init_28 rfl ?_
  refine o_iconst (v := 0) hX dX6_init_29 rfl ?_
  refine o_put (j := 3) (ty := .int) hX cp_6 fl_X6_26 rfl rfl (by decide +kernel) rfl rfl rfl dX6_init_30 ?_
  refine o_aload_n hX dX6_init_33 rfl ?_
  refine o_iconst (v := 0) hX dX6_init_34 rfl ?_
  refine o_put (j := 4) (ty := .int) hX cp_6 fl_X6_29 rfl rfl (by decide +kernel) rfl rfl rfl dX6_init_35 ?_
  exact hret _ _ dX6_init_38
def kcX3 : List Nat := [4, 20114, 2, 1, 103, 103, 20004, 5, 109, 116, 5, 109, 116, 5, 109, 116, 5, 109, 116, 2, 1, 103, 103, 20004, 5, 109, 116, 5, 109, 116, 5, 109, 116, 5, 109, 116, 2, 1, 103, 103, 20004, 5, 109, 116, 5, 109, 116, 5, 109, 116, 5, 109, 116, 2, 1, 103, 103, 20004, 5, 109, 116, 5, 109, 116, 5, 109, 116, 5, 109, 116, 2, 1, 103, 103, 20004, 5, 109, 116, 5, 109, 116, 5, 109, 116, 5, 109, 116, 2, 1, 103, 103, 20004, 5, 109, 116, 5, 109, 116, 5, 109, 116, 5, 109, 116, 2, 1, 103, 103, 20004, 5, 109, 116, 5, 109, 116, 5, 109, 116, 5, 109, 116, 2, 1, 103, 103, 20004, 5, 109, 116, 5, 109, 116, 5, 109, 116, 5, 109, 116, 2, 1, 103, 103, 20004, 5, 109, 116, 5, 109, 116, 5, 109, 116, 5, 109, 116, 2, 1, 103, 103, 20004, 5, 109, 116, 5, 109, 116, 5, 109, 116, 5, 109, 116, 2, 1, 103, 103, 20004, 5, 109, 116, 5, 109, 116, 5, 109, 116, 5, 109, 116, 2, 1, 103, 103, 20004, 5, 109, 116, 5, 109, 116, 5, 109, 116, 5, 109, 116, 2, 1, 103, 103, 20004, 5, 109, 116, 5, 109, 116, 5, 109, 116, 5, 109, 116, 2, 1, 103, 103, 20004, 5, 109, 116, 5, 109, 116, 5, 109, 116, 5, 109, 116]
set_option maxHeartbeats 8000000 in
set_option maxRecDepth 200000 in
theorem ct_X3_init (G : GX) (l : Launch) : CtrC G l yX3_init cX3_init 2 3 53 3 [.null, .int 0, .int 0] 239 2128 kcX3 := by
  unfold kcX3
  refine ctrC_of (by decide) rfl rfl rfl rfl [some (.ref 0), none] rfl (fun _ => rfl) fun a X e1 e2 hX hret => ?_
  subst e1; subst e2
  refine o_aload_n hX dX3_init_0 rfl ?_
  refine o_objInit hX ml_X3_3 dX3_init_1 rfl rfl ?_
  refine o_aload_n hX dX3_init_4 rfl ?_
  refine o_bipush (v := 14) hX dX3_init_5 (by decide) ?_
  refine o_newq (N := 14) (c := 20100) hX cl_X3_9 (fun h => h.2.2) (gcN (xG X)) 3 rfl (fun q => ⟨_, rfl⟩) (by decide) (by decide) (by decide) rfl rfl dX3_init_7 ?_
  refine o_putF (j := 0) (ty := .array (.object "ShelfFilters$Net")) hX cp_3 fl_X3_11 rfl rfl rfl (by decide +kernel) rfl rfl rfl dX3_init_10 ?_
  refine o_aload_n hX dX3_init_13 rfl ?_
  refine o_iconst (v := 0) hX dX3_init_14 rfl ?_
  refine o_put (j := 1) (ty := .int) hX cp_3 fl_X3_17 rfl rfl (by decide +kernel) rfl rfl rfl dX3_init_15 ?_
  refine o_aload_n hX dX3_init_18 rfl ?_
  refine o_iconst (v := 0) hX dX3_init_19 rfl ?_
  refine o_put (j := 2) (ty := .int) hX cp_3 fl_X3_21 rfl rfl (by decide +kernel) rfl rfl rfl dX3_init_20 ?_
  refine o_iconst (v := 0) hX dX3_init_23 rfl ?_
  refine o_istore_n hX dX3_init_24 rfl rfl ?_
  refine o_iload_n hX dX3_init_25 rfl ?_
  refine o_aload_n hX dX3_init_26 rfl ?_
  refine o_get (j := 0) hX cp_3 fl_X3_11 rfl rfl dX3_init_27 ?_
  refine o_qlen (v := 14) hX 0 20100 3 rfl rfl rfl rfl rfl dX3_init_30 ?_
  refine o_icmp_ge_f (tgt := 53) hX dX3_init_31 (by decide) (by decide) ?_
  refine o_aload_n hX dX3_init_34 rfl ?_
  refine o_get (j := 0) hX cp_3 fl_X3_11 rfl rfl dX3_init_35 ?_
  refine o_iload_n hX dX3_init_38 rfl ?_
  refine o_newC hX cp_1 cl_X3_9 it_X1 in_X1 (fun j hj => by rcases (show j = 0 ∨ j = 1 ∨ j = 2 ∨ j = 3 ∨ j = 4 ∨ j = 5 ∨ j = 6 by omega) with rfl | rfl | rfl | rfl | rfl | rfl | rfl <;> rfl) (ct_X1_init (xG X) (xl X)) wc_X1_init wi_X1_init (Or.inl ml_X3_24) rfl rfl ⟨by decide, by decide, by decide +kernel⟩ (by decide +kernel) rfl rfl rfl rfl dX3_init_39 dX3_init_42 dX3_init_43 ?_
  refine o_aast (N := 14) hX 0 20100 20101 1 2 3 1 rfl rfl rfl rfl rfl rfl rfl rfl (by unfold vp_in; decide) rfl (fun q => ast_f (t := 0) (g := fun i => a + 1 + 0 + 1 + 17 * i) (by omega) q) dX3_init_46 ?_
  refine o_iinc (x' := 1) hX dX3_init_47 (by decide) rfl rfl rfl ?_
  refine o_goto (tgt := 25) hX dX3_init_50 (by decide) ?_
  refine o_iload_n hX dX3_init_25 rfl ?_
  refine o_aload_n hX dX3_init_26 rfl ?_
  refine o_get (j := 0) hX cp_3 fl_X3_11 rfl rfl dX3_init_27 ?_
  refine o_qlen (v := 14) hX 0 20101 3 rfl rfl rfl rfl rfl dX3_init_30 ?_
  refine o_icmp_ge_f (tgt := 53) hX dX3_init_31 (by decide) (by decide) ?_
  refine o_aload_n hX dX3_init_34 rfl ?_
  refine o_get (j := 0) hX cp_3 fl_X3_11 rfl rfl dX3_init_35 ?_
  refine o_iload_n hX dX3_init_38 rfl ?_
  refine o_newC hX cp_1 cl_X3_9 it_X1 in_X1 (fun j hj => by rcases (show j = 0 ∨ j = 1 ∨ j = 2 ∨ j = 3 ∨ j = 4 ∨ j = 5 ∨ j = 6 by omega) with rfl | rfl | rfl | rfl | rfl | rfl | rfl <;> rfl) (ct_X1_init (xG X) (xl X)) wc_X1_init wi_X1_init (Or.inl ml_X3_24) rfl rfl ⟨by decide, by decide, by decide +kernel⟩ (by decide +kernel) rfl rfl rfl rfl dX3_init_39 dX3_init_42 dX3_init_43 ?_
  refine o_aast (N := 14) hX 0 20101 20102 18 2 3 1 rfl rfl rfl rfl rfl rfl rfl rfl (by unfold vp_in; decide) rfl (fun q => ast_f (t := 1) (g := fun i => a + 1 + 0 + 1 + 17 * i) (by omega) q) dX3_init_46 ?_
  refine o_iinc (x' := 2) hX dX3_init_47 (by decide) rfl rfl rfl ?_
  refine o_goto (tgt := 25) hX dX3_init_50 (by decide) ?_
  refine o_iload_n hX dX3_init_25 rfl ?_
  refine o_aload_n hX dX3_init_26 rfl ?_
  refine o_get (j := 0) hX cp_3 fl_X3_11 rfl rfl dX3_init_27 ?_
  refine o_qlen (v := 14) hX 0 20102 3 rfl rfl rfl rfl rfl dX3_init_30 ?_
  refine o_icmp_ge_f (tgt := 53) hX dX3_init_31 (by decide) (by decide) ?_
  refine o_aload_n hX dX3_init_34 rfl ?_
  refine o_get (j := 0) hX cp_3 fl_X3_11 rfl rfl dX3_init_35 ?_
  refine o_iload_n hX dX3_init_38 rfl ?_
  refine o_newC hX cp_1 cl_X3_9 it_X1 in_X1 (fun j hj => by rcases (show j = 0 ∨ j = 1 ∨ j = 2 ∨ j = 3 ∨ j = 4 ∨ j = 5 ∨ j = 6 by omega) with rfl | rfl | rfl | rfl | rfl | rfl | rfl <;> rfl) (ct_X1_init (xG X) (xl X)) wc_X1_init wi_X1_init (Or.inl ml_X3_24) rfl rfl ⟨by decide, by decide, by decide +kernel⟩ (by decide +kernel) rfl rfl rfl rfl dX3_init_39 dX3_init_42 dX3_init_43 ?_
  refine o_aast (N := 14) hX 0 20102 20103 35 2 3 1 rfl rfl rfl rfl rfl rfl rfl rfl (by unfold vp_in; decide) rfl (fun q => ast_f (t := 2) (g := fun i => a + 1 + 0 + 1 + 17 * i) (by omega) q) dX3_init_46 ?_
  refine o_iinc (x' := 3) hX dX3_init_47 (by decide) rfl rfl rfl ?_
  refine o_goto (tgt := 25) hX dX3_init_50 (by decide) ?_
  refine o_iload_n hX dX3_init_25 rfl ?_
  refine o_aload_n hX dX3_init_26 rfl ?_
  refine o_get (j := 0) hX cp_3 fl_X3_11 rfl rfl dX3_init_27 ?_
  refine o_qlen (v := 14) hX 0 20103 3 rfl rfl rfl rfl rfl dX3_init_30 ?_
  refine o_icmp_ge_f (tgt := 53) hX dX3_init_31 (by decide) (by decide) ?_
  refine o_aload_n hX dX3_init_34 rfl ?_
  refine o_get (j := 0) hX cp_3 fl_X3_11 rfl rfl dX3_init_35 ?_
  refine o_iload_n hX dX3_init_38 rfl ?_
  refine o_newC hX cp_1 cl_X3_9 it_X1 in_X1 (fun j hj => by rcases (show j = 0 ∨ j = 1 ∨ j = 2 ∨ j = 3 ∨ j = 4 ∨ j = 5 ∨ j = 6 by omega) with rfl | rfl | rfl | rfl | rfl | rfl | rfl <;> rfl) (ct_X1_init (xG X) (xl X)) wc_X1_init wi_X1_init (Or.inl ml_X3_24) rfl rfl ⟨by decide, by decide, by decide +kernel⟩ (by decide +kernel) rfl rfl rfl rfl dX3_init_39 dX3_init_42 dX3_init_43 ?_
  refine o_aast (N := 14) hX 0 20103 20104 52 2 3 1 rfl rfl rfl rfl rfl rfl rfl rfl (by unfold vp_in; decide) rfl (fun q => ast_f (t := 3) (g := fun i => a + 1 + 0 + 1 + 17 * i) (by omega) q) dX3_init_46 ?_
  refine o_iinc (x' := 4) hX dX3_init_47 (by decide) rfl rfl rfl ?_
  refine o_goto (tgt := 25) hX dX3_init_50 (by decide) ?_
  refine o_iload_n hX dX3_init_25 rfl ?_
  refine o_aload_n hX dX3_init_26 rfl ?_
  refine o_get (j := 0) hX cp_3 fl_X3_11 rfl rfl dX3_init_27 ?_
  refine o_qlen (v := 14) hX 0 20104 3 rfl rfl rfl rfl rfl dX3_init_30 ?_
  refine o_icmp_ge_f (tgt := 53) hX dX3_init_31 (by decide) (by decide) ?_
  refine o_aload_n hX dX3_init_34 rfl ?_
  refine o_get (j := 0) hX cp_3 fl_X3_11 rfl rfl dX3_init_35 ?_
  refine o_iload_n hX dX3_init_38 rfl ?_
  refine o_newC hX cp_1 cl_X3_9 it_X1 in_X1 (fun j hj => by rcases (show j = 0 ∨ j = 1 ∨ j = 2 ∨ j = 3 ∨ j = 4 ∨ j = 5 ∨ j = 6 by omega) with rfl | rfl | rfl | rfl | rfl | rfl | rfl <;> rfl) (ct_X1_init (xG X) (xl X)) wc_X1_init wi_X1_init (Or.inl ml_X3_24) rfl rfl ⟨by decide, by decide, by decide +kernel⟩ (by decide +kernel) rfl rfl rfl rfl dX3_init_39 dX3_init_42 dX3_init_43 ?_
  refine o_aast (N := 14) hX 0 20104 20105 69 2 3 1 rfl rfl rfl rfl rfl rfl rfl rfl (by unfold vp_in; decide) rfl (fun q => ast_f (t := 4) (g := fun i => a + 1 + 0 + 1 + 17 * i) (by omega) q) dX3_init_46 ?_
  refine o_iinc (x' := 5) hX dX3_init_47 (by decide) rfl rfl rfl ?_
  refine o_goto (tgt := 25) hX dX3_init_50 (by decide) ?_
  refine o_iload_n hX dX3_init_25 rfl ?_
  refine o_aload_n hX dX3_init_26 rfl ?_
  refine o_get (j := 0) hX cp_3 fl_X3_11 rfl rfl dX3_init_27 ?_
  refine o_qlen (v := 14) hX 0 20105 3 rfl rfl rfl rfl rfl dX3_init_30 ?_
  refine o_icmp_ge_f (tgt := 53) hX dX3_init_31 (by decide) (by decide) ?_
  refine o_aload_n hX dX3_init_34 rfl ?_
  refine o_get (j := 0) hX cp_3 fl_X3_11 rfl rfl dX3_init_35 ?_
  refine o_iload_n hX dX3_init_38 rfl ?_
  refine o_newC hX cp_1 cl_X3_9 it_X1 in_X1 (fun j hj => by rcases (show j = 0 ∨ j = 1 ∨ j = 2 ∨ j = 3 ∨ j = 4 ∨ j = 5 ∨ j = 6 by omega) with rfl | rfl | rfl | rfl | rfl | rfl | rfl <;> rfl) (ct_X1_init (xG X) (xl X)) wc_X1_init wi_X1_init (Or.inl ml_X3_24) rfl rfl ⟨by decide, by decide, by decide +kernel⟩ (by decide +kernel) rfl rfl rfl rfl dX3_init_39 dX3_init_42 dX3_init_43 ?_
  refine o_aast (N := 14) hX 0 20105 20106 86 2 3 1 rfl rfl rfl rfl rfl rfl rfl rfl (by unfold vp_in; decide) rfl (fun q => ast_f (t := 5) (g := fun i => a + 1 + 0 + 1 + 17 * i) (by omega) q) dX3_init_46 ?_
  refine o_iinc (x' := 6) hX dX3_init_47 (by decide) rfl rfl rfl ?_
  refine o_goto (tgt := 25) hX dX3_init_50 (by decide) ?_
  refine o_iload_n hX dX3_init_25 rfl ?_
  refine o_aload_n hX dX3_init_26 rfl ?_
  refine o_get (j := 0) hX cp_3 fl_X3_11 rfl rfl dX3_init_27 ?_
  refine o_qlen (v := 14) hX 0 20106 3 rfl rfl rfl rfl rfl dX3_init_30 ?_
  refine o_icmp_ge_f (tgt := 53) hX dX3_init_31 (by decide) (by decide) ?_
  refine o_aload_n hX dX3_init_34 rfl ?_
  refine o_get (j := 0) hX cp_3 fl_X3_11 rfl rfl dX3_init_35 ?_
  refine o_iload_n hX dX3_init_38 rfl ?_
  refine o_newC hX cp_1 cl_X3_9 it_X1 in_X1 (fun j hj => by rcases (show j = 0 ∨ j = 1 ∨ j = 2 ∨ j = 3 ∨ j = 4 ∨ j = 5 ∨ j = 6 by omega) with rfl | rfl | rfl | rfl | rfl | rfl | rfl <;> rfl) (ct_X1_init (xG X) (xl X)) wc_X1_init wi_X1_init (Or.inl ml_X3_24) rfl rfl ⟨by decide, by decide, by decide +kernel⟩ (by decide +kernel) rfl rfl rfl rfl dX3_init_39 dX3_init_42 dX3_init_43 ?_
  refine o_aast (N := 14) hX 0 20106 20107 103 2 3 1 rfl rfl rfl rfl rfl rfl rfl rfl (by unfold vp_in; decide) rfl (fun q => ast_f (t := 6) (g := fun i => a + 1 + 0 + 1 + 17 * i) (by omega) q) dX3_init_46 ?_
  refine o_iinc (x' := 7) hX dX3_init_47 (by decide) rfl rfl rfl ?_
  refine o_goto (tgt := 25) hX dX3_init_50 (by decide) ?_
  refine o_iload_n hX dX3_init_25 rfl ?_
  refine o_aload_n hX dX3_init_26 rfl ?_
  refine o_get (j := 0) hX cp_3 fl_X3_11 rfl rfl dX3_init_27 ?_
  refine o_qlen (v := 14) hX 0 20107 3 rfl rfl rfl rfl rfl dX3_init_30 ?_
  refine o_icmp_ge_f (tgt := 53) hX dX3_init_31 (by decide) (by decide) ?_
  refine o_aload_n hX dX3_init_34 rfl ?_
  refine o_get (j := 0) hX cp_3 fl_X3_11 rfl rfl dX3_init_35 ?_
  refine o_iload_n hX dX3_init_38 rfl ?_
  refine o_newC hX cp_1 cl_X3_9 it_X1 in_X1 (fun j hj => by rcases (show j = 0 ∨ j = 1 ∨ j = 2 ∨ j = 3 ∨ j = 4 ∨ j = 5 ∨ j = 6 by omega) with rfl | rfl | rfl | rfl | rfl | rfl | rfl <;> rfl) (ct_X1_init (xG X) (xl X)) wc_X1_init wi_X1_init (Or.inl ml_X3_24) rfl rfl ⟨by decide, by decide, by decide +kernel⟩ (by decide +kernel) rfl rfl rfl rfl dX3_init_39 dX3_init_42 dX3_init_43 ?_
  refine o_aast (N := 14) hX 0 20107 20108 120 2 3 1 rfl rfl rfl rfl rfl rfl rfl rfl (by unfold vp_in; decide) rfl (fun q => ast_f (t := 7) (g := fun i => a + 1 + 0 + 1 + 17 * i) (by omega) q) dX3_init_46 ?_
  refine o_iinc (x' := 8) hX dX3_init_47 (by decide) rfl rfl rfl ?_
  refine o_goto (tgt := 25) hX dX3_init_50 (by decide) ?_
  refine o_iload_n hX dX3_init_25 rfl ?_
  refine o_aload_n hX dX3_init_26 rfl ?_
  refine o_get (j := 0) hX cp_3 fl_X3_11 rfl rfl dX3_init_27 ?_
  refine o_qlen (v := 14) hX 0 20108 3 rfl rfl rfl rfl rfl dX3_init_30 ?_
  refine o_icmp_ge_f (tgt := 53) hX dX3_init_31 (by decide) (by decide) ?_
  refine o_aload_n hX dX3_init_34 rfl ?_
  refine o_get (j := 0) hX cp_3 fl_X3_11 rfl rfl dX3_init_35 ?_
  refine o_iload_n hX dX3_init_38 rfl ?_
  refine o_newC hX cp_1 cl_X3_9 it_X1 in_X1 (fun j hj => by rcases (show j = 0 ∨ j = 1 ∨ j = 2 ∨ j = 3 ∨ j = 4 ∨ j = 5 ∨ j = 6 by omega) with rfl | rfl | rfl | rfl | rfl | rfl | rfl <;> rfl) (ct_X1_init (xG X) (xl X)) wc_X1_init wi_X1_init (Or.inl ml_X3_24) rfl rfl ⟨by decide, by decide, by decide +kernel⟩ (by decide +kernel) rfl rfl rfl rfl dX3_init_39 dX3_init_42 dX3_init_43 ?_
  refine o_aast (N := 14) hX 0 20108 20109 137 2 3 1 rfl rfl rfl rfl rfl rfl rfl rfl (by unfold vp_in; decide) rfl (fun q => ast_f (t := 8) (g := fun i => a + 1 + 0 + 1 + 17 * i) (by omega) q) dX3_init_46 ?_
  refine o_iinc (x' := 9) hX dX3_init_47 (by decide) rfl rfl rfl ?_
  refine o_goto (tgt := 25) hX dX3_init_50 (by decide) ?_
  refine o_iload_n hX dX3_init_25 rfl ?_
  refine o_aload_n hX dX3_init_26 rfl ?_
  refine o_get (j := 0) hX cp_3 fl_X3_11 rfl rfl dX3_init_27 ?_
  refine o_qlen (v := 14) hX 0 20109 3 rfl rfl rfl rfl rfl dX3_init_30 ?_
  refine o_icmp_ge_f (tgt := 53) hX dX3_init_31 (by decide) (by decide) ?_
  refine o_aload_n hX dX3_init_34 rfl ?_
  refine o_get (j := 0) hX cp_3 fl_X3_11 rfl rfl dX3_init_35 ?_
  refine o_iload_n hX dX3_init_38 rfl ?_
  refine o_newC hX cp_1 cl_X3_9 it_X1 in_X1 (fun j hj => by rcases (show j = 0 ∨ j = 1 ∨ j = 2 ∨ j = 3 ∨ j = 4 ∨ j = 5 ∨ j = 6 by omega) with rfl | rfl | rfl | rfl | rfl | rfl | rfl <;> rfl) (ct_X1_init (xG X) (xl X)) wc_X1_init wi_X1_init (Or.inl ml_X3_24) rfl rfl ⟨by decide, by decide, by decide +kernel⟩ (by decide +kernel) rfl rfl rfl rfl dX3_init_39 dX3_init_42 dX3_init_43 ?_
  refine o_aast (N := 14) hX 0 20109 20110 154 2 3 1 rfl rfl rfl rfl rfl rfl rfl rfl (by unfold vp_in; decide) rfl (fun q => ast_f (t := 9) (g := fun i => a + 1 + 0 + 1 + 17 * i) (by omega) q) dX3_init_46 ?_
  refine o_iinc (x' := 10) hX dX3_init_47 (by decide) rfl rfl rfl ?_
  refine o_goto (tgt := 25) hX dX3_init_50 (by decide) ?_
  refine o_iload_n hX dX3_init_25 rfl ?_
  refine o_aload_n hX dX3_init_26 rfl ?_
  refine o_get (j := 0) hX cp_3 fl_X3_11 rfl rfl dX3_init_27 ?_
  refine o_qlen (v := 14) hX 0 20110 3 rfl rfl rfl rfl rfl dX3_init_30 ?_
  refine o_icmp_ge_f (tgt := 53) hX dX3_init_31 (by decide) (by decide) ?_
  refine o_aload_n hX dX3_init_34 rfl ?_
  refine o_get (j := 0) hX cp_3 fl_X3_11 rfl rfl dX3_init_35 ?_
  refine o_iload_n hX dX3_init_38 rfl ?_
  refine o_newC hX cp_1 cl_X3_9 it_X1 in_X1 (fun j hj => by rcases (show j = 0 ∨ j = 1 ∨ j = 2 ∨ j = 3 ∨ j = 4 ∨ j = 5 ∨ j = 6 by omega) with rfl | rfl | rfl | rfl | rfl | rfl | rfl <;> rfl) (ct_X1_init (xG X) (xl X)) wc_X1_init wi_X1_init (Or.inl ml_X3_24) rfl rfl ⟨by decide, by decide, by decide +kernel⟩ (by decide +kernel) rfl rfl rfl rfl dX3_init_39 dX3_init_42 dX3_init_43 ?_
  refine o_aast (N := 14) hX 0 20110 20111 171 2 3 1 rfl rfl rfl rfl rfl rfl rfl rfl (by unfold vp_in; decide) rfl (fun q => ast_f (t := 10) (g := fun i => a + 1 + 0 + 1 + 17 * i) (by omega) q) dX3_init_46 ?_
  refine o_iinc (x' := 11) hX dX3_init_47 (by decide) rfl rfl rfl ?_
  refine o_goto (tgt := 25) hX dX3_init_50 (by decide) ?_
  refine o_iload_n hX dX3_init_25 rfl ?_
  refine o_aload_n hX dX3_init_26 rfl ?_
  refine o_get (j := 0) hX cp_3 fl_X3_11 rfl rfl dX3_init_27 ?_
  refine o_qlen (v := 14) hX 0 20111 3 rfl rfl rfl rfl rfl dX3_init_30 ?_
  refine o_icmp_ge_f (tgt := 53) hX dX3_init_31 (by decide) (by decide) ?_
  refine o_aload_n hX dX3_init_34 rfl ?_
  refine o_get (j := 0) hX cp_3 fl_X3_11 rfl rfl dX3_init_35 ?_
  refine o_iload_n hX dX3_init_38 rfl ?_
  refine o_newC hX cp_1 cl_X3_9 it_X1 in_X1 (fun j hj => by rcases (show j = 0 ∨ j = 1 ∨ j = 2 ∨ j = 3 ∨ j = 4 ∨ j = 5 ∨ j = 6 by omega) with rfl | rfl | rfl | rfl | rfl | rfl | rfl <;> rfl) (ct_X1_init (xG X) (xl X)) wc_X1_init wi_X1_init (Or.inl ml_X3_24) rfl rfl ⟨by decide, by decide, by decide +kernel⟩ (by decide +kernel) rfl rfl rfl rfl dX3_init_39 dX3_init_42 dX3_init_43 ?_
  refine o_aast (N := 14) hX 0 20111 20112 188 2 3 1 rfl rfl rfl rfl rfl rfl rfl rfl (by unfold vp_in; decide) rfl (fun q => ast_f (t := 11) (g := fun i => a + 1 + 0 + 1 + 17 * i) (by omega) q) dX3_init_46 ?_
  refine o_iinc (x' := 12) hX dX3_init_47 (by decide) rfl rfl rfl ?_
  refine o_goto (tgt := 25) hX dX3_init_50 (by decide) ?_
  refine o_iload_n hX dX3_init_25 rfl ?_
  refine o_aload_n hX dX3_init_26 rfl ?_
  refine o_get (j := 0) hX cp_3 fl_X3_11 rfl rfl dX3_init_27 ?_
  refine o_qlen (v := 14) hX 0 20112 3 rfl rfl rfl rfl rfl dX3_init_30 ?_
  refine o_icmp_ge_f (tgt := 53) hX dX3_init_31 (by decide) (by decide) ?_
  refine o_aload_n hX dX3_init_34 rfl ?_
  refine o_get (j := 0) hX cp_3 fl_X3_11 rfl rfl dX3_init_35 ?_
  refine o_iload_n hX dX3_init_38 rfl ?_
  refine o_newC hX cp_1 cl_X3_9 it_X1 in_X1 (fun j hj => by rcases (show j = 0 ∨ j = 1 ∨ j = 2 ∨ j = 3 ∨ j = 4 ∨ j = 5 ∨ j = 6 by omega) with rfl | rfl | rfl | rfl | rfl | rfl | rfl <;> rfl) (ct_X1_init (xG X) (xl X)) wc_X1_init wi_X1_init (Or.inl ml_X3_24) rfl rfl ⟨by decide, by decide, by decide +kernel⟩ (by decide +kernel) rfl rfl rfl rfl dX3_init_39 dX3_init_42 dX3_init_43 ?_
  refine o_aast (N := 14) hX 0 20112 20113 205 2 3 1 rfl rfl rfl rfl rfl rfl rfl rfl (by unfold vp_in; decide) rfl (fun q => ast_f (t := 12) (g := fun i => a + 1 + 0 + 1 + 17 * i) (by omega) q) dX3_init_46 ?_
  refine o_iinc (x' := 13) hX dX3_init_47 (by decide) rfl rfl rfl ?_
  refine o_goto (tgt := 25) hX dX3_init_50 (by decide) ?_
  refine o_iload_n hX dX3_init_25 rfl ?_
  refine o_aload_n hX dX3_init_26 rfl ?_
  refine o_get (j := 0) hX cp_3 fl_X3_11 rfl rfl dX3_init_27 ?_
  refine o_qlen (v := 14) hX 0 20113 3 rfl rfl rfl rfl rfl dX3_init_30 ?_
  refine o_icmp_ge_f (tgt := 53) hX dX3_init_31 (by decide) (by decide) ?_
  refine o_aload_n hX dX3_init_34 rfl ?_
  refine o_get (j := 0) hX cp_3 fl_X3_11 rfl rfl dX3_init_35 ?_
  refine o_iload_n hX dX3_init_38 rfl ?_
  refine o_newC hX cp_1 cl_X3_9 it_X1 in_X1 (fun j hj => by rcases (show j = 0 ∨ j = 1 ∨ j = 2 ∨ j = 3 ∨ j = 4 ∨ j = 5 ∨ j = 6 by omega) with rfl | rfl | rfl | rfl | rfl | rfl | rfl <;> rfl) (ct_X1_init (xG X) (xl X)) wc_X1_init wi_X1_init (Or.inl ml_X3_24) rfl rfl ⟨by decide, by decide, by decide +kernel⟩ (by decide +kernel) rfl rfl rfl rfl dX3_init_39 dX3_init_42 dX3_init_43 ?_
  refine o_aast (N := 14) hX 0 20113 20114 222 2 3 1 rfl rfl rfl rfl rfl rfl rfl rfl (by unfold vp_in; decide) rfl (fun q => ast_f (t := 13) (g := fun i => a + 1 + 0 + 1 + 17 * i) (by omega) q) dX3_init_46 ?_
  refine o_iinc (x' := 14) hX dX3_init_47 (by decide) rfl rfl rfl ?_
  refine o_goto (tgt := 25) hX dX3_init_50 (by decide) ?_
  refine o_iload_n hX dX3_init_25 rfl ?_
  refine o_aload_n hX dX3_init_26 rfl ?_
  refine o_get (j := 0) hX cp_3 fl_X3_11 rfl rfl dX3_init_27 ?_
  refine o_qlen (v := 14) hX 0 20114 3 rfl rfl rfl rfl rfl dX3_init_30 ?_
  refine o_icmp_ge_t (tgt := 53) hX dX3_init_31 (by decide) (by decide) ?_
  exact hret _ _ dX3_init_53

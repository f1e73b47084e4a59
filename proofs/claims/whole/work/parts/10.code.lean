noncomputable def X7_copyRow_B2 (a0 : Nat) (n0 : Nat) (a1 : Nat) (n1 : Nat) (k2 : HI → Int32 → Option (HI)) (I : HI) (x2 : Int32) : Option (HI) := if x2 < (Int32.ofNat n0) then if x2 < (Int32.ofNat n1) then gd (vp_in x2 n0) (gd (vp_in x2 n1) (lt1 (sI I a1 x2.toNatClampNeg ((I a0 x2.toNatClampNeg))) fun I_5 => lt1 (x2 + (1 : Int32)) fun x_6 => k2 I_5 x_6)) else some I else some I
set_option maxHeartbeats 4000000 in
set_option maxRecDepth 100000 in
theorem vX7_copyRow_2 {X : CX} {I' : HI} {J : HJ} (hX : OKX X cX7_copyRow RX7 0 0 3) (hret : RetV X cX7_copyRow I' J) (a0 : Nat) (n0 : Nat) (a1 : Nat) (n1 : Nat) (hk0 : gK (xG X) a0 = 100 + n0) (hk1 : gK (xG X) a1 = 100 + n1)   : ∀ (n : Nat) (I : HI) (x2 : Int32), wl2 (X7_copyRow_B2 a0 n0 a1 n1) n I x2 = some I' → V X I J 2 [some (.ref a0), some (.ref a1), some (.int x2)] [] := by
  refine wl2_V (P := fun (I : HI) (x2 : Int32) => V X I J 2 [some (.ref a0), some (.ref a1), some (.int x2)] []) ?_
  intro k2 hc2 I x2 hf
  unfold X7_copyRow_B2 at hf
  refine r_iload_n hX dX7_copyRow_2 rfl ?_
  refine r_aload_n hX dX7_copyRow_3 rfl ?_
  refine r_alen (n := n0) hX rfl hk0 rfl dX7_copyRow_4 ?_
  refine r_icmp_ge (tgt := 26) hX dX7_copyRow_5 (by decide) (fun c_1 => ?_) (fun c_1 => ?_)
  · have hf := hf_t c_1 hf
    refine r_iload_n hX dX7_copyRow_8 rfl ?_
    refine r_aload_n hX dX7_copyRow_9 rfl ?_
    refine r_alen (n := n1) hX rfl hk1 rfl dX7_copyRow_10 ?_
    refine r_icmp_ge (tgt := 26) hX dX7_copyRow_11 (by decide) (fun c_2 => ?_) (fun c_2 => ?_)
    · have hf := hf_t c_2 hf
      refine r_aload_n hX dX7_copyRow_14 rfl ?_
      refine r_iload_n hX dX7_copyRow_15 rfl ?_
      refine r_aload_n hX dX7_copyRow_16 rfl ?_
      refine r_iload_n hX dX7_copyRow_17 rfl ?_
      obtain ⟨g_3, hf⟩ := gd_some hf
      refine r_iald (n := n0) hX rfl hk0 g_3 dX7_copyRow_18 ?_
      obtain ⟨g_4, hf⟩ := gd_some hf
      obtain ⟨I_5, eI_5, hf⟩ := lt1_some hf
      refine r_iastE (n := n1) eI_5 hX rfl hk1 g_4 dX7_copyRow_19 ?_
      obtain ⟨x_6, ex_6, hf⟩ := lt1_some hf
      refine r_iincE (n' := 1) ex_6 hX dX7_copyRow_20 rfl rfl rfl rfl ?_
      refine r_goto (tgt := 2) hX dX7_copyRow_23 (by decide) ?_
      refine V.mask [true, true, true] ?_
      exact hc2 I_5 x_6 hf
    · have hf := hf_f c_2 hf
      cases hf
      exact hret _ _ dX7_copyRow_26
  · have hf := hf_f c_1 hf
    cases hf
    exact hret _ _ dX7_copyRow_26
noncomputable def f_X7_copyRow (I : HI) (a0 : Nat) (n0 : Nat) (a1 : Nat) (n1 : Nat) : Option (HI) := wl2 (X7_copyRow_B2 a0 n0 a1 n1) 5000 I ((0 : Int32))
set_option maxHeartbeats 4000000 in
set_option maxRecDepth 100000 in
theorem k_X7_copyRow {G : GX} {l : Launch} {I : HI} {J : HJ} {I' : HI} (hG : OKG G) {a0 : Nat} {n0 : Nat} {a1 : Nat} {n1 : Nat} (hk0 : gK G a0 = 100 + n0) (hk1 : gK G a1 = 100 + n1) (hf : f_X7_copyRow I a0 n0 a1 n1 = some I') : Ctr G l yX7_copyRow cX7_copyRow 3 none 0 0 [.ref a0, .ref a1] I J none I' J := by
  refine ctr_V hG (by decide) [some (.ref a0), some (.ref a1), none] rfl rfl fun X e1 e2 hX hret => ?_
  subst e1; subst e2
  unfold f_X7_copyRow at hf
  refine r_iconst (v := 0) hX dX7_copyRow_0 rfl ?_
  refine r_istore_n hX dX7_copyRow_1 rfl rfl ?_
  refine V.mask [true, true, true] ?_
  exact vX7_copyRow_2 hX hret a0 n0 a1 n1 hk0 hk1 5000 I ((0 : Int32)) hf
noncomputable def f_X0_take (I : HI) (a0 : Nat) (a1 : Nat) : Option (HI) := lt1 (sI I a0 0 ((I a1 0))) fun I_1 => lt1 (sI I_1 a0 1 ((I_1 a1 1))) fun I_2 => lt1 (sI I_2 a0 2 ((I_2 a1 2))) fun I_3 => lt1 (sI I_3 a0 3 ((I_3 a1 3))) fun I_4 => bd1 (f_X7_copyRow I_4 ((a1 + 1)) 3 ((a0 + 1)) 3) fun I_5 => bd1 (f_X7_copyRow I_5 ((a1 + 2)) 3 ((a0 + 2)) 3) fun I_7 => some I_7
set_option maxHeartbeats 4000000 in
set_option maxRecDepth 100000 in
theorem k_X0_take {G : GX} {l : Launch} {I : HI} {J : HJ} {I' : HI} (hG : OKG G) {a0 : Nat} {a1 : Nat} (hk0 : gK G a0 = 1) (hk1 : gK G a1 = 1) (hf : f_X0_take I a0 a1 = some I') : Ctr G l yX0_take cX0_take 2 none 1 22 [.ref a0, .ref a1] I J none I' J := by
  refine ctr_V hG (by decide) [some (.ref a0), some (.ref a1)] rfl rfl fun X e1 e2 hX hret => ?_
  subst e1; subst e2
  unfold f_X0_take at hf
  refine r_aload_n hX dX0_take_0 rfl ?_
  refine r_aload_n hX dX0_take_1 rfl ?_
  refine g_0_0 hX fl_X0_9 hk1 dX0_take_2 ?_
  obtain ⟨I_1, eI_1, hf⟩ := lt1_some hf
  refine p_0_0 eI_1 hX fl_X0_9 hk0 dX0_take_5 ?_
  refine r_aload_n hX dX0_take_8 rfl ?_
  refine r_aload_n hX dX0_take_9 rfl ?_
  refine g_0_1 hX fl_X0_15 hk1 dX0_take_10 ?_
  obtain ⟨I_2, eI_2, hf⟩ := lt1_some hf
  refine p_0_1 eI_2 hX fl_X0_15 hk0 dX0_take_13 ?_
  refine r_aload_n hX dX0_take_16 rfl ?_
  refine r_aload_n hX dX0_take_17 rfl ?_
  refine g_0_2 hX fl_X0_18 hk1 dX0_take_18 ?_
  obtain ⟨I_3, eI_3, hf⟩ := lt1_some hf
  refine p_0_2 eI_3 hX fl_X0_18 hk0 dX0_take_21 ?_
  refine r_aload_n hX dX0_take_24 rfl ?_
  refine r_aload_n hX dX0_take_25 rfl ?_
  refine g_0_3 hX fl_X0_21 hk1 dX0_take_26 ?_
  obtain ⟨I_4, eI_4, hf⟩ := lt1_some hf
  refine p_0_3 eI_4 hX fl_X0_21 hk0 dX0_take_29 ?_
  refine r_aload_n hX dX0_take_32 rfl ?_
  refine g_0_4 hX fl_X0_24 hk1 dX0_take_33 ?_
  refine r_aload_n hX dX0_take_36 rfl ?_
  refine g_0_4 hX fl_X0_24 hk0 dX0_take_37 ?_
  obtain ⟨I_5, h_6, hf⟩ := bd1_some hf
  refine r_callSN (As := [.ref ((a1 + 1)), .ref ((a0 + 1))]) hX (k_X7_copyRow (l := xl X) (J := J) hX.ok ((q_1_4 hX hk1)) ((q_1_4 hX hk0)) h_6) pk_X7_copyRow 6 rfl rfl rfl rfl (Nat.le_of_ble_eq_true rfl) dX0_take_40 ?_
  refine r_aload_n hX dX0_take_43 rfl ?_
  refine g_0_5 hX fl_X0_28 hk1 dX0_take_44 ?_
  refine r_aload_n hX dX0_take_47 rfl ?_
  refine g_0_5 hX fl_X0_28 hk0 dX0_take_48 ?_
  obtain ⟨I_7, h_8, hf⟩ := bd1_some hf
  refine r_callSN (As := [.ref ((a1 + 2)), .ref ((a0 + 2))]) hX (k_X7_copyRow (l := xl X) (J := J) hX.ok ((q_1_5 hX hk1)) ((q_1_5 hX hk0)) h_8) pk_X7_copyRow 6 rfl rfl rfl rfl (Nat.le_of_ble_eq_true rfl) dX0_take_51 ?_
  cases hf
  exact hret _ _ dX0_take_54
noncomputable def f_X0_begin (I : HI) (a0 : Nat) (x1 : Int32) (x2 : Int32) : Option (HI) := lt1 (sI I a0 0 x1) fun I_1 => lt1 (sI I_1 a0 1 x2) fun I_2 => lt1 (sI I_2 a0 2 ((0 : Int32))) fun I_3 => lt1 (sI I_3 a0 3 ((0 : Int32))) fun I_4 => some I_4
set_option maxHeartbeats 4000000 in
set_option maxRecDepth 100000 in
theorem k_X0_begin {G : GX} {l : Launch} {I : HI} {J : HJ} {I' : HI} (hG : OKG G) {a0 : Nat} {x1 : Int32} {x2 : Int32} (hk0 : gK G a0 = 1) (hf : f_X0_begin I a0 x1 x2 = some I') : Ctr G l yX0_begin cX0_begin 3 none 0 0 [.ref a0, .int x1, .int x2] I J none I' J := by
  refine ctr_V hG (by decide) [some (.ref a0), some (.int x1), some (.int x2)] rfl rfl fun X e1 e2 hX hret => ?_
  subst e1; subst e2
  unfold f_X0_begin at hf
  refine r_aload_n hX dX0_begin_0 rfl ?_
  refine r_iload_n hX dX0_begin_1 rfl ?_
  obtain ⟨I_1, eI_1, hf⟩ := lt1_some hf
  refine p_0_0 eI_1 hX fl_X0_9 hk0 dX0_begin_2 ?_
  refine r_aload_n hX dX0_begin_5 rfl ?_
  refine r_iload_n hX dX0_begin_6 rfl ?_
  obtain ⟨I_2, eI_2, hf⟩ := lt1_some hf
  refine p_0_1 eI_2 hX fl_X0_15 hk0 dX0_begin_7 ?_
  refine r_aload_n hX dX0_begin_10 rfl ?_
  refine r_iconst (v := 0) hX dX0_begin_11 rfl ?_
  obtain ⟨I_3, eI_3, hf⟩ := lt1_some hf
  refine p_0_2 eI_3 hX fl_X0_18 hk0 dX0_begin_12 ?_
  refine r_aload_n hX dX0_begin_15 rfl ?_
  refine r_iconst (v := 0) hX dX0_begin_16 rfl ?_
  obtain ⟨I_4, eI_4, hf⟩ := lt1_some hf
  refine p_0_3 eI_4 hX fl_X0_21 hk0 dX0_begin_17 ?_
  cases hf
  exact hret _ _ dX0_begin_20
noncomputable def f_X0_addFamily (I : HI) (a0 : Nat) (x1 : Int32) (x2 : Int32) : Option (HI) := if (I a0 2) < 0 then some I else if (I a0 2) < (3 : Int32) then if (I a0 2) < (3 : Int32) then gd (vp_in ((I a0 2)) 3) (lt1 (sI I ((a0 + 1)) ((I a0 2)).toNatClampNeg x1) fun I_5 => gd (vp_in ((I_5 a0 2)) 3) (lt1 (sI I_5 ((a0 + 2)) ((I_5 a0 2)).toNatClampNeg x2) fun I_7 => lt1 (sI I_7 a0 2 (((I_7 a0 2) + (1 : Int32)))) fun I_8 => some I_8)) else some I else some I
set_option maxHeartbeats 4000000 in
set_option maxRecDepth 100000 in
theorem k_X0_addFamily {G : GX} {l : Launch} {I : HI} {J : HJ} {I' : HI} (hG : OKG G) {a0 : Nat} {x1 : Int32} {x2 : Int32} (hk0 : gK G a0 = 1) (hf : f_X0_addFamily I a0 x1 x2 = some I') : Ctr G l yX0_addFamily cX0_addFamily 3 none 0 0 [.ref a0, .int x1, .int x2] I J none I' J := by
  refine ctr_V hG (by decide) [some (.ref a0), some (.int x1), some (.int x2)] rfl rfl fun X e1 e2 hX hret => ?_
  subst e1; subst e2
  unfold f_X0_addFamily at hf
  refine r_aload_n hX dX0_addFamily_0 rfl ?_
  refine g_0_2 hX fl_X0_18 hk0 dX0_addFamily_1 ?_
  refine r_if_lt (tgt := 61) hX dX0_addFamily_4 (by decide) (fun c_1 => ?_) (fun c_1 => ?_)
  · have hf := hf_t c_1 hf
    cases hf
    exact hret _ _ dX0_addFamily_61
  · have hf := hf_f c_1 hf
    refine r_aload_n hX dX0_addFamily_7 rfl ?_
    refine g_0_2 hX fl_X0_18 hk0 dX0_addFamily_8 ?_
    refine r_aload_n hX dX0_addFamily_11 rfl ?_
    refine g_0_4 hX fl_X0_24 hk0 dX0_addFamily_12 ?_
    refine r_alen (n := 3) (v := 3) hX rfl ((q_1_4 hX hk0)) (by decide) dX0_addFamily_15 ?_
    refine r_icmp_ge (tgt := 61) hX dX0_addFamily_16 (by decide) (fun c_2 => ?_) (fun c_2 => ?_)
    · have hf := hf_t c_2 hf
      refine r_aload_n hX dX0_addFamily_19 rfl ?_
      refine g_0_2 hX fl_X0_18 hk0 dX0_addFamily_20 ?_
      refine r_aload_n hX dX0_addFamily_23 rfl ?_
      refine g_0_5 hX fl_X0_28 hk0 dX0_addFamily_24 ?_
      refine r_alen (n := 3) (v := 3) hX rfl ((q_1_5 hX hk0)) (by decide) dX0_addFamily_27 ?_
      refine r_icmp_ge (tgt := 61) hX dX0_addFamily_28 (by decide) (fun c_3 => ?_) (fun c_3 => ?_)
      · have hf := hf_t c_3 hf
        refine r_aload_n hX dX0_addFamily_31 rfl ?_
        refine g_0_4 hX fl_X0_24 hk0 dX0_addFamily_32 ?_
        refine r_aload_n hX dX0_addFamily_35 rfl ?_
        refine g_0_2 hX fl_X0_18 hk0 dX0_addFamily_36 ?_
        refine r_iload_n hX dX0_addFamily_39 rfl ?_
        obtain ⟨g_4, hf⟩ := gd_some hf
        obtain ⟨I_5, eI_5, hf⟩ := lt1_some hf
        refine r_iastE (n := 3) eI_5 hX rfl ((q_1_4 hX hk0)) g_4 dX0_addFamily_40 ?_
        refine r_aload_n hX dX0_addFamily_41 rfl ?_
        refine g_0_5 hX fl_X0_28 hk0 dX0_addFamily_42 ?_
        refine r_aload_n hX dX0_addFamily_45 rfl ?_
        refine g_0_2 hX fl_X0_18 hk0 dX0_addFamily_46 ?_
        refine r_iload_n hX dX0_addFamily_49 rfl ?_
        obtain ⟨g_6, hf⟩ := gd_some hf
        obtain ⟨I_7, eI_7, hf⟩ := lt1_some hf
        refine r_iastE (n := 3) eI_7 hX rfl ((q_1_5 hX hk0)) g_6 dX0_addFamily_50 ?_
        refine r_aload_n hX dX0_addFamily_51 rfl ?_
        refine r_dup hX dX0_addFamily_52 rfl ?_
        refine g_0_2 hX fl_X0_18 hk0 dX0_addFamily_53 ?_
        refine r_iconst (v := 1) hX dX0_addFamily_56 rfl ?_
        refine r_iadd hX dX0_addFamily_57 ?_
        obtain ⟨I_8, eI_8, hf⟩ := lt1_some hf
        refine p_0_2 eI_8 hX fl_X0_18 hk0 dX0_addFamily_58 ?_
        cases hf
        exact hret _ _ dX0_addFamily_61
      · have hf := hf_f c_3 hf
        cases hf
        exact hret _ _ dX0_addFamily_61
    · have hf := hf_f c_2 hf
      cases hf
      exact hret _ _ dX0_addFamily_61
noncomputable def f_X0_isFamily (I : HI) (a0 : Nat) (x1 : Int32) : Option (Int32) := if x1 < 0 then some ((0 : Int32)) else if x1 < (I a0 2) then some ((1 : Int32)) else some ((0 : Int32))
set_option maxHeartbeats 4000000 in
set_option maxRecDepth 100000 in
theorem k_X0_isFamily {G : GX} {l : Launch} {I : HI} {J : HJ} {r : Int32} (hG : OKG G) {a0 : Nat} {x1 : Int32} (hk0 : gK G a0 = 1) (hf : f_X0_isFamily I a0 x1 = some r) : Ctr G l yX0_isFamily cX0_isFamily 2 (some .boolean) 0 0 [.ref a0, .int x1] I J (some (.int r)) I J := by
  refine ctr_Zb hG (by decide) [some (.ref a0), some (.int x1)] rfl rfl fun X e1 e2 hX hret => ?_
  subst e1; subst e2
  unfold f_X0_isFamily at hf
  refine r_iload_n hX dX0_isFamily_0 rfl ?_
  refine r_if_lt (tgt := 16) hX dX0_isFamily_1 (by decide) (fun c_1 => ?_) (fun c_1 => ?_)
  · have hf := hf_t c_1 hf
    refine r_iconst (v := 0) hX dX0_isFamily_16 rfl ?_
    cases hf
    exact hret _ _ zb_0 dX0_isFamily_17
  · have hf := hf_f c_1 hf
    refine r_iload_n hX dX0_isFamily_4 rfl ?_
    refine r_aload_n hX dX0_isFamily_5 rfl ?_
    refine g_0_2 hX fl_X0_18 hk0 dX0_isFamily_6 ?_
    refine r_icmp_ge (tgt := 16) hX dX0_isFamily_9 (by decide) (fun c_2 => ?_) (fun c_2 => ?_)
    · have hf := hf_t c_2 hf
      refine r_iconst (v := 1) hX dX0_isFamily_12 rfl ?_
      refine r_goto (tgt := 17) hX dX0_isFamily_13 (by decide) ?_
      cases hf
      exact hret _ _ zb_1 dX0_isFamily_17
    · have hf := hf_f c_2 hf
      refine r_iconst (v := 0) hX dX0_isFamily_16 rfl ?_
      cases hf
      exact hret _ _ zb_0 dX0_isFamily_17
noncomputable def f_X0_cell (I : HI) (a0 : Nat) (x1 : Int32) (x2 : Int32) (x3 : Int32) : Option (Int32) := if 0 < (I a0 0) then if x1 < 0 then some ((0 : Int32)) else if x1 < (3 : Int32) then if x1 < (3 : Int32) then gd (vp_in x1 3) (gd (vp_in x1 3) (gd (¬ (I a0 0) = 0) (some ((jrem ((jrem ((((I ((a0 + 1)) x1.toNatClampNeg) * x2) + (((I ((a0 + 2)) x1.toNatClampNeg) * (x3 + (1 : Int32))) * (x3 + (1 : Int32))))) ((37 : Int32)))) ((I a0 0))))))) else some ((0 : Int32)) else some ((0 : Int32)) else some ((0 : Int32))
set_option maxHeartbeats 4000000 in
set_option maxRecDepth 100000 in
theorem k_X0_cell {G : GX} {l : Launch} {I : HI} {J : HJ} {r : Int32} (hG : OKG G) {a0 : Nat} {x1 : Int32} {x2 : Int32} {x3 : Int32} (hk0 : gK G a0 = 1) (hf : f_X0_cell I a0 x1 x2 x3 = some r) : Ctr G l yX0_cell cX0_cell 4 (some .int) 0 0 [.ref a0, .int x1, .int x2, .int x3] I J (some (.int r)) I J := by
  refine ctr_I hG (by decide) [some (.ref a0), some (.int x1), some (.int x2), some (.int x3)] rfl rfl fun X e1 e2 hX hret => ?_
  subst e1; subst e2
  unfold f_X0_cell at hf
  refine r_aload_n hX dX0_cell_0 rfl ?_
  refine g_0_0 hX fl_X0_9 hk0 dX0_cell_1 ?_
  refine r_if_le (tgt := 29) hX dX0_cell_4 (by decide) (fun c_1 => ?_) (fun c_1 => ?_)
  · have hf := hf_t c_1 hf
    refine r_iload_n hX dX0_cell_7 rfl ?_
    refine r_if_lt (tgt := 29) hX dX0_cell_8 (by decide) (fun c_2 => ?_) (fun c_2 => ?_)
    · have hf := hf_t c_2 hf
      refine r_iconst (v := 0) hX dX0_cell_29 rfl ?_
      cases hf
      exact hret _ _ dX0_cell_30
    · have hf := hf_f c_2 hf
      refine r_iload_n hX dX0_cell_11 rfl ?_
      refine r_aload_n hX dX0_cell_12 rfl ?_
      refine g_0_4 hX fl_X0_24 hk0 dX0_cell_13 ?_
      refine r_alen (n := 3) (v := 3) hX rfl ((q_1_4 hX hk0)) (by decide) dX0_cell_16 ?_
      refine r_icmp_ge (tgt := 29) hX dX0_cell_17 (by decide) (fun c_3 => ?_) (fun c_3 => ?_)
      · have hf := hf_t c_3 hf
        refine r_iload_n hX dX0_cell_20 rfl ?_
        refine r_aload_n hX dX0_cell_21 rfl ?_
        refine g_0_5 hX fl_X0_28 hk0 dX0_cell_22 ?_
        refine r_alen (n := 3) (v := 3) hX rfl ((q_1_5 hX hk0)) (by decide) dX0_cell_25 ?_
        refine r_icmp_lt (tgt := 31) hX dX0_cell_26 (by decide) (fun c_4 => ?_) (fun c_4 => ?_)
        · have hf := hf_t c_4 hf
          refine r_aload_n hX dX0_cell_31 rfl ?_
          refine g_0_4 hX fl_X0_24 hk0 dX0_cell_32 ?_
          refine r_iload_n hX dX0_cell_35 rfl ?_
          obtain ⟨g_5, hf⟩ := gd_some hf
          refine r_iald (n := 3) hX rfl ((q_1_4 hX hk0)) g_5 dX0_cell_36 ?_
          refine r_iload_n hX dX0_cell_37 rfl ?_
          refine r_imul hX dX0_cell_38 ?_
          refine r_aload_n hX dX0_cell_39 rfl ?_
          refine g_0_5 hX fl_X0_28 hk0 dX0_cell_40 ?_
          refine r_iload_n hX dX0_cell_43 rfl ?_
          obtain ⟨g_6, hf⟩ := gd_some hf
          refine r_iald (n := 3) hX rfl ((q_1_5 hX hk0)) g_6 dX0_cell_44 ?_
          refine r_iload_n hX dX0_cell_45 rfl ?_
          refine r_iconst (v := 1) hX dX0_cell_46 rfl ?_
          refine r_iadd hX dX0_cell_47 ?_
          refine r_imul hX dX0_cell_48 ?_
          refine r_iload_n hX dX0_cell_49 rfl ?_
          refine r_iconst (v := 1) hX dX0_cell_50 rfl ?_
          refine r_iadd hX dX0_cell_51 ?_
          refine r_imul hX dX0_cell_52 ?_
          refine r_iadd hX dX0_cell_53 ?_
          refine r_bipush (v := 37) hX dX0_cell_54 (by decide) ?_
          refine r_irem hX dX0_cell_56 (by decide) ?_
          refine r_aload_n hX dX0_cell_57 rfl ?_
          refine g_0_0 hX fl_X0_9 hk0 dX0_cell_58 ?_
          obtain ⟨g_7, hf⟩ := gd_some hf
          refine r_irem hX dX0_cell_61 g_7 ?_
          cases hf
          exact hret _ _ dX0_cell_62
        · have hf := hf_f c_4 hf
          refine r_iconst (v := 0) hX dX0_cell_29 rfl ?_
          cases hf
          exact hret _ _ dX0_cell_30
      · have hf := hf_f c_3 hf
        refine r_iconst (v := 0) hX dX0_cell_29 rfl ?_
        cases hf
        exact hret _ _ dX0_cell_30
  · have hf := hf_f c_1 hf
    refine r_iconst (v := 0) hX dX0_cell_29 rfl ?_
    cases hf
    exact hret _ _ dX0_cell_30
noncomputable def X0_cellSet_B5 (I : HI) (a0 : Nat) (x1 : Int32) (x2 : Int32) (k5 : Int32 → Int32 → Option (Int32)) (x3 : Int32) (x4 : Int32) : Option (Int32) := if x4 < (I a0 1) then bd1 (f_X0_cell I a0 x1 x2 x4) fun r_2 => lt1 ((x3 ||| ((1 : Int32) <<< (r_2 &&& 31)))) fun x_4 => lt1 (x4 + (1 : Int32)) fun x_5 => k5 x_4 x_5 else some x3
set_option maxHeartbeats 4000000 in
set_option maxRecDepth 100000 in
theorem vX0_cellSet_5 {X : CX} {r : Int32} {I : HI} {J : HJ} (hX : OKX X cX0_cellSet RX0 1 23 5) (hret : RetI X cX0_cellSet r I J) (a0 : Nat) (x1 : Int32) (x2 : Int32) (hk0 : gK (xG X) a0 = 1)   : ∀ (n : Nat) (x3 : Int32) (x4 : Int32), wl2 (X0_cellSet_B5 I a0 x1 x2) n x3 x4 = some r → V X I J 5 [some (.ref a0), some (.int x1), some (.int x2), some (.int x3), some (.int x4)] [] := by
  refine wl2_V (P := fun (x3 : Int32) (x4 : Int32) => V X I J 5 [some (.ref a0), some (.int x1), some (.int x2), some (.int x3), some (.int x4)] []) ?_
  intro k5 hc5 x3 x4 hf
  unfold X0_cellSet_B5 at hf
  refine r_iload hX dX0_cellSet_5 rfl ?_
  refine r_aload_n hX dX0_cellSet_7 rfl ?_
  refine g_0_1 hX fl_X0_15 hk0 dX0_cellSet_8 ?_
  refine r_icmp_ge (tgt := 33) hX dX0_cellSet_11 (by decide) (fun c_1 => ?_) (fun c_1 => ?_)
  · have hf := hf_t c_1 hf
    refine r_iload_n hX dX0_cellSet_14 rfl ?_
    refine r_iconst (v := 1) hX dX0_cellSet_15 rfl ?_
    refine r_aload_n hX dX0_cellSet_16 rfl ?_
    refine r_iload_n hX dX0_cellSet_17 rfl ?_
    refine r_iload_n hX dX0_cellSet_18 rfl ?_
    refine r_iload hX dX0_cellSet_19 rfl ?_
    obtain ⟨r_2, h_3, hf⟩ := bd1_some hf
    refine r_callV (As := [.int x1, .int x2, .int x4]) (ci := 0) hX (k_X0_cell (l := xl X) (J := J) hX.ok hk0 h_3) pk_X0_cell ml_X0_35 rfl rfl rfl rfl hk0 rfl rfl rfl (Nat.le_of_ble_eq_true rfl) dX0_cellSet_21 ?_
    refine r_ishl hX dX0_cellSet_24 ?_
    refine r_ior hX dX0_cellSet_25 ?_
    obtain ⟨x_4, ex_4, hf⟩ := lt1_some hf
    refine V.topi ex_4 ?_
    refine r_istore_n hX dX0_cellSet_26 rfl rfl ?_
    obtain ⟨x_5, ex_5, hf⟩ := lt1_some hf
    refine r_iincE (n' := 1) ex_5 hX dX0_cellSet_27 rfl rfl rfl rfl ?_
    refine r_goto (tgt := 5) hX dX0_cellSet_30 (by decide) ?_
    refine V.mask [true, true, true, true, true] ?_
    exact hc5 x_4 x_5 hf
  · have hf := hf_f c_1 hf
    refine r_iload_n hX dX0_cellSet_33 rfl ?_
    cases hf
    exact hret _ _ dX0_cellSet_34
noncomputable def f_X0_cellSet (I : HI) (a0 : Nat) (x1 : Int32) (x2 : Int32) : Option (Int32) := wl2 (X0_cellSet_B5 I a0 x1 x2) 5000 ((0 : Int32)) ((0 : Int32))
set_option maxHeartbeats 4000000 in
set_option maxRecDepth 100000 in
theorem k_X0_cellSet {G : GX} {l : Launch} {I : HI} {J : HJ} {r : Int32} (hG : OKG G) {a0 : Nat} {x1 : Int32} {x2 : Int32} (hk0 : gK G a0 = 1) (hf : f_X0_cellSet I a0 x1 x2 = some r) : Ctr G l yX0_cellSet cX0_cellSet 5 (some .int) 1 23 [.ref a0, .int x1, .int x2] I J (some (.int r)) I J := by
  refine ctr_I hG (by decide) [some (.ref a0), some (.int x1), some (.int x2), none, none] rfl rfl fun X e1 e2 hX hret => ?_
  subst e1; subst e2
  unfold f_X0_cellSet at hf
  refine r_iconst (v := 0) hX dX0_cellSet_0 rfl ?_
  refine r_istore_n hX dX0_cellSet_1 rfl rfl ?_
  refine r_iconst (v := 0) hX dX0_cellSet_2 rfl ?_
  refine r_istore hX dX0_cellSet_3 rfl rfl ?_
  refine V.mask [true, true, true, true, true] ?_
  exact vX0_cellSet_5 hX hret a0 x1 x2 hk0 5000 ((0 : Int32)) ((0 : Int32)) hf
noncomputable def X0_contains_B3 (I : HI) (a0 : Nat) (x1 : Int32) (x2 : Int32) (x3 : Int32) (k3 : Int32 → Option (Int32)) (x4 : Int32) : Option (Int32) := if x4 < (I a0 1) then bd1 (f_X0_cell I a0 x2 x3 x4) fun r_2 => if ((x1 >>> (r_2 &&& 31)) &&& (1 : Int32)) = 0 then some ((0 : Int32)) else lt1 (x4 + (1 : Int32)) fun x_5 => k3 x_5 else some ((1 : Int32))
set_option maxHeartbeats 4000000 in
set_option maxRecDepth 100000 in
theorem vX0_contains_3 {X : CX} {r : Int32} {I : HI} {J : HJ} (hX : OKX X cX0_contains RX0 1 23 5) (hret : RetZ X cX0_contains r I J) (a0 : Nat) (x1 : Int32) (x2 : Int32) (x3 : Int32) (hk0 : gK (xG X) a0 = 1)   : ∀ (n : Nat) (x4 : Int32), wl1 (X0_contains_B3 I a0 x1 x2 x3) n x4 = some r → V X I J 3 [some (.ref a0), some (.int x1), some (.int x2), some (.int x3), some (.int x4)] [] := by
  refine wl1_V (P := fun (x4 : Int32) => V X I J 3 [some (.ref a0), some (.int x1), some (.int x2), some (.int x3), some (.int x4)] []) ?_
  intro k3 hc3 x4 hf
  unfold X0_contains_B3 at hf
  refine r_iload hX dX0_contains_3 rfl ?_
  refine r_aload_n hX dX0_contains_5 rfl ?_
  refine g_0_1 hX fl_X0_15 hk0 dX0_contains_6 ?_
  refine r_icmp_ge (tgt := 35) hX dX0_contains_9 (by decide) (fun c_1 => ?_) (fun c_1 => ?_)
  · have hf := hf_t c_1 hf
    refine r_iload_n hX dX0_contains_12 rfl ?_
    refine r_aload_n hX dX0_contains_13 rfl ?_
    refine r_iload_n hX dX0_contains_14 rfl ?_
    refine r_iload_n hX dX0_contains_15 rfl ?_
    refine r_iload hX dX0_contains_16 rfl ?_
    obtain ⟨r_2, h_3, hf⟩ := bd1_some hf
    refine r_callV (As := [.int x2, .int x3, .int x4]) (ci := 0) hX (k_X0_cell (l := xl X) (J := J) hX.ok hk0 h_3) pk_X0_cell ml_X0_35 rfl rfl rfl rfl hk0 rfl rfl rfl (Nat.le_of_ble_eq_true rfl) dX0_contains_18 ?_
    refine r_ishr hX dX0_contains_21 ?_
    refine r_iconst (v := 1) hX dX0_contains_22 rfl ?_
    refine r_iand hX dX0_contains_23 ?_
    refine r_if_ne (tgt := 29) hX dX0_contains_24 (by decide) (fun c_4 => ?_) (fun c_4 => ?_)
    · have hf := hf_t c_4 hf
      refine r_iconst (v := 0) hX dX0_contains_27 rfl ?_
      cases hf
      exact hret _ _ zb_0 dX0_contains_28
    · have hf := hf_f c_4 hf
      obtain ⟨x_5, ex_5, hf⟩ := lt1_some hf
      refine r_iincE (n' := 1) ex_5 hX dX0_contains_29 rfl rfl rfl rfl ?_
      refine r_goto (tgt := 3) hX dX0_contains_32 (by decide) ?_
      refine V.mask [true, true, true, true, true] ?_
      exact hc3 x_5 hf
  · have hf := hf_f c_1 hf
    refine r_iconst (v := 1) hX dX0_contains_35 rfl ?_
    cases hf
    exact hret _ _ zb_1 dX0_contains_36
noncomputable def f_X0_contains (I : HI) (a0 : Nat) (x1 : Int32) (x2 : Int32) (x3 : Int32) : Option (Int32) := wl1 (X0_contains_B3 I a0 x1 x2 x3) 5000 ((0 : Int32))
set_option maxHeartbeats 4000000 in
set_option maxRecDepth 100000 in
theorem k_X0_contains {G : GX} {l : Launch} {I : HI} {J : HJ} {r : Int32} (hG : OKG G) {a0 : Nat} {x1 : Int32} {x2 : Int32} {x3 : Int32} (hk0 : gK G a0 = 1) (hf : f_X0_contains I a0 x1 x2 x3 = some r) : Ctr G l yX0_contains cX0_contains 5 (some .boolean) 1 23 [.ref a0, .int x1, .int x2, .int x3] I J (some (.int r)) I J := by
  refine ctr_Zb hG (by decide) [some (.ref a0), some (.int x1), some (.int x2), some (.int x3), none] rfl rfl fun X e1 e2 hX hret => ?_
  subst e1; subst e2
  unfold f_X0_contains at hf
  refine r_iconst (v := 0) hX dX0_contains_0 rfl ?_
  refine r_istore hX dX0_contains_1 rfl rfl ?_
  refine V.mask [true, true, true, true, true] ?_
  exact vX0_contains_3 hX hret a0 x1 x2 x3 hk0 5000 ((0 : Int32)) hf
noncomputable def X0_pagesIn_J30 (I : HI) (a0 : Nat) (x1 : Int32) (x2 : Int32) (x3 : Int32) (x4 : Int32) (k5 : Int32 → Int32 → Option (Int32)) : Option (Int32) := lt1 (x4 + (1 : Int32)) fun x_6 => k5 x3 x_6
set_option maxHeartbeats 4000000 in
set_option maxRecDepth 100000 in
theorem vX0_pagesIn_30 {X : CX} {r : Int32} {I : HI} {J : HJ} (hX : OKX X cX0_pagesIn RX0 2 47 5) (hret : RetI X cX0_pagesIn r I J) (a0 : Nat) (x1 : Int32) (x2 : Int32) (x3 : Int32) (x4 : Int32) (hk0 : gK (xG X) a0 = 1) (k5 : Int32 → Int32 → Option (Int32)) (hc5 : ∀ (x3 : Int32) (x4 : Int32), k5 x3 x4 = some r → V X I J 5 [some (.ref a0), some (.int x1), some (.int x2), some (.int x3), some (.int x4)] []) (hf : X0_pagesIn_J30 I a0 x1 x2 x3 x4 k5 = some r) : V X I J 30 [some (.ref a0), some (.int x1), some (.int x2), some (.int x3), some (.int x4)] [] := by
  unfold X0_pagesIn_J30 at hf
  obtain ⟨x_6, ex_6, hf⟩ := lt1_some hf
  refine r_iincE (n' := 1) ex_6 hX dX0_pagesIn_30 rfl rfl rfl rfl ?_
  refine r_goto (tgt := 5) hX dX0_pagesIn_33 (by decide) ?_
  refine V.mask [true, true, true, true, true] ?_
  exact hc5 x3 x_6 hf
noncomputable def X0_pagesIn_B5 (I : HI) (a0 : Nat) (x1 : Int32) (x2 : Int32) (k5 : Int32 → Int32 → Option (Int32)) (x3 : Int32) (x4 : Int32) : Option (Int32) := if x4 < (32 : Int32) then bd1 (f_X0_contains I a0 x1 x2 x4) fun r_2 => if r_2 = 0 then X0_pagesIn_J30 I a0 x1 x2 x3 x4 k5 else lt1 ((x3 ||| ((1 : Int32) <<< (x4 &&& 31)))) fun x_5 => X0_pagesIn_J30 I a0 x1 x2 x_5 x4 k5 else some x3
set_option maxHeartbeats 4000000 in
set_option maxRecDepth 100000 in
theorem vX0_pagesIn_5 {X : CX} {r : Int32} {I : HI} {J : HJ} (hX : OKX X cX0_pagesIn RX0 2 47 5) (hret : RetI X cX0_pagesIn r I J) (a0 : Nat) (x1 : Int32) (x2 : Int32) (hk0 : gK (xG X) a0 = 1)   : ∀ (n : Nat) (x3 : Int32) (x4 : Int32), wl2 (X0_pagesIn_B5 I a0 x1 x2) n x3 x4 = some r → V X I J 5 [some (.ref a0), some (.int x1), some (.int x2), some (.int x3), some (.int x4)] [] := by
  refine wl2_V (P := fun (x3 : Int32) (x4 : Int32) => V X I J 5 [some (.ref a0), some (.int x1), some (.int x2), some (.int x3), some (.int x4)] []) ?_
  intro k5 hc5 x3 x4 hf
  unfold X0_pagesIn_B5 at hf
  refine r_iload hX dX0_pagesIn_5 rfl ?_
  refine r_bipush (v := 32) hX dX0_pagesIn_7 (by decide) ?_
  refine r_icmp_ge (tgt := 36) hX dX0_pagesIn_9 (by decide) (fun c_1 => ?_) (fun c_1 => ?_)
  · have hf := hf_t c_1 hf
    refine r_aload_n hX dX0_pagesIn_12 rfl ?_
    refine r_iload_n hX dX0_pagesIn_13 rfl ?_
    refine r_iload_n hX dX0_pagesIn_14 rfl ?_
    refine r_iload hX dX0_pagesIn_15 rfl ?_
    obtain ⟨r_2, h_3, hf⟩ := bd1_some hf
    refine r_callV (As := [.int x1, .int x2, .int x4]) (ci := 0) hX (k_X0_contains (l := xl X) (J := J) hX.ok hk0 h_3) pk_X0_contains ml_X0_39 rfl rfl rfl rfl hk0 rfl rfl rfl (Nat.le_of_ble_eq_true rfl) dX0_pagesIn_17 ?_
    refine r_if_eq (tgt := 30) hX dX0_pagesIn_20 (by decide) (fun c_4 => ?_) (fun c_4 => ?_)
    · have hf := hf_t c_4 hf
      refine V.mask [true, true, true, true, true] ?_
      exact vX0_pagesIn_30 hX hret a0 x1 x2 x3 x4 hk0 k5 hc5 hf
    · have hf := hf_f c_4 hf
      refine r_iload_n hX dX0_pagesIn_23 rfl ?_
      refine r_iconst (v := 1) hX dX0_pagesIn_24 rfl ?_
      refine r_iload hX dX0_pagesIn_25 rfl ?_
      refine r_ishl hX dX0_pagesIn_27 ?_
      refine r_ior hX dX0_pagesIn_28 ?_
      obtain ⟨x_5, ex_5, hf⟩ := lt1_some hf
      refine V.topi ex_5 ?_
      refine r_istore_n hX dX0_pagesIn_29 rfl rfl ?_
      refine V.mask [true, true, true, true, true] ?_
      exact vX0_pagesIn_30 hX hret a0 x1 x2 x_5 x4 hk0 k5 hc5 hf
  · have hf := hf_f c_1 hf
    refine r_iload_n hX dX0_pagesIn_36 rfl ?_
    cases hf
    exact hret _ _ dX0_pagesIn_37
noncomputable def f_X0_pagesIn (I : HI) (a0 : Nat) (x1 : Int32) (x2 : Int32) : Option (Int32) := wl2 (X0_pagesIn_B5 I a0 x1 x2) 5000 ((0 : Int32)) ((0 : Int32))
set_option maxHeartbeats 4000000 in
set_option maxRecDepth 100000 in
theorem k_X0_pagesIn {G : GX} {l : Launch} {I : HI} {J : HJ} {r : Int32} (hG : OKG G) {a0 : Nat} {x1 : Int32} {x2 : Int32} (hk0 : gK G a0 = 1) (hf : f_X0_pagesIn I a0 x1 x2 = some r) : Ctr G l yX0_pagesIn cX0_pagesIn 5 (some .int) 2 47 [.ref a0, .int x1, .int x2] I J (some (.int r)) I J := by
  refine ctr_I hG (by decide) [some (.ref a0), some (.int x1), some (.int x2), none, none] rfl rfl fun X e1 e2 hX hret => ?_
  subst e1; subst e2
  unfold f_X0_pagesIn at hf
  refine r_iconst (v := 0) hX dX0_pagesIn_0 rfl ?_
  refine r_istore_n hX dX0_pagesIn_1 rfl rfl ?_
  refine r_iconst (v := 0) hX dX0_pagesIn_2 rfl ?_
  refine r_istore hX dX0_pagesIn_3 rfl rfl ?_
  refine V.mask [true, true, true, true, true] ?_
  exact vX0_pagesIn_5 hX hret a0 x1 x2 hk0 5000 ((0 : Int32)) ((0 : Int32)) hf
noncomputable def f_X4_take (I : HI) (a0 : Nat) (a1 : Nat) : Option (HI) := lt1 (sI I a0 0 ((I a1 0))) fun I_1 => lt1 (sI I_1 a0 1 ((I_1 a1 1))) fun I_2 => lt1 (sI I_2 a0 2 ((I_2 a1 2))) fun I_3 => lt1 (sI I_3 a0 3 ((I_3 a1 3))) fun I_4 => lt1 (sI I_4 a0 4 ((I_4 a1 4))) fun I_5 => bd1 (f_X7_copyRow I_5 ((a1 + 1)) 9 ((a0 + 1)) 9) fun I_6 => bd1 (f_X7_copyRow I_6 ((a1 + 2)) 16 ((a0 + 2)) 16) fun I_8 => some I_8
set_option maxHeartbeats 4000000 in
set_option maxRecDepth 100000 in
theorem k_X4_take {G : GX} {l : Launch} {I : HI} {J : HJ} {I' : HI} (hG : OKG G) {a0 : Nat} {a1 : Nat} (hk0 : gK G a0 = 5) (hk1 : gK G a1 = 5) (hf : f_X4_take I a0 a1 = some I') : Ctr G l yX4_take cX4_take 2 none 1 22 [.ref a0, .ref a1] I J none I' J := by
  refine ctr_V hG (by decide) [some (.ref a0), some (.ref a1)] rfl rfl fun X e1 e2 hX hret => ?_
  subst e1; subst e2
  unfold f_X4_take at hf
  refine r_aload_n hX dX4_take_0 rfl ?_
  refine r_aload_n hX dX4_take_1 rfl ?_
  refine g_4_0 hX fl_X4_9 hk1 dX4_take_2 ?_
  obtain ⟨I_1, eI_1, hf⟩ := lt1_some hf
  refine p_4_0 eI_1 hX fl_X4_9 hk0 dX4_take_5 ?_
  refine r_aload_n hX dX4_take_8 rfl ?_
  refine r_aload_n hX dX4_take_9 rfl ?_
  refine g_4_1 hX fl_X4_15 hk1 dX4_take_10 ?_
  obtain ⟨I_2, eI_2, hf⟩ := lt1_some hf
  refine p_4_1 eI_2 hX fl_X4_15 hk0 dX4_take_13 ?_
  refine r_aload_n hX dX4_take_16 rfl ?_
  refine r_aload_n hX dX4_take_17 rfl ?_
  refine g_4_2 hX fl_X4_18 hk1 dX4_take_18 ?_
  obtain ⟨I_3, eI_3, hf⟩ := lt1_some hf
  refine p_4_2 eI_3 hX fl_X4_18 hk0 dX4_take_21 ?_
  refine r_aload_n hX dX4_take_24 rfl ?_
  refine r_aload_n hX dX4_take_25 rfl ?_
  refine g_4_3 hX fl_X4_21 hk1 dX4_take_26 ?_
  obtain ⟨I_4, eI_4, hf⟩ := lt1_some hf
  refine p_4_3 eI_4 hX fl_X4_21 hk0 dX4_take_29 ?_
  refine r_aload_n hX dX4_take_32 rfl ?_
  refine r_aload_n hX dX4_take_33 rfl ?_
  refine g_4_4 hX fl_X4_24 hk1 dX4_take_34 ?_
  obtain ⟨I_5, eI_5, hf⟩ := lt1_some hf
  refine p_4_4 eI_5 hX fl_X4_24 hk0 dX4_take_37 ?_
  refine r_aload_n hX dX4_take_40 rfl ?_
  refine g_4_5 hX fl_X4_27 hk1 dX4_take_41 ?_
  refine r_aload_n hX dX4_take_44 rfl ?_
  refine g_4_5 hX fl_X4_27 hk0 dX4_take_45 ?_
  obtain ⟨I_6, h_7, hf⟩ := bd1_some hf
  refine r_callSN (As := [.ref ((a1 + 1)), .ref ((a0 + 1))]) hX (k_X7_copyRow (l := xl X) (J := J) hX.ok ((q_5_5 hX hk1)) ((q_5_5 hX hk0)) h_7) pk_X7_copyRow 7 rfl rfl rfl rfl (Nat.le_of_ble_eq_true rfl) dX4_take_48 ?_
  refine r_aload_n hX dX4_take_51 rfl ?_
  refine g_4_6 hX fl_X4_31 hk1 dX4_take_52 ?_
  refine r_aload_n hX dX4_take_55 rfl ?_
  refine g_4_6 hX fl_X4_31 hk0 dX4_take_56 ?_
  obtain ⟨I_8, h_9, hf⟩ := bd1_some hf
  refine r_callSN (As := [.ref ((a1 + 2)), .ref ((a0 + 2))]) hX (k_X7_copyRow (l := xl X) (J := J) hX.ok ((q_5_6 hX hk1)) ((q_5_6 hX hk0)) h_9) pk_X7_copyRow 7 rfl rfl rfl rfl (Nat.le_of_ble_eq_true rfl) dX4_take_59 ?_
  cases hf
  exact hret _ _ dX4_take_62
noncomputable def X1_take_J64 (I : HI) (a0 : Nat) (a1 : Nat) (x2 : Int32) (k13 : HI → Int32 → Option (HI)) : Option (HI) := lt1 (x2 + (1 : Int32)) fun x_11 => k13 I x_11
set_option maxHeartbeats 4000000 in
set_option maxRecDepth 100000 in
theorem vX1_take_64 {X : CX} {I' : HI} {I : HI} {J : HJ} (hX : OKX X cX1_take RX1 2 43 3) (hret : RetV X cX1_take I' J) (a0 : Nat) (a1 : Nat) (x2 : Int32) (hk0 : gK (xG X) a0 = 2) (hk1 : gK (xG X) a1 = 2) (k13 : HI → Int32 → Option (HI)) (hc13 : ∀ (I : HI) (x2 : Int32), k13 I x2 = some I' → V X I J 13 [some (.ref a0), some (.ref a1), some (.int x2)] []) (hf : X1_take_J64 I a0 a1 x2 k13 = some I') : V X I J 64 [some (.ref a0), some (.ref a1), some (.int x2)] [] := by
  unfold X1_take_J64 at hf
  obtain ⟨x_11, ex_11, hf⟩ := lt1_some hf
  refine r_iincE (n' := 1) ex_11 hX dX1_take_64 rfl rfl rfl rfl ?_
  refine r_goto (tgt := 13) hX dX1_take_67 (by decide) ?_
  refine V.mask [true, true, true] ?_
  exact hc13 I x_11 hf
noncomputable def X1_take_J70 (I : HI) (a0 : Nat) (a1 : Nat) : Option (HI) := lt1 (sI I a0 2 ((I a1 2))) fun I_12 => lt1 (sI I_12 a0 3 ((I_12 a1 3))) fun I_13 => lt1 (sI I_13 a0 4 ((I_13 a1 4))) fun I_14 => lt1 (sI I_14 a0 5 ((I_14 a1 5))) fun I_15 => lt1 (sI I_15 a0 6 ((I_15 a1 6))) fun I_16 => some I_16
set_option maxHeartbeats 4000000 in
set_option maxRecDepth 100000 in
theorem vX1_take_70 {X : CX} {I' : HI} {I : HI} {J : HJ} (hX : OKX X cX1_take RX1 2 43 3) (hret : RetV X cX1_take I' J) (a0 : Nat) (a1 : Nat) (hk0 : gK (xG X) a0 = 2) (hk1 : gK (xG X) a1 = 2)   (hf : X1_take_J70 I a0 a1 = some I') : V X I J 70 [some (.ref a0), some (.ref a1), none] [] := by
  unfold X1_take_J70 at hf
  refine r_aload_n hX dX1_take_70 rfl ?_
  refine r_aload_n hX dX1_take_71 rfl ?_
  refine g_1_2 hX fl_X1_24 hk1 dX1_take_72 ?_
  obtain ⟨I_12, eI_12, hf⟩ := lt1_some hf
  refine p_1_2 eI_12 hX fl_X1_24 hk0 dX1_take_75 ?_
  refine r_aload_n hX dX1_take_78 rfl ?_
  refine r_aload_n hX dX1_take_79 rfl ?_
  refine g_1_3 hX fl_X1_28 hk1 dX1_take_80 ?_
  obtain ⟨I_13, eI_13, hf⟩ := lt1_some hf
  refine p_1_3 eI_13 hX fl_X1_28 hk0 dX1_take_83 ?_
  refine r_aload_n hX dX1_take_86 rfl ?_
  refine r_aload_n hX dX1_take_87 rfl ?_
  refine g_1_4 hX fl_X1_31 hk1 dX1_take_88 ?_
  obtain ⟨I_14, eI_14, hf⟩ := lt1_some hf
  refine p_1_4 eI_14 hX fl_X1_31 hk0 dX1_take_91 ?_
  refine r_aload_n hX dX1_take_94 rfl ?_
  refine r_aload_n hX dX1_take_95 rfl ?_
  refine g_1_5 hX fl_X1_34 hk1 dX1_take_96 ?_
  obtain ⟨I_15, eI_15, hf⟩ := lt1_some hf
  refine p_1_5 eI_15 hX fl_X1_34 hk0 dX1_take_99 ?_
  refine r_aload_n hX dX1_take_102 rfl ?_
  refine r_aload_n hX dX1_take_103 rfl ?_
  refine g_1_6 hX fl_X1_37 hk1 dX1_take_104 ?_
  obtain ⟨I_16, eI_16, hf⟩ := lt1_some hf
  refine p_1_6 eI_16 hX fl_X1_37 hk0 dX1_take_107 ?_
  cases hf
  exact hret _ _ dX1_take_110
noncomputable def X1_take_B13 (a0 : Nat) (a1 : Nat) (k13 : HI → Int32 → Option (HI)) (I : HI) (x2 : Int32) : Option (HI) := if x2 < (4 : Int32) then if x2 < (4 : Int32) then gd (vp_in x2 4) (gd (vp_in x2 4) (gd (vp_in x2 4) (gd (vp_in x2 4) (bd1 (f_X4_take I (((a0 + 4) + 1 + 3 * x2.toNatClampNeg)) (((a1 + 4) + 1 + 3 * x2.toNatClampNeg))) fun I_9 => X1_take_J64 I_9 a0 a1 x2 k13)))) else X1_take_J70 I a0 a1 else X1_take_J70 I a0 a1
set_option maxHeartbeats 4000000 in
set_option maxRecDepth 100000 in
theorem vX1_take_13 {X : CX} {I' : HI} {J : HJ} (hX : OKX X cX1_take RX1 2 43 3) (hret : RetV X cX1_take I' J) (a0 : Nat) (a1 : Nat) (hk0 : gK (xG X) a0 = 2) (hk1 : gK (xG X) a1 = 2)   : ∀ (n : Nat) (I : HI) (x2 : Int32), wl2 (X1_take_B13 a0 a1) n I x2 = some I' → V X I J 13 [some (.ref a0), some (.ref a1), some (.int x2)] [] := by
  refine wl2_V (P := fun (I : HI) (x2 : Int32) => V X I J 13 [some (.ref a0), some (.ref a1), some (.int x2)] []) ?_
  intro k13 hc13 I x2 hf
  unfold X1_take_B13 at hf
  refine r_iload_n hX dX1_take_13 rfl ?_
  refine r_aload_n hX dX1_take_14 rfl ?_
  refine g_1_1 hX fl_X1_20 hk0 dX1_take_15 ?_
  refine r_qlen (n := 4) (v := 4) hX (ra_10 ((q_2_1 hX hk0))) (by decide) dX1_take_18 ?_
  refine r_icmp_ge (tgt := 70) hX dX1_take_19 (by decide) (fun c_3 => ?_) (fun c_3 => ?_)
  · have hf := hf_t c_3 hf
    refine r_iload_n hX dX1_take_22 rfl ?_
    refine r_aload_n hX dX1_take_23 rfl ?_
    refine g_1_1 hX fl_X1_20 hk1 dX1_take_24 ?_
    refine r_qlen (n := 4) (v := 4) hX (ra_10 ((q_2_1 hX hk1))) (by decide) dX1_take_27 ?_
    refine r_icmp_ge (tgt := 70) hX dX1_take_28 (by decide) (fun c_4 => ?_) (fun c_4 => ?_)
    · have hf := hf_t c_4 hf
      refine r_aload_n hX dX1_take_31 rfl ?_
      refine g_1_1 hX fl_X1_20 hk0 dX1_take_32 ?_
      refine r_iload_n hX dX1_take_35 rfl ?_
      obtain ⟨g_5, hf⟩ := gd_some hf
      refine r_aald (n := 4) hX (ra_10 ((q_2_1 hX hk0))) g_5 dX1_take_36 ?_
      refine r_ifnull_r hX dX1_take_37 ?_
      refine r_aload_n hX dX1_take_40 rfl ?_
      refine g_1_1 hX fl_X1_20 hk1 dX1_take_41 ?_
      refine r_iload_n hX dX1_take_44 rfl ?_
      obtain ⟨g_6, hf⟩ := gd_some hf
      refine r_aald (n := 4) hX (ra_10 ((q_2_1 hX hk1))) g_6 dX1_take_45 ?_
      refine r_ifnull_r hX dX1_take_46 ?_
      refine r_aload_n hX dX1_take_49 rfl ?_
      refine g_1_1 hX fl_X1_20 hk0 dX1_take_50 ?_
      refine r_iload_n hX dX1_take_53 rfl ?_
      obtain ⟨g_7, hf⟩ := gd_some hf
      refine r_aald (n := 4) hX (ra_10 ((q_2_1 hX hk0))) g_7 dX1_take_54 ?_
      refine r_aload_n hX dX1_take_55 rfl ?_
      refine g_1_1 hX fl_X1_20 hk1 dX1_take_56 ?_
      refine r_iload_n hX dX1_take_59 rfl ?_
      obtain ⟨g_8, hf⟩ := gd_some hf
      refine r_aald (n := 4) hX (ra_10 ((q_2_1 hX hk1))) g_8 dX1_take_60 ?_
      obtain ⟨I_9, h_10, hf⟩ := bd1_some hf
      refine r_callV (As := [.ref (((a1 + 4) + 1 + 3 * x2.toNatClampNeg))]) (ci := 4) hX (k_X4_take (l := xl X) (J := J) hX.ok ((el_10 hX ((q_2_1 hX hk0)) g_7)) ((el_10 hX ((q_2_1 hX hk1)) g_8)) h_10) pk_X4_take ml_X1_45 rfl rfl rfl rfl ((el_10 hX ((q_2_1 hX hk0)) g_7)) rfl rfl rfl (Nat.le_of_ble_eq_true rfl) dX1_take_61 ?_
      refine V.mask [true, true, true] ?_
      exact vX1_take_64 hX hret a0 a1 x2 hk0 hk1 k13 hc13 hf
    · have hf := hf_f c_4 hf
      refine V.mask [true, true, false] ?_
      exact vX1_take_70 hX hret a0 a1 hk0 hk1 hf
  · have hf := hf_f c_3 hf
    refine V.mask [true, true, false] ?_
    exact vX1_take_70 hX hret a0 a1 hk0 hk1 hf
noncomputable def f_X1_take (I : HI) (a0 : Nat) (a1 : Nat) : Option (HI) := bd1 (f_X0_take I ((a0 + 1)) ((a1 + 1))) fun I_1 => wl2 (X1_take_B13 a0 a1) 5000 I_1 ((0 : Int32))
set_option maxHeartbeats 4000000 in
set_option maxRecDepth 100000 in
theorem k_X1_take {G : GX} {l : Launch} {I : HI} {J : HJ} {I' : HI} (hG : OKG G) {a0 : Nat} {a1 : Nat} (hk0 : gK G a0 = 2) (hk1 : gK G a1 = 2) (hf : f_X1_take I a0 a1 = some I') : Ctr G l yX1_take cX1_take 3 none 2 43 [.ref a0, .ref a1] I J none I' J := by
  refine ctr_V hG (by decide) [some (.ref a0), some (.ref a1), none] rfl rfl fun X e1 e2 hX hret => ?_
  subst e1; subst e2
  unfold f_X1_take at hf
  refine r_aload_n hX dX1_take_0 rfl ?_
  refine g_1_0 hX fl_X1_12 hk0 dX1_take_1 ?_
  refine r_aload_n hX dX1_take_4 rfl ?_
  refine g_1_0 hX fl_X1_12 hk1 dX1_take_5 ?_
  obtain ⟨I_1, h_2, hf⟩ := bd1_some hf
  refine r_callV (As := [.ref ((a1 + 1))]) (ci := 0) hX (k_X0_take (l := xl X) (J := J) hX.ok ((q_2_0 hX hk0)) ((q_2_0 hX hk1)) h_2) pk_X0_take ml_X1_41 rfl rfl rfl rfl ((q_2_0 hX hk0)) rfl rfl rfl (Nat.le_of_ble_eq_true rfl) dX1_take_8 ?_
  refine r_iconst (v := 0) hX dX1_take_11 rfl ?_
  refine r_istore_n hX dX1_take_12 rfl rfl ?_
  refine V.mask [true, true, true] ?_
  exact vX1_take_13 hX hret a0 a1 hk0 hk1 5000 I_1 ((0 : Int32)) hf
noncomputable def f_X1_clearCounts (I : HI) (a0 : Nat) : Option (HI) := lt1 (sI I a0 3 ((0 : Int32))) fun I_1 => lt1 (sI I_1 a0 4 ((0 : Int32))) fun I_2 => lt1 (sI I_2 a0 5 ((0 : Int32))) fun I_3 => lt1 (sI I_3 a0 6 ((0 : Int32))) fun I_4 => some I_4
set_option maxHeartbeats 4000000 in
set_option maxRecDepth 100000 in
theorem k_X1_clearCounts {G : GX} {l : Launch} {I : HI} {J : HJ} {I' : HI} (hG : OKG G) {a0 : Nat} (hk0 : gK G a0 = 2) (hf : f_X1_clearCounts I a0 = some I') : Ctr G l yX1_clearCounts cX1_clearCounts 1 none 0 0 [.ref a0] I J none I' J := by
  refine ctr_V hG (by decide) [some (.ref a0)] rfl rfl fun X e1 e2 hX hret => ?_
  subst e1; subst e2
  unfold f_X1_clearCounts at hf
  refine r_aload_n hX dX1_clearCounts_0 rfl ?_
  refine r_iconst (v := 0) hX dX1_clearCounts_1 rfl ?_
  obtain ⟨I_1, eI_1, hf⟩ := lt1_some hf
  refine p_1_3 eI_1 hX fl_X1_28 hk0 dX1_clearCounts_2 ?_
  refine r_aload_n hX dX1_clearCounts_5 rfl ?_
  refine r_iconst (v := 0) hX dX1_clearCounts_6 rfl ?_
  obtain ⟨I_2, eI_2, hf⟩ := lt1_some hf
  refine p_1_4 eI_2 hX fl_X1_31 hk0 dX1_clearCounts_7 ?_
  refine r_aload_n hX dX1_clearCounts_10 rfl ?_
  refine r_iconst (v := 0) hX dX1_clearCounts_11 rfl ?_
  obtain ⟨I_3, eI_3, hf⟩ := lt1_some hf
  refine p_1_5 eI_3 hX fl_X1_34 hk0 dX1_clearCounts_12 ?_
  refine r_aload_n hX dX1_clearCounts_15 rfl ?_
  refine r_iconst (v := 0) hX dX1_clearCounts_16 rfl ?_
  obtain ⟨I_4, eI_4, hf⟩ := lt1_some hf
  refine p_1_6 eI_4 hX fl_X1_37 hk0 dX1_clearCounts_17 ?_
  cases hf
  exact hret _ _ dX1_clearCounts_20
noncomputable def f_X1_begin (I : HI) (a0 : Nat) (x1 : Int32) (x2 : Int32) : Option (HI) := bd1 (f_X0_begin I ((a0 + 1)) x1 x2) fun I_1 => lt1 (sI I_1 a0 2 ((0 : Int32))) fun I_3 => bd1 (f_X1_clearCounts I_3 a0) fun I_4 => some I_4
set_option maxHeartbeats 4000000 in
set_option maxRecDepth 100000 in
theorem k_X1_begin {G : GX} {l : Launch} {I : HI} {J : HJ} {I' : HI} (hG : OKG G) {a0 : Nat} {x1 : Int32} {x2 : Int32} (hk0 : gK G a0 = 2) (hf : f_X1_begin I a0 x1 x2 = some I') : Ctr G l yX1_begin cX1_begin 3 none 1 22 [.ref a0, .int x1, .int x2] I J none I' J := by
  refine ctr_V hG (by decide) [some (.ref a0), some (.int x1), some (.int x2)] rfl rfl fun X e1 e2 hX hret => ?_
  subst e1; subst e2
  unfold f_X1_begin at hf
  refine r_aload_n hX dX1_begin_0 rfl ?_
  refine g_1_0 hX fl_X1_12 hk0 dX1_begin_1 ?_
  refine r_iload_n hX dX1_begin_4 rfl ?_
  refine r_iload_n hX dX1_begin_5 rfl ?_
  obtain ⟨I_1, h_2, hf⟩ := bd1_some hf
  refine r_callV (As := [.int x1, .int x2]) (ci := 0) hX (k_X0_begin (l := xl X) (J := J) hX.ok ((q_2_0 hX hk0)) h_2) pk_X0_begin ml_X1_48 rfl rfl rfl rfl ((q_2_0 hX hk0)) rfl rfl rfl (Nat.le_of_ble_eq_true rfl) dX1_begin_6 ?_
  refine r_aload_n hX dX1_begin_9 rfl ?_
  refine r_iconst (v := 0) hX dX1_begin_10 rfl ?_
  obtain ⟨I_3, eI_3, hf⟩ := lt1_some hf
  refine p_1_2 eI_3 hX fl_X1_24 hk0 dX1_begin_11 ?_
  refine r_aload_n hX dX1_begin_14 rfl ?_
  obtain ⟨I_4, h_5, hf⟩ := bd1_some hf
  refine r_callV (As := []) (ci := 1) hX (k_X1_clearCounts (l := xl X) (J := J) hX.ok hk0 h_5) pk_X1_clearCounts ml_X1_52 rfl rfl rfl rfl hk0 rfl rfl rfl (Nat.le_of_ble_eq_true rfl) dX1_begin_15 ?_
  cases hf
  exact hret _ _ dX1_begin_18
noncomputable def X4_clearCounters_B2 (a0 : Nat) (k2 : HI → Int32 → Option (HI)) (I : HI) (x1 : Int32) : Option (HI) := if x1 < (16 : Int32) then gd (vp_in x1 16) (lt1 (sI I ((a0 + 2)) x1.toNatClampNeg ((0 : Int32))) fun I_3 => lt1 (x1 + (1 : Int32)) fun x_4 => k2 I_3 x_4) else some I
set_option maxHeartbeats 4000000 in
set_option maxRecDepth 100000 in
theorem vX4_clearCounters_2 {X : CX} {I' : HI} {J : HJ} (hX : OKX X cX4_clearCounters RX4 0 0 2) (hret : RetV X cX4_clearCounters I' J) (a0 : Nat) (hk0 : gK (xG X) a0 = 5)   : ∀ (n : Nat) (I : HI) (x1 : Int32), wl2 (X4_clearCounters_B2 a0) n I x1 = some I' → V X I J 2 [some (.ref a0), some (.int x1)] [] := by
  refine wl2_V (P := fun (I : HI) (x1 : Int32) => V X I J 2 [some (.ref a0), some (.int x1)] []) ?_
  intro k2 hc2 I x1 hf
  unfold X4_clearCounters_B2 at hf
  refine r_iload_n hX dX4_clearCounters_2 rfl ?_
  refine r_aload_n hX dX4_clearCounters_3 rfl ?_
  refine g_4_6 hX fl_X4_31 hk0 dX4_clearCounters_4 ?_
  refine r_alen (n := 16) (v := 16) hX rfl ((q_5_6 hX hk0)) (by decide) dX4_clearCounters_7 ?_
  refine r_icmp_ge (tgt := 24) hX dX4_clearCounters_8 (by decide) (fun c_1 => ?_) (fun c_1 => ?_)
  · have hf := hf_t c_1 hf
    refine r_aload_n hX dX4_clearCounters_11 rfl ?_
    refine g_4_6 hX fl_X4_31 hk0 dX4_clearCounters_12 ?_
    refine r_iload_n hX dX4_clearCounters_15 rfl ?_
    refine r_iconst (v := 0) hX dX4_clearCounters_16 rfl ?_
    obtain ⟨g_2, hf⟩ := gd_some hf
    obtain ⟨I_3, eI_3, hf⟩ := lt1_some hf
    refine r_iastE (n := 16) eI_3 hX rfl ((q_5_6 hX hk0)) g_2 dX4_clearCounters_17 ?_
    obtain ⟨x_4, ex_4, hf⟩ := lt1_some hf
    refine r_iincE (n' := 1) ex_4 hX dX4_clearCounters_18 rfl rfl rfl rfl ?_
    refine r_goto (tgt := 2) hX dX4_clearCounters_21 (by decide) ?_
    refine V.mask [true, true] ?_
    exact hc2 I_3 x_4 hf
  · have hf := hf_f c_1 hf
    cases hf
    exact hret _ _ dX4_clearCounters_24
noncomputable def f_X4_clearCounters (I : HI) (a0 : Nat) : Option (HI) := wl2 (X4_clearCounters_B2 a0) 5000 I ((0 : Int32))
set_option maxHeartbeats 4000000 in
set_option maxRecDepth 100000 in
theorem k_X4_clearCounters {G : GX} {l : Launch} {I : HI} {J : HJ} {I' : HI} (hG : OKG G) {a0 : Nat} (hk0 : gK G a0 = 5) (hf : f_X4_clearCounters I a0 = some I') : Ctr G l yX4_clearCounters cX4_clearCounters 2 none 0 0 [.ref a0] I J none I' J := by
  refine ctr_V hG (by decide) [some (.ref a0), none] rfl rfl fun X e1 e2 hX hret => ?_
  subst e1; subst e2
  unfold f_X4_clearCounters at hf
  refine r_iconst (v := 0) hX dX4_clearCounters_0 rfl ?_
  refine r_istore_n hX dX4_clearCounters_1 rfl rfl ?_
  refine V.mask [true, true] ?_
  exact vX4_clearCounters_2 hX hret a0 hk0 5000 I ((0 : Int32)) hf
noncomputable def f_X4_begin (I : HI) (a0 : Nat) (x1 : Int32) (x2 : Int32) : Option (HI) := lt1 (sI I a0 0 x1) fun I_1 => lt1 (sI I_1 a0 1 x2) fun I_2 => lt1 (sI I_2 a0 2 ((0 : Int32))) fun I_3 => lt1 (sI I_3 a0 3 ((0 : Int32))) fun I_4 => lt1 (sI I_4 a0 4 ((0 : Int32))) fun I_5 => bd1 (f_X4_clearCounters I_5 a0) fun I_6 => some I_6
set_option maxHeartbeats 4000000 in
set_option maxRecDepth 100000 in
theorem k_X4_begin {G : GX} {l : Launch} {I : HI} {J : HJ} {I' : HI} (hG : OKG G) {a0 : Nat} {x1 : Int32} {x2 : Int32} (hk0 : gK G a0 = 5) (hf : f_X4_begin I a0 x1 x2 = some I') : Ctr G l yX4_begin cX4_begin 3 none 1 21 [.ref a0, .int x1, .int x2] I J none I' J := by
  refine ctr_V hG (by decide) [some (.ref a0), some (.int x1), some (.int x2)] rfl rfl fun X e1 e2 hX hret => ?_
  subst e1; subst e2
  unfold f_X4_begin at hf
  refine r_aload_n hX dX4_begin_0 rfl ?_
  refine r_iload_n hX dX4_begin_1 rfl ?_
  obtain ⟨I_1, eI_1, hf⟩ := lt1_some hf
  refine p_4_0 eI_1 hX fl_X4_9 hk0 dX4_begin_2 ?_
  refine r_aload_n hX dX4_begin_5 rfl ?_
  refine r_iload_n hX dX4_begin_6 rfl ?_
  obtain ⟨I_2, eI_2, hf⟩ := lt1_some hf
  refine p_4_1 eI_2 hX fl_X4_15 hk0 dX4_begin_7 ?_
  refine r_aload_n hX dX4_begin_10 rfl ?_
  refine r_iconst (v := 0) hX dX4_begin_11 rfl ?_
  obtain ⟨I_3, eI_3, hf⟩ := lt1_some hf
  refine p_4_2 eI_3 hX fl_X4_18 hk0 dX4_begin_12 ?_
  refine r_aload_n hX dX4_begin_15 rfl ?_
  refine r_iconst (v := 0) hX dX4_begin_16 rfl ?_
  obtain ⟨I_4, eI_4, hf⟩ := lt1_some hf
  refine p_4_3 eI_4 hX fl_X4_21 hk0 dX4_begin_17 ?_
  refine r_aload_n hX dX4_begin_20 rfl ?_
  refine r_iconst (v := 0) hX dX4_begin_21 rfl ?_
  obtain ⟨I_5, eI_5, hf⟩ := lt1_some hf
  refine p_4_4 eI_5 hX fl_X4_24 hk0 dX4_begin_22 ?_
  refine r_aload_n hX dX4_begin_25 rfl ?_
  obtain ⟨I_6, h_7, hf⟩ := bd1_some hf
  refine r_callV (As := []) (ci := 4) hX (k_X4_clearCounters (l := xl X) (J := J) hX.ok hk0 h_7) pk_X4_clearCounters ml_X4_38 rfl rfl rfl rfl hk0 rfl rfl rfl (Nat.le_of_ble_eq_true rfl) dX4_begin_26 ?_
  cases hf
  exact hret _ _ dX4_begin_29
noncomputable def f_X1_addProxy (I : HI) (a0 : Nat) (x1 : Int32) (x2 : Int32) : Option (HI) := if (I a0 2) < 0 then some I else if (I a0 2) < (4 : Int32) then gd (vp_in ((I a0 2)) 4) (gd (vp_in ((I a0 2)) 4) (bd1 (f_X4_begin I (((a0 + 4) + 1 + 3 * ((I a0 2)).toNatClampNeg)) x1 x2) fun I_5 => lt1 (sI I_5 a0 2 (((I_5 a0 2) + (1 : Int32)))) fun I_7 => some I_7)) else some I
set_option maxHeartbeats 4000000 in
set_option maxRecDepth 100000 in
theorem k_X1_addProxy {G : GX} {l : Launch} {I : HI} {J : HJ} {I' : HI} (hG : OKG G) {a0 : Nat} {x1 : Int32} {x2 : Int32} (hk0 : gK G a0 = 2) (hf : f_X1_addProxy I a0 x1 x2 = some I') : Ctr G l yX1_addProxy cX1_addProxy 3 none 2 43 [.ref a0, .int x1, .int x2] I J none I' J := by
  refine ctr_V hG (by decide) [some (.ref a0), some (.int x1), some (.int x2)] rfl rfl fun X e1 e2 hX hret => ?_
  subst e1; subst e2
  unfold f_X1_addProxy at hf
  refine r_aload_n hX dX1_addProxy_0 rfl ?_
  refine g_1_2 hX fl_X1_24 hk0 dX1_addProxy_1 ?_
  refine r_if_lt (tgt := 55) hX dX1_addProxy_4 (by decide) (fun c_1 => ?_) (fun c_1 => ?_)
  · have hf := hf_t c_1 hf
    cases hf
    exact hret _ _ dX1_addProxy_55
  · have hf := hf_f c_1 hf
    refine r_aload_n hX dX1_addProxy_7 rfl ?_
    refine g_1_2 hX fl_X1_24 hk0 dX1_addProxy_8 ?_
    refine r_aload_n hX dX1_addProxy_11 rfl ?_
    refine g_1_1 hX fl_X1_20 hk0 dX1_addProxy_12 ?_
    refine r_qlen (n := 4) (v := 4) hX (ra_10 ((q_2_1 hX hk0))) (by decide) dX1_addProxy_15 ?_
    refine r_icmp_ge (tgt := 55) hX dX1_addProxy_16 (by decide) (fun c_2 => ?_) (fun c_2 => ?_)
    · have hf := hf_t c_2 hf
      refine r_aload_n hX dX1_addProxy_19 rfl ?_
      refine g_1_1 hX fl_X1_20 hk0 dX1_addProxy_20 ?_
      refine r_aload_n hX dX1_addProxy_23 rfl ?_
      refine g_1_2 hX fl_X1_24 hk0 dX1_addProxy_24 ?_
      obtain ⟨g_3, hf⟩ := gd_some hf
      refine r_aald (n := 4) hX (ra_10 ((q_2_1 hX hk0))) g_3 dX1_addProxy_27 ?_
      refine r_ifnull_r hX dX1_addProxy_28 ?_
      refine r_aload_n hX dX1_addProxy_31 rfl ?_
      refine g_1_1 hX fl_X1_20 hk0 dX1_addProxy_32 ?_
      refine r_aload_n hX dX1_addProxy_35 rfl ?_
      refine g_1_2 hX fl_X1_24 hk0 dX1_addProxy_36 ?_
      obtain ⟨g_4, hf⟩ := gd_some hf
      refine r_aald (n := 4) hX (ra_10 ((q_2_1 hX hk0))) g_4 dX1_addProxy_39 ?_
      refine r_iload_n hX dX1_addProxy_40 rfl ?_
      refine r_iload_n hX dX1_addProxy_41 rfl ?_
      obtain ⟨I_5, h_6, hf⟩ := bd1_some hf
      refine r_callV (As := [.int x1, .int x2]) (ci := 4) hX (k_X4_begin (l := xl X) (J := J) hX.ok ((el_10 hX ((q_2_1 hX hk0)) g_4)) h_6) pk_X4_begin ml_X1_55 rfl rfl rfl rfl ((el_10 hX ((q_2_1 hX hk0)) g_4)) rfl rfl rfl (Nat.le_of_ble_eq_true rfl) dX1_addProxy_42 ?_
      refine r_aload_n hX dX1_addProxy_45 rfl ?_
      refine r_dup hX dX1_addProxy_46 rfl ?_
      refine g_1_2 hX fl_X1_24 hk0 dX1_addProxy_47 ?_
      refine r_iconst (v := 1) hX dX1_addProxy_50 rfl ?_
      refine r_iadd hX dX1_addProxy_51 ?_
      obtain ⟨I_7, eI_7, hf⟩ := lt1_some hf
      refine p_1_2 eI_7 hX fl_X1_24 hk0 dX1_addProxy_52 ?_
      cases hf
      exact hret _ _ dX1_addProxy_55
    · have hf := hf_f c_2 hf
      cases hf
      exact hret _ _ dX1_addProxy_55
noncomputable def f_X1_proxyAt (I : HI) (a0 : Nat) (x1 : Int32) : Option ((Option Nat)) := if x1 < 0 then some none else if x1 < (I a0 2) then if x1 < (4 : Int32) then gd (vp_in x1 4) (some (some (((a0 + 4) + 1 + 3 * x1.toNatClampNeg)))) else some none else some none
set_option maxHeartbeats 4000000 in
set_option maxRecDepth 100000 in
theorem k_X1_proxyAt {G : GX} {l : Launch} {I : HI} {J : HJ} {r : Option Nat} (hG : OKG G) {a0 : Nat} {x1 : Int32} (hk0 : gK G a0 = 2) (hf : f_X1_proxyAt I a0 x1 = some r) : Ctr G l yX1_proxyAt cX1_proxyAt 2 (some (.object "ShelfFilters$Proxy")) 0 0 [.ref a0, .int x1] I J (some (va_rf r)) I J := by
  refine ctr_A hG (by decide) [some (.ref a0), some (.int x1)] rfl rfl fun X e1 e2 hX hret => ?_
  subst e1; subst e2
  unfold f_X1_proxyAt at hf
  refine r_iload_n hX dX1_proxyAt_0 rfl ?_
  refine r_if_lt (tgt := 30) hX dX1_proxyAt_1 (by decide) (fun c_1 => ?_) (fun c_1 => ?_)
  · have hf := hf_t c_1 hf
    refine r_null hX dX1_proxyAt_30 ?_
    cases hf
    exact hret _ _ dX1_proxyAt_31
  · have hf := hf_f c_1 hf
    refine r_iload_n hX dX1_proxyAt_4 rfl ?_
    refine r_aload_n hX dX1_proxyAt_5 rfl ?_
    refine g_1_2 hX fl_X1_24 hk0 dX1_proxyAt_6 ?_
    refine r_icmp_ge (tgt := 30) hX dX1_proxyAt_9 (by decide) (fun c_2 => ?_) (fun c_2 => ?_)
    · have hf := hf_t c_2 hf
      refine r_iload_n hX dX1_proxyAt_12 rfl ?_
      refine r_aload_n hX dX1_proxyAt_13 rfl ?_
      refine g_1_1 hX fl_X1_20 hk0 dX1_proxyAt_14 ?_
      refine r_qlen (n := 4) (v := 4) hX (ra_10 ((q_2_1 hX hk0))) (by decide) dX1_proxyAt_17 ?_
      refine r_icmp_ge (tgt := 30) hX dX1_proxyAt_18 (by decide) (fun c_3 => ?_) (fun c_3 => ?_)
      · have hf := hf_t c_3 hf
        refine r_aload_n hX dX1_proxyAt_21 rfl ?_
        refine g_1_1 hX fl_X1_20 hk0 dX1_proxyAt_22 ?_
        refine r_iload_n hX dX1_proxyAt_25 rfl ?_
        obtain ⟨g_4, hf⟩ := gd_some hf
        refine r_aald (n := 4) hX (ra_10 ((q_2_1 hX hk0))) g_4 dX1_proxyAt_26 ?_
        refine r_goto (tgt := 31) hX dX1_proxyAt_27 (by decide) ?_
        cases hf
        exact hret _ _ dX1_proxyAt_31
      · have hf := hf_f c_3 hf
        refine r_null hX dX1_proxyAt_30 ?_
        cases hf
        exact hret _ _ dX1_proxyAt_31
    · have hf := hf_f c_2 hf
      refine r_null hX dX1_proxyAt_30 ?_
      cases hf
      exact hret _ _ dX1_proxyAt_31
theorem kt_X1_proxyAt {G : GX} {I : HI} (hG : OKG G) {a0 : Nat} {x1 : Int32} (hk : gK G a0 = 2) {a : Nat} (h : f_X1_proxyAt I a0 x1 = some (some a)) : gK G a = 5 := by
  unfold f_X1_proxyAt at h
  repeat' split at h
  all_goals first | (cases h; done) | skip
  obtain ⟨g, h⟩ := gd_some h
  cases h
  exact (hG.2.2 _).2.2.2.2.2.2.2.2.2.1 ((hG.2.2 a0).2.1 hk).2 _ (vp_in_lt g)
noncomputable def f_X4_pageAt (I : HI) (a0 : Nat) (x1 : Int32) : Option (Int32) := if x1 < 0 then some ((-9 : Int32)) else if x1 < (I a0 2) then if x1 < (9 : Int32) then gd (vp_in x1 9) (some ((I ((a0 + 1)) x1.toNatClampNeg))) else some ((-9 : Int32)) else some ((-9 : Int32))
set_option maxHeartbeats 4000000 in
set_option maxRecDepth 100000 in
theorem k_X4_pageAt {G : GX} {l : Launch} {I : HI} {J : HJ} {r : Int32} (hG : OKG G) {a0 : Nat} {x1 : Int32} (hk0 : gK G a0 = 5) (hf : f_X4_pageAt I a0 x1 = some r) : Ctr G l yX4_pageAt cX4_pageAt 2 (some .int) 0 0 [.ref a0, .int x1] I J (some (.int r)) I J := by
  refine ctr_I hG (by decide) [some (.ref a0), some (.int x1)] rfl rfl fun X e1 e2 hX hret => ?_
  subst e1; subst e2
  unfold f_X4_pageAt at hf
  refine r_iload_n hX dX4_pageAt_0 rfl ?_
  refine r_if_lt (tgt := 30) hX dX4_pageAt_1 (by decide) (fun c_1 => ?_) (fun c_1 => ?_)
  · have hf := hf_t c_1 hf
    refine r_bipush (v := -9) hX dX4_pageAt_30 (by decide) ?_
    cases hf
    exact hret _ _ dX4_pageAt_32
  · have hf := hf_f c_1 hf
    refine r_iload_n hX dX4_pageAt_4 rfl ?_
    refine r_aload_n hX dX4_pageAt_5 rfl ?_
    refine g_4_2 hX fl_X4_18 hk0 dX4_pageAt_6 ?_
    refine r_icmp_ge (tgt := 30) hX dX4_pageAt_9 (by decide) (fun c_2 => ?_) (fun c_2 => ?_)
    · have hf := hf_t c_2 hf
      refine r_iload_n hX dX4_pageAt_12 rfl ?_
      refine r_aload_n hX dX4_pageAt_13 rfl ?_
      refine g_4_5 hX fl_X4_27 hk0 dX4_pageAt_14 ?_
      refine r_alen (n := 9) (v := 9) hX rfl ((q_5_5 hX hk0)) (by decide) dX4_pageAt_17 ?_
      refine r_icmp_ge (tgt := 30) hX dX4_pageAt_18 (by decide) (fun c_3 => ?_) (fun c_3 => ?_)
      · have hf := hf_t c_3 hf
        refine r_aload_n hX dX4_pageAt_21 rfl ?_
        refine g_4_5 hX fl_X4_27 hk0 dX4_pageAt_22 ?_
        refine r_iload_n hX dX4_pageAt_25 rfl ?_
        obtain ⟨g_4, hf⟩ := gd_some hf
        refine r_iald (n := 9) hX rfl ((q_5_5 hX hk0)) g_4 dX4_pageAt_26 ?_
        refine r_goto (tgt := 32) hX dX4_pageAt_27 (by decide) ?_
        cases hf
        exact hret _ _ dX4_pageAt_32
      · have hf := hf_f c_3 hf
        refine r_bipush (v := -9) hX dX4_pageAt_30 (by decide) ?_
        cases hf
        exact hret _ _ dX4_pageAt_32
    · have hf := hf_f c_2 hf
      refine r_bipush (v := -9) hX dX4_pageAt_30 (by decide) ?_
      cases hf
      exact hret _ _ dX4_pageAt_32
noncomputable def f_X4_move (I : HI) (a0 : Nat) (x1 : Int32) (x2 : Int32) : Option (HI) := if x1 < 0 then some I else if x1 < (16 : Int32) then gd (vp_in x1 16) (if (I ((a0 + 2)) x1.toNatClampNeg) < (7 : Int32) then gd (vp_in x1 16) (gd (vp_in x1 16) (lt1 (sI I ((a0 + 2)) x1.toNatClampNeg (((I ((a0 + 2)) x1.toNatClampNeg) + x2))) fun I_7 => some I_7)) else some I) else some I
set_option maxHeartbeats 4000000 in
set_option maxRecDepth 100000 in
theorem k_X4_move {G : GX} {l : Launch} {I : HI} {J : HJ} {I' : HI} (hG : OKG G) {a0 : Nat} {x1 : Int32} {x2 : Int32} (hk0 : gK G a0 = 5) (hf : f_X4_move I a0 x1 x2 = some I') : Ctr G l yX4_move cX4_move 3 none 0 0 [.ref a0, .int x1, .int x2] I J none I' J := by
  refine ctr_V hG (by decide) [some (.ref a0), some (.int x1), some (.int x2)] rfl rfl fun X e1 e2 hX hret => ?_
  subst e1; subst e2
  unfold f_X4_move at hf
  refine r_iload_n hX dX4_move_0 rfl ?_
  refine r_if_lt (tgt := 34) hX dX4_move_1 (by decide) (fun c_1 => ?_) (fun c_1 => ?_)
  · have hf := hf_t c_1 hf
    cases hf
    exact hret _ _ dX4_move_34
  · have hf := hf_f c_1 hf
    refine r_iload_n hX dX4_move_4 rfl ?_
    refine r_aload_n hX dX4_move_5 rfl ?_
    refine g_4_6 hX fl_X4_31 hk0 dX4_move_6 ?_
    refine r_alen (n := 16) (v := 16) hX rfl ((q_5_6 hX hk0)) (by decide) dX4_move_9 ?_
    refine r_icmp_ge (tgt := 34) hX dX4_move_10 (by decide) (fun c_2 => ?_) (fun c_2 => ?_)
    · have hf := hf_t c_2 hf
      refine r_aload_n hX dX4_move_13 rfl ?_
      refine g_4_6 hX fl_X4_31 hk0 dX4_move_14 ?_
      refine r_iload_n hX dX4_move_17 rfl ?_
      obtain ⟨g_3, hf⟩ := gd_some hf
      refine r_iald (n := 16) hX rfl ((q_5_6 hX hk0)) g_3 dX4_move_18 ?_
      refine r_bipush (v := 7) hX dX4_move_19 (by decide) ?_
      refine r_icmp_ge (tgt := 34) hX dX4_move_21 (by decide) (fun c_4 => ?_) (fun c_4 => ?_)
      · have hf := hf_t c_4 hf
        refine r_aload_n hX dX4_move_24 rfl ?_
        refine g_4_6 hX fl_X4_31 hk0 dX4_move_25 ?_
        refine r_iload_n hX dX4_move_28 rfl ?_
        refine r_dup2 hX dX4_move_29 rfl rfl ?_
        obtain ⟨g_5, hf⟩ := gd_some hf
        refine r_iald (n := 16) hX rfl ((q_5_6 hX hk0)) g_5 dX4_move_30 ?_
        refine r_iload_n hX dX4_move_31 rfl ?_
        refine r_iadd hX dX4_move_32 ?_
        obtain ⟨g_6, hf⟩ := gd_some hf
        obtain ⟨I_7, eI_7, hf⟩ := lt1_some hf
        refine r_iastE (n := 16) eI_7 hX rfl ((q_5_6 hX hk0)) g_6 dX4_move_33 ?_
        cases hf
        exact hret _ _ dX4_move_34
      · have hf := hf_f c_4 hf
        cases hf
        exact hret _ _ dX4_move_34
    · have hf := hf_f c_2 hf
      cases hf
      exact hret _ _ dX4_move_34
noncomputable def X1_tally_B3 (a0 : Nat) (a1 : Nat) (x2 : Int32) (x3 : Int32) (k3 : HI → Int32 → Option (HI)) (I : HI) (x4 : Int32) : Option (HI) := if x4 < (I ((a0 + 1)) 1) then bd1 (f_X0_cell I ((a0 + 1)) ((I ((a0 + 1)) 3)) x2 x4) fun r_2 => bd1 (f_X4_move I a1 r_2 x3) fun I_4 => lt1 (x4 + (1 : Int32)) fun x_6 => k3 I_4 x_6 else some I
set_option maxHeartbeats 4000000 in
set_option maxRecDepth 100000 in
theorem vX1_tally_3 {X : CX} {I' : HI} {J : HJ} (hX : OKX X cX1_tally RX1 1 23 5) (hret : RetV X cX1_tally I' J) (a0 : Nat) (a1 : Nat) (x2 : Int32) (x3 : Int32) (hk0 : gK (xG X) a0 = 2) (hk1 : gK (xG X) a1 = 5)   : ∀ (n : Nat) (I : HI) (x4 : Int32), wl2 (X1_tally_B3 a0 a1 x2 x3) n I x4 = some I' → V X I J 3 [some (.ref a0), some (.ref a1), some (.int x2), some (.int x3), some (.int x4)] [] := by
  refine wl2_V (P := fun (I : HI) (x4 : Int32) => V X I J 3 [some (.ref a0), some (.ref a1), some (.int x2), some (.int x3), some (.int x4)] []) ?_
  intro k3 hc3 I x4 hf
  unfold X1_tally_B3 at hf
  refine r_iload hX dX1_tally_3 rfl ?_
  refine r_aload_n hX dX1_tally_5 rfl ?_
  refine g_1_0 hX fl_X1_12 hk0 dX1_tally_6 ?_
  refine g_0_1 hX fl_X1_146 ((q_2_0 hX hk0)) dX1_tally_9 ?_
  refine r_icmp_ge (tgt := 43) hX dX1_tally_12 (by decide) (fun c_1 => ?_) (fun c_1 => ?_)
  · have hf := hf_t c_1 hf
    refine r_aload_n hX dX1_tally_15 rfl ?_
    refine r_aload_n hX dX1_tally_16 rfl ?_
    refine g_1_0 hX fl_X1_12 hk0 dX1_tally_17 ?_
    refine r_aload_n hX dX1_tally_20 rfl ?_
    refine g_1_0 hX fl_X1_12 hk0 dX1_tally_21 ?_
    refine g_0_3 hX fl_X1_87 ((q_2_0 hX hk0)) dX1_tally_24 ?_
    refine r_iload_n hX dX1_tally_27 rfl ?_
    refine r_iload hX dX1_tally_28 rfl ?_
    obtain ⟨r_2, h_3, hf⟩ := bd1_some hf
    refine r_callV (As := [.int ((I ((a0 + 1)) 3)), .int x2, .int x4]) (ci := 0) hX (k_X0_cell (l := xl X) (J := J) hX.ok ((q_2_0 hX hk0)) h_3) pk_X0_cell ml_X1_149 rfl rfl rfl rfl ((q_2_0 hX hk0)) rfl rfl rfl (Nat.le_of_ble_eq_true rfl) dX1_tally_30 ?_
    refine r_iload_n hX dX1_tally_33 rfl ?_
    obtain ⟨I_4, h_5, hf⟩ := bd1_some hf
    refine r_callV (As := [.int r_2, .int x3]) (ci := 4) hX (k_X4_move (l := xl X) (J := J) hX.ok hk1 h_5) pk_X4_move ml_X1_153 rfl rfl rfl rfl hk1 rfl rfl rfl (Nat.le_of_ble_eq_true rfl) dX1_tally_34 ?_
    obtain ⟨x_6, ex_6, hf⟩ := lt1_some hf
    refine r_iincE (n' := 1) ex_6 hX dX1_tally_37 rfl rfl rfl rfl ?_
    refine r_goto (tgt := 3) hX dX1_tally_40 (by decide) ?_
    refine V.mask [true, true, true, true, true] ?_
    exact hc3 I_4 x_6 hf
  · have hf := hf_f c_1 hf
    cases hf
    exact hret _ _ dX1_tally_43
noncomputable def f_X1_tally (I : HI) (a0 : Nat) (a1 : Nat) (x2 : Int32) (x3 : Int32) : Option (HI) := wl2 (X1_tally_B3 a0 a1 x2 x3) 5000 I ((0 : Int32))
set_option maxHeartbeats 4000000 in
set_option maxRecDepth 100000 in
theorem k_X1_tally {G : GX} {l : Launch} {I : HI} {J : HJ} {I' : HI} (hG : OKG G) {a0 : Nat} {a1 : Nat} {x2 : Int32} {x3 : Int32} (hk0 : gK G a0 = 2) (hk1 : gK G a1 = 5) (hf : f_X1_tally I a0 a1 x2 x3 = some I') : Ctr G l yX1_tally cX1_tally 5 none 1 23 [.ref a0, .ref a1, .int x2, .int x3] I J none I' J := by
  refine ctr_V hG (by decide) [some (.ref a0), some (.ref a1), some (.int x2), some (.int x3), none] rfl rfl fun X e1 e2 hX hret => ?_
  subst e1; subst e2
  unfold f_X1_tally at hf
  refine r_iconst (v := 0) hX dX1_tally_0 rfl ?_
  refine r_istore hX dX1_tally_1 rfl rfl ?_
  refine V.mask [true, true, true, true, true] ?_
  exact vX1_tally_3 hX hret a0 a1 x2 x3 hk0 hk1 5000 I ((0 : Int32)) hf
noncomputable def X1_rebuild_B11 (a0 : Nat) (a1 : Nat) (k11 : HI → Int32 → Option (HI)) (I : HI) (x2 : Int32) : Option (HI) := if x2 < 0 then some I else bd1 (f_X4_pageAt I a1 x2) fun r_5 => bd1 (f_X1_tally I a0 a1 r_5 ((1 : Int32))) fun I_7 => lt1 (x2 + (-1 : Int32)) fun x_9 => k11 I_7 x_9
set_option maxHeartbeats 4000000 in
set_option maxRecDepth 100000 in
theorem vX1_rebuild_11 {X : CX} {I' : HI} {J : HJ} (hX : OKX X cX1_rebuild RX1 2 47 3) (hret : RetV X cX1_rebuild I' J) (a0 : Nat) (a1 : Nat) (hk0 : gK (xG X) a0 = 2) (hk1 : gK (xG X) a1 = 5)   : ∀ (n : Nat) (I : HI) (x2 : Int32), wl2 (X1_rebuild_B11 a0 a1) n I x2 = some I' → V X I J 11 [some (.ref a0), some (.ref a1), some (.int x2)] [] := by
  refine wl2_V (P := fun (I : HI) (x2 : Int32) => V X I J 11 [some (.ref a0), some (.ref a1), some (.int x2)] []) ?_
  intro k11 hc11 I x2 hf
  unfold X1_rebuild_B11 at hf
  refine r_iload_n hX dX1_rebuild_11 rfl ?_
  refine r_if_lt (tgt := 32) hX dX1_rebuild_12 (by decide) (fun c_4 => ?_) (fun c_4 => ?_)
  · have hf := hf_t c_4 hf
    cases hf
    exact hret _ _ dX1_rebuild_32
  · have hf := hf_f c_4 hf
    refine r_aload_n hX dX1_rebuild_15 rfl ?_
    refine r_aload_n hX dX1_rebuild_16 rfl ?_
    refine r_aload_n hX dX1_rebuild_17 rfl ?_
    refine r_iload_n hX dX1_rebuild_18 rfl ?_
    obtain ⟨r_5, h_6, hf⟩ := bd1_some hf
    refine r_callV (As := [.int x2]) (ci := 4) hX (k_X4_pageAt (l := xl X) (J := J) hX.ok hk1 h_6) pk_X4_pageAt ml_X1_98 rfl rfl rfl rfl hk1 rfl rfl rfl (Nat.le_of_ble_eq_true rfl) dX1_rebuild_19 ?_
    refine r_iconst (v := 1) hX dX1_rebuild_22 rfl ?_
    obtain ⟨I_7, h_8, hf⟩ := bd1_some hf
    refine r_callV (As := [.ref a1, .int r_5, .int ((1 : Int32))]) (ci := 1) hX (k_X1_tally (l := xl X) (J := J) hX.ok hk0 hk1 h_8) pk_X1_tally ml_X1_133 rfl rfl rfl rfl hk0 rfl rfl rfl (Nat.le_of_ble_eq_true rfl) dX1_rebuild_23 ?_
    obtain ⟨x_9, ex_9, hf⟩ := lt1_some hf
    refine r_iincE (n' := -1) ex_9 hX dX1_rebuild_26 rfl rfl rfl rfl ?_
    refine r_goto (tgt := 11) hX dX1_rebuild_29 (by decide) ?_
    refine V.mask [true, true, true] ?_
    exact hc11 I_7 x_9 hf
noncomputable def f_X1_rebuild (I : HI) (a0 : Nat) (a1 : Nat) : Option (HI) := bd1 (f_X4_clearCounters I a1) fun I_1 => lt1 (((I_1 a1 2) - (1 : Int32))) fun x_3 => wl2 (X1_rebuild_B11 a0 a1) 5000 I_1 x_3
set_option maxHeartbeats 4000000 in
set_option maxRecDepth 100000 in
theorem k_X1_rebuild {G : GX} {l : Launch} {I : HI} {J : HJ} {I' : HI} (hG : OKG G) {a0 : Nat} {a1 : Nat} (hk0 : gK G a0 = 2) (hk1 : gK G a1 = 5) (hf : f_X1_rebuild I a0 a1 = some I') : Ctr G l yX1_rebuild cX1_rebuild 3 none 2 47 [.ref a0, .ref a1] I J none I' J := by
  refine ctr_V hG (by decide) [some (.ref a0), some (.ref a1), none] rfl rfl fun X e1 e2 hX hret => ?_
  subst e1; subst e2
  unfold f_X1_rebuild at hf
  refine r_aload_n hX dX1_rebuild_0 rfl ?_
  obtain ⟨I_1, h_2, hf⟩ := bd1_some hf
  refine r_callV (As := []) (ci := 4) hX (k_X4_clearCounters (l := xl X) (J := J) hX.ok hk1 h_2) pk_X4_clearCounters ml_X1_169 rfl rfl rfl rfl hk1 rfl rfl rfl (Nat.le_of_ble_eq_true rfl) dX1_rebuild_1 ?_
  refine r_aload_n hX dX1_rebuild_4 rfl ?_
  refine g_4_2 hX fl_X1_74 hk1 dX1_rebuild_5 ?_
  refine r_iconst (v := 1) hX dX1_rebuild_8 rfl ?_
  refine r_isub hX dX1_rebuild_9 ?_
  obtain ⟨x_3, ex_3, hf⟩ := lt1_some hf
  refine V.topi ex_3 ?_
  refine r_istore_n hX dX1_rebuild_10 rfl rfl ?_
  refine V.mask [true, true, true] ?_
  exact vX1_rebuild_11 hX hret a0 a1 hk0 hk1 5000 I_1 x_3 hf
noncomputable def X4_filterSet_J28 (I : HI) (a0 : Nat) (x1 : Int32) (x2 : Int32) (k4 : Int32 → Int32 → Option (Int32)) : Option (Int32) := lt1 (x2 + (1 : Int32)) fun x_5 => k4 x1 x_5
set_option maxHeartbeats 4000000 in
set_option maxRecDepth 100000 in
theorem vX4_filterSet_28 {X : CX} {r : Int32} {I : HI} {J : HJ} (hX : OKX X cX4_filterSet RX4 0 0 3) (hret : RetI X cX4_filterSet r I J) (a0 : Nat) (x1 : Int32) (x2 : Int32) (hk0 : gK (xG X) a0 = 5) (k4 : Int32 → Int32 → Option (Int32)) (hc4 : ∀ (x1 : Int32) (x2 : Int32), k4 x1 x2 = some r → V X I J 4 [some (.ref a0), some (.int x1), some (.int x2)] []) (hf : X4_filterSet_J28 I a0 x1 x2 k4 = some r) : V X I J 28 [some (.ref a0), some (.int x1), some (.int x2)] [] := by
  unfold X4_filterSet_J28 at hf
  obtain ⟨x_5, ex_5, hf⟩ := lt1_some hf
  refine r_iincE (n' := 1) ex_5 hX dX4_filterSet_28 rfl rfl rfl rfl ?_
  refine r_goto (tgt := 4) hX dX4_filterSet_31 (by decide) ?_
  refine V.mask [true, true, true] ?_
  exact hc4 x1 x_5 hf
noncomputable def X4_filterSet_B4 (I : HI) (a0 : Nat) (k4 : Int32 → Int32 → Option (Int32)) (x1 : Int32) (x2 : Int32) : Option (Int32) := if x2 < (16 : Int32) then gd (vp_in x2 16) (if 0 < (I ((a0 + 2)) x2.toNatClampNeg) then lt1 ((x1 ||| ((1 : Int32) <<< (x2 &&& 31)))) fun x_4 => X4_filterSet_J28 I a0 x_4 x2 k4 else X4_filterSet_J28 I a0 x1 x2 k4) else some x1
set_option maxHeartbeats 4000000 in
set_option maxRecDepth 100000 in
theorem vX4_filterSet_4 {X : CX} {r : Int32} {I : HI} {J : HJ} (hX : OKX X cX4_filterSet RX4 0 0 3) (hret : RetI X cX4_filterSet r I J) (a0 : Nat) (hk0 : gK (xG X) a0 = 5)   : ∀ (n : Nat) (x1 : Int32) (x2 : Int32), wl2 (X4_filterSet_B4 I a0) n x1 x2 = some r → V X I J 4 [some (.ref a0), some (.int x1), some (.int x2)] [] := by
  refine wl2_V (P := fun (x1 : Int32) (x2 : Int32) => V X I J 4 [some (.ref a0), some (.int x1), some (.int x2)] []) ?_
  intro k4 hc4 x1 x2 hf
  unfold X4_filterSet_B4 at hf
  refine r_iload_n hX dX4_filterSet_4 rfl ?_
  refine r_aload_n hX dX4_filterSet_5 rfl ?_
  refine g_4_6 hX fl_X4_31 hk0 dX4_filterSet_6 ?_
  refine r_alen (n := 16) (v := 16) hX rfl ((q_5_6 hX hk0)) (by decide) dX4_filterSet_9 ?_
  refine r_icmp_ge (tgt := 34) hX dX4_filterSet_10 (by decide) (fun c_1 => ?_) (fun c_1 => ?_)
  · have hf := hf_t c_1 hf
    refine r_aload_n hX dX4_filterSet_13 rfl ?_
    refine g_4_6 hX fl_X4_31 hk0 dX4_filterSet_14 ?_
    refine r_iload_n hX dX4_filterSet_17 rfl ?_
    obtain ⟨g_2, hf⟩ := gd_some hf
    refine r_iald (n := 16) hX rfl ((q_5_6 hX hk0)) g_2 dX4_filterSet_18 ?_
    refine r_if_le (tgt := 28) hX dX4_filterSet_19 (by decide) (fun c_3 => ?_) (fun c_3 => ?_)
    · have hf := hf_t c_3 hf
      refine r_iload_n hX dX4_filterSet_22 rfl ?_
      refine r_iconst (v := 1) hX dX4_filterSet_23 rfl ?_
      refine r_iload_n hX dX4_filterSet_24 rfl ?_
      refine r_ishl hX dX4_filterSet_25 ?_
      refine r_ior hX dX4_filterSet_26 ?_
      obtain ⟨x_4, ex_4, hf⟩ := lt1_some hf
      refine V.topi ex_4 ?_
      refine r_istore_n hX dX4_filterSet_27 rfl rfl ?_
      refine V.mask [true, true, true] ?_
      exact vX4_filterSet_28 hX hret a0 x_4 x2 hk0 k4 hc4 hf
    · have hf := hf_f c_3 hf
      refine V.mask [true, true, true] ?_
      exact vX4_filterSet_28 hX hret a0 x1 x2 hk0 k4 hc4 hf
  · have hf := hf_f c_1 hf
    refine r_iload_n hX dX4_filterSet_34 rfl ?_
    cases hf
    exact hret _ _ dX4_filterSet_35
noncomputable def f_X4_filterSet (I : HI) (a0 : Nat) : Option (Int32) := wl2 (X4_filterSet_B4 I a0) 5000 ((0 : Int32)) ((0 : Int32))
set_option maxHeartbeats 4000000 in
set_option maxRecDepth 100000 in
theorem k_X4_filterSet {G : GX} {l : Launch} {I : HI} {J : HJ} {r : Int32} (hG : OKG G) {a0 : Nat} (hk0 : gK G a0 = 5) (hf : f_X4_filterSet I a0 = some r) : Ctr G l yX4_filterSet cX4_filterSet 3 (some .int) 0 0 [.ref a0] I J (some (.int r)) I J := by
  refine ctr_I hG (by decide) [some (.ref a0), none, none] rfl rfl fun X e1 e2 hX hret => ?_
  subst e1; subst e2
  unfold f_X4_filterSet at hf
  refine r_iconst (v := 0) hX dX4_filterSet_0 rfl ?_
  refine r_istore_n hX dX4_filterSet_1 rfl rfl ?_
  refine r_iconst (v := 0) hX dX4_filterSet_2 rfl ?_
  refine r_istore_n hX dX4_filterSet_3 rfl rfl ?_
  refine V.mask [true, true, true] ?_
  exact vX4_filterSet_4 hX hret a0 hk0 5000 ((0 : Int32)) ((0 : Int32)) hf
noncomputable def f_X1_spread (I : HI) (a0 : Nat) (a1 : Nat) : Option (Int32 × HI) := bd1 (f_X4_filterSet I a1) fun r_1 => lt1 (sI I a1 4 r_1) fun I_3 => lt1 (sI I_3 a1 3 ((0 : Int32))) fun I_4 => lt1 (sI I_4 a0 6 (((I_4 a0 6) + ((I_4 a0 2) - (1 : Int32))))) fun I_5 => some ((1 : Int32), I_5)
set_option maxHeartbeats 4000000 in
set_option maxRecDepth 100000 in
theorem k_X1_spread {G : GX} {l : Launch} {I : HI} {J : HJ} {I' : HI} {r : Int32} (hG : OKG G) {a0 : Nat} {a1 : Nat} (hk0 : gK G a0 = 2) (hk1 : gK G a1 = 5) (hf : f_X1_spread I a0 a1 = some (r, I')) : Ctr G l yX1_spread cX1_spread 2 (some .boolean) 1 22 [.ref a0, .ref a1] I J (some (.int r)) I' J := by
  refine ctr_Zb hG (by decide) [some (.ref a0), some (.ref a1)] rfl rfl fun X e1 e2 hX hret => ?_
  subst e1; subst e2
  unfold f_X1_spread at hf
  refine r_aload_n hX dX1_spread_0 rfl ?_
  refine r_aload_n hX dX1_spread_1 rfl ?_
  obtain ⟨r_1, h_2, hf⟩ := bd1_some hf
  refine r_callV (As := []) (ci := 4) hX (k_X4_filterSet (l := xl X) (J := J) hX.ok hk1 h_2) pk_X4_filterSet ml_X1_83 rfl rfl rfl rfl hk1 rfl rfl rfl (Nat.le_of_ble_eq_true rfl) dX1_spread_2 ?_
  obtain ⟨I_3, eI_3, hf⟩ := lt1_some hf
  refine p_4_4 eI_3 hX fl_X1_80 hk1 dX1_spread_5 ?_
  refine r_aload_n hX dX1_spread_8 rfl ?_
  refine r_iconst (v := 0) hX dX1_spread_9 rfl ?_
  obtain ⟨I_4, eI_4, hf⟩ := lt1_some hf
  refine p_4_3 eI_4 hX fl_X1_137 hk1 dX1_spread_10 ?_
  refine r_aload_n hX dX1_spread_13 rfl ?_
  refine r_dup hX dX1_spread_14 rfl ?_
  refine g_1_6 hX fl_X1_37 hk0 dX1_spread_15 ?_
  refine r_aload_n hX dX1_spread_18 rfl ?_
  refine g_1_2 hX fl_X1_24 hk0 dX1_spread_19 ?_
  refine r_iconst (v := 1) hX dX1_spread_22 rfl ?_
  refine r_isub hX dX1_spread_23 ?_
  refine r_iadd hX dX1_spread_24 ?_
  obtain ⟨I_5, eI_5, hf⟩ := lt1_some hf
  refine p_1_6 eI_5 hX fl_X1_37 hk0 dX1_spread_25 ?_
  refine r_iconst (v := 1) hX dX1_spread_28 rfl ?_
  cases hf
  exact hret _ _ zb_1 dX1_spread_29
noncomputable def X1_adopt_J52 (I : HI) (a0 : Nat) (x2 : Int32) (k23 : HI → Int32 → Option (Int32 × HI)) : Option (Int32 × HI) := lt1 (x2 + (1 : Int32)) fun x_15 => k23 I x_15
set_option maxHeartbeats 4000000 in
set_option maxRecDepth 100000 in
theorem vX1_adopt_52 {X : CX} {I' : HI} {r : Int32} {I : HI} {J : HJ} (hX : OKX X cX1_adopt RX1 3 69 4) (hret : RetZ X cX1_adopt r I' J) (a0 : Nat) (x2 : Int32) (hk0 : gK (xG X) a0 = 2) (k23 : HI → Int32 → Option (Int32 × HI)) (hc23 : ∀ (I : HI) (x2 : Int32), k23 I x2 = some (r, I') → V X I J 23 [some (.ref a0), none, some (.int x2), none] []) (hf : X1_adopt_J52 I a0 x2 k23 = some (r, I')) : V X I J 52 [some (.ref a0), none, some (.int x2), none] [] := by
  unfold X1_adopt_J52 at hf
  obtain ⟨x_15, ex_15, hf⟩ := lt1_some hf
  refine r_iincE (n' := 1) ex_15 hX dX1_adopt_52 rfl rfl rfl rfl ?_
  refine r_goto (tgt := 23) hX dX1_adopt_55 (by decide) ?_
  refine V.mask [true, false, true, false] ?_
  exact hc23 I x_15 hf
noncomputable def X1_adopt_B23 (a0 : Nat) (k23 : HI → Int32 → Option (Int32 × HI)) (I : HI) (x2 : Int32) : Option (Int32 × HI) := if x2 < (I a0 2) then bd1 (f_X1_proxyAt I a0 x2) fun r_6 => mN r_6 (X1_adopt_J52 I a0 x2 k23) (fun a_8 => bd1 (f_X1_rebuild I a0 a_8) fun I_10 => bd2 (f_X1_spread I_10 a0 a_8) fun r_12 I_13 => X1_adopt_J52 I_13 a0 x2 k23) else some ((1 : Int32), I)
set_option maxHeartbeats 4000000 in
set_option maxRecDepth 100000 in
theorem vX1_adopt_23 {X : CX} {I' : HI} {r : Int32} {J : HJ} (hX : OKX X cX1_adopt RX1 3 69 4) (hret : RetZ X cX1_adopt r I' J) (a0 : Nat) (hk0 : gK (xG X) a0 = 2)   : ∀ (n : Nat) (I : HI) (x2 : Int32), wl2 (X1_adopt_B23 a0) n I x2 = some (r, I') → V X I J 23 [some (.ref a0), none, some (.int x2), none] [] := by
  refine wl2_V (P := fun (I : HI) (x2 : Int32) => V X I J 23 [some (.ref a0), none, some (.int x2), none] []) ?_
  intro k23 hc23 I x2 hf
  unfold X1_adopt_B23 at hf
  refine r_iload_n hX dX1_adopt_23 rfl ?_
  refine r_aload_n hX dX1_adopt_24 rfl ?_
  refine g_1_2 hX fl_X1_24 hk0 dX1_adopt_25 ?_
  refine r_icmp_ge (tgt := 58) hX dX1_adopt_28 (by decide) (fun c_5 => ?_) (fun c_5 => ?_)
  · have hf := hf_t c_5 hf
    refine r_aload_n hX dX1_adopt_31 rfl ?_
    refine r_iload_n hX dX1_adopt_32 rfl ?_
    obtain ⟨r_6, h_7, hf⟩ := bd1_some hf
    refine r_callV (As := [.int x2]) (ci := 1) hX (k_X1_proxyAt (l := xl X) (J := J) hX.ok hk0 h_7) pk_X1_proxyAt ml_X1_66 rfl rfl rfl rfl hk0 rfl rfl rfl (Nat.le_of_ble_eq_true rfl) dX1_adopt_33 ?_
    cases r_6 with
    | none =>
      have hf := mN_n hf
      refine r_astore_nN hX dX1_adopt_36 rfl rfl ?_
      refine r_aload_nN hX dX1_adopt_37 rfl ?_
      refine r_ifnull_n (tgt := 52) hX dX1_adopt_38 (by decide) ?_
      refine V.mask [true, false, true, false] ?_
      exact vX1_adopt_52 hX hret a0 x2 hk0 k23 hc23 hf
    | some a_8 =>
      have hf := mN_s hf
      have hk_9 := kt_X1_proxyAt hX.ok hk0 h_7
      refine r_astore_n hX dX1_adopt_36 rfl rfl ?_
      refine r_aload_n hX dX1_adopt_37 rfl ?_
      refine r_ifnull_r hX dX1_adopt_38 ?_
      refine r_aload_n hX dX1_adopt_41 rfl ?_
      refine r_aload_n hX dX1_adopt_42 rfl ?_
      obtain ⟨I_10, h_11, hf⟩ := bd1_some hf
      refine r_callV (As := [.ref a_8]) (ci := 1) hX (k_X1_rebuild (l := xl X) (J := J) hX.ok hk0 hk_9 h_11) pk_X1_rebuild ml_X1_166 rfl rfl rfl rfl hk0 rfl rfl rfl (Nat.le_of_ble_eq_true rfl) dX1_adopt_43 ?_
      refine r_aload_n hX dX1_adopt_46 rfl ?_
      refine r_aload_n hX dX1_adopt_47 rfl ?_
      obtain ⟨r_12, I_13, h_14, hf⟩ := bd2_some hf
      refine r_callV (As := [.ref a_8]) (ci := 1) hX (k_X1_spread (l := xl X) (J := J) hX.ok hk0 hk_9 h_14) pk_X1_spread ml_X1_159 rfl rfl rfl rfl hk0 rfl rfl rfl (Nat.le_of_ble_eq_true rfl) dX1_adopt_48 ?_
      refine r_pop hX dX1_adopt_51 rfl ?_
      refine V.mask [true, false, true, false] ?_
      exact vX1_adopt_52 hX hret a0 x2 hk0 k23 hc23 hf
  · have hf := hf_f c_5 hf
    refine r_iconst (v := 1) hX dX1_adopt_58 rfl ?_
    cases hf
    exact hret _ _ zb_1 dX1_adopt_59
noncomputable def f_X1_adopt (I : HI) (a0 : Nat) (x1 : Int32) : Option (Int32 × HI) := bd1 (f_X0_isFamily I ((a0 + 1)) x1) fun r_1 => if r_1 = 0 then some ((0 : Int32), I) else lt1 (sI I ((a0 + 1)) 3 x1) fun I_4 => wl2 (X1_adopt_B23 a0) 5000 I_4 ((0 : Int32))
set_option maxHeartbeats 4000000 in
set_option maxRecDepth 100000 in
theorem k_X1_adopt {G : GX} {l : Launch} {I : HI} {J : HJ} {I' : HI} {r : Int32} (hG : OKG G) {a0 : Nat} {x1 : Int32} (hk0 : gK G a0 = 2) (hf : f_X1_adopt I a0 x1 = some (r, I')) : Ctr G l yX1_adopt cX1_adopt 4 (some .boolean) 3 69 [.ref a0, .int x1] I J (some (.int r)) I' J := by
  refine ctr_Zb hG (by decide) [some (.ref a0), some (.int x1), none, none] rfl rfl fun X e1 e2 hX hret => ?_
  subst e1; subst e2
  unfold f_X1_adopt at hf
  refine r_aload_n hX dX1_adopt_0 rfl ?_
  refine g_1_0 hX fl_X1_12 hk0 dX1_adopt_1 ?_
  refine r_iload_n hX dX1_adopt_4 rfl ?_
  obtain ⟨r_1, h_2, hf⟩ := bd1_some hf
  refine r_callV (As := [.int x1]) (ci := 0) hX (k_X0_isFamily (l := xl X) (J := J) hX.ok ((q_2_0 hX hk0)) h_2) pk_X0_isFamily ml_X1_163 rfl rfl rfl rfl ((q_2_0 hX hk0)) rfl rfl rfl (Nat.le_of_ble_eq_true rfl) dX1_adopt_5 ?_
  refine r_if_ne (tgt := 13) hX dX1_adopt_8 (by decide) (fun c_3 => ?_) (fun c_3 => ?_)
  · have hf := hf_t c_3 hf
    refine r_iconst (v := 0) hX dX1_adopt_11 rfl ?_
    cases hf
    exact hret _ _ zb_0 dX1_adopt_12
  · have hf := hf_f c_3 hf
    refine r_aload_n hX dX1_adopt_13 rfl ?_
    refine g_1_0 hX fl_X1_12 hk0 dX1_adopt_14 ?_
    refine r_iload_n hX dX1_adopt_17 rfl ?_
    obtain ⟨I_4, eI_4, hf⟩ := lt1_some hf
    refine p_0_3 eI_4 hX fl_X1_87 ((q_2_0 hX hk0)) dX1_adopt_18 ?_
    refine r_iconst (v := 0) hX dX1_adopt_21 rfl ?_
    refine r_istore_n hX dX1_adopt_22 rfl rfl ?_
    refine V.mask [true, false, true, false] ?_
    exact vX1_adopt_23 hX hret a0 hk0 5000 I_4 ((0 : Int32)) hf
noncomputable def X1_complete_J19 (I : HI) (a0 : Nat) : Option (HI) := bd2 (f_X1_adopt I a0 ((0 : Int32))) fun r_4 I_5 => bd1 (f_X1_clearCounts I_5 a0) fun I_7 => some I_7
set_option maxHeartbeats 4000000 in
set_option maxRecDepth 100000 in
theorem vX1_complete_19 {X : CX} {I' : HI} {I : HI} {J : HJ} (hX : OKX X cX1_complete RX1 4 92 1) (hret : RetV X cX1_complete I' J) (a0 : Nat) (hk0 : gK (xG X) a0 = 2)   (hf : X1_complete_J19 I a0 = some I') : V X I J 19 [some (.ref a0)] [] := by
  unfold X1_complete_J19 at hf
  refine r_aload_n hX dX1_complete_19 rfl ?_
  refine r_iconst (v := 0) hX dX1_complete_20 rfl ?_
  obtain ⟨r_4, I_5, h_6, hf⟩ := bd2_some hf
  refine r_callV (As := [.int ((0 : Int32))]) (ci := 1) hX (k_X1_adopt (l := xl X) (J := J) hX.ok hk0 h_6) pk_X1_adopt ml_X1_62 rfl rfl rfl rfl hk0 rfl rfl rfl (Nat.le_of_ble_eq_true rfl) dX1_complete_21 ?_
  refine r_pop hX dX1_complete_24 rfl ?_
  refine r_aload_n hX dX1_complete_25 rfl ?_
  obtain ⟨I_7, h_8, hf⟩ := bd1_some hf
  refine r_callV (As := []) (ci := 1) hX (k_X1_clearCounts (l := xl X) (J := J) hX.ok hk0 h_8) pk_X1_clearCounts ml_X1_52 rfl rfl rfl rfl hk0 rfl rfl rfl (Nat.le_of_ble_eq_true rfl) dX1_complete_26 ?_
  cases hf
  exact hret _ _ dX1_complete_29
noncomputable def f_X1_complete (I : HI) (a0 : Nat) : Option (HI) := if (I ((a0 + 1)) 2) = 0 then bd1 (f_X0_addFamily I ((a0 + 1)) ((1 : Int32)) ((1 : Int32))) fun I_2 => X1_complete_J19 I_2 a0 else X1_complete_J19 I a0
set_option maxHeartbeats 4000000 in
set_option maxRecDepth 100000 in
theorem k_X1_complete {G : GX} {l : Launch} {I : HI} {J : HJ} {I' : HI} (hG : OKG G) {a0 : Nat} (hk0 : gK G a0 = 2) (hf : f_X1_complete I a0 = some I') : Ctr G l yX1_complete cX1_complete 1 none 4 92 [.ref a0] I J none I' J := by
  refine ctr_V hG (by decide) [some (.ref a0)] rfl rfl fun X e1 e2 hX hret => ?_
  subst e1; subst e2
  unfold f_X1_complete at hf
  refine r_aload_n hX dX1_complete_0 rfl ?_
  refine g_1_0 hX fl_X1_12 hk0 dX1_complete_1 ?_
  refine g_0_2 hX fl_X1_56 ((q_2_0 hX hk0)) dX1_complete_4 ?_
  refine r_if_ne (tgt := 19) hX dX1_complete_7 (by decide) (fun c_1 => ?_) (fun c_1 => ?_)
  · have hf := hf_t c_1 hf
    refine r_aload_n hX dX1_complete_10 rfl ?_
    refine g_1_0 hX fl_X1_12 hk0 dX1_complete_11 ?_
    refine r_iconst (v := 1) hX dX1_complete_14 rfl ?_
    refine r_iconst (v := 1) hX dX1_complete_15 rfl ?_
    obtain ⟨I_2, h_3, hf⟩ := bd1_some hf
    refine r_callV (As := [.int ((1 : Int32)), .int ((1 : Int32))]) (ci := 0) hX (k_X0_addFamily (l := xl X) (J := J) hX.ok ((q_2_0 hX hk0)) h_3) pk_X0_addFamily ml_X1_59 rfl rfl rfl rfl ((q_2_0 hX hk0)) rfl rfl rfl (Nat.le_of_ble_eq_true rfl) dX1_complete_16 ?_
    refine V.mask [true] ?_
    exact vX1_complete_19 hX hret a0 hk0 hf
  · have hf := hf_f c_1 hf
    refine V.mask [true] ?_
    exact vX1_complete_19 hX hret a0 hk0 hf
noncomputable def f_X4_hasRoom (I : HI) (a0 : Nat) : Option (Int32) := if (I a0 2) < (I a0 0) then if (I a0 2) < (9 : Int32) then some ((1 : Int32)) else some ((0 : Int32)) else some ((0 : Int32))
set_option maxHeartbeats 4000000 in
set_option maxRecDepth 100000 in
theorem k_X4_hasRoom {G : GX} {l : Launch} {I : HI} {J : HJ} {r : Int32} (hG : OKG G) {a0 : Nat} (hk0 : gK G a0 = 5) (hf : f_X4_hasRoom I a0 = some r) : Ctr G l yX4_hasRoom cX4_hasRoom 1 (some .boolean) 0 0 [.ref a0] I J (some (.int r)) I J := by
  refine ctr_Zb hG (by decide) [some (.ref a0)] rfl rfl fun X e1 e2 hX hret => ?_
  subst e1; subst e2
  unfold f_X4_hasRoom at hf
  refine r_aload_n hX dX4_hasRoom_0 rfl ?_
  refine g_4_2 hX fl_X4_18 hk0 dX4_hasRoom_1 ?_
  refine r_aload_n hX dX4_hasRoom_4 rfl ?_
  refine g_4_0 hX fl_X4_9 hk0 dX4_hasRoom_5 ?_
  refine r_icmp_ge (tgt := 27) hX dX4_hasRoom_8 (by decide) (fun c_1 => ?_) (fun c_1 => ?_)
  · have hf := hf_t c_1 hf
    refine r_aload_n hX dX4_hasRoom_11 rfl ?_
    refine g_4_2 hX fl_X4_18 hk0 dX4_hasRoom_12 ?_
    refine r_aload_n hX dX4_hasRoom_15 rfl ?_
    refine g_4_5 hX fl_X4_27 hk0 dX4_hasRoom_16 ?_
    refine r_alen (n := 9) (v := 9) hX rfl ((q_5_5 hX hk0)) (by decide) dX4_hasRoom_19 ?_
    refine r_icmp_ge (tgt := 27) hX dX4_hasRoom_20 (by decide) (fun c_2 => ?_) (fun c_2 => ?_)
    · have hf := hf_t c_2 hf
      refine r_iconst (v := 1) hX dX4_hasRoom_23 rfl ?_
      refine r_goto (tgt := 28) hX dX4_hasRoom_24 (by decide) ?_
      cases hf
      exact hret _ _ zb_1 dX4_hasRoom_28
    · have hf := hf_f c_2 hf
      refine r_iconst (v := 0) hX dX4_hasRoom_27 rfl ?_
      cases hf
      exact hret _ _ zb_0 dX4_hasRoom_28
  · have hf := hf_f c_1 hf
    refine r_iconst (v := 0) hX dX4_hasRoom_27 rfl ?_
    cases hf
    exact hret _ _ zb_0 dX4_hasRoom_28
noncomputable def X1_anyRoom_J29 (I : HI) (a0 : Nat) (x1 : Int32) (k2 : Int32 → Option (Int32)) : Option (Int32) := lt1 (x1 + (1 : Int32)) fun x_9 => k2 x_9
set_option maxHeartbeats 4000000 in
set_option maxRecDepth 100000 in
theorem vX1_anyRoom_29 {X : CX} {r : Int32} {I : HI} {J : HJ} (hX : OKX X cX1_anyRoom RX1 1 21 3) (hret : RetZ X cX1_anyRoom r I J) (a0 : Nat) (x1 : Int32) (hk0 : gK (xG X) a0 = 2) (k2 : Int32 → Option (Int32)) (hc2 : ∀ (x1 : Int32), k2 x1 = some r → V X I J 2 [some (.ref a0), some (.int x1), none] []) (hf : X1_anyRoom_J29 I a0 x1 k2 = some r) : V X I J 29 [some (.ref a0), some (.int x1), none] [] := by
  unfold X1_anyRoom_J29 at hf
  obtain ⟨x_9, ex_9, hf⟩ := lt1_some hf
  refine r_iincE (n' := 1) ex_9 hX dX1_anyRoom_29 rfl rfl rfl rfl ?_
  refine r_goto (tgt := 2) hX dX1_anyRoom_32 (by decide) ?_
  refine V.mask [true, true, false] ?_
  exact hc2 x_9 hf
noncomputable def X1_anyRoom_B2 (I : HI) (a0 : Nat) (k2 : Int32 → Option (Int32)) (x1 : Int32) : Option (Int32) := if x1 < (I a0 2) then bd1 (f_X1_proxyAt I a0 x1) fun r_2 => mN r_2 (X1_anyRoom_J29 I a0 x1 k2) (fun a_4 => bd1 (f_X4_hasRoom I a_4) fun r_6 => if r_6 = 0 then X1_anyRoom_J29 I a0 x1 k2 else some ((1 : Int32))) else some ((0 : Int32))
set_option maxHeartbeats 4000000 in
set_option maxRecDepth 100000 in
theorem vX1_anyRoom_2 {X : CX} {r : Int32} {I : HI} {J : HJ} (hX : OKX X cX1_anyRoom RX1 1 21 3) (hret : RetZ X cX1_anyRoom r I J) (a0 : Nat) (hk0 : gK (xG X) a0 = 2)   : ∀ (n : Nat) (x1 : Int32), wl1 (X1_anyRoom_B2 I a0) n x1 = some r → V X I J 2 [some (.ref a0), some (.int x1), none] [] := by
  refine wl1_V (P := fun (x1 : Int32) => V X I J 2 [some (.ref a0), some (.int x1), none] []) ?_
  intro k2 hc2 x1 hf
  unfold X1_anyRoom_B2 at hf
  refine r_iload_n hX dX1_anyRoom_2 rfl ?_
  refine r_aload_n hX dX1_anyRoom_3 rfl ?_
  refine g_1_2 hX fl_X1_24 hk0 dX1_anyRoom_4 ?_
  refine r_icmp_ge (tgt := 35) hX dX1_anyRoom_7 (by decide) (fun c_1 => ?_) (fun c_1 => ?_)
  · have hf := hf_t c_1 hf
    refine r_aload_n hX dX1_anyRoom_10 rfl ?_
    refine r_iload_n hX dX1_anyRoom_11 rfl ?_
    obtain ⟨r_2, h_3, hf⟩ := bd1_some hf
    refine r_callV (As := [.int x1]) (ci := 1) hX (k_X1_proxyAt (l := xl X) (J := J) hX.ok hk0 h_3) pk_X1_proxyAt ml_X1_66 rfl rfl rfl rfl hk0 rfl rfl rfl (Nat.le_of_ble_eq_true rfl) dX1_anyRoom_12 ?_
    cases r_2 with
    | none =>
      have hf := mN_n hf
      refine r_astore_nN hX dX1_anyRoom_15 rfl rfl ?_
      refine r_aload_nN hX dX1_anyRoom_16 rfl ?_
      refine r_ifnull_n (tgt := 29) hX dX1_anyRoom_17 (by decide) ?_
      refine V.mask [true, true, false] ?_
      exact vX1_anyRoom_29 hX hret a0 x1 hk0 k2 hc2 hf
    | some a_4 =>
      have hf := mN_s hf
      have hk_5 := kt_X1_proxyAt hX.ok hk0 h_3
      refine r_astore_n hX dX1_anyRoom_15 rfl rfl ?_
      refine r_aload_n hX dX1_anyRoom_16 rfl ?_
      refine r_ifnull_r hX dX1_anyRoom_17 ?_
      refine r_aload_n hX dX1_anyRoom_20 rfl ?_
      obtain ⟨r_6, h_7, hf⟩ := bd1_some hf
      refine r_callV (As := []) (ci := 4) hX (k_X4_hasRoom (l := xl X) (J := J) hX.ok hk_5 h_7) pk_X4_hasRoom ml_X1_70 rfl rfl rfl rfl hk_5 rfl rfl rfl (Nat.le_of_ble_eq_true rfl) dX1_anyRoom_21 ?_
      refine r_if_eq (tgt := 29) hX dX1_anyRoom_24 (by decide) (fun c_8 => ?_) (fun c_8 => ?_)
      · have hf := hf_t c_8 hf
        refine V.mask [true, true, false] ?_
        exact vX1_anyRoom_29 hX hret a0 x1 hk0 k2 hc2 hf
      · have hf := hf_f c_8 hf
        refine r_iconst (v := 1) hX dX1_anyRoom_27 rfl ?_
        cases hf
        exact hret _ _ zb_1 dX1_anyRoom_28
  · have hf := hf_f c_1 hf
    refine r_iconst (v := 0) hX dX1_anyRoom_35 rfl ?_
    cases hf
    exact hret _ _ zb_0 dX1_anyRoom_36
noncomputable def f_X1_anyRoom (I : HI) (a0 : Nat) : Option (Int32) := wl1 (X1_anyRoom_B2 I a0) 5000 ((0 : Int32))
set_option maxHeartbeats 4000000 in
set_option maxRecDepth 100000 in
theorem k_X1_anyRoom {G : GX} {l : Launch} {I : HI} {J : HJ} {r : Int32} (hG : OKG G) {a0 : Nat} (hk0 : gK G a0 = 2) (hf : f_X1_anyRoom I a0 = some r) : Ctr G l yX1_anyRoom cX1_anyRoom 3 (some .boolean) 1 21 [.ref a0] I J (some (.int r)) I J := by
  refine ctr_Zb hG (by decide) [some (.ref a0), none, none] rfl rfl fun X e1 e2 hX hret => ?_
  subst e1; subst e2
  unfold f_X1_anyRoom at hf
  refine r_iconst (v := 0) hX dX1_anyRoom_0 rfl ?_
  refine r_istore_n hX dX1_anyRoom_1 rfl rfl ?_
  refine V.mask [true, true, false] ?_
  exact vX1_anyRoom_2 hX hret a0 hk0 5000 ((0 : Int32)) hf
noncomputable def f_X1_cost (I : HI) (a0 : Nat) : Option (Int32) := some ((((I a0 3) + (I a0 6)) + ((5 : Int32) * (I a0 5))))
set_option maxHeartbeats 4000000 in
set_option maxRecDepth 100000 in
theorem k_X1_cost {G : GX} {l : Launch} {I : HI} {J : HJ} {r : Int32} (hG : OKG G) {a0 : Nat} (hk0 : gK G a0 = 2) (hf : f_X1_cost I a0 = some r) : Ctr G l yX1_cost cX1_cost 1 (some .int) 0 0 [.ref a0] I J (some (.int r)) I J := by
  refine ctr_I hG (by decide) [some (.ref a0)] rfl rfl fun X e1 e2 hX hret => ?_
  subst e1; subst e2
  unfold f_X1_cost at hf
  refine r_aload_n hX dX1_cost_0 rfl ?_
  refine g_1_3 hX fl_X1_28 hk0 dX1_cost_1 ?_
  refine r_aload_n hX dX1_cost_4 rfl ?_
  refine g_1_6 hX fl_X1_37 hk0 dX1_cost_5 ?_
  refine r_iadd hX dX1_cost_8 ?_
  refine r_iconst (v := 5) hX dX1_cost_9 rfl ?_
  refine r_aload_n hX dX1_cost_10 rfl ?_
  refine g_1_5 hX fl_X1_34 hk0 dX1_cost_11 ?_
  refine r_imul hX dX1_cost_14 ?_
  refine r_iadd hX dX1_cost_15 ?_
  cases hf
  exact hret _ _ dX1_cost_16
noncomputable def X1_allPages_J29 (I : HI) (a0 : Nat) (x1 : Int32) (x2 : Int32) (k4 : Int32 → Int32 → Option (Int32)) : Option (Int32) := lt1 (x2 + (1 : Int32)) fun x_7 => k4 x1 x_7
set_option maxHeartbeats 4000000 in
set_option maxRecDepth 100000 in
theorem vX1_allPages_29 {X : CX} {r : Int32} {I : HI} {J : HJ} (hX : OKX X cX1_allPages RX1 1 21 4) (hret : RetI X cX1_allPages r I J) (a0 : Nat) (x1 : Int32) (x2 : Int32) (hk0 : gK (xG X) a0 = 2) (k4 : Int32 → Int32 → Option (Int32)) (hc4 : ∀ (x1 : Int32) (x2 : Int32), k4 x1 x2 = some r → V X I J 4 [some (.ref a0), some (.int x1), some (.int x2), none] []) (hf : X1_allPages_J29 I a0 x1 x2 k4 = some r) : V X I J 29 [some (.ref a0), some (.int x1), some (.int x2), none] [] := by
  unfold X1_allPages_J29 at hf
  obtain ⟨x_7, ex_7, hf⟩ := lt1_some hf
  refine r_iincE (n' := 1) ex_7 hX dX1_allPages_29 rfl rfl rfl rfl ?_
  refine r_goto (tgt := 4) hX dX1_allPages_32 (by decide) ?_
  refine V.mask [true, true, true, false] ?_
  exact hc4 x1 x_7 hf
noncomputable def X1_allPages_B4 (I : HI) (a0 : Nat) (k4 : Int32 → Int32 → Option (Int32)) (x1 : Int32) (x2 : Int32) : Option (Int32) := if x2 < (I a0 2) then bd1 (f_X1_proxyAt I a0 x2) fun r_2 => mN r_2 (X1_allPages_J29 I a0 x1 x2 k4) (fun a_4 => lt1 ((x1 + (I a_4 2))) fun x_6 => X1_allPages_J29 I a0 x_6 x2 k4) else some x1
set_option maxHeartbeats 4000000 in
set_option maxRecDepth 100000 in
theorem vX1_allPages_4 {X : CX} {r : Int32} {I : HI} {J : HJ} (hX : OKX X cX1_allPages RX1 1 21 4) (hret : RetI X cX1_allPages r I J) (a0 : Nat) (hk0 : gK (xG X) a0 = 2)   : ∀ (n : Nat) (x1 : Int32) (x2 : Int32), wl2 (X1_allPages_B4 I a0) n x1 x2 = some r → V X I J 4 [some (.ref a0), some (.int x1), some (.int x2), none] [] := by
  refine wl2_V (P := fun (x1 : Int32) (x2 : Int32) => V X I J 4 [some (.ref a0), some (.int x1), some (.int x2), none] []) ?_
  intro k4 hc4 x1 x2 hf
  unfold X1_allPages_B4 at hf
  refine r_iload_n hX dX1_allPages_4 rfl ?_
  refine r_aload_n hX dX1_allPages_5 rfl ?_
  refine g_1_2 hX fl_X1_24 hk0 dX1_allPages_6 ?_
  refine r_icmp_ge (tgt := 35) hX dX1_allPages_9 (by decide) (fun c_1 => ?_) (fun c_1 => ?_)
  · have hf := hf_t c_1 hf
    refine r_aload_n hX dX1_allPages_12 rfl ?_
    refine r_iload_n hX dX1_allPages_13 rfl ?_
    obtain ⟨r_2, h_3, hf⟩ := bd1_some hf
    refine r_callV (As := [.int x2]) (ci := 1) hX (k_X1_proxyAt (l := xl X) (J := J) hX.ok hk0 h_3) pk_X1_proxyAt ml_X1_66 rfl rfl rfl rfl hk0 rfl rfl rfl (Nat.le_of_ble_eq_true rfl) dX1_allPages_14 ?_
    cases r_2 with
    | none =>
      have hf := mN_n hf
      refine r_astore_nN hX dX1_allPages_17 rfl rfl ?_
      refine r_aload_nN hX dX1_allPages_18 rfl ?_
      refine r_ifnull_n (tgt := 29) hX dX1_allPages_19 (by decide) ?_
      refine V.mask [true, true, true, false] ?_
      exact vX1_allPages_29 hX hret a0 x1 x2 hk0 k4 hc4 hf
    | some a_4 =>
      have hf := mN_s hf
      have hk_5 := kt_X1_proxyAt hX.ok hk0 h_3
      refine r_astore_n hX dX1_allPages_17 rfl rfl ?_
      refine r_aload_n hX dX1_allPages_18 rfl ?_
      refine r_ifnull_r hX dX1_allPages_19 ?_
      refine r_iload_n hX dX1_allPages_22 rfl ?_
      refine r_aload_n hX dX1_allPages_23 rfl ?_
      refine g_4_2 hX fl_X1_74 hk_5 dX1_allPages_24 ?_
      refine r_iadd hX dX1_allPages_27 ?_
      obtain ⟨x_6, ex_6, hf⟩ := lt1_some hf
      refine V.topi ex_6 ?_
      refine r_istore_n hX dX1_allPages_28 rfl rfl ?_
      refine V.mask [true, true, true, false] ?_
      exact vX1_allPages_29 hX hret a0 x_6 x2 hk0 k4 hc4 hf
  · have hf := hf_f c_1 hf
    refine r_iload_n hX dX1_allPages_35 rfl ?_
    cases hf
    exact hret _ _ dX1_allPages_36
noncomputable def f_X1_allPages (I : HI) (a0 : Nat) : Option (Int32) := wl2 (X1_allPages_B4 I a0) 5000 ((0 : Int32)) ((0 : Int32))
set_option maxHeartbeats 4000000 in
set_option maxRecDepth 100000 in
theorem k_X1_allPages {G : GX} {l : Launch} {I : HI} {J : HJ} {r : Int32} (hG : OKG G) {a0 : Nat} (hk0 : gK G a0 = 2) (hf : f_X1_allPages I a0 = some r) : Ctr G l yX1_allPages cX1_allPages 4 (some .int) 1 21 [.ref a0] I J (some (.int r)) I J := by
  refine ctr_I hG (by decide) [some (.ref a0), none, none, none] rfl rfl fun X e1 e2 hX hret => ?_
  subst e1; subst e2
  unfold f_X1_allPages at hf
  refine r_iconst (v := 0) hX dX1_allPages_0 rfl ?_
  refine r_istore_n hX dX1_allPages_1 rfl rfl ?_
  refine r_iconst (v := 0) hX dX1_allPages_2 rfl ?_
  refine r_istore_n hX dX1_allPages_3 rfl rfl ?_
  refine V.mask [true, true, true, false] ?_
  exact vX1_allPages_4 hX hret a0 hk0 5000 ((0 : Int32)) ((0 : Int32)) hf
noncomputable def X4_placeOf_B2 (I : HI) (a0 : Nat) (x1 : Int32) (k2 : Int32 → Option (Int32)) (x2 : Int32) : Option (Int32) := if x2 < (I a0 2) then if x2 < (9 : Int32) then gd (vp_in x2 9) (if (I ((a0 + 1)) x2.toNatClampNeg) = x1 then some x2 else lt1 (x2 + (1 : Int32)) fun x_5 => k2 x_5) else some ((-9 : Int32)) else some ((-9 : Int32))
set_option maxHeartbeats 4000000 in
set_option maxRecDepth 100000 in
theorem vX4_placeOf_2 {X : CX} {r : Int32} {I : HI} {J : HJ} (hX : OKX X cX4_placeOf RX4 0 0 3) (hret : RetI X cX4_placeOf r I J) (a0 : Nat) (x1 : Int32) (hk0 : gK (xG X) a0 = 5)   : ∀ (n : Nat) (x2 : Int32), wl1 (X4_placeOf_B2 I a0 x1) n x2 = some r → V X I J 2 [some (.ref a0), some (.int x1), some (.int x2)] [] := by
  refine wl1_V (P := fun (x2 : Int32) => V X I J 2 [some (.ref a0), some (.int x1), some (.int x2)] []) ?_
  intro k2 hc2 x2 hf
  unfold X4_placeOf_B2 at hf
  refine r_iload_n hX dX4_placeOf_2 rfl ?_
  refine r_aload_n hX dX4_placeOf_3 rfl ?_
  refine g_4_2 hX fl_X4_18 hk0 dX4_placeOf_4 ?_
  refine r_icmp_ge (tgt := 37) hX dX4_placeOf_7 (by decide) (fun c_1 => ?_) (fun c_1 => ?_)
  · have hf := hf_t c_1 hf
    refine r_iload_n hX dX4_placeOf_10 rfl ?_
    refine r_aload_n hX dX4_placeOf_11 rfl ?_
    refine g_4_5 hX fl_X4_27 hk0 dX4_placeOf_12 ?_
    refine r_alen (n := 9) (v := 9) hX rfl ((q_5_5 hX hk0)) (by decide) dX4_placeOf_15 ?_
    refine r_icmp_ge (tgt := 37) hX dX4_placeOf_16 (by decide) (fun c_2 => ?_) (fun c_2 => ?_)
    · have hf := hf_t c_2 hf
      refine r_aload_n hX dX4_placeOf_19 rfl ?_
      refine g_4_5 hX fl_X4_27 hk0 dX4_placeOf_20 ?_
      refine r_iload_n hX dX4_placeOf_23 rfl ?_
      obtain ⟨g_3, hf⟩ := gd_some hf
      refine r_iald (n := 9) hX rfl ((q_5_5 hX hk0)) g_3 dX4_placeOf_24 ?_
      refine r_iload_n hX dX4_placeOf_25 rfl ?_
      refine r_icmp_ne (tgt := 31) hX dX4_placeOf_26 (by decide) (fun c_4 => ?_) (fun c_4 => ?_)
      · have hf := hf_t c_4 hf
        refine r_iload_n hX dX4_placeOf_29 rfl ?_
        cases hf
        exact hret _ _ dX4_placeOf_30
      · have hf := hf_f c_4 hf
        obtain ⟨x_5, ex_5, hf⟩ := lt1_some hf
        refine r_iincE (n' := 1) ex_5 hX dX4_placeOf_31 rfl rfl rfl rfl ?_
        refine r_goto (tgt := 2) hX dX4_placeOf_34 (by decide) ?_
        refine V.mask [true, true, true] ?_
        exact hc2 x_5 hf
    · have hf := hf_f c_2 hf
      refine r_bipush (v := -9) hX dX4_placeOf_37 (by decide) ?_
      cases hf
      exact hret _ _ dX4_placeOf_39
  · have hf := hf_f c_1 hf
    refine r_bipush (v := -9) hX dX4_placeOf_37 (by decide) ?_
    cases hf
    exact hret _ _ dX4_placeOf_39
noncomputable def f_X4_placeOf (I : HI) (a0 : Nat) (x1 : Int32) : Option (Int32) := wl1 (X4_placeOf_B2 I a0 x1) 5000 ((0 : Int32))
set_option maxHeartbeats 4000000 in
set_option maxRecDepth 100000 in
theorem k_X4_placeOf {G : GX} {l : Launch} {I : HI} {J : HJ} {r : Int32} (hG : OKG G) {a0 : Nat} {x1 : Int32} (hk0 : gK G a0 = 5) (hf : f_X4_placeOf I a0 x1 = some r) : Ctr G l yX4_placeOf cX4_placeOf 3 (some .int) 0 0 [.ref a0, .int x1] I J (some (.int r)) I J := by
  refine ctr_I hG (by decide) [some (.ref a0), some (.int x1), none] rfl rfl fun X e1 e2 hX hret => ?_
  subst e1; subst e2
  unfold f_X4_placeOf at hf
  refine r_iconst (v := 0) hX dX4_placeOf_0 rfl ?_
  refine r_istore_n hX dX4_placeOf_1 rfl rfl ?_
  refine V.mask [true, true, true] ?_
  exact vX4_placeOf_2 hX hret a0 x1 hk0 5000 ((0 : Int32)) hf
noncomputable def f_X4_has (I : HI) (a0 : Nat) (x1 : Int32) : Option (Int32) := bd1 (f_X4_placeOf I a0 x1) fun r_1 => if r_1 = (-9 : Int32) then some ((0 : Int32)) else some ((1 : Int32))
set_option maxHeartbeats 4000000 in
set_option maxRecDepth 100000 in
theorem k_X4_has {G : GX} {l : Launch} {I : HI} {J : HJ} {r : Int32} (hG : OKG G) {a0 : Nat} {x1 : Int32} (hk0 : gK G a0 = 5) (hf : f_X4_has I a0 x1 = some r) : Ctr G l yX4_has cX4_has 2 (some .boolean) 1 22 [.ref a0, .int x1] I J (some (.int r)) I J := by
  refine ctr_Zb hG (by decide) [some (.ref a0), some (.int x1)] rfl rfl fun X e1 e2 hX hret => ?_
  subst e1; subst e2
  unfold f_X4_has at hf
  refine r_aload_n hX dX4_has_0 rfl ?_
  refine r_iload_n hX dX4_has_1 rfl ?_
  obtain ⟨r_1, h_2, hf⟩ := bd1_some hf
  refine r_callV (As := [.int x1]) (ci := 4) hX (k_X4_placeOf (l := xl X) (J := J) hX.ok hk0 h_2) pk_X4_placeOf ml_X4_41 rfl rfl rfl rfl hk0 rfl rfl rfl (Nat.le_of_ble_eq_true rfl) dX4_has_2 ?_
  refine r_bipush (v := -9) hX dX4_has_5 (by decide) ?_
  refine r_icmp_eq (tgt := 14) hX dX4_has_7 (by decide) (fun c_3 => ?_) (fun c_3 => ?_)
  · have hf := hf_t c_3 hf
    refine r_iconst (v := 0) hX dX4_has_14 rfl ?_
    cases hf
    exact hret _ _ zb_0 dX4_has_15
  · have hf := hf_f c_3 hf
    refine r_iconst (v := 1) hX dX4_has_10 rfl ?_
    refine r_goto (tgt := 15) hX dX4_has_11 (by decide) ?_
    cases hf
    exact hret _ _ zb_1 dX4_has_15
noncomputable def X1_holders_J36 (I : HI) (a0 : Nat) (x1 : Int32) (x2 : Int32) (x3 : Int32) (k4 : Int32 → Int32 → Option (Int32)) : Option (Int32) := lt1 (x3 + (1 : Int32)) fun x_10 => k4 x2 x_10
set_option maxHeartbeats 4000000 in
set_option maxRecDepth 100000 in
theorem vX1_holders_36 {X : CX} {r : Int32} {I : HI} {J : HJ} (hX : OKX X cX1_holders RX1 2 43 5) (hret : RetI X cX1_holders r I J) (a0 : Nat) (x1 : Int32) (x2 : Int32) (x3 : Int32) (hk0 : gK (xG X) a0 = 2) (k4 : Int32 → Int32 → Option (Int32)) (hc4 : ∀ (x2 : Int32) (x3 : Int32), k4 x2 x3 = some r → V X I J 4 [some (.ref a0), some (.int x1), some (.int x2), some (.int x3), none] []) (hf : X1_holders_J36 I a0 x1 x2 x3 k4 = some r) : V X I J 36 [some (.ref a0), some (.int x1), some (.int x2), some (.int x3), none] [] := by
  unfold X1_holders_J36 at hf
  obtain ⟨x_10, ex_10, hf⟩ := lt1_some hf
  refine r_iincE (n' := 1) ex_10 hX dX1_holders_36 rfl rfl rfl rfl ?_
  refine r_goto (tgt := 4) hX dX1_holders_39 (by decide) ?_
  refine V.mask [true, true, true, true, false] ?_
  exact hc4 x2 x_10 hf
noncomputable def X1_holders_B4 (I : HI) (a0 : Nat) (x1 : Int32) (k4 : Int32 → Int32 → Option (Int32)) (x2 : Int32) (x3 : Int32) : Option (Int32) := if x3 < (I a0 2) then bd1 (f_X1_proxyAt I a0 x3) fun r_2 => mN r_2 (X1_holders_J36 I a0 x1 x2 x3 k4) (fun a_4 => bd1 (f_X4_has I a_4 x1) fun r_6 => if r_6 = 0 then X1_holders_J36 I a0 x1 x2 x3 k4 else lt1 (x2 + (1 : Int32)) fun x_9 => X1_holders_J36 I a0 x1 x_9 x3 k4) else some x2
set_option maxHeartbeats 4000000 in
set_option maxRecDepth 100000 in
theorem vX1_holders_4 {X : CX} {r : Int32} {I : HI} {J : HJ} (hX : OKX X cX1_holders RX1 2 43 5) (hret : RetI X cX1_holders r I J) (a0 : Nat) (x1 : Int32) (hk0 : gK (xG X) a0 = 2)   : ∀ (n : Nat) (x2 : Int32) (x3 : Int32), wl2 (X1_holders_B4 I a0 x1) n x2 x3 = some r → V X I J 4 [some (.ref a0), some (.int x1), some (.int x2), some (.int x3), none] [] := by
  refine wl2_V (P := fun (x2 : Int32) (x3 : Int32) => V X I J 4 [some (.ref a0), some (.int x1), some (.int x2), some (.int x3), none] []) ?_
  intro k4 hc4 x2 x3 hf
  unfold X1_holders_B4 at hf
  refine r_iload_n hX dX1_holders_4 rfl ?_
  refine r_aload_n hX dX1_holders_5 rfl ?_
  refine g_1_2 hX fl_X1_24 hk0 dX1_holders_6 ?_
  refine r_icmp_ge (tgt := 42) hX dX1_holders_9 (by decide) (fun c_1 => ?_) (fun c_1 => ?_)
  · have hf := hf_t c_1 hf
    refine r_aload_n hX dX1_holders_12 rfl ?_
    refine r_iload_n hX dX1_holders_13 rfl ?_
    obtain ⟨r_2, h_3, hf⟩ := bd1_some hf
    refine r_callV (As := [.int x3]) (ci := 1) hX (k_X1_proxyAt (l := xl X) (J := J) hX.ok hk0 h_3) pk_X1_proxyAt ml_X1_66 rfl rfl rfl rfl hk0 rfl rfl rfl (Nat.le_of_ble_eq_true rfl) dX1_holders_14 ?_
    cases r_2 with
    | none =>
      have hf := mN_n hf
      refine r_astoreN hX dX1_holders_17 rfl rfl ?_
      refine r_aloadN hX dX1_holders_19 rfl ?_
      refine r_ifnull_n (tgt := 36) hX dX1_holders_21 (by decide) ?_
      refine V.mask [true, true, true, true, false] ?_
      exact vX1_holders_36 hX hret a0 x1 x2 x3 hk0 k4 hc4 hf
    | some a_4 =>
      have hf := mN_s hf
      have hk_5 := kt_X1_proxyAt hX.ok hk0 h_3
      refine r_astore hX dX1_holders_17 rfl rfl ?_
      refine r_aload hX dX1_holders_19 rfl ?_
      refine r_ifnull_r hX dX1_holders_21 ?_
      refine r_aload hX dX1_holders_24 rfl ?_
      refine r_iload_n hX dX1_holders_26 rfl ?_
      obtain ⟨r_6, h_7, hf⟩ := bd1_some hf
      refine r_callV (As := [.int x1]) (ci := 4) hX (k_X4_has (l := xl X) (J := J) hX.ok hk_5 h_7) pk_X4_has ml_X1_77 rfl rfl rfl rfl hk_5 rfl rfl rfl (Nat.le_of_ble_eq_true rfl) dX1_holders_27 ?_
      refine r_if_eq (tgt := 36) hX dX1_holders_30 (by decide) (fun c_8 => ?_) (fun c_8 => ?_)
      · have hf := hf_t c_8 hf
        refine V.mask [true, true, true, true, false] ?_
        exact vX1_holders_36 hX hret a0 x1 x2 x3 hk0 k4 hc4 hf
      · have hf := hf_f c_8 hf
        obtain ⟨x_9, ex_9, hf⟩ := lt1_some hf
        refine r_iincE (n' := 1) ex_9 hX dX1_holders_33 rfl rfl rfl rfl ?_
        refine V.mask [true, true, true, true, false] ?_
        exact vX1_holders_36 hX hret a0 x1 x_9 x3 hk0 k4 hc4 hf
  · have hf := hf_f c_1 hf
    refine r_iload_n hX dX1_holders_42 rfl ?_
    cases hf
    exact hret _ _ dX1_holders_43
noncomputable def f_X1_holders (I : HI) (a0 : Nat) (x1 : Int32) : Option (Int32) := wl2 (X1_holders_B4 I a0 x1) 5000 ((0 : Int32)) ((0 : Int32))
set_option maxHeartbeats 4000000 in
set_option maxRecDepth 100000 in
theorem k_X1_holders {G : GX} {l : Launch} {I : HI} {J : HJ} {r : Int32} (hG : OKG G) {a0 : Nat} {x1 : Int32} (hk0 : gK G a0 = 2) (hf : f_X1_holders I a0 x1 = some r) : Ctr G l yX1_holders cX1_holders 5 (some .int) 2 43 [.ref a0, .int x1] I J (some (.int r)) I J := by
  refine ctr_I hG (by decide) [some (.ref a0), some (.int x1), none, none, none] rfl rfl fun X e1 e2 hX hret => ?_
  subst e1; subst e2
  unfold f_X1_holders at hf
  refine r_iconst (v := 0) hX dX1_holders_0 rfl ?_
  refine r_istore_n hX dX1_holders_1 rfl rfl ?_
  refine r_iconst (v := 0) hX dX1_holders_2 rfl ?_
  refine r_istore_n hX dX1_holders_3 rfl rfl ?_
  refine V.mask [true, true, true, true, false] ?_
  exact vX1_holders_4 hX hret a0 x1 hk0 5000 ((0 : Int32)) ((0 : Int32)) hf
noncomputable def X1_isSo_J26 (I : HI) (a0 : Nat) (x3 : Int32) (sx0 : Int32) : Option (Int32) := bd1 (f_X0_contains I ((a0 + 1)) sx0 ((I ((a0 + 1)) 3)) x3) fun r_8 => gd (zb r_8) (some r_8)
set_option maxHeartbeats 4000000 in
set_option maxRecDepth 100000 in
theorem vX1_isSo_26 {X : CX} {r : Int32} {I : HI} {J : HJ} (hX : OKX X cX1_isSo RX1 2 47 5) (hret : RetZ X cX1_isSo r I J) (a0 : Nat) (x3 : Int32) (sx0 : Int32) (hk0 : gK (xG X) a0 = 2)   (hf : X1_isSo_J26 I a0 x3 sx0 = some r) : V X I J 26 [some (.ref a0), none, none, some (.int x3), none] [.int sx0] := by
  unfold X1_isSo_J26 at hf
  refine r_istore hX dX1_isSo_26 rfl rfl ?_
  refine r_aload_n hX dX1_isSo_28 rfl ?_
  refine g_1_0 hX fl_X1_12 hk0 dX1_isSo_29 ?_
  refine r_iload hX dX1_isSo_32 rfl ?_
  refine r_aload_n hX dX1_isSo_34 rfl ?_
  refine g_1_0 hX fl_X1_12 hk0 dX1_isSo_35 ?_
  refine g_0_3 hX fl_X1_87 ((q_2_0 hX hk0)) dX1_isSo_38 ?_
  refine r_iload_n hX dX1_isSo_41 rfl ?_
  obtain ⟨r_8, h_9, hf⟩ := bd1_some hf
  refine r_callV (As := [.int sx0, .int ((I ((a0 + 1)) 3)), .int x3]) (ci := 0) hX (k_X0_contains (l := xl X) (J := J) hX.ok ((q_2_0 hX hk0)) h_9) pk_X0_contains ml_X1_90 rfl rfl rfl rfl ((q_2_0 hX hk0)) rfl rfl rfl (Nat.le_of_ble_eq_true rfl) dX1_isSo_42 ?_
  obtain ⟨g_10, hf⟩ := gd_some hf
  cases hf
  exact hret _ _ g_10 dX1_isSo_45
noncomputable def f_X1_isSo (I : HI) (a0 : Nat) (a1 : Nat) (x2 : Int32) (x3 : Int32) : Option (Int32) := if x2 = 0 then bd1 (f_X4_has I a1 x3) fun r_2 => gd (zb r_2) (some r_2) else if x2 = (1 : Int32) then X1_isSo_J26 I a0 x3 ((I a1 4)) else bd1 (f_X4_filterSet I a1) fun r_6 => X1_isSo_J26 I a0 x3 r_6
set_option maxHeartbeats 4000000 in
set_option maxRecDepth 100000 in
theorem k_X1_isSo {G : GX} {l : Launch} {I : HI} {J : HJ} {r : Int32} (hG : OKG G) {a0 : Nat} {a1 : Nat} {x2 : Int32} {x3 : Int32} (hk0 : gK G a0 = 2) (hk1 : gK G a1 = 5) (hf : f_X1_isSo I a0 a1 x2 x3 = some r) : Ctr G l yX1_isSo cX1_isSo 5 (some .boolean) 2 47 [.ref a0, .ref a1, .int x2, .int x3] I J (some (.int r)) I J := by
  refine ctr_Zb hG (by decide) [some (.ref a0), some (.ref a1), some (.int x2), some (.int x3), none] rfl rfl fun X e1 e2 hX hret => ?_
  subst e1; subst e2
  unfold f_X1_isSo at hf
  refine r_iload_n hX dX1_isSo_0 rfl ?_
  refine r_if_ne (tgt := 10) hX dX1_isSo_1 (by decide) (fun c_1 => ?_) (fun c_1 => ?_)
  · have hf := hf_t c_1 hf
    refine r_aload_n hX dX1_isSo_4 rfl ?_
    refine r_iload_n hX dX1_isSo_5 rfl ?_
    obtain ⟨r_2, h_3, hf⟩ := bd1_some hf
    refine r_callV (As := [.int x3]) (ci := 4) hX (k_X4_has (l := xl X) (J := J) hX.ok hk1 h_3) pk_X4_has ml_X1_77 rfl rfl rfl rfl hk1 rfl rfl rfl (Nat.le_of_ble_eq_true rfl) dX1_isSo_6 ?_
    obtain ⟨g_4, hf⟩ := gd_some hf
    cases hf
    exact hret _ _ g_4 dX1_isSo_9
  · have hf := hf_f c_1 hf
    refine r_iload_n hX dX1_isSo_10 rfl ?_
    refine r_iconst (v := 1) hX dX1_isSo_11 rfl ?_
    refine r_icmp_ne (tgt := 22) hX dX1_isSo_12 (by decide) (fun c_5 => ?_) (fun c_5 => ?_)
    · have hf := hf_t c_5 hf
      refine r_aload_n hX dX1_isSo_15 rfl ?_
      refine g_4_4 hX fl_X1_80 hk1 dX1_isSo_16 ?_
      refine r_goto (tgt := 26) hX dX1_isSo_19 (by decide) ?_
      refine V.mask [true, false, false, true, false] ?_
      exact vX1_isSo_26 hX hret a0 x3 ((I a1 4)) hk0 hf
    · have hf := hf_f c_5 hf
      refine r_aload_n hX dX1_isSo_22 rfl ?_
      obtain ⟨r_6, h_7, hf⟩ := bd1_some hf
      refine r_callV (As := []) (ci := 4) hX (k_X4_filterSet (l := xl X) (J := J) hX.ok hk1 h_7) pk_X4_filterSet ml_X1_83 rfl rfl rfl rfl hk1 rfl rfl rfl (Nat.le_of_ble_eq_true rfl) dX1_isSo_23 ?_
      refine V.mask [true, false, false, true, false] ?_
      exact vX1_isSo_26 hX hret a0 x3 r_6 hk0 hf
noncomputable def f_X1_claimed (I : HI) (a0 : Nat) (a1 : Nat) : Option (Int32) := bd1 (f_X0_pagesIn I ((a0 + 1)) ((I a1 4)) ((I ((a0 + 1)) 3))) fun r_1 => some r_1
set_option maxHeartbeats 4000000 in
set_option maxRecDepth 100000 in
theorem k_X1_claimed {G : GX} {l : Launch} {I : HI} {J : HJ} {r : Int32} (hG : OKG G) {a0 : Nat} {a1 : Nat} (hk0 : gK G a0 = 2) (hk1 : gK G a1 = 5) (hf : f_X1_claimed I a0 a1 = some r) : Ctr G l yX1_claimed cX1_claimed 2 (some .int) 3 71 [.ref a0, .ref a1] I J (some (.int r)) I J := by
  refine ctr_I hG (by decide) [some (.ref a0), some (.ref a1)] rfl rfl fun X e1 e2 hX hret => ?_
  subst e1; subst e2
  unfold f_X1_claimed at hf
  refine r_aload_n hX dX1_claimed_0 rfl ?_
  refine g_1_0 hX fl_X1_12 hk0 dX1_claimed_1 ?_
  refine r_aload_n hX dX1_claimed_4 rfl ?_
  refine g_4_4 hX fl_X1_80 hk1 dX1_claimed_5 ?_
  refine r_aload_n hX dX1_claimed_8 rfl ?_
  refine g_1_0 hX fl_X1_12 hk0 dX1_claimed_9 ?_
  refine g_0_3 hX fl_X1_87 ((q_2_0 hX hk0)) dX1_claimed_12 ?_
  obtain ⟨r_1, h_2, hf⟩ := bd1_some hf
  refine r_callV (As := [.int ((I a1 4)), .int ((I ((a0 + 1)) 3))]) (ci := 0) hX (k_X0_pagesIn (l := xl X) (J := J) hX.ok ((q_2_0 hX hk0)) h_2) pk_X0_pagesIn ml_X1_94 rfl rfl rfl rfl ((q_2_0 hX hk0)) rfl rfl rfl (Nat.le_of_ble_eq_true rfl) dX1_claimed_15 ?_
  cases hf
  exact hret _ _ dX1_claimed_18
noncomputable def X4_shelfSet_B4 (I : HI) (a0 : Nat) (k4 : Int32 → Int32 → Option (Int32)) (x1 : Int32) (x2 : Int32) : Option (Int32) := if x2 < (I a0 2) then if x2 < (9 : Int32) then gd (vp_in x2 9) (lt1 ((x1 ||| ((1 : Int32) <<< ((I ((a0 + 1)) x2.toNatClampNeg) &&& 31)))) fun x_4 => lt1 (x2 + (1 : Int32)) fun x_5 => k4 x_4 x_5) else some x1 else some x1
set_option maxHeartbeats 4000000 in
set_option maxRecDepth 100000 in
theorem vX4_shelfSet_4 {X : CX} {r : Int32} {I : HI} {J : HJ} (hX : OKX X cX4_shelfSet RX4 0 0 3) (hret : RetI X cX4_shelfSet r I J) (a0 : Nat) (hk0 : gK (xG X) a0 = 5)   : ∀ (n : Nat) (x1 : Int32) (x2 : Int32), wl2 (X4_shelfSet_B4 I a0) n x1 x2 = some r → V X I J 4 [some (.ref a0), some (.int x1), some (.int x2)] [] := by
  refine wl2_V (P := fun (x1 : Int32) (x2 : Int32) => V X I J 4 [some (.ref a0), some (.int x1), some (.int x2)] []) ?_
  intro k4 hc4 x1 x2 hf
  unfold X4_shelfSet_B4 at hf
  refine r_iload_n hX dX4_shelfSet_4 rfl ?_
  refine r_aload_n hX dX4_shelfSet_5 rfl ?_
  refine g_4_2 hX fl_X4_18 hk0 dX4_shelfSet_6 ?_
  refine r_icmp_ge (tgt := 38) hX dX4_shelfSet_9 (by decide) (fun c_1 => ?_) (fun c_1 => ?_)
  · have hf := hf_t c_1 hf
    refine r_iload_n hX dX4_shelfSet_12 rfl ?_
    refine r_aload_n hX dX4_shelfSet_13 rfl ?_
    refine g_4_5 hX fl_X4_27 hk0 dX4_shelfSet_14 ?_
    refine r_alen (n := 9) (v := 9) hX rfl ((q_5_5 hX hk0)) (by decide) dX4_shelfSet_17 ?_
    refine r_icmp_ge (tgt := 38) hX dX4_shelfSet_18 (by decide) (fun c_2 => ?_) (fun c_2 => ?_)
    · have hf := hf_t c_2 hf
      refine r_iload_n hX dX4_shelfSet_21 rfl ?_
      refine r_iconst (v := 1) hX dX4_shelfSet_22 rfl ?_
      refine r_aload_n hX dX4_shelfSet_23 rfl ?_
      refine g_4_5 hX fl_X4_27 hk0 dX4_shelfSet_24 ?_
      refine r_iload_n hX dX4_shelfSet_27 rfl ?_
      obtain ⟨g_3, hf⟩ := gd_some hf
      refine r_iald (n := 9) hX rfl ((q_5_5 hX hk0)) g_3 dX4_shelfSet_28 ?_
      refine r_ishl hX dX4_shelfSet_29 ?_
      refine r_ior hX dX4_shelfSet_30 ?_
      obtain ⟨x_4, ex_4, hf⟩ := lt1_some hf
      refine V.topi ex_4 ?_
      refine r_istore_n hX dX4_shelfSet_31 rfl rfl ?_
      obtain ⟨x_5, ex_5, hf⟩ := lt1_some hf
      refine r_iincE (n' := 1) ex_5 hX dX4_shelfSet_32 rfl rfl rfl rfl ?_
      refine r_goto (tgt := 4) hX dX4_shelfSet_35 (by decide) ?_
      refine V.mask [true, true, true] ?_
      exact hc4 x_4 x_5 hf
    · have hf := hf_f c_2 hf
      refine r_iload_n hX dX4_shelfSet_38 rfl ?_
      cases hf
      exact hret _ _ dX4_shelfSet_39
  · have hf := hf_f c_1 hf
    refine r_iload_n hX dX4_shelfSet_38 rfl ?_
    cases hf
    exact hret _ _ dX4_shelfSet_39
noncomputable def f_X4_shelfSet (I : HI) (a0 : Nat) : Option (Int32) := wl2 (X4_shelfSet_B4 I a0) 5000 ((0 : Int32)) ((0 : Int32))
set_option maxHeartbeats 4000000 in
set_option maxRecDepth 100000 in
theorem k_X4_shelfSet {G : GX} {l : Launch} {I : HI} {J : HJ} {r : Int32} (hG : OKG G) {a0 : Nat} (hk0 : gK G a0 = 5) (hf : f_X4_shelfSet I a0 = some r) : Ctr G l yX4_shelfSet cX4_shelfSet 3 (some .int) 0 0 [.ref a0] I J (some (.int r)) I J := by
  refine ctr_I hG (by decide) [some (.ref a0), none, none] rfl rfl fun X e1 e2 hX hret => ?_
  subst e1; subst e2
  unfold f_X4_shelfSet at hf
  refine r_iconst (v := 0) hX dX4_shelfSet_0 rfl ?_
  refine r_istore_n hX dX4_shelfSet_1 rfl rfl ?_
  refine r_iconst (v := 0) hX dX4_shelfSet_2 rfl ?_
  refine r_istore_n hX dX4_shelfSet_3 rfl rfl ?_
  refine V.mask [true, true, true] ?_
  exact vX4_shelfSet_4 hX hret a0 hk0 5000 ((0 : Int32)) ((0 : Int32)) hf
noncomputable def f_J6_bitCount_0f7a4 (x0 : Int32) : Option (Int32) := lt1 ((x0 - (((x0.toUInt32 >>> (((1 : Int32)).toUInt32 &&& Int32.toUInt32 31)).toInt32) &&& (1431655765 : Int32)))) fun x_1 => lt1 (((x_1 &&& (858993459 : Int32)) + (((x_1.toUInt32 >>> (((2 : Int32)).toUInt32 &&& Int32.toUInt32 31)).toInt32) &&& (858993459 : Int32)))) fun x_2 => lt1 (((x_2 + ((x_2.toUInt32 >>> (((4 : Int32)).toUInt32 &&& Int32.toUInt32 31)).toInt32)) &&& (252645135 : Int32))) fun x_3 => lt1 ((x_3 + ((x_3.toUInt32 >>> (((8 : Int32)).toUInt32 &&& Int32.toUInt32 31)).toInt32))) fun x_4 => lt1 ((x_4 + ((x_4.toUInt32 >>> (((16 : Int32)).toUInt32 &&& Int32.toUInt32 31)).toInt32))) fun x_5 => some ((x_5 &&& (63 : Int32)))
set_option maxHeartbeats 4000000 in
set_option maxRecDepth 100000 in
theorem k_J6_bitCount_0f7a4 {G : GX} {l : Launch} {I : HI} {J : HJ} {r : Int32} (hG : OKG G) {x0 : Int32}  (hf : f_J6_bitCount_0f7a4 x0 = some r) : Ctr G l yJ6_bitCount_0f7a4 cJ6_bitCount_0f7a4 1 (some .int) 0 0 [.int x0] I J (some (.int r)) I J := by
  refine ctr_I hG (by decide) [some (.int x0)] rfl rfl fun X e1 e2 hX hret => ?_
  subst e1; subst e2
  unfold f_J6_bitCount_0f7a4 at hf
  refine r_iload_n hX dJ6_bitCount_0f7a4_0 rfl ?_
  refine r_iload_n hX dJ6_bitCount_0f7a4_1 rfl ?_
  refine r_iconst (v := 1) hX dJ6_bitCount_0f7a4_2 rfl ?_
  refine r_iushr hX dJ6_bitCount_0f7a4_3 ?_
  refine r_ldcw hX dJ6_bitCount_0f7a4_4 cn_J6_265 ?_
  refine r_iand hX dJ6_bitCount_0f7a4_7 ?_
  refine r_isub hX dJ6_bitCount_0f7a4_8 ?_
  obtain ⟨x_1, ex_1, hf⟩ := lt1_some hf
  refine V.topi ex_1 ?_
  refine r_istore_n hX dJ6_bitCount_0f7a4_9 rfl rfl ?_
  refine r_iload_n hX dJ6_bitCount_0f7a4_10 rfl ?_
  refine r_ldcw hX dJ6_bitCount_0f7a4_11 cn_J6_266 ?_
  refine r_iand hX dJ6_bitCount_0f7a4_14 ?_
  refine r_iload_n hX dJ6_bitCount_0f7a4_15 rfl ?_
  refine r_iconst (v := 2) hX dJ6_bitCount_0f7a4_16 rfl ?_
  refine r_iushr hX dJ6_bitCount_0f7a4_17 ?_
  refine r_ldcw hX dJ6_bitCount_0f7a4_18 cn_J6_266 ?_
  refine r_iand hX dJ6_bitCount_0f7a4_21 ?_
  refine r_iadd hX dJ6_bitCount_0f7a4_22 ?_
  obtain ⟨x_2, ex_2, hf⟩ := lt1_some hf
  refine V.topi ex_2 ?_
  refine r_istore_n hX dJ6_bitCount_0f7a4_23 rfl rfl ?_
  refine r_iload_n hX dJ6_bitCount_0f7a4_24 rfl ?_
  refine r_iload_n hX dJ6_bitCount_0f7a4_25 rfl ?_
  refine r_iconst (v := 4) hX dJ6_bitCount_0f7a4_26 rfl ?_
  refine r_iushr hX dJ6_bitCount_0f7a4_27 ?_
  refine r_iadd hX dJ6_bitCount_0f7a4_28 ?_
  refine r_ldcw hX dJ6_bitCount_0f7a4_29 cn_J6_267 ?_
  refine r_iand hX dJ6_bitCount_0f7a4_32 ?_
  obtain ⟨x_3, ex_3, hf⟩ := lt1_some hf
  refine V.topi ex_3 ?_
  refine r_istore_n hX dJ6_bitCount_0f7a4_33 rfl rfl ?_
  refine r_iload_n hX dJ6_bitCount_0f7a4_34 rfl ?_
  refine r_iload_n hX dJ6_bitCount_0f7a4_35 rfl ?_
  refine r_bipush (v := 8) hX dJ6_bitCount_0f7a4_36 (by decide) ?_
  refine r_iushr hX dJ6_bitCount_0f7a4_38 ?_
  refine r_iadd hX dJ6_bitCount_0f7a4_39 ?_
  obtain ⟨x_4, ex_4, hf⟩ := lt1_some hf
  refine V.topi ex_4 ?_
  refine r_istore_n hX dJ6_bitCount_0f7a4_40 rfl rfl ?_
  refine r_iload_n hX dJ6_bitCount_0f7a4_41 rfl ?_
  refine r_iload_n hX dJ6_bitCount_0f7a4_42 rfl ?_
  refine r_bipush (v := 16) hX dJ6_bitCount_0f7a4_43 (by decide) ?_
  refine r_iushr hX dJ6_bitCount_0f7a4_45 ?_
  refine r_iadd hX dJ6_bitCount_0f7a4_46 ?_
  obtain ⟨x_5, ex_5, hf⟩ := lt1_some hf
  refine V.topi ex_5 ?_
  refine r_istore_n hX dJ6_bitCount_0f7a4_47 rfl rfl ?_
  refine r_iload_n hX dJ6_bitCount_0f7a4_48 rfl ?_
  refine r_bipush (v := 63) hX dJ6_bitCount_0f7a4_49 (by decide) ?_
  refine r_iand hX dJ6_bitCount_0f7a4_51 ?_
  cases hf
  exact hret _ _ dJ6_bitCount_0f7a4_52
noncomputable def X1_wrongPages_B5 (I : HI) (a0 : Nat) (a1 : Nat) (x2 : Int32) (k5 : Int32 → Int32 → Option (Int32)) (x3 : Int32) (x4 : Int32) : Option (Int32) := if x4 < (I a1 2) then bd1 (f_X4_pageAt I a1 x4) fun r_2 => bd1 (f_X0_cellSet I ((a0 + 1)) x2 r_2) fun r_4 => lt1 ((x3 ||| r_4)) fun x_6 => lt1 (x4 + (1 : Int32)) fun x_7 => k5 x_6 x_7 else bd1 (f_X0_pagesIn I ((a0 + 1)) x3 x2) fun r_8 => bd1 (f_X4_shelfSet I a1) fun r_10 => bd1 (f_J6_bitCount_0f7a4 ((r_8 &&& (r_10 ^^^ (-1 : Int32))))) fun r_12 => some r_12
set_option maxHeartbeats 4000000 in
set_option maxRecDepth 100000 in
theorem vX1_wrongPages_5 {X : CX} {r : Int32} {I : HI} {J : HJ} (hX : OKX X cX1_wrongPages RX1 3 71 5) (hret : RetI X cX1_wrongPages r I J) (a0 : Nat) (a1 : Nat) (x2 : Int32) (hk0 : gK (xG X) a0 = 2) (hk1 : gK (xG X) a1 = 5)   : ∀ (n : Nat) (x3 : Int32) (x4 : Int32), wl2 (X1_wrongPages_B5 I a0 a1 x2) n x3 x4 = some r → V X I J 5 [some (.ref a0), some (.ref a1), some (.int x2), some (.int x3), some (.int x4)] [] := by
  refine wl2_V (P := fun (x3 : Int32) (x4 : Int32) => V X I J 5 [some (.ref a0), some (.ref a1), some (.int x2), some (.int x3), some (.int x4)] []) ?_
  intro k5 hc5 x3 x4 hf
  unfold X1_wrongPages_B5 at hf
  refine r_iload hX dX1_wrongPages_5 rfl ?_
  refine r_aload_n hX dX1_wrongPages_7 rfl ?_
  refine g_4_2 hX fl_X1_74 hk1 dX1_wrongPages_8 ?_
  refine r_icmp_ge (tgt := 37) hX dX1_wrongPages_11 (by decide) (fun c_1 => ?_) (fun c_1 => ?_)
  · have hf := hf_t c_1 hf
    refine r_iload_n hX dX1_wrongPages_14 rfl ?_
    refine r_aload_n hX dX1_wrongPages_15 rfl ?_
    refine g_1_0 hX fl_X1_12 hk0 dX1_wrongPages_16 ?_
    refine r_iload_n hX dX1_wrongPages_19 rfl ?_
    refine r_aload_n hX dX1_wrongPages_20 rfl ?_
    refine r_iload hX dX1_wrongPages_21 rfl ?_
    obtain ⟨r_2, h_3, hf⟩ := bd1_some hf
    refine r_callV (As := [.int x4]) (ci := 4) hX (k_X4_pageAt (l := xl X) (J := J) hX.ok hk1 h_3) pk_X4_pageAt ml_X1_98 rfl rfl rfl rfl hk1 rfl rfl rfl (Nat.le_of_ble_eq_true rfl) dX1_wrongPages_23 ?_
    obtain ⟨r_4, h_5, hf⟩ := bd1_some hf
    refine r_callV (As := [.int x2, .int r_2]) (ci := 0) hX (k_X0_cellSet (l := xl X) (J := J) hX.ok ((q_2_0 hX hk0)) h_5) pk_X0_cellSet ml_X1_102 rfl rfl rfl rfl ((q_2_0 hX hk0)) rfl rfl rfl (Nat.le_of_ble_eq_true rfl) dX1_wrongPages_26 ?_
    refine r_ior hX dX1_wrongPages_29 ?_
    obtain ⟨x_6, ex_6, hf⟩ := lt1_some hf
    refine V.topi ex_6 ?_
    refine r_istore_n hX dX1_wrongPages_30 rfl rfl ?_
    obtain ⟨x_7, ex_7, hf⟩ := lt1_some hf
    refine r_iincE (n' := 1) ex_7 hX dX1_wrongPages_31 rfl rfl rfl rfl ?_
    refine r_goto (tgt := 5) hX dX1_wrongPages_34 (by decide) ?_
    refine V.mask [true, true, true, true, true] ?_
    exact hc5 x_6 x_7 hf
  · have hf := hf_f c_1 hf
    refine r_aload_n hX dX1_wrongPages_37 rfl ?_
    refine g_1_0 hX fl_X1_12 hk0 dX1_wrongPages_38 ?_
    refine r_iload_n hX dX1_wrongPages_41 rfl ?_
    refine r_iload_n hX dX1_wrongPages_42 rfl ?_
    obtain ⟨r_8, h_9, hf⟩ := bd1_some hf
    refine r_callV (As := [.int x3, .int x2]) (ci := 0) hX (k_X0_pagesIn (l := xl X) (J := J) hX.ok ((q_2_0 hX hk0)) h_9) pk_X0_pagesIn ml_X1_94 rfl rfl rfl rfl ((q_2_0 hX hk0)) rfl rfl rfl (Nat.le_of_ble_eq_true rfl) dX1_wrongPages_43 ?_
    refine r_aload_n hX dX1_wrongPages_46 rfl ?_
    obtain ⟨r_10, h_11, hf⟩ := bd1_some hf
    refine r_callV (As := []) (ci := 4) hX (k_X4_shelfSet (l := xl X) (J := J) hX.ok hk1 h_11) pk_X4_shelfSet ml_X1_105 rfl rfl rfl rfl hk1 rfl rfl rfl (Nat.le_of_ble_eq_true rfl) dX1_wrongPages_47 ?_
    refine r_iconst (v := -1) hX dX1_wrongPages_50 rfl ?_
    refine r_ixor hX dX1_wrongPages_51 ?_
    refine r_iand hX dX1_wrongPages_52 ?_
    obtain ⟨r_12, h_13, hf⟩ := bd1_some hf
    refine r_callS (As := [.int ((r_8 &&& (r_10 ^^^ (-1 : Int32))))]) hX (k_J6_bitCount_0f7a4 (l := xl X) (I := I) (J := J) hX.ok  h_13) pk_J6_bitCount_0f7a4 ml_X1_108 rfl rfl rfl (Nat.le_of_ble_eq_true rfl) dX1_wrongPages_53 ?_
    cases hf
    exact hret _ _ dX1_wrongPages_56
noncomputable def f_X1_wrongPages (I : HI) (a0 : Nat) (a1 : Nat) (x2 : Int32) : Option (Int32) := wl2 (X1_wrongPages_B5 I a0 a1 x2) 5000 ((0 : Int32)) ((0 : Int32))
set_option maxHeartbeats 4000000 in
set_option maxRecDepth 100000 in
theorem k_X1_wrongPages {G : GX} {l : Launch} {I : HI} {J : HJ} {r : Int32} (hG : OKG G) {a0 : Nat} {a1 : Nat} {x2 : Int32} (hk0 : gK G a0 = 2) (hk1 : gK G a1 = 5) (hf : f_X1_wrongPages I a0 a1 x2 = some r) : Ctr G l yX1_wrongPages cX1_wrongPages 5 (some .int) 3 71 [.ref a0, .ref a1, .int x2] I J (some (.int r)) I J := by
  refine ctr_I hG (by decide) [some (.ref a0), some (.ref a1), some (.int x2), none, none] rfl rfl fun X e1 e2 hX hret => ?_
  subst e1; subst e2
  unfold f_X1_wrongPages at hf
  refine r_iconst (v := 0) hX dX1_wrongPages_0 rfl ?_
  refine r_istore_n hX dX1_wrongPages_1 rfl rfl ?_
  refine r_iconst (v := 0) hX dX1_wrongPages_2 rfl ?_
  refine r_istore hX dX1_wrongPages_3 rfl rfl ?_
  refine V.mask [true, true, true, true, true] ?_
  exact vX1_wrongPages_5 hX hret a0 a1 x2 hk0 hk1 5000 ((0 : Int32)) ((0 : Int32)) hf
noncomputable def X4_removeAt_B28 (a0 : Nat) (k28 : HI → Int32 → Option (HI)) (I : HI) (x2 : Int32) : Option (HI) := if x2 < (I a0 2) then gd (vp_in x2 9) (gd (vp_in ((x2 - (1 : Int32))) 9) (lt1 (sI I ((a0 + 1)) ((x2 - (1 : Int32))).toNatClampNeg ((I ((a0 + 1)) x2.toNatClampNeg))) fun I_8 => lt1 (x2 + (1 : Int32)) fun x_9 => k28 I_8 x_9)) else lt1 (sI I a0 2 (((I a0 2) - (1 : Int32)))) fun I_10 => some I_10
set_option maxHeartbeats 4000000 in
set_option maxRecDepth 100000 in
theorem vX4_removeAt_28 {X : CX} {I' : HI} {J : HJ} (hX : OKX X cX4_removeAt RX4 0 0 3) (hret : RetV X cX4_removeAt I' J) (a0 : Nat) (hk0 : gK (xG X) a0 = 5)   : ∀ (n : Nat) (I : HI) (x2 : Int32), wl2 (X4_removeAt_B28 a0) n I x2 = some I' → V X I J 28 [some (.ref a0), none, some (.int x2)] [] := by
  refine wl2_V (P := fun (I : HI) (x2 : Int32) => V X I J 28 [some (.ref a0), none, some (.int x2)] []) ?_
  intro k28 hc28 I x2 hf
  unfold X4_removeAt_B28 at hf
  refine r_iload_n hX dX4_removeAt_28 rfl ?_
  refine r_aload_n hX dX4_removeAt_29 rfl ?_
  refine g_4_2 hX fl_X4_18 hk0 dX4_removeAt_30 ?_
  refine r_icmp_ge (tgt := 56) hX dX4_removeAt_33 (by decide) (fun c_5 => ?_) (fun c_5 => ?_)
  · have hf := hf_t c_5 hf
    refine r_aload_n hX dX4_removeAt_36 rfl ?_
    refine g_4_5 hX fl_X4_27 hk0 dX4_removeAt_37 ?_
    refine r_iload_n hX dX4_removeAt_40 rfl ?_
    refine r_iconst (v := 1) hX dX4_removeAt_41 rfl ?_
    refine r_isub hX dX4_removeAt_42 ?_
    refine r_aload_n hX dX4_removeAt_43 rfl ?_
    refine g_4_5 hX fl_X4_27 hk0 dX4_removeAt_44 ?_
    refine r_iload_n hX dX4_removeAt_47 rfl ?_
    obtain ⟨g_6, hf⟩ := gd_some hf
    refine r_iald (n := 9) hX rfl ((q_5_5 hX hk0)) g_6 dX4_removeAt_48 ?_
    obtain ⟨g_7, hf⟩ := gd_some hf
    obtain ⟨I_8, eI_8, hf⟩ := lt1_some hf
    refine r_iastE (n := 9) eI_8 hX rfl ((q_5_5 hX hk0)) g_7 dX4_removeAt_49 ?_
    obtain ⟨x_9, ex_9, hf⟩ := lt1_some hf
    refine r_iincE (n' := 1) ex_9 hX dX4_removeAt_50 rfl rfl rfl rfl ?_
    refine r_goto (tgt := 28) hX dX4_removeAt_53 (by decide) ?_
    refine V.mask [true, false, true] ?_
    exact hc28 I_8 x_9 hf
  · have hf := hf_f c_5 hf
    refine r_aload_n hX dX4_removeAt_56 rfl ?_
    refine r_dup hX dX4_removeAt_57 rfl ?_
    refine g_4_2 hX fl_X4_18 hk0 dX4_removeAt_58 ?_
    refine r_iconst (v := 1) hX dX4_removeAt_61 rfl ?_
    refine r_isub hX dX4_removeAt_62 ?_
    obtain ⟨I_10, eI_10, hf⟩ := lt1_some hf
    refine p_4_2 eI_10 hX fl_X4_18 hk0 dX4_removeAt_63 ?_
    cases hf
    exact hret _ _ dX4_removeAt_66
noncomputable def f_X4_removeAt (I : HI) (a0 : Nat) (x1 : Int32) : Option (HI) := if x1 < 0 then some I else if x1 < (I a0 2) then if (9 : Int32) < (I a0 2) then some I else lt1 ((x1 + (1 : Int32))) fun x_4 => wl2 (X4_removeAt_B28 a0) 5000 I x_4 else some I
set_option maxHeartbeats 4000000 in
set_option maxRecDepth 100000 in
theorem k_X4_removeAt {G : GX} {l : Launch} {I : HI} {J : HJ} {I' : HI} (hG : OKG G) {a0 : Nat} {x1 : Int32} (hk0 : gK G a0 = 5) (hf : f_X4_removeAt I a0 x1 = some I') : Ctr G l yX4_removeAt cX4_removeAt 3 none 0 0 [.ref a0, .int x1] I J none I' J := by
  refine ctr_V hG (by decide) [some (.ref a0), some (.int x1), none] rfl rfl fun X e1 e2 hX hret => ?_
  subst e1; subst e2
  unfold f_X4_removeAt at hf
  refine r_iload_n hX dX4_removeAt_0 rfl ?_
  refine r_if_lt (tgt := 66) hX dX4_removeAt_1 (by decide) (fun c_1 => ?_) (fun c_1 => ?_)
  · have hf := hf_t c_1 hf
    cases hf
    exact hret _ _ dX4_removeAt_66
  · have hf := hf_f c_1 hf
    refine r_iload_n hX dX4_removeAt_4 rfl ?_
    refine r_aload_n hX dX4_removeAt_5 rfl ?_
    refine g_4_2 hX fl_X4_18 hk0 dX4_removeAt_6 ?_
    refine r_icmp_ge (tgt := 66) hX dX4_removeAt_9 (by decide) (fun c_2 => ?_) (fun c_2 => ?_)
    · have hf := hf_t c_2 hf
      refine r_aload_n hX dX4_removeAt_12 rfl ?_
      refine g_4_2 hX fl_X4_18 hk0 dX4_removeAt_13 ?_
      refine r_aload_n hX dX4_removeAt_16 rfl ?_
      refine g_4_5 hX fl_X4_27 hk0 dX4_removeAt_17 ?_
      refine r_alen (n := 9) (v := 9) hX rfl ((q_5_5 hX hk0)) (by decide) dX4_removeAt_20 ?_
      refine r_icmp_gt (tgt := 66) hX dX4_removeAt_21 (by decide) (fun c_3 => ?_) (fun c_3 => ?_)
      · have hf := hf_t c_3 hf
        cases hf
        exact hret _ _ dX4_removeAt_66
      · have hf := hf_f c_3 hf
        refine r_iload_n hX dX4_removeAt_24 rfl ?_
        refine r_iconst (v := 1) hX dX4_removeAt_25 rfl ?_
        refine r_iadd hX dX4_removeAt_26 ?_
        obtain ⟨x_4, ex_4, hf⟩ := lt1_some hf
        refine V.topi ex_4 ?_
        refine r_istore_n hX dX4_removeAt_27 rfl rfl ?_
        refine V.mask [true, false, true] ?_
        exact vX4_removeAt_28 hX hret a0 hk0 5000 I x_4 hf
    · have hf := hf_f c_2 hf
      cases hf
      exact hret _ _ dX4_removeAt_66
noncomputable def X4_addNewest_B24 (a0 : Nat) (x1 : Int32) (k24 : HI → Int32 → Option (HI)) (I : HI) (x2 : Int32) : Option (HI) := if 0 < x2 then gd (vp_in ((x2 - (1 : Int32))) 9) (gd (vp_in x2 9) (lt1 (sI I ((a0 + 1)) x2.toNatClampNeg ((I ((a0 + 1)) ((x2 - (1 : Int32))).toNatClampNeg))) fun I_7 => lt1 (x2 + (-1 : Int32)) fun x_8 => k24 I_7 x_8)) else gd (vp_in ((0 : Int32)) 9) (lt1 (sI I ((a0 + 1)) ((0 : Int32)).toNatClampNeg x1) fun I_10 => lt1 (sI I_10 a0 2 (((I_10 a0 2) + (1 : Int32)))) fun I_11 => some I_11)
set_option maxHeartbeats 4000000 in
set_option maxRecDepth 100000 in
theorem vX4_addNewest_24 {X : CX} {I' : HI} {J : HJ} (hX : OKX X cX4_addNewest RX4 0 0 3) (hret : RetV X cX4_addNewest I' J) (a0 : Nat) (x1 : Int32) (hk0 : gK (xG X) a0 = 5)   : ∀ (n : Nat) (I : HI) (x2 : Int32), wl2 (X4_addNewest_B24 a0 x1) n I x2 = some I' → V X I J 24 [some (.ref a0), some (.int x1), some (.int x2)] [] := by
  refine wl2_V (P := fun (I : HI) (x2 : Int32) => V X I J 24 [some (.ref a0), some (.int x1), some (.int x2)] []) ?_
  intro k24 hc24 I x2 hf
  unfold X4_addNewest_B24 at hf
  refine r_iload_n hX dX4_addNewest_24 rfl ?_
  refine r_if_le (tgt := 48) hX dX4_addNewest_25 (by decide) (fun c_4 => ?_) (fun c_4 => ?_)
  · have hf := hf_t c_4 hf
    refine r_aload_n hX dX4_addNewest_28 rfl ?_
    refine g_4_5 hX fl_X4_27 hk0 dX4_addNewest_29 ?_
    refine r_iload_n hX dX4_addNewest_32 rfl ?_
    refine r_aload_n hX dX4_addNewest_33 rfl ?_
    refine g_4_5 hX fl_X4_27 hk0 dX4_addNewest_34 ?_
    refine r_iload_n hX dX4_addNewest_37 rfl ?_
    refine r_iconst (v := 1) hX dX4_addNewest_38 rfl ?_
    refine r_isub hX dX4_addNewest_39 ?_
    obtain ⟨g_5, hf⟩ := gd_some hf
    refine r_iald (n := 9) hX rfl ((q_5_5 hX hk0)) g_5 dX4_addNewest_40 ?_
    obtain ⟨g_6, hf⟩ := gd_some hf
    obtain ⟨I_7, eI_7, hf⟩ := lt1_some hf
    refine r_iastE (n := 9) eI_7 hX rfl ((q_5_5 hX hk0)) g_6 dX4_addNewest_41 ?_
    obtain ⟨x_8, ex_8, hf⟩ := lt1_some hf
    refine r_iincE (n' := -1) ex_8 hX dX4_addNewest_42 rfl rfl rfl rfl ?_
    refine r_goto (tgt := 24) hX dX4_addNewest_45 (by decide) ?_
    refine V.mask [true, true, true] ?_
    exact hc24 I_7 x_8 hf
  · have hf := hf_f c_4 hf
    refine r_aload_n hX dX4_addNewest_48 rfl ?_
    refine g_4_5 hX fl_X4_27 hk0 dX4_addNewest_49 ?_
    refine r_iconst (v := 0) hX dX4_addNewest_52 rfl ?_
    refine r_iload_n hX dX4_addNewest_53 rfl ?_
    obtain ⟨g_9, hf⟩ := gd_some hf
    obtain ⟨I_10, eI_10, hf⟩ := lt1_some hf
    refine r_iastE (n := 9) eI_10 hX rfl ((q_5_5 hX hk0)) g_9 dX4_addNewest_54 ?_
    refine r_aload_n hX dX4_addNewest_55 rfl ?_
    refine r_dup hX dX4_addNewest_56 rfl ?_
    refine g_4_2 hX fl_X4_18 hk0 dX4_addNewest_57 ?_
    refine r_iconst (v := 1) hX dX4_addNewest_60 rfl ?_
    refine r_iadd hX dX4_addNewest_61 ?_
    obtain ⟨I_11, eI_11, hf⟩ := lt1_some hf
    refine p_4_2 eI_11 hX fl_X4_18 hk0 dX4_addNewest_62 ?_
    cases hf
    exact hret _ _ dX4_addNewest_65
noncomputable def f_X4_addNewest (I : HI) (a0 : Nat) (x1 : Int32) : Option (HI) := if (I a0 2) < 0 then some I else if (I a0 2) < (9 : Int32) then lt1 ((I a0 2)) fun x_3 => wl2 (X4_addNewest_B24 a0 x1) 5000 I x_3 else some I
set_option maxHeartbeats 4000000 in
set_option maxRecDepth 100000 in
theorem k_X4_addNewest {G : GX} {l : Launch} {I : HI} {J : HJ} {I' : HI} (hG : OKG G) {a0 : Nat} {x1 : Int32} (hk0 : gK G a0 = 5) (hf : f_X4_addNewest I a0 x1 = some I') : Ctr G l yX4_addNewest cX4_addNewest 3 none 0 0 [.ref a0, .int x1] I J none I' J := by
  refine ctr_V hG (by decide) [some (.ref a0), some (.int x1), none] rfl rfl fun X e1 e2 hX hret => ?_
  subst e1; subst e2
  unfold f_X4_addNewest at hf
  refine r_aload_n hX dX4_addNewest_0 rfl ?_
  refine g_4_2 hX fl_X4_18 hk0 dX4_addNewest_1 ?_
  refine r_if_lt (tgt := 65) hX dX4_addNewest_4 (by decide) (fun c_1 => ?_) (fun c_1 => ?_)
  · have hf := hf_t c_1 hf
    cases hf
    exact hret _ _ dX4_addNewest_65
  · have hf := hf_f c_1 hf
    refine r_aload_n hX dX4_addNewest_7 rfl ?_
    refine g_4_2 hX fl_X4_18 hk0 dX4_addNewest_8 ?_
    refine r_aload_n hX dX4_addNewest_11 rfl ?_
    refine g_4_5 hX fl_X4_27 hk0 dX4_addNewest_12 ?_
    refine r_alen (n := 9) (v := 9) hX rfl ((q_5_5 hX hk0)) (by decide) dX4_addNewest_15 ?_
    refine r_icmp_ge (tgt := 65) hX dX4_addNewest_16 (by decide) (fun c_2 => ?_) (fun c_2 => ?_)
    · have hf := hf_t c_2 hf
      refine r_aload_n hX dX4_addNewest_19 rfl ?_
      refine g_4_2 hX fl_X4_18 hk0 dX4_addNewest_20 ?_
      obtain ⟨x_3, ex_3, hf⟩ := lt1_some hf
      refine V.topi ex_3 ?_
      refine r_istore_n hX dX4_addNewest_23 rfl rfl ?_
      refine V.mask [true, true, true] ?_
      exact vX4_addNewest_24 hX hret a0 x1 hk0 5000 I x_3 hf
    · have hf := hf_f c_2 hf
      cases hf
      exact hret _ _ dX4_addNewest_65

noncomputable def f_X4_renew (I : HI) (a0 : Nat) (x1 : Int32) : Option (HI) := bd1 (f_X4_placeOf I a0 x1) fun r_1 => bd1 (f_X4_removeAt I a0 r_1) fun I_3 => bd1 (f_X4_addNewest I_3 a0 x1) fun I_5 => some I_5
set_option maxHeartbeats 4000000 in
set_option maxRecDepth 100000 in
theorem k_X4_renew {G : GX} {l : Launch} {I : HI} {J : HJ} {I' : HI} (hG : OKG G) {a0 : Nat} {x1 : Int32} (hk0 : gK G a0 = 5) (hf : f_X4_renew I a0 x1 = some I') : Ctr G l yX4_renew cX4_renew 2 none 1 22 [.ref a0, .int x1] I J none I' J := by
  refine ctr_V hG (by decide) [some (.ref a0), some (.int x1)] rfl rfl fun X e1 e2 hX hret => ?_
  subst e1; subst e2
  unfold f_X4_renew at hf
  refine r_aload_n hX dX4_renew_0 rfl ?_
  refine r_aload_n hX dX4_renew_1 rfl ?_
  refine r_iload_n hX dX4_renew_2 rfl ?_
  obtain ⟨r_1, h_2, hf⟩ := bd1_some hf
  refine r_callV (As := [.int x1]) (ci := 4) hX (k_X4_placeOf (l := xl X) (J := J) hX.ok hk0 h_2) pk_X4_placeOf ml_X4_41 rfl rfl rfl rfl hk0 rfl rfl rfl (Nat.le_of_ble_eq_true rfl) dX4_renew_3 ?_
  obtain ⟨I_3, h_4, hf⟩ := bd1_some hf
  refine r_callV (As := [.int r_1]) (ci := 4) hX (k_X4_removeAt (l := xl X) (J := J) hX.ok hk0 h_4) pk_X4_removeAt ml_X4_45 rfl rfl rfl rfl hk0 rfl rfl rfl (Nat.le_of_ble_eq_true rfl) dX4_renew_6 ?_
  refine r_aload_n hX dX4_renew_9 rfl ?_
  refine r_iload_n hX dX4_renew_10 rfl ?_
  obtain ⟨I_5, h_6, hf⟩ := bd1_some hf
  refine r_callV (As := [.int x1]) (ci := 4) hX (k_X4_addNewest (l := xl X) (J := J) hX.ok hk0 h_6) pk_X4_addNewest ml_X4_49 rfl rfl rfl rfl hk0 rfl rfl rfl (Nat.le_of_ble_eq_true rfl) dX4_renew_11 ?_
  cases hf
  exact hret _ _ dX4_renew_14
noncomputable def X1_searchOthers_J87 (I : HI) (a0 : Nat) (x1 : Int32) (x2 : Int32) (x3 : Int32) (k2 : HI → Int32 → Option (Int32 × HI)) : Option (Int32 × HI) := lt1 (x3 + (1 : Int32)) fun x_18 => k2 I x_18
set_option maxHeartbeats 4000000 in
set_option maxRecDepth 100000 in
theorem vX1_searchOthers_87 {X : CX} {I' : HI} {r : Int32} {I : HI} {J : HJ} (hX : OKX X cX1_searchOthers RX1 2 47 5) (hret : RetI X cX1_searchOthers r I' J) (a0 : Nat) (x1 : Int32) (x2 : Int32) (x3 : Int32) (hk0 : gK (xG X) a0 = 2) (k2 : HI → Int32 → Option (Int32 × HI)) (hc2 : ∀ (I : HI) (x3 : Int32), k2 I x3 = some (r, I') → V X I J 2 [some (.ref a0), some (.int x1), some (.int x2), some (.int x3), none] []) (hf : X1_searchOthers_J87 I a0 x1 x2 x3 k2 = some (r, I')) : V X I J 87 [some (.ref a0), some (.int x1), some (.int x2), some (.int x3), none] [] := by
  unfold X1_searchOthers_J87 at hf
  obtain ⟨x_18, ex_18, hf⟩ := lt1_some hf
  refine r_iincE (n' := 1) ex_18 hX dX1_searchOthers_87 rfl rfl rfl rfl ?_
  refine r_goto (tgt := 2) hX dX1_searchOthers_90 (by decide) ?_
  refine V.mask [true, true, true, true, false] ?_
  exact hc2 I x_18 hf
noncomputable def X1_searchOthers_B2 (a0 : Nat) (x1 : Int32) (x2 : Int32) (k2 : HI → Int32 → Option (Int32 × HI)) (I : HI) (x3 : Int32) : Option (Int32 × HI) := if x3 < (I a0 2) then bd1 (f_X1_proxyAt I a0 x3) fun r_2 => mN r_2 (if x3 = x1 then X1_searchOthers_J87 I a0 x1 x2 x3 k2 else X1_searchOthers_J87 I a0 x1 x2 x3 k2) (fun a_4 => if x3 = x1 then X1_searchOthers_J87 I a0 x1 x2 x3 k2 else bd1 (f_X0_contains I ((a0 + 1)) ((I a_4 4)) ((I ((a0 + 1)) 3)) x2) fun r_8 => if r_8 = 0 then X1_searchOthers_J87 I a0 x1 x2 x3 k2 else lt1 (sI I a0 3 (((I a0 3) + (1 : Int32)))) fun I_11 => bd1 (f_X4_has I_11 a_4 x2) fun r_12 => if r_12 = 0 then lt1 (sI I_11 a0 4 (((I_11 a0 4) + (1 : Int32)))) fun I_15 => X1_searchOthers_J87 I_15 a0 x1 x2 x3 k2 else bd1 (f_X4_renew I_11 a_4 x2) fun I_16 => some (x3, I_16)) else some ((-9 : Int32), I)
set_option maxHeartbeats 4000000 in
set_option maxRecDepth 100000 in
theorem vX1_searchOthers_2 {X : CX} {I' : HI} {r : Int32} {J : HJ} (hX : OKX X cX1_searchOthers RX1 2 47 5) (hret : RetI X cX1_searchOthers r I' J) (a0 : Nat) (x1 : Int32) (x2 : Int32) (hk0 : gK (xG X) a0 = 2)   : ∀ (n : Nat) (I : HI) (x3 : Int32), wl2 (X1_searchOthers_B2 a0 x1 x2) n I x3 = some (r, I') → V X I J 2 [some (.ref a0), some (.int x1), some (.int x2), some (.int x3), none] [] := by
  refine wl2_V (P := fun (I : HI) (x3 : Int32) => V X I J 2 [some (.ref a0), some (.int x1), some (.int x2), some (.int x3), none] []) ?_
  intro k2 hc2 I x3 hf
  unfold X1_searchOthers_B2 at hf
  refine r_iload_n hX dX1_searchOthers_2 rfl ?_
  refine r_aload_n hX dX1_searchOthers_3 rfl ?_
  refine g_1_2 hX fl_X1_24 hk0 dX1_searchOthers_4 ?_
  refine r_icmp_ge (tgt := 93) hX dX1_searchOthers_7 (by decide) (fun c_1 => ?_) (fun c_1 => ?_)
  · have hf := hf_t c_1 hf
    refine r_aload_n hX dX1_searchOthers_10 rfl ?_
    refine r_iload_n hX dX1_searchOthers_11 rfl ?_
    obtain ⟨r_2, h_3, hf⟩ := bd1_some hf
    refine r_callV (As := [.int x3]) (ci := 1) hX (k_X1_proxyAt (l := xl X) (J := J) hX.ok hk0 h_3) pk_X1_proxyAt ml_X1_66 rfl rfl rfl rfl hk0 rfl rfl rfl (Nat.le_of_ble_eq_true rfl) dX1_searchOthers_12 ?_
    cases r_2 with
    | none =>
      have hf := mN_n hf
      refine r_astoreN hX dX1_searchOthers_15 rfl rfl ?_
      refine r_iload_n hX dX1_searchOthers_17 rfl ?_
      refine r_iload_n hX dX1_searchOthers_18 rfl ?_
      refine r_icmp_eq (tgt := 87) hX dX1_searchOthers_19 (by decide) (fun c_6 => ?_) (fun c_6 => ?_)
      · have hf := hf_t c_6 hf
        refine V.mask [true, true, true, true, false] ?_
        exact vX1_searchOthers_87 hX hret a0 x1 x2 x3 hk0 k2 hc2 hf
      · have hf := hf_f c_6 hf
        refine r_aloadN hX dX1_searchOthers_22 rfl ?_
        refine r_ifnull_n (tgt := 87) hX dX1_searchOthers_24 (by decide) ?_
        refine V.mask [true, true, true, true, false] ?_
        exact vX1_searchOthers_87 hX hret a0 x1 x2 x3 hk0 k2 hc2 hf
    | some a_4 =>
      have hf := mN_s hf
      have hk_5 := kt_X1_proxyAt hX.ok hk0 h_3
      refine r_astore hX dX1_searchOthers_15 rfl rfl ?_
      refine r_iload_n hX dX1_searchOthers_17 rfl ?_
      refine r_iload_n hX dX1_searchOthers_18 rfl ?_
      refine r_icmp_eq (tgt := 87) hX dX1_searchOthers_19 (by decide) (fun c_7 => ?_) (fun c_7 => ?_)
      · have hf := hf_t c_7 hf
        refine V.mask [true, true, true, true, false] ?_
        exact vX1_searchOthers_87 hX hret a0 x1 x2 x3 hk0 k2 hc2 hf
      · have hf := hf_f c_7 hf
        refine r_aload hX dX1_searchOthers_22 rfl ?_
        refine r_ifnull_r hX dX1_searchOthers_24 ?_
        refine r_aload_n hX dX1_searchOthers_27 rfl ?_
        refine g_1_0 hX fl_X1_12 hk0 dX1_searchOthers_28 ?_
        refine r_aload hX dX1_searchOthers_31 rfl ?_
        refine g_4_4 hX fl_X1_80 hk_5 dX1_searchOthers_33 ?_
        refine r_aload_n hX dX1_searchOthers_36 rfl ?_
        refine g_1_0 hX fl_X1_12 hk0 dX1_searchOthers_37 ?_
        refine g_0_3 hX fl_X1_87 ((q_2_0 hX hk0)) dX1_searchOthers_40 ?_
        refine r_iload_n hX dX1_searchOthers_43 rfl ?_
        obtain ⟨r_8, h_9, hf⟩ := bd1_some hf
        refine r_callV (As := [.int ((I a_4 4)), .int ((I ((a0 + 1)) 3)), .int x2]) (ci := 0) hX (k_X0_contains (l := xl X) (J := J) hX.ok ((q_2_0 hX hk0)) h_9) pk_X0_contains ml_X1_90 rfl rfl rfl rfl ((q_2_0 hX hk0)) rfl rfl rfl (Nat.le_of_ble_eq_true rfl) dX1_searchOthers_44 ?_
        refine r_if_eq (tgt := 87) hX dX1_searchOthers_47 (by decide) (fun c_10 => ?_) (fun c_10 => ?_)
        · have hf := hf_t c_10 hf
          refine V.mask [true, true, true, true, false] ?_
          exact vX1_searchOthers_87 hX hret a0 x1 x2 x3 hk0 k2 hc2 hf
        · have hf := hf_f c_10 hf
          refine r_aload_n hX dX1_searchOthers_50 rfl ?_
          refine r_dup hX dX1_searchOthers_51 rfl ?_
          refine g_1_3 hX fl_X1_28 hk0 dX1_searchOthers_52 ?_
          refine r_iconst (v := 1) hX dX1_searchOthers_55 rfl ?_
          refine r_iadd hX dX1_searchOthers_56 ?_
          obtain ⟨I_11, eI_11, hf⟩ := lt1_some hf
          refine p_1_3 eI_11 hX fl_X1_28 hk0 dX1_searchOthers_57 ?_
          refine r_aload hX dX1_searchOthers_60 rfl ?_
          refine r_iload_n hX dX1_searchOthers_62 rfl ?_
          obtain ⟨r_12, h_13, hf⟩ := bd1_some hf
          refine r_callV (As := [.int x2]) (ci := 4) hX (k_X4_has (l := xl X) (J := J) hX.ok hk_5 h_13) pk_X4_has ml_X1_77 rfl rfl rfl rfl hk_5 rfl rfl rfl (Nat.le_of_ble_eq_true rfl) dX1_searchOthers_63 ?_
          refine r_if_eq (tgt := 77) hX dX1_searchOthers_66 (by decide) (fun c_14 => ?_) (fun c_14 => ?_)
          · have hf := hf_t c_14 hf
            refine r_aload_n hX dX1_searchOthers_77 rfl ?_
            refine r_dup hX dX1_searchOthers_78 rfl ?_
            refine g_1_4 hX fl_X1_31 hk0 dX1_searchOthers_79 ?_
            refine r_iconst (v := 1) hX dX1_searchOthers_82 rfl ?_
            refine r_iadd hX dX1_searchOthers_83 ?_
            obtain ⟨I_15, eI_15, hf⟩ := lt1_some hf
            refine p_1_4 eI_15 hX fl_X1_31 hk0 dX1_searchOthers_84 ?_
            refine V.mask [true, true, true, true, false] ?_
            exact vX1_searchOthers_87 hX hret a0 x1 x2 x3 hk0 k2 hc2 hf
          · have hf := hf_f c_14 hf
            refine r_aload hX dX1_searchOthers_69 rfl ?_
            refine r_iload_n hX dX1_searchOthers_71 rfl ?_
            obtain ⟨I_16, h_17, hf⟩ := bd1_some hf
            refine r_callV (As := [.int x2]) (ci := 4) hX (k_X4_renew (l := xl X) (J := J) hX.ok hk_5 h_17) pk_X4_renew ml_X1_113 rfl rfl rfl rfl hk_5 rfl rfl rfl (Nat.le_of_ble_eq_true rfl) dX1_searchOthers_72 ?_
            refine r_iload_n hX dX1_searchOthers_75 rfl ?_
            cases hf
            exact hret _ _ dX1_searchOthers_76
  · have hf := hf_f c_1 hf
    refine r_bipush (v := -9) hX dX1_searchOthers_93 (by decide) ?_
    cases hf
    exact hret _ _ dX1_searchOthers_95
noncomputable def f_X1_searchOthers (I : HI) (a0 : Nat) (x1 : Int32) (x2 : Int32) : Option (Int32 × HI) := wl2 (X1_searchOthers_B2 a0 x1 x2) 5000 I ((0 : Int32))
set_option maxHeartbeats 4000000 in
set_option maxRecDepth 100000 in
theorem k_X1_searchOthers {G : GX} {l : Launch} {I : HI} {J : HJ} {I' : HI} {r : Int32} (hG : OKG G) {a0 : Nat} {x1 : Int32} {x2 : Int32} (hk0 : gK G a0 = 2) (hf : f_X1_searchOthers I a0 x1 x2 = some (r, I')) : Ctr G l yX1_searchOthers cX1_searchOthers 5 (some .int) 2 47 [.ref a0, .int x1, .int x2] I J (some (.int r)) I' J := by
  refine ctr_I hG (by decide) [some (.ref a0), some (.int x1), some (.int x2), none, none] rfl rfl fun X e1 e2 hX hret => ?_
  subst e1; subst e2
  unfold f_X1_searchOthers at hf
  refine r_iconst (v := 0) hX dX1_searchOthers_0 rfl ?_
  refine r_istore_n hX dX1_searchOthers_1 rfl rfl ?_
  refine V.mask [true, true, true, true, false] ?_
  exact vX1_searchOthers_2 hX hret a0 x1 x2 hk0 5000 I ((0 : Int32)) hf
noncomputable def f_X1_removePage (I : HI) (a0 : Nat) (a1 : Nat) (x2 : Int32) : Option (HI) := bd1 (f_X4_placeOf I a1 x2) fun r_1 => bd1 (f_X4_removeAt I a1 r_1) fun I_3 => bd1 (f_X1_tally I_3 a0 a1 x2 ((-1 : Int32))) fun I_5 => lt1 (sI I_5 a1 3 (((I_5 a1 3) + (1 : Int32)))) fun I_7 => some I_7
set_option maxHeartbeats 4000000 in
set_option maxRecDepth 100000 in
theorem k_X1_removePage {G : GX} {l : Launch} {I : HI} {J : HJ} {I' : HI} (hG : OKG G) {a0 : Nat} {a1 : Nat} {x2 : Int32} (hk0 : gK G a0 = 2) (hk1 : gK G a1 = 5) (hf : f_X1_removePage I a0 a1 x2 = some I') : Ctr G l yX1_removePage cX1_removePage 3 none 2 47 [.ref a0, .ref a1, .int x2] I J none I' J := by
  refine ctr_V hG (by decide) [some (.ref a0), some (.ref a1), some (.int x2)] rfl rfl fun X e1 e2 hX hret => ?_
  subst e1; subst e2
  unfold f_X1_removePage at hf
  refine r_aload_n hX dX1_removePage_0 rfl ?_
  refine r_aload_n hX dX1_removePage_1 rfl ?_
  refine r_iload_n hX dX1_removePage_2 rfl ?_
  obtain ⟨r_1, h_2, hf⟩ := bd1_some hf
  refine r_callV (As := [.int x2]) (ci := 4) hX (k_X4_placeOf (l := xl X) (J := J) hX.ok hk1 h_2) pk_X4_placeOf ml_X1_140 rfl rfl rfl rfl hk1 rfl rfl rfl (Nat.le_of_ble_eq_true rfl) dX1_removePage_3 ?_
  obtain ⟨I_3, h_4, hf⟩ := bd1_some hf
  refine r_callV (As := [.int r_1]) (ci := 4) hX (k_X4_removeAt (l := xl X) (J := J) hX.ok hk1 h_4) pk_X4_removeAt ml_X1_143 rfl rfl rfl rfl hk1 rfl rfl rfl (Nat.le_of_ble_eq_true rfl) dX1_removePage_6 ?_
  refine r_aload_n hX dX1_removePage_9 rfl ?_
  refine r_aload_n hX dX1_removePage_10 rfl ?_
  refine r_iload_n hX dX1_removePage_11 rfl ?_
  refine r_iconst (v := -1) hX dX1_removePage_12 rfl ?_
  obtain ⟨I_5, h_6, hf⟩ := bd1_some hf
  refine r_callV (As := [.ref a1, .int x2, .int ((-1 : Int32))]) (ci := 1) hX (k_X1_tally (l := xl X) (J := J) hX.ok hk0 hk1 h_6) pk_X1_tally ml_X1_133 rfl rfl rfl rfl hk0 rfl rfl rfl (Nat.le_of_ble_eq_true rfl) dX1_removePage_13 ?_
  refine r_aload_n hX dX1_removePage_16 rfl ?_
  refine r_dup hX dX1_removePage_17 rfl ?_
  refine g_4_3 hX fl_X1_137 hk1 dX1_removePage_18 ?_
  refine r_iconst (v := 1) hX dX1_removePage_21 rfl ?_
  refine r_iadd hX dX1_removePage_22 ?_
  obtain ⟨I_7, eI_7, hf⟩ := lt1_some hf
  refine p_4_3 eI_7 hX fl_X1_137 hk1 dX1_removePage_23 ?_
  cases hf
  exact hret _ _ dX1_removePage_26
noncomputable def f_X1_addPage (I : HI) (a0 : Nat) (a1 : Nat) (x2 : Int32) : Option (HI) := bd1 (f_X4_addNewest I a1 x2) fun I_1 => bd1 (f_X1_tally I_1 a0 a1 x2 ((1 : Int32))) fun I_3 => lt1 (sI I_3 a1 3 (((I_3 a1 3) + (1 : Int32)))) fun I_5 => some I_5
set_option maxHeartbeats 4000000 in
set_option maxRecDepth 100000 in
theorem k_X1_addPage {G : GX} {l : Launch} {I : HI} {J : HJ} {I' : HI} (hG : OKG G) {a0 : Nat} {a1 : Nat} {x2 : Int32} (hk0 : gK G a0 = 2) (hk1 : gK G a1 = 5) (hf : f_X1_addPage I a0 a1 x2 = some I') : Ctr G l yX1_addPage cX1_addPage 3 none 2 47 [.ref a0, .ref a1, .int x2] I J none I' J := by
  refine ctr_V hG (by decide) [some (.ref a0), some (.ref a1), some (.int x2)] rfl rfl fun X e1 e2 hX hret => ?_
  subst e1; subst e2
  unfold f_X1_addPage at hf
  refine r_aload_n hX dX1_addPage_0 rfl ?_
  refine r_iload_n hX dX1_addPage_1 rfl ?_
  obtain ⟨I_1, h_2, hf⟩ := bd1_some hf
  refine r_callV (As := [.int x2]) (ci := 4) hX (k_X4_addNewest (l := xl X) (J := J) hX.ok hk1 h_2) pk_X4_addNewest ml_X1_130 rfl rfl rfl rfl hk1 rfl rfl rfl (Nat.le_of_ble_eq_true rfl) dX1_addPage_2 ?_
  refine r_aload_n hX dX1_addPage_5 rfl ?_
  refine r_aload_n hX dX1_addPage_6 rfl ?_
  refine r_iload_n hX dX1_addPage_7 rfl ?_
  refine r_iconst (v := 1) hX dX1_addPage_8 rfl ?_
  obtain ⟨I_3, h_4, hf⟩ := bd1_some hf
  refine r_callV (As := [.ref a1, .int x2, .int ((1 : Int32))]) (ci := 1) hX (k_X1_tally (l := xl X) (J := J) hX.ok hk0 hk1 h_4) pk_X1_tally ml_X1_133 rfl rfl rfl rfl hk0 rfl rfl rfl (Nat.le_of_ble_eq_true rfl) dX1_addPage_9 ?_
  refine r_aload_n hX dX1_addPage_12 rfl ?_
  refine r_dup hX dX1_addPage_13 rfl ?_
  refine g_4_3 hX fl_X1_137 hk1 dX1_addPage_14 ?_
  refine r_iconst (v := 1) hX dX1_addPage_17 rfl ?_
  refine r_iadd hX dX1_addPage_18 ?_
  obtain ⟨I_5, eI_5, hf⟩ := lt1_some hf
  refine p_4_3 eI_5 hX fl_X1_137 hk1 dX1_addPage_19 ?_
  cases hf
  exact hret _ _ dX1_addPage_22
noncomputable def X1_spreadDue_J37 (I : HI) (a0 : Nat) (x1 : Int32) (k2 : HI → Int32 → Option (HI)) : Option (HI) := lt1 (x1 + (1 : Int32)) fun x_10 => k2 I x_10
set_option maxHeartbeats 4000000 in
set_option maxRecDepth 100000 in
theorem vX1_spreadDue_37 {X : CX} {I' : HI} {I : HI} {J : HJ} (hX : OKX X cX1_spreadDue RX1 2 43 3) (hret : RetV X cX1_spreadDue I' J) (a0 : Nat) (x1 : Int32) (hk0 : gK (xG X) a0 = 2) (k2 : HI → Int32 → Option (HI)) (hc2 : ∀ (I : HI) (x1 : Int32), k2 I x1 = some I' → V X I J 2 [some (.ref a0), some (.int x1), none] []) (hf : X1_spreadDue_J37 I a0 x1 k2 = some I') : V X I J 37 [some (.ref a0), some (.int x1), none] [] := by
  unfold X1_spreadDue_J37 at hf
  obtain ⟨x_10, ex_10, hf⟩ := lt1_some hf
  refine r_iincE (n' := 1) ex_10 hX dX1_spreadDue_37 rfl rfl rfl rfl ?_
  refine r_goto (tgt := 2) hX dX1_spreadDue_40 (by decide) ?_
  refine V.mask [true, true, false] ?_
  exact hc2 I x_10 hf
noncomputable def X1_spreadDue_B2 (a0 : Nat) (k2 : HI → Int32 → Option (HI)) (I : HI) (x1 : Int32) : Option (HI) := if x1 < (I a0 2) then bd1 (f_X1_proxyAt I a0 x1) fun r_2 => mN r_2 (X1_spreadDue_J37 I a0 x1 k2) (fun a_4 => if (I a_4 3) < (I a_4 1) then X1_spreadDue_J37 I a0 x1 k2 else bd2 (f_X1_spread I a0 a_4) fun r_7 I_8 => X1_spreadDue_J37 I_8 a0 x1 k2) else some I
set_option maxHeartbeats 4000000 in
set_option maxRecDepth 100000 in
theorem vX1_spreadDue_2 {X : CX} {I' : HI} {J : HJ} (hX : OKX X cX1_spreadDue RX1 2 43 3) (hret : RetV X cX1_spreadDue I' J) (a0 : Nat) (hk0 : gK (xG X) a0 = 2)   : ∀ (n : Nat) (I : HI) (x1 : Int32), wl2 (X1_spreadDue_B2 a0) n I x1 = some I' → V X I J 2 [some (.ref a0), some (.int x1), none] [] := by
  refine wl2_V (P := fun (I : HI) (x1 : Int32) => V X I J 2 [some (.ref a0), some (.int x1), none] []) ?_
  intro k2 hc2 I x1 hf
  unfold X1_spreadDue_B2 at hf
  refine r_iload_n hX dX1_spreadDue_2 rfl ?_
  refine r_aload_n hX dX1_spreadDue_3 rfl ?_
  refine g_1_2 hX fl_X1_24 hk0 dX1_spreadDue_4 ?_
  refine r_icmp_ge (tgt := 43) hX dX1_spreadDue_7 (by decide) (fun c_1 => ?_) (fun c_1 => ?_)
  · have hf := hf_t c_1 hf
    refine r_aload_n hX dX1_spreadDue_10 rfl ?_
    refine r_iload_n hX dX1_spreadDue_11 rfl ?_
    obtain ⟨r_2, h_3, hf⟩ := bd1_some hf
    refine r_callV (As := [.int x1]) (ci := 1) hX (k_X1_proxyAt (l := xl X) (J := J) hX.ok hk0 h_3) pk_X1_proxyAt ml_X1_66 rfl rfl rfl rfl hk0 rfl rfl rfl (Nat.le_of_ble_eq_true rfl) dX1_spreadDue_12 ?_
    cases r_2 with
    | none =>
      have hf := mN_n hf
      refine r_astore_nN hX dX1_spreadDue_15 rfl rfl ?_
      refine r_aload_nN hX dX1_spreadDue_16 rfl ?_
      refine r_ifnull_n (tgt := 37) hX dX1_spreadDue_17 (by decide) ?_
      refine V.mask [true, true, false] ?_
      exact vX1_spreadDue_37 hX hret a0 x1 hk0 k2 hc2 hf
    | some a_4 =>
      have hf := mN_s hf
      have hk_5 := kt_X1_proxyAt hX.ok hk0 h_3
      refine r_astore_n hX dX1_spreadDue_15 rfl rfl ?_
      refine r_aload_n hX dX1_spreadDue_16 rfl ?_
      refine r_ifnull_r hX dX1_spreadDue_17 ?_
      refine r_aload_n hX dX1_spreadDue_20 rfl ?_
      refine g_4_3 hX fl_X1_137 hk_5 dX1_spreadDue_21 ?_
      refine r_aload_n hX dX1_spreadDue_24 rfl ?_
      refine g_4_1 hX fl_X1_156 hk_5 dX1_spreadDue_25 ?_
      refine r_icmp_lt (tgt := 37) hX dX1_spreadDue_28 (by decide) (fun c_6 => ?_) (fun c_6 => ?_)
      · have hf := hf_t c_6 hf
        refine V.mask [true, true, false] ?_
        exact vX1_spreadDue_37 hX hret a0 x1 hk0 k2 hc2 hf
      · have hf := hf_f c_6 hf
        refine r_aload_n hX dX1_spreadDue_31 rfl ?_
        refine r_aload_n hX dX1_spreadDue_32 rfl ?_
        obtain ⟨r_7, I_8, h_9, hf⟩ := bd2_some hf
        refine r_callV (As := [.ref a_4]) (ci := 1) hX (k_X1_spread (l := xl X) (J := J) hX.ok hk0 hk_5 h_9) pk_X1_spread ml_X1_159 rfl rfl rfl rfl hk0 rfl rfl rfl (Nat.le_of_ble_eq_true rfl) dX1_spreadDue_33 ?_
        refine r_pop hX dX1_spreadDue_36 rfl ?_
        refine V.mask [true, true, false] ?_
        exact vX1_spreadDue_37 hX hret a0 x1 hk0 k2 hc2 hf
  · have hf := hf_f c_1 hf
    cases hf
    exact hret _ _ dX1_spreadDue_43
noncomputable def f_X1_spreadDue (I : HI) (a0 : Nat) : Option (HI) := wl2 (X1_spreadDue_B2 a0) 5000 I ((0 : Int32))
set_option maxHeartbeats 4000000 in
set_option maxRecDepth 100000 in
theorem k_X1_spreadDue {G : GX} {l : Launch} {I : HI} {J : HJ} {I' : HI} (hG : OKG G) {a0 : Nat} (hk0 : gK G a0 = 2) (hf : f_X1_spreadDue I a0 = some I') : Ctr G l yX1_spreadDue cX1_spreadDue 3 none 2 43 [.ref a0] I J none I' J := by
  refine ctr_V hG (by decide) [some (.ref a0), none, none] rfl rfl fun X e1 e2 hX hret => ?_
  subst e1; subst e2
  unfold f_X1_spreadDue at hf
  refine r_iconst (v := 0) hX dX1_spreadDue_0 rfl ?_
  refine r_istore_n hX dX1_spreadDue_1 rfl rfl ?_
  refine V.mask [true, true, false] ?_
  exact vX1_spreadDue_2 hX hret a0 hk0 5000 I ((0 : Int32)) hf
noncomputable def X1_request_J85 (I : HI) (a0 : Nat) (x4 : Int32) : Option (Int32 × HI) := bd1 (f_X1_spreadDue I a0) fun I_22 => some (x4, I_22)
set_option maxHeartbeats 4000000 in
set_option maxRecDepth 100000 in
theorem vX1_request_85 {X : CX} {I' : HI} {r : Int32} {I : HI} {J : HJ} (hX : OKX X cX1_request RX1 3 71 5) (hret : RetI X cX1_request r I' J) (a0 : Nat) (x4 : Int32) (hk0 : gK (xG X) a0 = 2)   (hf : X1_request_J85 I a0 x4 = some (r, I')) : V X I J 85 [some (.ref a0), none, none, none, some (.int x4)] [] := by
  unfold X1_request_J85 at hf
  refine r_aload_n hX dX1_request_85 rfl ?_
  obtain ⟨I_22, h_23, hf⟩ := bd1_some hf
  refine r_callV (As := []) (ci := 1) hX (k_X1_spreadDue (l := xl X) (J := J) hX.ok hk0 h_23) pk_X1_spreadDue ml_X1_127 rfl rfl rfl rfl hk0 rfl rfl rfl (Nat.le_of_ble_eq_true rfl) dX1_request_86 ?_
  refine r_iload hX dX1_request_89 rfl ?_
  cases hf
  exact hret _ _ dX1_request_91
noncomputable def X1_request_J79 (I : HI) (a0 : Nat) (x2 : Int32) (a3 : Nat) (x4 : Int32) : Option (Int32 × HI) := bd1 (f_X1_addPage I a0 a3 x2) fun I_24 => X1_request_J85 I_24 a0 x4
set_option maxHeartbeats 4000000 in
set_option maxRecDepth 100000 in
theorem vX1_request_79 {X : CX} {I' : HI} {r : Int32} {I : HI} {J : HJ} (hX : OKX X cX1_request RX1 3 71 5) (hret : RetI X cX1_request r I' J) (a0 : Nat) (x2 : Int32) (a3 : Nat) (x4 : Int32) (hk0 : gK (xG X) a0 = 2) (hk3 : gK (xG X) a3 = 5)   (hf : X1_request_J79 I a0 x2 a3 x4 = some (r, I')) : V X I J 79 [some (.ref a0), none, some (.int x2), some (.ref a3), some (.int x4)] [] := by
  unfold X1_request_J79 at hf
  refine r_aload_n hX dX1_request_79 rfl ?_
  refine r_aload_n hX dX1_request_80 rfl ?_
  refine r_iload_n hX dX1_request_81 rfl ?_
  obtain ⟨I_24, h_25, hf⟩ := bd1_some hf
  refine r_callV (As := [.ref a3, .int x2]) (ci := 1) hX (k_X1_addPage (l := xl X) (J := J) hX.ok hk0 hk3 h_25) pk_X1_addPage ml_X1_124 rfl rfl rfl rfl hk0 rfl rfl rfl (Nat.le_of_ble_eq_true rfl) dX1_request_82 ?_
  refine V.mask [true, false, false, false, true] ?_
  exact vX1_request_85 hX hret a0 x4 hk0 hf
noncomputable def X1_request_J57 (I : HI) (a0 : Nat) (x2 : Int32) (a3 : Nat) (x4 : Int32) : Option (Int32 × HI) := bd1 (f_X4_hasRoom I a3) fun r_15 => if r_15 = 0 then bd1 (f_X4_pageAt I a3 (((I a3 2) - (1 : Int32)))) fun r_18 => bd1 (f_X1_removePage I a0 a3 r_18) fun I_20 => X1_request_J79 I_20 a0 x2 a3 x4 else X1_request_J79 I a0 x2 a3 x4
set_option maxHeartbeats 4000000 in
set_option maxRecDepth 100000 in
theorem vX1_request_57 {X : CX} {I' : HI} {r : Int32} {I : HI} {J : HJ} (hX : OKX X cX1_request RX1 3 71 5) (hret : RetI X cX1_request r I' J) (a0 : Nat) (x2 : Int32) (a3 : Nat) (x4 : Int32) (hk0 : gK (xG X) a0 = 2) (hk3 : gK (xG X) a3 = 5)   (hf : X1_request_J57 I a0 x2 a3 x4 = some (r, I')) : V X I J 57 [some (.ref a0), none, some (.int x2), some (.ref a3), some (.int x4)] [] := by
  unfold X1_request_J57 at hf
  refine r_aload_n hX dX1_request_57 rfl ?_
  obtain ⟨r_15, h_16, hf⟩ := bd1_some hf
  refine r_callV (As := []) (ci := 4) hX (k_X4_hasRoom (l := xl X) (J := J) hX.ok hk3 h_16) pk_X4_hasRoom ml_X1_70 rfl rfl rfl rfl hk3 rfl rfl rfl (Nat.le_of_ble_eq_true rfl) dX1_request_58 ?_
  refine r_if_ne (tgt := 79) hX dX1_request_61 (by decide) (fun c_17 => ?_) (fun c_17 => ?_)
  · have hf := hf_t c_17 hf
    refine r_aload_n hX dX1_request_64 rfl ?_
    refine r_aload_n hX dX1_request_65 rfl ?_
    refine r_aload_n hX dX1_request_66 rfl ?_
    refine r_aload_n hX dX1_request_67 rfl ?_
    refine g_4_2 hX fl_X1_74 hk3 dX1_request_68 ?_
    refine r_iconst (v := 1) hX dX1_request_71 rfl ?_
    refine r_isub hX dX1_request_72 ?_
    obtain ⟨r_18, h_19, hf⟩ := bd1_some hf
    refine r_callV (As := [.int (((I a3 2) - (1 : Int32)))]) (ci := 4) hX (k_X4_pageAt (l := xl X) (J := J) hX.ok hk3 h_19) pk_X4_pageAt ml_X1_98 rfl rfl rfl rfl hk3 rfl rfl rfl (Nat.le_of_ble_eq_true rfl) dX1_request_73 ?_
    obtain ⟨I_20, h_21, hf⟩ := bd1_some hf
    refine r_callV (As := [.ref a3, .int r_18]) (ci := 1) hX (k_X1_removePage (l := xl X) (J := J) hX.ok hk0 hk3 h_21) pk_X1_removePage ml_X1_120 rfl rfl rfl rfl hk0 rfl rfl rfl (Nat.le_of_ble_eq_true rfl) dX1_request_76 ?_
    refine V.mask [true, false, true, true, true] ?_
    exact vX1_request_79 hX hret a0 x2 a3 x4 hk0 hk3 hf
  · have hf := hf_f c_17 hf
    refine V.mask [true, false, true, true, true] ?_
    exact vX1_request_79 hX hret a0 x2 a3 x4 hk0 hk3 hf
noncomputable def f_X1_request (I : HI) (a0 : Nat) (x1 : Int32) (x2 : Int32) : Option (Int32 × HI) := bd1 (f_X1_proxyAt I a0 x1) fun r_1 => mN r_1 (some ((-1 : Int32), I)) (fun a_3 => bd1 (f_X4_has I a_3 x2) fun r_5 => if r_5 = 0 then bd2 (f_X1_searchOthers I a0 x1 x2) fun r_8 I_9 => if r_8 = (-9 : Int32) then lt1 (sI I_9 a0 5 (((I_9 a0 5) + (1 : Int32)))) fun I_12 => X1_request_J57 I_12 a0 x2 a_3 r_8 else X1_request_J57 I_9 a0 x2 a_3 r_8 else bd1 (f_X4_renew I a_3 x2) fun I_13 => X1_request_J85 I_13 a0 ((10 : Int32)))
set_option maxHeartbeats 4000000 in
set_option maxRecDepth 100000 in
theorem k_X1_request {G : GX} {l : Launch} {I : HI} {J : HJ} {I' : HI} {r : Int32} (hG : OKG G) {a0 : Nat} {x1 : Int32} {x2 : Int32} (hk0 : gK G a0 = 2) (hf : f_X1_request I a0 x1 x2 = some (r, I')) : Ctr G l yX1_request cX1_request 5 (some .int) 3 71 [.ref a0, .int x1, .int x2] I J (some (.int r)) I' J := by
  refine ctr_I hG (by decide) [some (.ref a0), some (.int x1), some (.int x2), none, none] rfl rfl fun X e1 e2 hX hret => ?_
  subst e1; subst e2
  unfold f_X1_request at hf
  refine r_aload_n hX dX1_request_0 rfl ?_
  refine r_iload_n hX dX1_request_1 rfl ?_
  obtain ⟨r_1, h_2, hf⟩ := bd1_some hf
  refine r_callV (As := [.int x1]) (ci := 1) hX (k_X1_proxyAt (l := xl X) (J := J) hX.ok hk0 h_2) pk_X1_proxyAt ml_X1_66 rfl rfl rfl rfl hk0 rfl rfl rfl (Nat.le_of_ble_eq_true rfl) dX1_request_2 ?_
  cases r_1 with
  | none =>
    have hf := mN_n hf
    refine r_astore_nN hX dX1_request_5 rfl rfl ?_
    refine r_aload_nN hX dX1_request_6 rfl ?_
    refine r_ifnonnull_n hX dX1_request_7 ?_
    refine r_iconst (v := -1) hX dX1_request_10 rfl ?_
    cases hf
    exact hret _ _ dX1_request_11
  | some a_3 =>
    have hf := mN_s hf
    have hk_4 := kt_X1_proxyAt hX.ok hk0 h_2
    refine r_astore_n hX dX1_request_5 rfl rfl ?_
    refine r_aload_n hX dX1_request_6 rfl ?_
    refine r_ifnonnull_r (tgt := 12) hX dX1_request_7 (by decide) ?_
    refine r_bipush (v := 10) hX dX1_request_12 (by decide) ?_
    refine r_istore hX dX1_request_14 rfl rfl ?_
    refine r_aload_n hX dX1_request_16 rfl ?_
    refine r_iload_n hX dX1_request_17 rfl ?_
    obtain ⟨r_5, h_6, hf⟩ := bd1_some hf
    refine r_callV (As := [.int x2]) (ci := 4) hX (k_X4_has (l := xl X) (J := J) hX.ok hk_4 h_6) pk_X4_has ml_X1_77 rfl rfl rfl rfl hk_4 rfl rfl rfl (Nat.le_of_ble_eq_true rfl) dX1_request_18 ?_
    refine r_if_eq (tgt := 32) hX dX1_request_21 (by decide) (fun c_7 => ?_) (fun c_7 => ?_)
    · have hf := hf_t c_7 hf
      refine r_aload_n hX dX1_request_32 rfl ?_
      refine r_iload_n hX dX1_request_33 rfl ?_
      refine r_iload_n hX dX1_request_34 rfl ?_
      obtain ⟨r_8, I_9, h_10, hf⟩ := bd2_some hf
      refine r_callV (As := [.int x1, .int x2]) (ci := 1) hX (k_X1_searchOthers (l := xl X) (J := J) hX.ok hk0 h_10) pk_X1_searchOthers ml_X1_117 rfl rfl rfl rfl hk0 rfl rfl rfl (Nat.le_of_ble_eq_true rfl) dX1_request_35 ?_
      refine r_istore hX dX1_request_38 rfl rfl ?_
      refine r_iload hX dX1_request_40 rfl ?_
      refine r_bipush (v := -9) hX dX1_request_42 (by decide) ?_
      refine r_icmp_ne (tgt := 57) hX dX1_request_44 (by decide) (fun c_11 => ?_) (fun c_11 => ?_)
      · have hf := hf_t c_11 hf
        refine r_aload_n hX dX1_request_47 rfl ?_
        refine r_dup hX dX1_request_48 rfl ?_
        refine g_1_5 hX fl_X1_34 hk0 dX1_request_49 ?_
        refine r_iconst (v := 1) hX dX1_request_52 rfl ?_
        refine r_iadd hX dX1_request_53 ?_
        obtain ⟨I_12, eI_12, hf⟩ := lt1_some hf
        refine p_1_5 eI_12 hX fl_X1_34 hk0 dX1_request_54 ?_
        refine V.mask [true, false, true, true, true] ?_
        exact vX1_request_57 hX hret a0 x2 a_3 r_8 hk0 hk_4 hf
      · have hf := hf_f c_11 hf
        refine V.mask [true, false, true, true, true] ?_
        exact vX1_request_57 hX hret a0 x2 a_3 r_8 hk0 hk_4 hf
    · have hf := hf_f c_7 hf
      refine r_aload_n hX dX1_request_24 rfl ?_
      refine r_iload_n hX dX1_request_25 rfl ?_
      obtain ⟨I_13, h_14, hf⟩ := bd1_some hf
      refine r_callV (As := [.int x2]) (ci := 4) hX (k_X4_renew (l := xl X) (J := J) hX.ok hk_4 h_14) pk_X4_renew ml_X1_113 rfl rfl rfl rfl hk_4 rfl rfl rfl (Nat.le_of_ble_eq_true rfl) dX1_request_26 ?_
      refine r_goto (tgt := 85) hX dX1_request_29 (by decide) ?_
      refine V.mask [true, false, false, false, true] ?_
      exact vX1_request_85 hX hret a0 ((10 : Int32)) hk0 hf
noncomputable def f_X1_discard (I : HI) (a0 : Nat) (a1 : Nat) (x2 : Int32) : Option (Int32 × HI) := bd1 (f_X4_has I a1 x2) fun r_1 => if r_1 = 0 then some ((0 : Int32), I) else bd1 (f_X1_removePage I a0 a1 x2) fun I_4 => bd1 (f_X1_spreadDue I_4 a0) fun I_6 => some ((1 : Int32), I_6)
set_option maxHeartbeats 4000000 in
set_option maxRecDepth 100000 in
theorem k_X1_discard {G : GX} {l : Launch} {I : HI} {J : HJ} {I' : HI} {r : Int32} (hG : OKG G) {a0 : Nat} {a1 : Nat} {x2 : Int32} (hk0 : gK G a0 = 2) (hk1 : gK G a1 = 5) (hf : f_X1_discard I a0 a1 x2 = some (r, I')) : Ctr G l yX1_discard cX1_discard 3 (some .boolean) 3 69 [.ref a0, .ref a1, .int x2] I J (some (.int r)) I' J := by
  refine ctr_Zb hG (by decide) [some (.ref a0), some (.ref a1), some (.int x2)] rfl rfl fun X e1 e2 hX hret => ?_
  subst e1; subst e2
  unfold f_X1_discard at hf
  refine r_aload_n hX dX1_discard_0 rfl ?_
  refine r_iload_n hX dX1_discard_1 rfl ?_
  obtain ⟨r_1, h_2, hf⟩ := bd1_some hf
  refine r_callV (As := [.int x2]) (ci := 4) hX (k_X4_has (l := xl X) (J := J) hX.ok hk1 h_2) pk_X4_has ml_X1_77 rfl rfl rfl rfl hk1 rfl rfl rfl (Nat.le_of_ble_eq_true rfl) dX1_discard_2 ?_
  refine r_if_ne (tgt := 10) hX dX1_discard_5 (by decide) (fun c_3 => ?_) (fun c_3 => ?_)
  · have hf := hf_t c_3 hf
    refine r_iconst (v := 0) hX dX1_discard_8 rfl ?_
    cases hf
    exact hret _ _ zb_0 dX1_discard_9
  · have hf := hf_f c_3 hf
    refine r_aload_n hX dX1_discard_10 rfl ?_
    refine r_aload_n hX dX1_discard_11 rfl ?_
    refine r_iload_n hX dX1_discard_12 rfl ?_
    obtain ⟨I_4, h_5, hf⟩ := bd1_some hf
    refine r_callV (As := [.ref a1, .int x2]) (ci := 1) hX (k_X1_removePage (l := xl X) (J := J) hX.ok hk0 hk1 h_5) pk_X1_removePage ml_X1_120 rfl rfl rfl rfl hk0 rfl rfl rfl (Nat.le_of_ble_eq_true rfl) dX1_discard_13 ?_
    refine r_aload_n hX dX1_discard_16 rfl ?_
    obtain ⟨I_6, h_7, hf⟩ := bd1_some hf
    refine r_callV (As := []) (ci := 1) hX (k_X1_spreadDue (l := xl X) (J := J) hX.ok hk0 h_7) pk_X1_spreadDue ml_X1_127 rfl rfl rfl rfl hk0 rfl rfl rfl (Nat.le_of_ble_eq_true rfl) dX1_discard_17 ?_
    refine r_iconst (v := 1) hX dX1_discard_20 rfl ?_
    cases hf
    exact hret _ _ zb_1 dX1_discard_21
noncomputable def X1_servesWell_J67 (I : HI) (a0 : Nat) (x1 : Int32) (x2 : Int32) (x3 : Int32) (x4 : Int32) (k3 : Int32 → Option (Int32)) : Option (Int32) := lt1 (x4 + (1 : Int32)) fun x_19 => k3 x_19
set_option maxHeartbeats 4000000 in
set_option maxRecDepth 100000 in
theorem vX1_servesWell_67 {X : CX} {r : Int32} {I : HI} {J : HJ} (hX : OKX X cX1_servesWell RX1 3 71 7) (hret : RetZ X cX1_servesWell r I J) (a0 : Nat) (x1 : Int32) (x2 : Int32) (x3 : Int32) (x4 : Int32) (hk0 : gK (xG X) a0 = 2) (k3 : Int32 → Option (Int32)) (hc3 : ∀ (x4 : Int32), k3 x4 = some r → V X I J 3 [some (.ref a0), some (.int x1), some (.int x2), some (.int x3), some (.int x4), none, none] []) (hf : X1_servesWell_J67 I a0 x1 x2 x3 x4 k3 = some r) : V X I J 67 [some (.ref a0), some (.int x1), some (.int x2), some (.int x3), some (.int x4), none, none] [] := by
  unfold X1_servesWell_J67 at hf
  obtain ⟨x_19, ex_19, hf⟩ := lt1_some hf
  refine r_iincE (n' := 1) ex_19 hX dX1_servesWell_67 rfl rfl rfl rfl ?_
  refine r_goto (tgt := 3) hX dX1_servesWell_70 (by decide) ?_
  refine V.mask [true, true, true, true, true, false, false] ?_
  exact hc3 x_19 hf
noncomputable def X1_servesWell_J35 (I : HI) (a0 : Nat) (x1 : Int32) (x2 : Int32) (x3 : Int32) (x4 : Int32) (sx0 : Int32) (k3 : Int32 → Option (Int32)) : Option (Int32) := if x4 = x1 then X1_servesWell_J67 I a0 x1 x2 x3 x4 k3 else X1_servesWell_J67 I a0 x1 x2 x3 x4 k3
set_option maxHeartbeats 4000000 in
set_option maxRecDepth 100000 in
theorem vX1_servesWell_35 {X : CX} {r : Int32} {I : HI} {J : HJ} (hX : OKX X cX1_servesWell RX1 3 71 7) (hret : RetZ X cX1_servesWell r I J) (a0 : Nat) (x1 : Int32) (x2 : Int32) (x3 : Int32) (x4 : Int32) (sx0 : Int32) (hk0 : gK (xG X) a0 = 2) (k3 : Int32 → Option (Int32)) (hc3 : ∀ (x4 : Int32), k3 x4 = some r → V X I J 3 [some (.ref a0), some (.int x1), some (.int x2), some (.int x3), some (.int x4), none, none] []) (hf : X1_servesWell_J35 I a0 x1 x2 x3 x4 sx0 k3 = some r) : V X I J 35 [some (.ref a0), some (.int x1), some (.int x2), some (.int x3), some (.int x4), some .null, none] [.int sx0] := by
  unfold X1_servesWell_J35 at hf
  refine r_istore hX dX1_servesWell_35 rfl rfl ?_
  refine r_iload hX dX1_servesWell_37 rfl ?_
  refine r_iload_n hX dX1_servesWell_39 rfl ?_
  refine r_icmp_eq (tgt := 67) hX dX1_servesWell_40 (by decide) (fun c_11 => ?_) (fun c_11 => ?_)
  · have hf := hf_t c_11 hf
    refine V.mask [true, true, true, true, true, false, false] ?_
    exact vX1_servesWell_67 hX hret a0 x1 x2 x3 x4 hk0 k3 hc3 hf
  · have hf := hf_f c_11 hf
    refine r_aloadN hX dX1_servesWell_43 rfl ?_
    refine r_ifnull_n (tgt := 67) hX dX1_servesWell_45 (by decide) ?_
    refine V.mask [true, true, true, true, true, false, false] ?_
    exact vX1_servesWell_67 hX hret a0 x1 x2 x3 x4 hk0 k3 hc3 hf
noncomputable def X1_servesWell_J35b (I : HI) (a0 : Nat) (x1 : Int32) (x2 : Int32) (x3 : Int32) (x4 : Int32) (a5 : Nat) (sx0 : Int32) (k3 : Int32 → Option (Int32)) : Option (Int32) := if x4 = x1 then X1_servesWell_J67 I a0 x1 x2 x3 x4 k3 else bd1 (f_X1_isSo I a0 a5 sx0 x2) fun r_13 => if r_13 = 0 then X1_servesWell_J67 I a0 x1 x2 x3 x4 k3 else bd1 (f_X4_has I a5 x2) fun r_16 => gd (zb r_16) (some r_16)
set_option maxHeartbeats 4000000 in
set_option maxRecDepth 100000 in
theorem vX1_servesWell_35b {X : CX} {r : Int32} {I : HI} {J : HJ} (hX : OKX X cX1_servesWell RX1 3 71 7) (hret : RetZ X cX1_servesWell r I J) (a0 : Nat) (x1 : Int32) (x2 : Int32) (x3 : Int32) (x4 : Int32) (a5 : Nat) (sx0 : Int32) (hk0 : gK (xG X) a0 = 2) (hk5 : gK (xG X) a5 = 5) (k3 : Int32 → Option (Int32)) (hc3 : ∀ (x4 : Int32), k3 x4 = some r → V X I J 3 [some (.ref a0), some (.int x1), some (.int x2), some (.int x3), some (.int x4), none, none] []) (hf : X1_servesWell_J35b I a0 x1 x2 x3 x4 a5 sx0 k3 = some r) : V X I J 35 [some (.ref a0), some (.int x1), some (.int x2), some (.int x3), some (.int x4), some (.ref a5), none] [.int sx0] := by
  unfold X1_servesWell_J35b at hf
  refine r_istore hX dX1_servesWell_35 rfl rfl ?_
  refine r_iload hX dX1_servesWell_37 rfl ?_
  refine r_iload_n hX dX1_servesWell_39 rfl ?_
  refine r_icmp_eq (tgt := 67) hX dX1_servesWell_40 (by decide) (fun c_12 => ?_) (fun c_12 => ?_)
  · have hf := hf_t c_12 hf
    refine V.mask [true, true, true, true, true, false, false] ?_
    exact vX1_servesWell_67 hX hret a0 x1 x2 x3 x4 hk0 k3 hc3 hf
  · have hf := hf_f c_12 hf
    refine r_aload hX dX1_servesWell_43 rfl ?_
    refine r_ifnull_r hX dX1_servesWell_45 ?_
    refine r_aload_n hX dX1_servesWell_48 rfl ?_
    refine r_aload hX dX1_servesWell_49 rfl ?_
    refine r_iload hX dX1_servesWell_51 rfl ?_
    refine r_iload_n hX dX1_servesWell_53 rfl ?_
    obtain ⟨r_13, h_14, hf⟩ := bd1_some hf
    refine r_callV (As := [.ref a5, .int sx0, .int x2]) (ci := 1) hX (k_X1_isSo (l := xl X) (J := J) hX.ok hk0 hk5 h_14) pk_X1_isSo ml_X1_172 rfl rfl rfl rfl hk0 rfl rfl rfl (Nat.le_of_ble_eq_true rfl) dX1_servesWell_54 ?_
    refine r_if_eq (tgt := 67) hX dX1_servesWell_57 (by decide) (fun c_15 => ?_) (fun c_15 => ?_)
    · have hf := hf_t c_15 hf
      refine V.mask [true, true, true, true, true, false, false] ?_
      exact vX1_servesWell_67 hX hret a0 x1 x2 x3 x4 hk0 k3 hc3 hf
    · have hf := hf_f c_15 hf
      refine r_aload hX dX1_servesWell_60 rfl ?_
      refine r_iload_n hX dX1_servesWell_62 rfl ?_
      obtain ⟨r_16, h_17, hf⟩ := bd1_some hf
      refine r_callV (As := [.int x2]) (ci := 4) hX (k_X4_has (l := xl X) (J := J) hX.ok hk5 h_17) pk_X4_has ml_X1_77 rfl rfl rfl rfl hk5 rfl rfl rfl (Nat.le_of_ble_eq_true rfl) dX1_servesWell_63 ?_
      obtain ⟨g_18, hf⟩ := gd_some hf
      cases hf
      exact hret _ _ g_18 dX1_servesWell_66
noncomputable def X1_servesWell_B3 (I : HI) (a0 : Nat) (x1 : Int32) (x2 : Int32) (x3 : Int32) (k3 : Int32 → Option (Int32)) (x4 : Int32) : Option (Int32) := if x4 < (I a0 2) then bd1 (f_X1_proxyAt I a0 x4) fun r_2 => mN r_2 (if ((x3 >>> (x4 &&& 31)) &&& (1 : Int32)) = (1 : Int32) then X1_servesWell_J35 I a0 x1 x2 x3 x4 ((1 : Int32)) k3 else X1_servesWell_J35 I a0 x1 x2 x3 x4 ((2 : Int32)) k3) (fun a_4 => if ((x3 >>> (x4 &&& 31)) &&& (1 : Int32)) = (1 : Int32) then X1_servesWell_J35b I a0 x1 x2 x3 x4 a_4 ((1 : Int32)) k3 else X1_servesWell_J35b I a0 x1 x2 x3 x4 a_4 ((2 : Int32)) k3) else bd1 (f_X1_holders I a0 x2) fun r_8 => if r_8 = 0 then some ((1 : Int32)) else some ((0 : Int32))
set_option maxHeartbeats 4000000 in
set_option maxRecDepth 100000 in
theorem vX1_servesWell_3 {X : CX} {r : Int32} {I : HI} {J : HJ} (hX : OKX X cX1_servesWell RX1 3 71 7) (hret : RetZ X cX1_servesWell r I J) (a0 : Nat) (x1 : Int32) (x2 : Int32) (x3 : Int32) (hk0 : gK (xG X) a0 = 2)   : ∀ (n : Nat) (x4 : Int32), wl1 (X1_servesWell_B3 I a0 x1 x2 x3) n x4 = some r → V X I J 3 [some (.ref a0), some (.int x1), some (.int x2), some (.int x3), some (.int x4), none, none] [] := by
  refine wl1_V (P := fun (x4 : Int32) => V X I J 3 [some (.ref a0), some (.int x1), some (.int x2), some (.int x3), some (.int x4), none, none] []) ?_
  intro k3 hc3 x4 hf
  unfold X1_servesWell_B3 at hf
  refine r_iload hX dX1_servesWell_3 rfl ?_
  refine r_aload_n hX dX1_servesWell_5 rfl ?_
  refine g_1_2 hX fl_X1_24 hk0 dX1_servesWell_6 ?_
  refine r_icmp_ge (tgt := 73) hX dX1_servesWell_9 (by decide) (fun c_1 => ?_) (fun c_1 => ?_)
  · have hf := hf_t c_1 hf
    refine r_aload_n hX dX1_servesWell_12 rfl ?_
    refine r_iload hX dX1_servesWell_13 rfl ?_
    obtain ⟨r_2, h_3, hf⟩ := bd1_some hf
    refine r_callV (As := [.int x4]) (ci := 1) hX (k_X1_proxyAt (l := xl X) (J := J) hX.ok hk0 h_3) pk_X1_proxyAt ml_X1_66 rfl rfl rfl rfl hk0 rfl rfl rfl (Nat.le_of_ble_eq_true rfl) dX1_servesWell_15 ?_
    cases r_2 with
    | none =>
      have hf := mN_n hf
      refine r_astoreN hX dX1_servesWell_18 rfl rfl ?_
      refine r_iload_n hX dX1_servesWell_20 rfl ?_
      refine r_iload hX dX1_servesWell_21 rfl ?_
      refine r_ishr hX dX1_servesWell_23 ?_
      refine r_iconst (v := 1) hX dX1_servesWell_24 rfl ?_
      refine r_iand hX dX1_servesWell_25 ?_
      refine r_iconst (v := 1) hX dX1_servesWell_26 rfl ?_
      refine r_icmp_ne (tgt := 34) hX dX1_servesWell_27 (by decide) (fun c_6 => ?_) (fun c_6 => ?_)
      · have hf := hf_t c_6 hf
        refine r_iconst (v := 1) hX dX1_servesWell_30 rfl ?_
        refine r_goto (tgt := 35) hX dX1_servesWell_31 (by decide) ?_
        refine V.mask [true, true, true, true, true, true, false] ?_
        exact vX1_servesWell_35 hX hret a0 x1 x2 x3 x4 ((1 : Int32)) hk0 k3 hc3 hf
      · have hf := hf_f c_6 hf
        refine r_iconst (v := 2) hX dX1_servesWell_34 rfl ?_
        refine V.mask [true, true, true, true, true, true, false] ?_
        exact vX1_servesWell_35 hX hret a0 x1 x2 x3 x4 ((2 : Int32)) hk0 k3 hc3 hf
    | some a_4 =>
      have hf := mN_s hf
      have hk_5 := kt_X1_proxyAt hX.ok hk0 h_3
      refine r_astore hX dX1_servesWell_18 rfl rfl ?_
      refine r_iload_n hX dX1_servesWell_20 rfl ?_
      refine r_iload hX dX1_servesWell_21 rfl ?_
      refine r_ishr hX dX1_servesWell_23 ?_
      refine r_iconst (v := 1) hX dX1_servesWell_24 rfl ?_
      refine r_iand hX dX1_servesWell_25 ?_
      refine r_iconst (v := 1) hX dX1_servesWell_26 rfl ?_
      refine r_icmp_ne (tgt := 34) hX dX1_servesWell_27 (by decide) (fun c_7 => ?_) (fun c_7 => ?_)
      · have hf := hf_t c_7 hf
        refine r_iconst (v := 1) hX dX1_servesWell_30 rfl ?_
        refine r_goto (tgt := 35) hX dX1_servesWell_31 (by decide) ?_
        refine V.mask [true, true, true, true, true, true, false] ?_
        exact vX1_servesWell_35b hX hret a0 x1 x2 x3 x4 a_4 ((1 : Int32)) hk0 hk_5 k3 hc3 hf
      · have hf := hf_f c_7 hf
        refine r_iconst (v := 2) hX dX1_servesWell_34 rfl ?_
        refine V.mask [true, true, true, true, true, true, false] ?_
        exact vX1_servesWell_35b hX hret a0 x1 x2 x3 x4 a_4 ((2 : Int32)) hk0 hk_5 k3 hc3 hf
  · have hf := hf_f c_1 hf
    refine r_aload_n hX dX1_servesWell_73 rfl ?_
    refine r_iload_n hX dX1_servesWell_74 rfl ?_
    obtain ⟨r_8, h_9, hf⟩ := bd1_some hf
    refine r_callV (As := [.int x2]) (ci := 1) hX (k_X1_holders (l := xl X) (J := J) hX.ok hk0 h_9) pk_X1_holders ml_X1_176 rfl rfl rfl rfl hk0 rfl rfl rfl (Nat.le_of_ble_eq_true rfl) dX1_servesWell_75 ?_
    refine r_if_ne (tgt := 85) hX dX1_servesWell_78 (by decide) (fun c_10 => ?_) (fun c_10 => ?_)
    · have hf := hf_t c_10 hf
      refine r_iconst (v := 1) hX dX1_servesWell_81 rfl ?_
      refine r_goto (tgt := 86) hX dX1_servesWell_82 (by decide) ?_
      cases hf
      exact hret _ _ zb_1 dX1_servesWell_86
    · have hf := hf_f c_10 hf
      refine r_iconst (v := 0) hX dX1_servesWell_85 rfl ?_
      cases hf
      exact hret _ _ zb_0 dX1_servesWell_86
noncomputable def f_X1_servesWell (I : HI) (a0 : Nat) (x1 : Int32) (x2 : Int32) (x3 : Int32) : Option (Int32) := wl1 (X1_servesWell_B3 I a0 x1 x2 x3) 5000 ((0 : Int32))
set_option maxHeartbeats 4000000 in
set_option maxRecDepth 100000 in
theorem k_X1_servesWell {G : GX} {l : Launch} {I : HI} {J : HJ} {r : Int32} (hG : OKG G) {a0 : Nat} {x1 : Int32} {x2 : Int32} {x3 : Int32} (hk0 : gK G a0 = 2) (hf : f_X1_servesWell I a0 x1 x2 x3 = some r) : Ctr G l yX1_servesWell cX1_servesWell 7 (some .boolean) 3 71 [.ref a0, .int x1, .int x2, .int x3] I J (some (.int r)) I J := by
  refine ctr_Zb hG (by decide) [some (.ref a0), some (.int x1), some (.int x2), some (.int x3), none, none, none] rfl rfl fun X e1 e2 hX hret => ?_
  subst e1; subst e2
  unfold f_X1_servesWell at hf
  refine r_iconst (v := 0) hX dX1_servesWell_0 rfl ?_
  refine r_istore hX dX1_servesWell_1 rfl rfl ?_
  refine V.mask [true, true, true, true, true, false, false] ?_
  exact vX1_servesWell_3 hX hret a0 x1 x2 x3 hk0 5000 ((0 : Int32)) hf
noncomputable def f_X2_take (I : HI) (a0 : Nat) (a1 : Nat) : Option (HI) := lt1 (sI I a0 0 ((I a1 0))) fun I_1 => bd1 (f_X7_copyRow I_1 ((a1 + 1)) 5 ((a0 + 1)) 5) fun I_2 => some I_2
set_option maxHeartbeats 4000000 in
set_option maxRecDepth 100000 in
theorem k_X2_take {G : GX} {l : Launch} {I : HI} {J : HJ} {I' : HI} (hG : OKG G) {a0 : Nat} {a1 : Nat} (hk0 : gK G a0 = 3) (hk1 : gK G a1 = 3) (hf : f_X2_take I a0 a1 = some I') : Ctr G l yX2_take cX2_take 2 none 1 22 [.ref a0, .ref a1] I J none I' J := by
  refine ctr_V hG (by decide) [some (.ref a0), some (.ref a1)] rfl rfl fun X e1 e2 hX hret => ?_
  subst e1; subst e2
  unfold f_X2_take at hf
  refine r_aload_n hX dX2_take_0 rfl ?_
  refine r_aload_n hX dX2_take_1 rfl ?_
  refine g_2_0 hX fl_X2_9 hk1 dX2_take_2 ?_
  obtain ⟨I_1, eI_1, hf⟩ := lt1_some hf
  refine p_2_0 eI_1 hX fl_X2_9 hk0 dX2_take_5 ?_
  refine r_aload_n hX dX2_take_8 rfl ?_
  refine g_2_1 hX fl_X2_15 hk1 dX2_take_9 ?_
  refine r_aload_n hX dX2_take_12 rfl ?_
  refine g_2_1 hX fl_X2_15 hk0 dX2_take_13 ?_
  obtain ⟨I_2, h_3, hf⟩ := bd1_some hf
  refine r_callSN (As := [.ref ((a1 + 1)), .ref ((a0 + 1))]) hX (k_X7_copyRow (l := xl X) (J := J) hX.ok ((q_3_1 hX hk1)) ((q_3_1 hX hk0)) h_3) pk_X7_copyRow 9 rfl rfl rfl rfl (Nat.le_of_ble_eq_true rfl) dX2_take_16 ?_
  cases hf
  exact hret _ _ dX2_take_19
noncomputable def f_X2_pageAt (I : HI) (a0 : Nat) (x1 : Int32) : Option (Int32) := if x1 < 0 then some ((-9 : Int32)) else if x1 < (I a0 0) then if x1 < (5 : Int32) then gd (vp_in x1 5) (some ((I ((a0 + 1)) x1.toNatClampNeg))) else some ((-9 : Int32)) else some ((-9 : Int32))
set_option maxHeartbeats 4000000 in
set_option maxRecDepth 100000 in
theorem k_X2_pageAt {G : GX} {l : Launch} {I : HI} {J : HJ} {r : Int32} (hG : OKG G) {a0 : Nat} {x1 : Int32} (hk0 : gK G a0 = 3) (hf : f_X2_pageAt I a0 x1 = some r) : Ctr G l yX2_pageAt cX2_pageAt 2 (some .int) 0 0 [.ref a0, .int x1] I J (some (.int r)) I J := by
  refine ctr_I hG (by decide) [some (.ref a0), some (.int x1)] rfl rfl fun X e1 e2 hX hret => ?_
  subst e1; subst e2
  unfold f_X2_pageAt at hf
  refine r_iload_n hX dX2_pageAt_0 rfl ?_
  refine r_if_lt (tgt := 30) hX dX2_pageAt_1 (by decide) (fun c_1 => ?_) (fun c_1 => ?_)
  · have hf := hf_t c_1 hf
    refine r_bipush (v := -9) hX dX2_pageAt_30 (by decide) ?_
    cases hf
    exact hret _ _ dX2_pageAt_32
  · have hf := hf_f c_1 hf
    refine r_iload_n hX dX2_pageAt_4 rfl ?_
    refine r_aload_n hX dX2_pageAt_5 rfl ?_
    refine g_2_0 hX fl_X2_9 hk0 dX2_pageAt_6 ?_
    refine r_icmp_ge (tgt := 30) hX dX2_pageAt_9 (by decide) (fun c_2 => ?_) (fun c_2 => ?_)
    · have hf := hf_t c_2 hf
      refine r_iload_n hX dX2_pageAt_12 rfl ?_
      refine r_aload_n hX dX2_pageAt_13 rfl ?_
      refine g_2_1 hX fl_X2_15 hk0 dX2_pageAt_14 ?_
      refine r_alen (n := 5) (v := 5) hX rfl ((q_3_1 hX hk0)) (by decide) dX2_pageAt_17 ?_
      refine r_icmp_ge (tgt := 30) hX dX2_pageAt_18 (by decide) (fun c_3 => ?_) (fun c_3 => ?_)
      · have hf := hf_t c_3 hf
        refine r_aload_n hX dX2_pageAt_21 rfl ?_
        refine g_2_1 hX fl_X2_15 hk0 dX2_pageAt_22 ?_
        refine r_iload_n hX dX2_pageAt_25 rfl ?_
        obtain ⟨g_4, hf⟩ := gd_some hf
        refine r_iald (n := 5) hX rfl ((q_3_1 hX hk0)) g_4 dX2_pageAt_26 ?_
        refine r_goto (tgt := 32) hX dX2_pageAt_27 (by decide) ?_
        cases hf
        exact hret _ _ dX2_pageAt_32
      · have hf := hf_f c_3 hf
        refine r_bipush (v := -9) hX dX2_pageAt_30 (by decide) ?_
        cases hf
        exact hret _ _ dX2_pageAt_32
    · have hf := hf_f c_2 hf
      refine r_bipush (v := -9) hX dX2_pageAt_30 (by decide) ?_
      cases hf
      exact hret _ _ dX2_pageAt_32
noncomputable def X2_begin_J54 (I : HI) (a0 : Nat) (x1 : Int32) (x2 : Int32) (k7 : HI → Int32 → Option (HI)) : Option (HI) := lt1 (x2 + (1 : Int32)) fun x_8 => k7 I x_8
set_option maxHeartbeats 4000000 in
set_option maxRecDepth 100000 in
theorem vX2_begin_54 {X : CX} {I' : HI} {I : HI} {J : HJ} (hX : OKX X cX2_begin RX2 0 0 3) (hret : RetV X cX2_begin I' J) (a0 : Nat) (x1 : Int32) (x2 : Int32) (hk0 : gK (xG X) a0 = 3) (k7 : HI → Int32 → Option (HI)) (hc7 : ∀ (I : HI) (x2 : Int32), k7 I x2 = some I' → V X I J 7 [some (.ref a0), some (.int x1), some (.int x2)] []) (hf : X2_begin_J54 I a0 x1 x2 k7 = some I') : V X I J 54 [some (.ref a0), some (.int x1), some (.int x2)] [] := by
  unfold X2_begin_J54 at hf
  obtain ⟨x_8, ex_8, hf⟩ := lt1_some hf
  refine r_iincE (n' := 1) ex_8 hX dX2_begin_54 rfl rfl rfl rfl ?_
  refine r_goto (tgt := 7) hX dX2_begin_57 (by decide) ?_
  refine V.mask [true, true, true] ?_
  exact hc7 I x_8 hf
noncomputable def X2_begin_B7 (a0 : Nat) (x1 : Int32) (k7 : HI → Int32 → Option (HI)) (I : HI) (x2 : Int32) : Option (HI) := if x2 < (32 : Int32) then if ((x1 >>> (x2 &&& 31)) &&& (1 : Int32)) = (1 : Int32) then if (I a0 0) < (5 : Int32) then gd (vp_in ((I a0 0)) 5) (lt1 (sI I ((a0 + 1)) ((I a0 0)).toNatClampNeg x2) fun I_6 => lt1 (sI I_6 a0 0 (((I_6 a0 0) + (1 : Int32)))) fun I_7 => X2_begin_J54 I_7 a0 x1 x2 k7) else X2_begin_J54 I a0 x1 x2 k7 else X2_begin_J54 I a0 x1 x2 k7 else some I
set_option maxHeartbeats 4000000 in
set_option maxRecDepth 100000 in
theorem vX2_begin_7 {X : CX} {I' : HI} {J : HJ} (hX : OKX X cX2_begin RX2 0 0 3) (hret : RetV X cX2_begin I' J) (a0 : Nat) (x1 : Int32) (hk0 : gK (xG X) a0 = 3)   : ∀ (n : Nat) (I : HI) (x2 : Int32), wl2 (X2_begin_B7 a0 x1) n I x2 = some I' → V X I J 7 [some (.ref a0), some (.int x1), some (.int x2)] [] := by
  refine wl2_V (P := fun (I : HI) (x2 : Int32) => V X I J 7 [some (.ref a0), some (.int x1), some (.int x2)] []) ?_
  intro k7 hc7 I x2 hf
  unfold X2_begin_B7 at hf
  refine r_iload_n hX dX2_begin_7 rfl ?_
  refine r_bipush (v := 32) hX dX2_begin_8 (by decide) ?_
  refine r_icmp_ge (tgt := 60) hX dX2_begin_10 (by decide) (fun c_2 => ?_) (fun c_2 => ?_)
  · have hf := hf_t c_2 hf
    refine r_iload_n hX dX2_begin_13 rfl ?_
    refine r_iload_n hX dX2_begin_14 rfl ?_
    refine r_ishr hX dX2_begin_15 ?_
    refine r_iconst (v := 1) hX dX2_begin_16 rfl ?_
    refine r_iand hX dX2_begin_17 ?_
    refine r_iconst (v := 1) hX dX2_begin_18 rfl ?_
    refine r_icmp_ne (tgt := 54) hX dX2_begin_19 (by decide) (fun c_3 => ?_) (fun c_3 => ?_)
    · have hf := hf_t c_3 hf
      refine r_aload_n hX dX2_begin_22 rfl ?_
      refine g_2_0 hX fl_X2_9 hk0 dX2_begin_23 ?_
      refine r_aload_n hX dX2_begin_26 rfl ?_
      refine g_2_1 hX fl_X2_15 hk0 dX2_begin_27 ?_
      refine r_alen (n := 5) (v := 5) hX rfl ((q_3_1 hX hk0)) (by decide) dX2_begin_30 ?_
      refine r_icmp_ge (tgt := 54) hX dX2_begin_31 (by decide) (fun c_4 => ?_) (fun c_4 => ?_)
      · have hf := hf_t c_4 hf
        refine r_aload_n hX dX2_begin_34 rfl ?_
        refine g_2_1 hX fl_X2_15 hk0 dX2_begin_35 ?_
        refine r_aload_n hX dX2_begin_38 rfl ?_
        refine g_2_0 hX fl_X2_9 hk0 dX2_begin_39 ?_
        refine r_iload_n hX dX2_begin_42 rfl ?_
        obtain ⟨g_5, hf⟩ := gd_some hf
        obtain ⟨I_6, eI_6, hf⟩ := lt1_some hf
        refine r_iastE (n := 5) eI_6 hX rfl ((q_3_1 hX hk0)) g_5 dX2_begin_43 ?_
        refine r_aload_n hX dX2_begin_44 rfl ?_
        refine r_dup hX dX2_begin_45 rfl ?_
        refine g_2_0 hX fl_X2_9 hk0 dX2_begin_46 ?_
        refine r_iconst (v := 1) hX dX2_begin_49 rfl ?_
        refine r_iadd hX dX2_begin_50 ?_
        obtain ⟨I_7, eI_7, hf⟩ := lt1_some hf
        refine p_2_0 eI_7 hX fl_X2_9 hk0 dX2_begin_51 ?_
        refine V.mask [true, true, true] ?_
        exact vX2_begin_54 hX hret a0 x1 x2 hk0 k7 hc7 hf
      · have hf := hf_f c_4 hf
        refine V.mask [true, true, true] ?_
        exact vX2_begin_54 hX hret a0 x1 x2 hk0 k7 hc7 hf
    · have hf := hf_f c_3 hf
      refine V.mask [true, true, true] ?_
      exact vX2_begin_54 hX hret a0 x1 x2 hk0 k7 hc7 hf
  · have hf := hf_f c_2 hf
    cases hf
    exact hret _ _ dX2_begin_60
noncomputable def f_X2_begin (I : HI) (a0 : Nat) (x1 : Int32) : Option (HI) := lt1 (sI I a0 0 ((0 : Int32))) fun I_1 => wl2 (X2_begin_B7 a0 x1) 5000 I_1 ((0 : Int32))
set_option maxHeartbeats 4000000 in
set_option maxRecDepth 100000 in
theorem k_X2_begin {G : GX} {l : Launch} {I : HI} {J : HJ} {I' : HI} (hG : OKG G) {a0 : Nat} {x1 : Int32} (hk0 : gK G a0 = 3) (hf : f_X2_begin I a0 x1 = some I') : Ctr G l yX2_begin cX2_begin 3 none 0 0 [.ref a0, .int x1] I J none I' J := by
  refine ctr_V hG (by decide) [some (.ref a0), some (.int x1), none] rfl rfl fun X e1 e2 hX hret => ?_
  subst e1; subst e2
  unfold f_X2_begin at hf
  refine r_aload_n hX dX2_begin_0 rfl ?_
  refine r_iconst (v := 0) hX dX2_begin_1 rfl ?_
  obtain ⟨I_1, eI_1, hf⟩ := lt1_some hf
  refine p_2_0 eI_1 hX fl_X2_9 hk0 dX2_begin_2 ?_
  refine r_iconst (v := 0) hX dX2_begin_5 rfl ?_
  refine r_istore_n hX dX2_begin_6 rfl rfl ?_
  refine V.mask [true, true, true] ?_
  exact vX2_begin_7 hX hret a0 x1 hk0 5000 I_1 ((0 : Int32)) hf
noncomputable def f_X2_swap (I : HI) (a0 : Nat) (x1 : Int32) (x2 : Int32) : Option (HI) := if x1 < 0 then some I else if x1 < (5 : Int32) then if x2 < 0 then some I else if x2 < (5 : Int32) then gd (vp_in x1 5) (lt1 ((I ((a0 + 1)) x1.toNatClampNeg)) fun x_6 => gd (vp_in x2 5) (gd (vp_in x1 5) (lt1 (sI I ((a0 + 1)) x1.toNatClampNeg ((I ((a0 + 1)) x2.toNatClampNeg))) fun I_9 => gd (vp_in x2 5) (lt1 (sI I_9 ((a0 + 1)) x2.toNatClampNeg x_6) fun I_11 => some I_11)))) else some I else some I
set_option maxHeartbeats 4000000 in
set_option maxRecDepth 100000 in
theorem k_X2_swap {G : GX} {l : Launch} {I : HI} {J : HJ} {I' : HI} (hG : OKG G) {a0 : Nat} {x1 : Int32} {x2 : Int32} (hk0 : gK G a0 = 3) (hf : f_X2_swap I a0 x1 x2 = some I') : Ctr G l yX2_swap cX2_swap 4 none 0 0 [.ref a0, .int x1, .int x2] I J none I' J := by
  refine ctr_V hG (by decide) [some (.ref a0), some (.int x1), some (.int x2), none] rfl rfl fun X e1 e2 hX hret => ?_
  subst e1; subst e2
  unfold f_X2_swap at hf
  refine r_iload_n hX dX2_swap_0 rfl ?_
  refine r_if_lt (tgt := 52) hX dX2_swap_1 (by decide) (fun c_1 => ?_) (fun c_1 => ?_)
  · have hf := hf_t c_1 hf
    cases hf
    exact hret _ _ dX2_swap_52
  · have hf := hf_f c_1 hf
    refine r_iload_n hX dX2_swap_4 rfl ?_
    refine r_aload_n hX dX2_swap_5 rfl ?_
    refine g_2_1 hX fl_X2_15 hk0 dX2_swap_6 ?_
    refine r_alen (n := 5) (v := 5) hX rfl ((q_3_1 hX hk0)) (by decide) dX2_swap_9 ?_
    refine r_icmp_ge (tgt := 52) hX dX2_swap_10 (by decide) (fun c_2 => ?_) (fun c_2 => ?_)
    · have hf := hf_t c_2 hf
      refine r_iload_n hX dX2_swap_13 rfl ?_
      refine r_if_lt (tgt := 52) hX dX2_swap_14 (by decide) (fun c_3 => ?_) (fun c_3 => ?_)
      · have hf := hf_t c_3 hf
        cases hf
        exact hret _ _ dX2_swap_52
      · have hf := hf_f c_3 hf
        refine r_iload_n hX dX2_swap_17 rfl ?_
        refine r_aload_n hX dX2_swap_18 rfl ?_
        refine g_2_1 hX fl_X2_15 hk0 dX2_swap_19 ?_
        refine r_alen (n := 5) (v := 5) hX rfl ((q_3_1 hX hk0)) (by decide) dX2_swap_22 ?_
        refine r_icmp_ge (tgt := 52) hX dX2_swap_23 (by decide) (fun c_4 => ?_) (fun c_4 => ?_)
        · have hf := hf_t c_4 hf
          refine r_aload_n hX dX2_swap_26 rfl ?_
          refine g_2_1 hX fl_X2_15 hk0 dX2_swap_27 ?_
          refine r_iload_n hX dX2_swap_30 rfl ?_
          obtain ⟨g_5, hf⟩ := gd_some hf
          refine r_iald (n := 5) hX rfl ((q_3_1 hX hk0)) g_5 dX2_swap_31 ?_
          obtain ⟨x_6, ex_6, hf⟩ := lt1_some hf
          refine V.topi ex_6 ?_
          refine r_istore_n hX dX2_swap_32 rfl rfl ?_
          refine r_aload_n hX dX2_swap_33 rfl ?_
          refine g_2_1 hX fl_X2_15 hk0 dX2_swap_34 ?_
          refine r_iload_n hX dX2_swap_37 rfl ?_
          refine r_aload_n hX dX2_swap_38 rfl ?_
          refine g_2_1 hX fl_X2_15 hk0 dX2_swap_39 ?_
          refine r_iload_n hX dX2_swap_42 rfl ?_
          obtain ⟨g_7, hf⟩ := gd_some hf
          refine r_iald (n := 5) hX rfl ((q_3_1 hX hk0)) g_7 dX2_swap_43 ?_
          obtain ⟨g_8, hf⟩ := gd_some hf
          obtain ⟨I_9, eI_9, hf⟩ := lt1_some hf
          refine r_iastE (n := 5) eI_9 hX rfl ((q_3_1 hX hk0)) g_8 dX2_swap_44 ?_
          refine r_aload_n hX dX2_swap_45 rfl ?_
          refine g_2_1 hX fl_X2_15 hk0 dX2_swap_46 ?_
          refine r_iload_n hX dX2_swap_49 rfl ?_
          refine r_iload_n hX dX2_swap_50 rfl ?_
          obtain ⟨g_10, hf⟩ := gd_some hf
          obtain ⟨I_11, eI_11, hf⟩ := lt1_some hf
          refine r_iastE (n := 5) eI_11 hX rfl ((q_3_1 hX hk0)) g_10 dX2_swap_51 ?_
          cases hf
          exact hret _ _ dX2_swap_52
        · have hf := hf_f c_4 hf
          cases hf
          exact hret _ _ dX2_swap_52
    · have hf := hf_f c_2 hf
      cases hf
      exact hret _ _ dX2_swap_52
noncomputable def X2_advance_B87 (a0 : Nat) (k87 : HI → Int32 → Int32 → Option (Int32 × HI)) (I : HI) (x3 : Int32) (x4 : Int32) : Option (Int32 × HI) := if x4 < x3 then bd1 (f_X2_swap I a0 x4 x3) fun I_23 => lt1 (x3 + (-1 : Int32)) fun x_25 => lt1 (x4 + (1 : Int32)) fun x_26 => k87 I_23 x_25 x_26 else some ((1 : Int32), I)
set_option maxHeartbeats 4000000 in
set_option maxRecDepth 100000 in
theorem vX2_advance_87 {X : CX} {I' : HI} {r : Int32} {J : HJ} (hX : OKX X cX2_advance RX2 1 23 5) (hret : RetZ X cX2_advance r I' J) (a0 : Nat) (hk0 : gK (xG X) a0 = 3)   : ∀ (n : Nat) (I : HI) (x3 : Int32) (x4 : Int32), wl3 (X2_advance_B87 a0) n I x3 x4 = some (r, I') → V X I J 87 [some (.ref a0), none, none, some (.int x3), some (.int x4)] [] := by
  refine wl3_V (P := fun (I : HI) (x3 : Int32) (x4 : Int32) => V X I J 87 [some (.ref a0), none, none, some (.int x3), some (.int x4)] []) ?_
  intro k87 hc87 I x3 x4 hf
  unfold X2_advance_B87 at hf
  refine r_iload hX dX2_advance_87 rfl ?_
  refine r_iload_n hX dX2_advance_89 rfl ?_
  refine r_icmp_ge (tgt := 109) hX dX2_advance_90 (by decide) (fun c_22 => ?_) (fun c_22 => ?_)
  · have hf := hf_t c_22 hf
    refine r_aload_n hX dX2_advance_93 rfl ?_
    refine r_iload hX dX2_advance_94 rfl ?_
    refine r_iload_n hX dX2_advance_96 rfl ?_
    obtain ⟨I_23, h_24, hf⟩ := bd1_some hf
    refine r_callV (As := [.int x4, .int x3]) (ci := 2) hX (k_X2_swap (l := xl X) (J := J) hX.ok hk0 h_24) pk_X2_swap ml_X2_27 rfl rfl rfl rfl hk0 rfl rfl rfl (Nat.le_of_ble_eq_true rfl) dX2_advance_97 ?_
    obtain ⟨x_25, ex_25, hf⟩ := lt1_some hf
    refine r_iincE (n' := -1) ex_25 hX dX2_advance_100 rfl rfl rfl rfl ?_
    obtain ⟨x_26, ex_26, hf⟩ := lt1_some hf
    refine r_iincE (n' := 1) ex_26 hX dX2_advance_103 rfl rfl rfl rfl ?_
    refine r_goto (tgt := 87) hX dX2_advance_106 (by decide) ?_
    refine V.mask [true, false, false, true, true] ?_
    exact hc87 I_23 x_25 x_26 hf
  · have hf := hf_f c_22 hf
    refine r_iconst (v := 1) hX dX2_advance_109 rfl ?_
    cases hf
    exact hret _ _ zb_1 dX2_advance_110
noncomputable def X2_advance_J69 (I : HI) (a0 : Nat) (x1 : Int32) (x2 : Int32) : Option (Int32 × HI) := bd1 (f_X2_swap I a0 x1 x2) fun I_18 => lt1 (((I_18 a0 0) - (1 : Int32))) fun x_20 => lt1 ((x1 + (1 : Int32))) fun x_21 => wl3 (X2_advance_B87 a0) 5000 I_18 x_20 x_21
set_option maxHeartbeats 4000000 in
set_option maxRecDepth 100000 in
theorem vX2_advance_69 {X : CX} {I' : HI} {r : Int32} {I : HI} {J : HJ} (hX : OKX X cX2_advance RX2 1 23 5) (hret : RetZ X cX2_advance r I' J) (a0 : Nat) (x1 : Int32) (x2 : Int32) (hk0 : gK (xG X) a0 = 3)   (hf : X2_advance_J69 I a0 x1 x2 = some (r, I')) : V X I J 69 [some (.ref a0), some (.int x1), some (.int x2), none, none] [] := by
  unfold X2_advance_J69 at hf
  refine r_aload_n hX dX2_advance_69 rfl ?_
  refine r_iload_n hX dX2_advance_70 rfl ?_
  refine r_iload_n hX dX2_advance_71 rfl ?_
  obtain ⟨I_18, h_19, hf⟩ := bd1_some hf
  refine r_callV (As := [.int x1, .int x2]) (ci := 2) hX (k_X2_swap (l := xl X) (J := J) hX.ok hk0 h_19) pk_X2_swap ml_X2_27 rfl rfl rfl rfl hk0 rfl rfl rfl (Nat.le_of_ble_eq_true rfl) dX2_advance_72 ?_
  refine r_aload_n hX dX2_advance_75 rfl ?_
  refine g_2_0 hX fl_X2_9 hk0 dX2_advance_76 ?_
  refine r_iconst (v := 1) hX dX2_advance_79 rfl ?_
  refine r_isub hX dX2_advance_80 ?_
  obtain ⟨x_20, ex_20, hf⟩ := lt1_some hf
  refine V.topi ex_20 ?_
  refine r_istore_n hX dX2_advance_81 rfl rfl ?_
  refine r_iload_n hX dX2_advance_82 rfl ?_
  refine r_iconst (v := 1) hX dX2_advance_83 rfl ?_
  refine r_iadd hX dX2_advance_84 ?_
  obtain ⟨x_21, ex_21, hf⟩ := lt1_some hf
  refine V.topi ex_21 ?_
  refine r_istore hX dX2_advance_85 rfl rfl ?_
  refine V.mask [true, false, false, true, true] ?_
  exact vX2_advance_87 hX hret a0 hk0 5000 I_18 x_20 x_21 hf
noncomputable def X2_advance_B45 (I : HI) (a0 : Nat) (x1 : Int32) (k45 : Int32 → Option (Int32 × HI)) (x2 : Int32) : Option (Int32 × HI) := if x1 < x2 then bd1 (f_X2_pageAt I a0 x2) fun r_12 => bd1 (f_X2_pageAt I a0 x1) fun r_14 => if r_12 < r_14 then lt1 (x2 + (-1 : Int32)) fun x_17 => k45 x_17 else X2_advance_J69 I a0 x1 x2 else X2_advance_J69 I a0 x1 x2
set_option maxHeartbeats 4000000 in
set_option maxRecDepth 100000 in
theorem vX2_advance_45 {X : CX} {I' : HI} {r : Int32} {I : HI} {J : HJ} (hX : OKX X cX2_advance RX2 1 23 5) (hret : RetZ X cX2_advance r I' J) (a0 : Nat) (x1 : Int32) (hk0 : gK (xG X) a0 = 3)   : ∀ (n : Nat) (x2 : Int32), wl1 (X2_advance_B45 I a0 x1) n x2 = some (r, I') → V X I J 45 [some (.ref a0), some (.int x1), some (.int x2), none, none] [] := by
  refine wl1_V (P := fun (x2 : Int32) => V X I J 45 [some (.ref a0), some (.int x1), some (.int x2), none, none] []) ?_
  intro k45 hc45 x2 hf
  unfold X2_advance_B45 at hf
  refine r_iload_n hX dX2_advance_45 rfl ?_
  refine r_iload_n hX dX2_advance_46 rfl ?_
  refine r_icmp_le (tgt := 69) hX dX2_advance_47 (by decide) (fun c_11 => ?_) (fun c_11 => ?_)
  · have hf := hf_t c_11 hf
    refine r_aload_n hX dX2_advance_50 rfl ?_
    refine r_iload_n hX dX2_advance_51 rfl ?_
    obtain ⟨r_12, h_13, hf⟩ := bd1_some hf
    refine r_callV (As := [.int x2]) (ci := 2) hX (k_X2_pageAt (l := xl X) (J := J) hX.ok hk0 h_13) pk_X2_pageAt ml_X2_23 rfl rfl rfl rfl hk0 rfl rfl rfl (Nat.le_of_ble_eq_true rfl) dX2_advance_52 ?_
    refine r_aload_n hX dX2_advance_55 rfl ?_
    refine r_iload_n hX dX2_advance_56 rfl ?_
    obtain ⟨r_14, h_15, hf⟩ := bd1_some hf
    refine r_callV (As := [.int x1]) (ci := 2) hX (k_X2_pageAt (l := xl X) (J := J) hX.ok hk0 h_15) pk_X2_pageAt ml_X2_23 rfl rfl rfl rfl hk0 rfl rfl rfl (Nat.le_of_ble_eq_true rfl) dX2_advance_57 ?_
    refine r_icmp_ge (tgt := 69) hX dX2_advance_60 (by decide) (fun c_16 => ?_) (fun c_16 => ?_)
    · have hf := hf_t c_16 hf
      obtain ⟨x_17, ex_17, hf⟩ := lt1_some hf
      refine r_iincE (n' := -1) ex_17 hX dX2_advance_63 rfl rfl rfl rfl ?_
      refine r_goto (tgt := 45) hX dX2_advance_66 (by decide) ?_
      refine V.mask [true, true, true, false, false] ?_
      exact hc45 x_17 hf
    · have hf := hf_f c_16 hf
      refine V.mask [true, true, true, false, false] ?_
      exact vX2_advance_69 hX hret a0 x1 x2 hk0 hf
  · have hf := hf_f c_11 hf
    refine V.mask [true, true, true, false, false] ?_
    exact vX2_advance_69 hX hret a0 x1 x2 hk0 hf
noncomputable def X2_advance_J32 (I : HI) (a0 : Nat) (x1 : Int32) : Option (Int32 × HI) := if x1 < 0 then some ((0 : Int32), I) else lt1 (((I a0 0) - (1 : Int32))) fun x_10 => wl1 (X2_advance_B45 I a0 x1) 5000 x_10
set_option maxHeartbeats 4000000 in
set_option maxRecDepth 100000 in
theorem vX2_advance_32 {X : CX} {I' : HI} {r : Int32} {I : HI} {J : HJ} (hX : OKX X cX2_advance RX2 1 23 5) (hret : RetZ X cX2_advance r I' J) (a0 : Nat) (x1 : Int32) (hk0 : gK (xG X) a0 = 3)   (hf : X2_advance_J32 I a0 x1 = some (r, I')) : V X I J 32 [some (.ref a0), some (.int x1), none, none, none] [] := by
  unfold X2_advance_J32 at hf
  refine r_iload_n hX dX2_advance_32 rfl ?_
  refine r_if_ge (tgt := 38) hX dX2_advance_33 (by decide) (fun c_9 => ?_) (fun c_9 => ?_)
  · have hf := hf_t c_9 hf
    refine r_iconst (v := 0) hX dX2_advance_36 rfl ?_
    cases hf
    exact hret _ _ zb_0 dX2_advance_37
  · have hf := hf_f c_9 hf
    refine r_aload_n hX dX2_advance_38 rfl ?_
    refine g_2_0 hX fl_X2_9 hk0 dX2_advance_39 ?_
    refine r_iconst (v := 1) hX dX2_advance_42 rfl ?_
    refine r_isub hX dX2_advance_43 ?_
    obtain ⟨x_10, ex_10, hf⟩ := lt1_some hf
    refine V.topi ex_10 ?_
    refine r_istore_n hX dX2_advance_44 rfl rfl ?_
    refine V.mask [true, true, true, false, false] ?_
    exact vX2_advance_45 hX hret a0 x1 hk0 5000 x_10 hf
noncomputable def X2_advance_B7 (I : HI) (a0 : Nat) (k7 : Int32 → Option (Int32 × HI)) (x1 : Int32) : Option (Int32 × HI) := if x1 < 0 then X2_advance_J32 I a0 x1 else bd1 (f_X2_pageAt I a0 x1) fun r_3 => bd1 (f_X2_pageAt I a0 ((x1 + (1 : Int32)))) fun r_5 => if r_5 < r_3 then lt1 (x1 + (-1 : Int32)) fun x_8 => k7 x_8 else X2_advance_J32 I a0 x1
set_option maxHeartbeats 4000000 in
set_option maxRecDepth 100000 in
theorem vX2_advance_7 {X : CX} {I' : HI} {r : Int32} {I : HI} {J : HJ} (hX : OKX X cX2_advance RX2 1 23 5) (hret : RetZ X cX2_advance r I' J) (a0 : Nat) (hk0 : gK (xG X) a0 = 3)   : ∀ (n : Nat) (x1 : Int32), wl1 (X2_advance_B7 I a0) n x1 = some (r, I') → V X I J 7 [some (.ref a0), some (.int x1), none, none, none] [] := by
  refine wl1_V (P := fun (x1 : Int32) => V X I J 7 [some (.ref a0), some (.int x1), none, none, none] []) ?_
  intro k7 hc7 x1 hf
  unfold X2_advance_B7 at hf
  refine r_iload_n hX dX2_advance_7 rfl ?_
  refine r_if_lt (tgt := 32) hX dX2_advance_8 (by decide) (fun c_2 => ?_) (fun c_2 => ?_)
  · have hf := hf_t c_2 hf
    refine V.mask [true, true, false, false, false] ?_
    exact vX2_advance_32 hX hret a0 x1 hk0 hf
  · have hf := hf_f c_2 hf
    refine r_aload_n hX dX2_advance_11 rfl ?_
    refine r_iload_n hX dX2_advance_12 rfl ?_
    obtain ⟨r_3, h_4, hf⟩ := bd1_some hf
    refine r_callV (As := [.int x1]) (ci := 2) hX (k_X2_pageAt (l := xl X) (J := J) hX.ok hk0 h_4) pk_X2_pageAt ml_X2_23 rfl rfl rfl rfl hk0 rfl rfl rfl (Nat.le_of_ble_eq_true rfl) dX2_advance_13 ?_
    refine r_aload_n hX dX2_advance_16 rfl ?_
    refine r_iload_n hX dX2_advance_17 rfl ?_
    refine r_iconst (v := 1) hX dX2_advance_18 rfl ?_
    refine r_iadd hX dX2_advance_19 ?_
    obtain ⟨r_5, h_6, hf⟩ := bd1_some hf
    refine r_callV (As := [.int ((x1 + (1 : Int32)))]) (ci := 2) hX (k_X2_pageAt (l := xl X) (J := J) hX.ok hk0 h_6) pk_X2_pageAt ml_X2_23 rfl rfl rfl rfl hk0 rfl rfl rfl (Nat.le_of_ble_eq_true rfl) dX2_advance_20 ?_
    refine r_icmp_le (tgt := 32) hX dX2_advance_23 (by decide) (fun c_7 => ?_) (fun c_7 => ?_)
    · have hf := hf_t c_7 hf
      obtain ⟨x_8, ex_8, hf⟩ := lt1_some hf
      refine r_iincE (n' := -1) ex_8 hX dX2_advance_26 rfl rfl rfl rfl ?_
      refine r_goto (tgt := 7) hX dX2_advance_29 (by decide) ?_
      refine V.mask [true, true, false, false, false] ?_
      exact hc7 x_8 hf
    · have hf := hf_f c_7 hf
      refine V.mask [true, true, false, false, false] ?_
      exact vX2_advance_32 hX hret a0 x1 hk0 hf
noncomputable def f_X2_advance (I : HI) (a0 : Nat) : Option (Int32 × HI) := lt1 (((I a0 0) - (2 : Int32))) fun x_1 => wl1 (X2_advance_B7 I a0) 5000 x_1
set_option maxHeartbeats 4000000 in
set_option maxRecDepth 100000 in
theorem k_X2_advance {G : GX} {l : Launch} {I : HI} {J : HJ} {I' : HI} {r : Int32} (hG : OKG G) {a0 : Nat} (hk0 : gK G a0 = 3) (hf : f_X2_advance I a0 = some (r, I')) : Ctr G l yX2_advance cX2_advance 5 (some .boolean) 1 23 [.ref a0] I J (some (.int r)) I' J := by
  refine ctr_Zb hG (by decide) [some (.ref a0), none, none, none, none] rfl rfl fun X e1 e2 hX hret => ?_
  subst e1; subst e2
  unfold f_X2_advance at hf
  refine r_aload_n hX dX2_advance_0 rfl ?_
  refine g_2_0 hX fl_X2_9 hk0 dX2_advance_1 ?_
  refine r_iconst (v := 2) hX dX2_advance_4 rfl ?_
  refine r_isub hX dX2_advance_5 ?_
  obtain ⟨x_1, ex_1, hf⟩ := lt1_some hf
  refine V.topi ex_1 ?_
  refine r_istore_n hX dX2_advance_6 rfl rfl ?_
  refine V.mask [true, true, false, false, false] ?_
  exact vX2_advance_7 hX hret a0 hk0 5000 x_1 hf
noncomputable def f_X3_forget (I : HI) (a0 : Nat) : Option (HI) := lt1 (sI I a0 2 ((0 : Int32))) fun I_1 => some I_1
set_option maxHeartbeats 4000000 in
set_option maxRecDepth 100000 in
theorem k_X3_forget {G : GX} {l : Launch} {I : HI} {J : HJ} {I' : HI} (hG : OKG G) {a0 : Nat} (hk0 : gK G a0 = 4) (hf : f_X3_forget I a0 = some I') : Ctr G l yX3_forget cX3_forget 1 none 0 0 [.ref a0] I J none I' J := by
  refine ctr_V hG (by decide) [some (.ref a0)] rfl rfl fun X e1 e2 hX hret => ?_
  subst e1; subst e2
  unfold f_X3_forget at hf
  refine r_aload_n hX dX3_forget_0 rfl ?_
  refine r_iconst (v := 0) hX dX3_forget_1 rfl ?_
  obtain ⟨I_1, eI_1, hf⟩ := lt1_some hf
  refine p_3_2 eI_1 hX fl_X3_21 hk0 dX3_forget_2 ?_
  cases hf
  exact hret _ _ dX3_forget_5
noncomputable def f_X7_netAt (a0 : Nat) (n0 : Nat) (e0 : Nat) (x1 : Int32) : Option ((Option Nat)) := if x1 < 0 then some none else if x1 < (Int32.ofNat n0) then gd (vp_in x1 n0) (some (some ((e0 + 17 * x1.toNatClampNeg)))) else some none
set_option maxHeartbeats 4000000 in
set_option maxRecDepth 100000 in
theorem k_X7_netAt {G : GX} {l : Launch} {I : HI} {J : HJ} {r : Option Nat} (hG : OKG G) {a0 : Nat} {n0 : Nat} {e0 : Nat} {x1 : Int32} (hk0 : RN G a0 n0 e0) (hf : f_X7_netAt a0 n0 e0 x1 = some r) : Ctr G l yX7_netAt cX7_netAt 2 (some (.object "ShelfFilters$Net")) 0 0 [.ref a0, .int x1] I J (some (va_rf r)) I J := by
  refine ctr_A hG (by decide) [some (.ref a0), some (.int x1)] rfl rfl fun X e1 e2 hX hret => ?_
  subst e1; subst e2
  unfold f_X7_netAt at hf
  refine r_iload_n hX dX7_netAt_0 rfl ?_
  refine r_if_lt (tgt := 16) hX dX7_netAt_1 (by decide) (fun c_1 => ?_) (fun c_1 => ?_)
  · have hf := hf_t c_1 hf
    refine r_null hX dX7_netAt_16 ?_
    cases hf
    exact hret _ _ dX7_netAt_17
  · have hf := hf_f c_1 hf
    refine r_iload_n hX dX7_netAt_4 rfl ?_
    refine r_aload_n hX dX7_netAt_5 rfl ?_
    refine r_qlen (n := n0) hX (rn_ra hk0) rfl dX7_netAt_6 ?_
    refine r_icmp_ge (tgt := 16) hX dX7_netAt_7 (by decide) (fun c_2 => ?_) (fun c_2 => ?_)
    · have hf := hf_t c_2 hf
      refine r_aload_n hX dX7_netAt_10 rfl ?_
      refine r_iload_n hX dX7_netAt_11 rfl ?_
      obtain ⟨g_3, hf⟩ := gd_some hf
      refine r_aald (n := n0) hX (rn_ra hk0) g_3 dX7_netAt_12 ?_
      refine r_goto (tgt := 17) hX dX7_netAt_13 (by decide) ?_
      cases hf
      exact hret _ _ dX7_netAt_17
    · have hf := hf_f c_2 hf
      refine r_null hX dX7_netAt_16 ?_
      cases hf
      exact hret _ _ dX7_netAt_17
theorem kt_X7_netAt {G : GX} (hG : OKG G) {a0 n0 e0 : Nat} {x1 : Int32} (hk : RN G a0 n0 e0) {a : Nat} (h : f_X7_netAt a0 n0 e0 x1 = some (some a)) : gK G a = 2 := by
  unfold f_X7_netAt at h
  repeat' split at h
  all_goals first | (cases h; done) | skip
  obtain ⟨g, h⟩ := gd_some h
  cases h
  rcases hk with ⟨h1, rfl, rfl⟩ | ⟨h1, rfl, rfl⟩
  · exact (hG.2.2 a0).2.2.2.2.2.2.2.2.2.2.1 h1 _ (vp_in_lt g)
  · exact (hG.2.2 a0).2.2.2.2.2.2.2.2.2.2.2 h1 _ (vp_in_lt g)
noncomputable def X3_record_J21 (I : HI) (a0 : Nat) : Option (HI) := lt1 (sI I a0 1 ((jrem (((I a0 1) + (1 : Int32))) ((14 : Int32))))) fun I_7 => lt1 (sI I_7 a0 2 ((if (14 : Int32) < ((I_7 a0 2) + (1 : Int32)) then (14 : Int32) else ((I_7 a0 2) + (1 : Int32))))) fun I_8 => some I_8
set_option maxHeartbeats 4000000 in
set_option maxRecDepth 100000 in
theorem vX3_record_21 {X : CX} {I' : HI} {I : HI} {J : HJ} (hX : OKX X cX3_record RX3 3 65 3) (hret : RetV X cX3_record I' J) (a0 : Nat) (hk0 : gK (xG X) a0 = 4)   (hf : X3_record_J21 I a0 = some I') : V X I J 21 [some (.ref a0), none, none] [] := by
  unfold X3_record_J21 at hf
  refine r_aload_n hX dX3_record_21 rfl ?_
  refine r_aload_n hX dX3_record_22 rfl ?_
  refine g_3_1 hX fl_X3_17 hk0 dX3_record_23 ?_
  refine r_iconst (v := 1) hX dX3_record_26 rfl ?_
  refine r_iadd hX dX3_record_27 ?_
  refine r_bipush (v := 14) hX dX3_record_28 (by decide) ?_
  refine r_irem hX dX3_record_30 (by decide) ?_
  obtain ⟨I_7, eI_7, hf⟩ := lt1_some hf
  refine p_3_1 eI_7 hX fl_X3_17 hk0 dX3_record_31 ?_
  refine r_aload_n hX dX3_record_34 rfl ?_
  refine r_aload_n hX dX3_record_35 rfl ?_
  refine g_3_2 hX fl_X3_21 hk0 dX3_record_36 ?_
  refine r_iconst (v := 1) hX dX3_record_39 rfl ?_
  refine r_iadd hX dX3_record_40 ?_
  refine r_bipush (v := 14) hX dX3_record_41 (by decide) ?_
  refine r_mmin hX ml_X3_33 dX3_record_43 ?_
  obtain ⟨I_8, eI_8, hf⟩ := lt1_some hf
  refine p_3_2 eI_8 hX fl_X3_21 hk0 dX3_record_46 ?_
  cases hf
  exact hret _ _ dX3_record_49
noncomputable def f_X3_record (I : HI) (a0 : Nat) (a1 : Nat) : Option (HI) := bd1 (f_X7_netAt ((a0 + 1)) 14 ((a0 + 1) + 1) ((I a0 1))) fun r_1 => mN r_1 (X3_record_J21 I a0) (fun a_3 => bd1 (f_X1_take I a_3 a1) fun I_5 => X3_record_J21 I_5 a0)
set_option maxHeartbeats 4000000 in
set_option maxRecDepth 100000 in
theorem k_X3_record {G : GX} {l : Launch} {I : HI} {J : HJ} {I' : HI} (hG : OKG G) {a0 : Nat} {a1 : Nat} (hk0 : gK G a0 = 4) (hk1 : gK G a1 = 2) (hf : f_X3_record I a0 a1 = some I') : Ctr G l yX3_record cX3_record 3 none 3 65 [.ref a0, .ref a1] I J none I' J := by
  refine ctr_V hG (by decide) [some (.ref a0), some (.ref a1), none] rfl rfl fun X e1 e2 hX hret => ?_
  subst e1; subst e2
  unfold f_X3_record at hf
  refine r_aload_n hX dX3_record_0 rfl ?_
  refine g_3_0 hX fl_X3_11 hk0 dX3_record_1 ?_
  refine r_aload_n hX dX3_record_4 rfl ?_
  refine g_3_1 hX fl_X3_17 hk0 dX3_record_5 ?_
  obtain ⟨r_1, h_2, hf⟩ := bd1_some hf
  refine r_callSN (As := [.ref ((a0 + 1)), .int ((I a0 1))]) hX (k_X7_netAt (l := xl X) (I := I) (J := J) hX.ok (rn_11 ((q_4_0 hX hk0))) h_2) pk_X7_netAt 8 rfl rfl rfl rfl (Nat.le_of_ble_eq_true rfl) dX3_record_8 ?_
  cases r_1 with
  | none =>
    have hf := mN_n hf
    refine r_astore_nN hX dX3_record_11 rfl rfl ?_
    refine r_aload_nN hX dX3_record_12 rfl ?_
    refine r_ifnull_n (tgt := 21) hX dX3_record_13 (by decide) ?_
    refine V.mask [true, false, false] ?_
    exact vX3_record_21 hX hret a0 hk0 hf
  | some a_3 =>
    have hf := mN_s hf
    have hk_4 := kt_X7_netAt hX.ok (rn_11 ((q_4_0 hX hk0))) h_2
    refine r_astore_n hX dX3_record_11 rfl rfl ?_
    refine r_aload_n hX dX3_record_12 rfl ?_
    refine r_ifnull_r hX dX3_record_13 ?_
    refine r_aload_n hX dX3_record_16 rfl ?_
    refine r_aload_n hX dX3_record_17 rfl ?_
    obtain ⟨I_5, h_6, hf⟩ := bd1_some hf
    refine r_callV (As := [.ref a1]) (ci := 1) hX (k_X1_take (l := xl X) (J := J) hX.ok hk_4 hk1 h_6) pk_X1_take ml_X3_29 rfl rfl rfl rfl hk_4 rfl rfl rfl (Nat.le_of_ble_eq_true rfl) dX3_record_18 ?_
    refine V.mask [true, false, false] ?_
    exact vX3_record_21 hX hret a0 hk0 hf
noncomputable def f_X3_restore (I : HI) (a0 : Nat) (a1 : Nat) : Option (Int32 × HI) := lt1 ((jrem ((((I a0 1) + (14 : Int32)) - (1 : Int32))) ((14 : Int32)))) fun x_1 => bd1 (f_X7_netAt ((a0 + 1)) 14 ((a0 + 1) + 1) x_1) fun r_2 => mN r_2 (if 0 < (I a0 2) then some ((0 : Int32), I) else some ((0 : Int32), I)) (fun a_4 => if 0 < (I a0 2) then bd1 (f_X1_take I a1 a_4) fun I_8 => lt1 (sI I_8 a0 1 x_1) fun I_10 => lt1 (sI I_10 a0 2 (((I_10 a0 2) - (1 : Int32)))) fun I_11 => some ((1 : Int32), I_11) else some ((0 : Int32), I))
set_option maxHeartbeats 4000000 in
set_option maxRecDepth 100000 in
theorem k_X3_restore {G : GX} {l : Launch} {I : HI} {J : HJ} {I' : HI} {r : Int32} (hG : OKG G) {a0 : Nat} {a1 : Nat} (hk0 : gK G a0 = 4) (hk1 : gK G a1 = 2) (hf : f_X3_restore I a0 a1 = some (r, I')) : Ctr G l yX3_restore cX3_restore 4 (some .boolean) 3 65 [.ref a0, .ref a1] I J (some (.int r)) I' J := by
  refine ctr_Zb hG (by decide) [some (.ref a0), some (.ref a1), none, none] rfl rfl fun X e1 e2 hX hret => ?_
  subst e1; subst e2
  unfold f_X3_restore at hf
  refine r_aload_n hX dX3_restore_0 rfl ?_
  refine g_3_1 hX fl_X3_17 hk0 dX3_restore_1 ?_
  refine r_bipush (v := 14) hX dX3_restore_4 (by decide) ?_
  refine r_iadd hX dX3_restore_6 ?_
  refine r_iconst (v := 1) hX dX3_restore_7 rfl ?_
  refine r_isub hX dX3_restore_8 ?_
  refine r_bipush (v := 14) hX dX3_restore_9 (by decide) ?_
  refine r_irem hX dX3_restore_11 (by decide) ?_
  obtain ⟨x_1, ex_1, hf⟩ := lt1_some hf
  refine V.topi ex_1 ?_
  refine r_istore_n hX dX3_restore_12 rfl rfl ?_
  refine r_aload_n hX dX3_restore_13 rfl ?_
  refine g_3_0 hX fl_X3_11 hk0 dX3_restore_14 ?_
  refine r_iload_n hX dX3_restore_17 rfl ?_
  obtain ⟨r_2, h_3, hf⟩ := bd1_some hf
  refine r_callSN (As := [.ref ((a0 + 1)), .int x_1]) hX (k_X7_netAt (l := xl X) (I := I) (J := J) hX.ok (rn_11 ((q_4_0 hX hk0))) h_3) pk_X7_netAt 8 rfl rfl rfl rfl (Nat.le_of_ble_eq_true rfl) dX3_restore_18 ?_
  cases r_2 with
  | none =>
    have hf := mN_n hf
    refine r_astore_nN hX dX3_restore_21 rfl rfl ?_
    refine r_aload_n hX dX3_restore_22 rfl ?_
    refine g_3_2 hX fl_X3_21 hk0 dX3_restore_23 ?_
    refine r_if_le (tgt := 33) hX dX3_restore_26 (by decide) (fun c_6 => ?_) (fun c_6 => ?_)
    · have hf := hf_t c_6 hf
      refine r_aload_nN hX dX3_restore_29 rfl ?_
      refine r_ifnonnull_n hX dX3_restore_30 ?_
      refine r_iconst (v := 0) hX dX3_restore_33 rfl ?_
      cases hf
      exact hret _ _ zb_0 dX3_restore_34
    · have hf := hf_f c_6 hf
      refine r_iconst (v := 0) hX dX3_restore_33 rfl ?_
      cases hf
      exact hret _ _ zb_0 dX3_restore_34
  | some a_4 =>
    have hf := mN_s hf
    have hk_5 := kt_X7_netAt hX.ok (rn_11 ((q_4_0 hX hk0))) h_3
    refine r_astore_n hX dX3_restore_21 rfl rfl ?_
    refine r_aload_n hX dX3_restore_22 rfl ?_
    refine g_3_2 hX fl_X3_21 hk0 dX3_restore_23 ?_
    refine r_if_le (tgt := 33) hX dX3_restore_26 (by decide) (fun c_7 => ?_) (fun c_7 => ?_)
    · have hf := hf_t c_7 hf
      refine r_aload_n hX dX3_restore_29 rfl ?_
      refine r_ifnonnull_r (tgt := 35) hX dX3_restore_30 (by decide) ?_
      refine r_aload_n hX dX3_restore_35 rfl ?_
      refine r_aload_n hX dX3_restore_36 rfl ?_
      obtain ⟨I_8, h_9, hf⟩ := bd1_some hf
      refine r_callV (As := [.ref a_4]) (ci := 1) hX (k_X1_take (l := xl X) (J := J) hX.ok hk1 hk_5 h_9) pk_X1_take ml_X3_29 rfl rfl rfl rfl hk1 rfl rfl rfl (Nat.le_of_ble_eq_true rfl) dX3_restore_37 ?_
      refine r_aload_n hX dX3_restore_40 rfl ?_
      refine r_iload_n hX dX3_restore_41 rfl ?_
      obtain ⟨I_10, eI_10, hf⟩ := lt1_some hf
      refine p_3_1 eI_10 hX fl_X3_17 hk0 dX3_restore_42 ?_
      refine r_aload_n hX dX3_restore_45 rfl ?_
      refine r_dup hX dX3_restore_46 rfl ?_
      refine g_3_2 hX fl_X3_21 hk0 dX3_restore_47 ?_
      refine r_iconst (v := 1) hX dX3_restore_50 rfl ?_
      refine r_isub hX dX3_restore_51 ?_
      obtain ⟨I_11, eI_11, hf⟩ := lt1_some hf
      refine p_3_2 eI_11 hX fl_X3_21 hk0 dX3_restore_52 ?_
      refine r_iconst (v := 1) hX dX3_restore_55 rfl ?_
      cases hf
      exact hret _ _ zb_1 dX3_restore_56
    · have hf := hf_f c_7 hf
      refine r_iconst (v := 0) hX dX3_restore_33 rfl ?_
      cases hf
      exact hret _ _ zb_0 dX3_restore_34
noncomputable def f_X4_addOldest (I : HI) (a0 : Nat) (x1 : Int32) : Option (HI) := if (I a0 2) < 0 then some I else if (I a0 2) < (9 : Int32) then gd (vp_in ((I a0 2)) 9) (lt1 (sI I ((a0 + 1)) ((I a0 2)).toNatClampNeg x1) fun I_4 => lt1 (sI I_4 a0 2 (((I_4 a0 2) + (1 : Int32)))) fun I_5 => some I_5) else some I
set_option maxHeartbeats 4000000 in
set_option maxRecDepth 100000 in
theorem k_X4_addOldest {G : GX} {l : Launch} {I : HI} {J : HJ} {I' : HI} (hG : OKG G) {a0 : Nat} {x1 : Int32} (hk0 : gK G a0 = 5) (hf : f_X4_addOldest I a0 x1 = some I') : Ctr G l yX4_addOldest cX4_addOldest 2 none 0 0 [.ref a0, .int x1] I J none I' J := by
  refine ctr_V hG (by decide) [some (.ref a0), some (.int x1)] rfl rfl fun X e1 e2 hX hret => ?_
  subst e1; subst e2
  unfold f_X4_addOldest at hf
  refine r_aload_n hX dX4_addOldest_0 rfl ?_
  refine g_4_2 hX fl_X4_18 hk0 dX4_addOldest_1 ?_
  refine r_if_lt (tgt := 39) hX dX4_addOldest_4 (by decide) (fun c_1 => ?_) (fun c_1 => ?_)
  · have hf := hf_t c_1 hf
    cases hf
    exact hret _ _ dX4_addOldest_39
  · have hf := hf_f c_1 hf
    refine r_aload_n hX dX4_addOldest_7 rfl ?_
    refine g_4_2 hX fl_X4_18 hk0 dX4_addOldest_8 ?_
    refine r_aload_n hX dX4_addOldest_11 rfl ?_
    refine g_4_5 hX fl_X4_27 hk0 dX4_addOldest_12 ?_
    refine r_alen (n := 9) (v := 9) hX rfl ((q_5_5 hX hk0)) (by decide) dX4_addOldest_15 ?_
    refine r_icmp_ge (tgt := 39) hX dX4_addOldest_16 (by decide) (fun c_2 => ?_) (fun c_2 => ?_)
    · have hf := hf_t c_2 hf
      refine r_aload_n hX dX4_addOldest_19 rfl ?_
      refine g_4_5 hX fl_X4_27 hk0 dX4_addOldest_20 ?_
      refine r_aload_n hX dX4_addOldest_23 rfl ?_
      refine g_4_2 hX fl_X4_18 hk0 dX4_addOldest_24 ?_
      refine r_iload_n hX dX4_addOldest_27 rfl ?_
      obtain ⟨g_3, hf⟩ := gd_some hf
      obtain ⟨I_4, eI_4, hf⟩ := lt1_some hf
      refine r_iastE (n := 9) eI_4 hX rfl ((q_5_5 hX hk0)) g_3 dX4_addOldest_28 ?_
      refine r_aload_n hX dX4_addOldest_29 rfl ?_
      refine r_dup hX dX4_addOldest_30 rfl ?_
      refine g_4_2 hX fl_X4_18 hk0 dX4_addOldest_31 ?_
      refine r_iconst (v := 1) hX dX4_addOldest_34 rfl ?_
      refine r_iadd hX dX4_addOldest_35 ?_
      obtain ⟨I_5, eI_5, hf⟩ := lt1_some hf
      refine p_4_2 eI_5 hX fl_X4_18 hk0 dX4_addOldest_36 ?_
      cases hf
      exact hret _ _ dX4_addOldest_39
    · have hf := hf_f c_2 hf
      cases hf
      exact hret _ _ dX4_addOldest_39
noncomputable def f_X5_add (I : HI) (a0 : Nat) (x1 : Int32) (x2 : Int32) (x3 : Int32) : Option (Int32 × HI) := if (I a0 3) < 0 then some ((0 : Int32), I) else if (I a0 3) < (6 : Int32) then if (I a0 3) < (6 : Int32) then if (I a0 3) < (6 : Int32) then gd (vp_in ((I a0 3)) 6) (lt1 (sI I ((a0 + 1)) ((I a0 3)).toNatClampNeg x1) fun I_6 => gd (vp_in ((I_6 a0 3)) 6) (lt1 (sI I_6 ((a0 + 2)) ((I_6 a0 3)).toNatClampNeg x2) fun I_8 => gd (vp_in ((I_8 a0 3)) 6) (gd (zb x3) (lt1 (sI I_8 ((a0 + 3)) ((I_8 a0 3)).toNatClampNeg x3) fun I_11 => lt1 (sI I_11 a0 3 (((I_11 a0 3) + (1 : Int32)))) fun I_12 => some ((1 : Int32), I_12))))) else some ((0 : Int32), I) else some ((0 : Int32), I) else some ((0 : Int32), I)
set_option maxHeartbeats 4000000 in
set_option maxRecDepth 100000 in
theorem k_X5_add {G : GX} {l : Launch} {I : HI} {J : HJ} {I' : HI} {r : Int32} (hG : OKG G) {a0 : Nat} {x1 : Int32} {x2 : Int32} {x3 : Int32} (hk0 : gK G a0 = 6) (hf : f_X5_add I a0 x1 x2 x3 = some (r, I')) : Ctr G l yX5_add cX5_add 4 (some .boolean) 0 0 [.ref a0, .int x1, .int x2, .int x3] I J (some (.int r)) I' J := by
  refine ctr_Zb hG (by decide) [some (.ref a0), some (.int x1), some (.int x2), some (.int x3)] rfl rfl fun X e1 e2 hX hret => ?_
  subst e1; subst e2
  unfold f_X5_add at hf
  refine r_aload_n hX dX5_add_0 rfl ?_
  refine g_5_3 hX fl_X5_22 hk0 dX5_add_1 ?_
  refine r_if_lt (tgt := 43) hX dX5_add_4 (by decide) (fun c_1 => ?_) (fun c_1 => ?_)
  · have hf := hf_t c_1 hf
    refine r_iconst (v := 0) hX dX5_add_43 rfl ?_
    cases hf
    exact hret _ _ zb_0 dX5_add_44
  · have hf := hf_f c_1 hf
    refine r_aload_n hX dX5_add_7 rfl ?_
    refine g_5_3 hX fl_X5_22 hk0 dX5_add_8 ?_
    refine r_aload_n hX dX5_add_11 rfl ?_
    refine g_5_0 hX fl_X5_9 hk0 dX5_add_12 ?_
    refine r_alen (n := 6) (v := 6) hX rfl ((q_6_0 hX hk0)) (by decide) dX5_add_15 ?_
    refine r_icmp_ge (tgt := 43) hX dX5_add_16 (by decide) (fun c_2 => ?_) (fun c_2 => ?_)
    · have hf := hf_t c_2 hf
      refine r_aload_n hX dX5_add_19 rfl ?_
      refine g_5_3 hX fl_X5_22 hk0 dX5_add_20 ?_
      refine r_aload_n hX dX5_add_23 rfl ?_
      refine g_5_1 hX fl_X5_15 hk0 dX5_add_24 ?_
      refine r_alen (n := 6) (v := 6) hX rfl ((q_6_1 hX hk0)) (by decide) dX5_add_27 ?_
      refine r_icmp_ge (tgt := 43) hX dX5_add_28 (by decide) (fun c_3 => ?_) (fun c_3 => ?_)
      · have hf := hf_t c_3 hf
        refine r_aload_n hX dX5_add_31 rfl ?_
        refine g_5_3 hX fl_X5_22 hk0 dX5_add_32 ?_
        refine r_aload_n hX dX5_add_35 rfl ?_
        refine g_5_2 hX fl_X5_18 hk0 dX5_add_36 ?_
        refine r_zlen (n := 6) (v := 6) hX rfl rfl ((q_6_2 hX hk0)) (by decide) dX5_add_39 ?_
        refine r_icmp_lt (tgt := 45) hX dX5_add_40 (by decide) (fun c_4 => ?_) (fun c_4 => ?_)
        · have hf := hf_t c_4 hf
          refine r_aload_n hX dX5_add_45 rfl ?_
          refine g_5_0 hX fl_X5_9 hk0 dX5_add_46 ?_
          refine r_aload_n hX dX5_add_49 rfl ?_
          refine g_5_3 hX fl_X5_22 hk0 dX5_add_50 ?_
          refine r_iload_n hX dX5_add_53 rfl ?_
          obtain ⟨g_5, hf⟩ := gd_some hf
          obtain ⟨I_6, eI_6, hf⟩ := lt1_some hf
          refine r_iastE (n := 6) eI_6 hX rfl ((q_6_0 hX hk0)) g_5 dX5_add_54 ?_
          refine r_aload_n hX dX5_add_55 rfl ?_
          refine g_5_1 hX fl_X5_15 hk0 dX5_add_56 ?_
          refine r_aload_n hX dX5_add_59 rfl ?_
          refine g_5_3 hX fl_X5_22 hk0 dX5_add_60 ?_
          refine r_iload_n hX dX5_add_63 rfl ?_
          obtain ⟨g_7, hf⟩ := gd_some hf
          obtain ⟨I_8, eI_8, hf⟩ := lt1_some hf
          refine r_iastE (n := 6) eI_8 hX rfl ((q_6_1 hX hk0)) g_7 dX5_add_64 ?_
          refine r_aload_n hX dX5_add_65 rfl ?_
          refine g_5_2 hX fl_X5_18 hk0 dX5_add_66 ?_
          refine r_aload_n hX dX5_add_69 rfl ?_
          refine g_5_3 hX fl_X5_22 hk0 dX5_add_70 ?_
          refine r_iload_n hX dX5_add_73 rfl ?_
          obtain ⟨g_9, hf⟩ := gd_some hf
          obtain ⟨g_10, hf⟩ := gd_some hf
          obtain ⟨I_11, eI_11, hf⟩ := lt1_some hf
          refine r_zastE (n := 6) eI_11 hX rfl rfl ((q_6_2 hX hk0)) g_9 g_10 dX5_add_74 ?_
          refine r_aload_n hX dX5_add_75 rfl ?_
          refine r_dup hX dX5_add_76 rfl ?_
          refine g_5_3 hX fl_X5_22 hk0 dX5_add_77 ?_
          refine r_iconst (v := 1) hX dX5_add_80 rfl ?_
          refine r_iadd hX dX5_add_81 ?_
          obtain ⟨I_12, eI_12, hf⟩ := lt1_some hf
          refine p_5_3 eI_12 hX fl_X5_22 hk0 dX5_add_82 ?_
          refine r_iconst (v := 1) hX dX5_add_85 rfl ?_
          cases hf
          exact hret _ _ zb_1 dX5_add_86
        · have hf := hf_f c_4 hf
          refine r_iconst (v := 0) hX dX5_add_43 rfl ?_
          cases hf
          exact hret _ _ zb_0 dX5_add_44
      · have hf := hf_f c_3 hf
        refine r_iconst (v := 0) hX dX5_add_43 rfl ?_
        cases hf
        exact hret _ _ zb_0 dX5_add_44
    · have hf := hf_f c_2 hf
      refine r_iconst (v := 0) hX dX5_add_43 rfl ?_
      cases hf
      exact hret _ _ zb_0 dX5_add_44
noncomputable def X5_agrees_J78 (I : HI) (a0 : Nat) (a1 : Nat) (x2 : Int32) (x3 : Int32) (k2 : Int32 → Option (Int32)) : Option (Int32) := lt1 (x3 + (1 : Int32)) fun x_15 => k2 x_15
set_option maxHeartbeats 4000000 in
set_option maxRecDepth 100000 in
theorem vX5_agrees_78 {X : CX} {r : Int32} {I : HI} {J : HJ} (hX : OKX X cX5_agrees RX5 3 71 5) (hret : RetZ X cX5_agrees r I J) (a0 : Nat) (a1 : Nat) (x2 : Int32) (x3 : Int32) (hk0 : gK (xG X) a0 = 6) (hk1 : gK (xG X) a1 = 2) (k2 : Int32 → Option (Int32)) (hc2 : ∀ (x3 : Int32), k2 x3 = some r → V X I J 2 [some (.ref a0), some (.ref a1), some (.int x2), some (.int x3), none] []) (hf : X5_agrees_J78 I a0 a1 x2 x3 k2 = some r) : V X I J 78 [some (.ref a0), some (.ref a1), some (.int x2), some (.int x3), none] [] := by
  unfold X5_agrees_J78 at hf
  obtain ⟨x_15, ex_15, hf⟩ := lt1_some hf
  refine r_iincE (n' := 1) ex_15 hX dX5_agrees_78 rfl rfl rfl rfl ?_
  refine r_goto (tgt := 2) hX dX5_agrees_81 (by decide) ?_
  refine V.mask [true, true, true, true, false] ?_
  exact hc2 x_15 hf
noncomputable def X5_agrees_B2 (I : HI) (a0 : Nat) (a1 : Nat) (x2 : Int32) (k2 : Int32 → Option (Int32)) (x3 : Int32) : Option (Int32) := if x3 < (I a0 3) then if x3 < (6 : Int32) then if x3 < (6 : Int32) then if x3 < (6 : Int32) then gd (vp_in x3 6) (bd1 (f_X1_proxyAt I a1 ((I ((a0 + 1)) x3.toNatClampNeg))) fun r_6 => mN r_6 (X5_agrees_J78 I a0 a1 x2 x3 k2) (fun a_8 => gd (vp_in x3 6) (bd1 (f_X1_isSo I a1 a_8 ((I ((a0 + 2)) x3.toNatClampNeg)) x2) fun r_11 => gd (vp_in x3 6) (if r_11 = (I ((a0 + 3)) x3.toNatClampNeg) then X5_agrees_J78 I a0 a1 x2 x3 k2 else some ((0 : Int32)))))) else some ((1 : Int32)) else some ((1 : Int32)) else some ((1 : Int32)) else some ((1 : Int32))
set_option maxHeartbeats 4000000 in
set_option maxRecDepth 100000 in
theorem vX5_agrees_2 {X : CX} {r : Int32} {I : HI} {J : HJ} (hX : OKX X cX5_agrees RX5 3 71 5) (hret : RetZ X cX5_agrees r I J) (a0 : Nat) (a1 : Nat) (x2 : Int32) (hk0 : gK (xG X) a0 = 6) (hk1 : gK (xG X) a1 = 2)   : ∀ (n : Nat) (x3 : Int32), wl1 (X5_agrees_B2 I a0 a1 x2) n x3 = some r → V X I J 2 [some (.ref a0), some (.ref a1), some (.int x2), some (.int x3), none] [] := by
  refine wl1_V (P := fun (x3 : Int32) => V X I J 2 [some (.ref a0), some (.ref a1), some (.int x2), some (.int x3), none] []) ?_
  intro k2 hc2 x3 hf
  unfold X5_agrees_B2 at hf
  refine r_iload_n hX dX5_agrees_2 rfl ?_
  refine r_aload_n hX dX5_agrees_3 rfl ?_
  refine g_5_3 hX fl_X5_22 hk0 dX5_agrees_4 ?_
  refine r_icmp_ge (tgt := 84) hX dX5_agrees_7 (by decide) (fun c_1 => ?_) (fun c_1 => ?_)
  · have hf := hf_t c_1 hf
    refine r_iload_n hX dX5_agrees_10 rfl ?_
    refine r_aload_n hX dX5_agrees_11 rfl ?_
    refine g_5_0 hX fl_X5_9 hk0 dX5_agrees_12 ?_
    refine r_alen (n := 6) (v := 6) hX rfl ((q_6_0 hX hk0)) (by decide) dX5_agrees_15 ?_
    refine r_icmp_ge (tgt := 84) hX dX5_agrees_16 (by decide) (fun c_2 => ?_) (fun c_2 => ?_)
    · have hf := hf_t c_2 hf
      refine r_iload_n hX dX5_agrees_19 rfl ?_
      refine r_aload_n hX dX5_agrees_20 rfl ?_
      refine g_5_1 hX fl_X5_15 hk0 dX5_agrees_21 ?_
      refine r_alen (n := 6) (v := 6) hX rfl ((q_6_1 hX hk0)) (by decide) dX5_agrees_24 ?_
      refine r_icmp_ge (tgt := 84) hX dX5_agrees_25 (by decide) (fun c_3 => ?_) (fun c_3 => ?_)
      · have hf := hf_t c_3 hf
        refine r_iload_n hX dX5_agrees_28 rfl ?_
        refine r_aload_n hX dX5_agrees_29 rfl ?_
        refine g_5_2 hX fl_X5_18 hk0 dX5_agrees_30 ?_
        refine r_zlen (n := 6) (v := 6) hX rfl rfl ((q_6_2 hX hk0)) (by decide) dX5_agrees_33 ?_
        refine r_icmp_ge (tgt := 84) hX dX5_agrees_34 (by decide) (fun c_4 => ?_) (fun c_4 => ?_)
        · have hf := hf_t c_4 hf
          refine r_aload_n hX dX5_agrees_37 rfl ?_
          refine r_aload_n hX dX5_agrees_38 rfl ?_
          refine g_5_0 hX fl_X5_9 hk0 dX5_agrees_39 ?_
          refine r_iload_n hX dX5_agrees_42 rfl ?_
          obtain ⟨g_5, hf⟩ := gd_some hf
          refine r_iald (n := 6) hX rfl ((q_6_0 hX hk0)) g_5 dX5_agrees_43 ?_
          obtain ⟨r_6, h_7, hf⟩ := bd1_some hf
          refine r_callV (As := [.int ((I ((a0 + 1)) x3.toNatClampNeg))]) (ci := 1) hX (k_X1_proxyAt (l := xl X) (J := J) hX.ok hk1 h_7) pk_X1_proxyAt ml_X5_30 rfl rfl rfl rfl hk1 rfl rfl rfl (Nat.le_of_ble_eq_true rfl) dX5_agrees_44 ?_
          cases r_6 with
          | none =>
            have hf := mN_n hf
            refine r_astoreN hX dX5_agrees_47 rfl rfl ?_
            refine r_aloadN hX dX5_agrees_49 rfl ?_
            refine r_ifnull_n (tgt := 78) hX dX5_agrees_51 (by decide) ?_
            refine V.mask [true, true, true, true, false] ?_
            exact vX5_agrees_78 hX hret a0 a1 x2 x3 hk0 hk1 k2 hc2 hf
          | some a_8 =>
            have hf := mN_s hf
            have hk_9 := kt_X1_proxyAt hX.ok hk1 h_7
            refine r_astore hX dX5_agrees_47 rfl rfl ?_
            refine r_aload hX dX5_agrees_49 rfl ?_
            refine r_ifnull_r hX dX5_agrees_51 ?_
            refine r_aload_n hX dX5_agrees_54 rfl ?_
            refine r_aload hX dX5_agrees_55 rfl ?_
            refine r_aload_n hX dX5_agrees_57 rfl ?_
            refine g_5_1 hX fl_X5_15 hk0 dX5_agrees_58 ?_
            refine r_iload_n hX dX5_agrees_61 rfl ?_
            obtain ⟨g_10, hf⟩ := gd_some hf
            refine r_iald (n := 6) hX rfl ((q_6_1 hX hk0)) g_10 dX5_agrees_62 ?_
            refine r_iload_n hX dX5_agrees_63 rfl ?_
            obtain ⟨r_11, h_12, hf⟩ := bd1_some hf
            refine r_callV (As := [.ref a_8, .int ((I ((a0 + 2)) x3.toNatClampNeg)), .int x2]) (ci := 1) hX (k_X1_isSo (l := xl X) (J := J) hX.ok hk1 hk_9 h_12) pk_X1_isSo ml_X5_36 rfl rfl rfl rfl hk1 rfl rfl rfl (Nat.le_of_ble_eq_true rfl) dX5_agrees_64 ?_
            refine r_aload_n hX dX5_agrees_67 rfl ?_
            refine g_5_2 hX fl_X5_18 hk0 dX5_agrees_68 ?_
            refine r_iload_n hX dX5_agrees_71 rfl ?_
            obtain ⟨g_13, hf⟩ := gd_some hf
            refine r_zald (n := 6) hX rfl rfl ((q_6_2 hX hk0)) g_13 dX5_agrees_72 ?_
            refine r_icmp_eq (tgt := 78) hX dX5_agrees_73 (by decide) (fun c_14 => ?_) (fun c_14 => ?_)
            · have hf := hf_t c_14 hf
              refine V.mask [true, true, true, true, false] ?_
              exact vX5_agrees_78 hX hret a0 a1 x2 x3 hk0 hk1 k2 hc2 hf
            · have hf := hf_f c_14 hf
              refine r_iconst (v := 0) hX dX5_agrees_76 rfl ?_
              cases hf
              exact hret _ _ zb_0 dX5_agrees_77
        · have hf := hf_f c_4 hf
          refine r_iconst (v := 1) hX dX5_agrees_84 rfl ?_
          cases hf
          exact hret _ _ zb_1 dX5_agrees_85
      · have hf := hf_f c_3 hf
        refine r_iconst (v := 1) hX dX5_agrees_84 rfl ?_
        cases hf
        exact hret _ _ zb_1 dX5_agrees_85
    · have hf := hf_f c_2 hf
      refine r_iconst (v := 1) hX dX5_agrees_84 rfl ?_
      cases hf
      exact hret _ _ zb_1 dX5_agrees_85
  · have hf := hf_f c_1 hf
    refine r_iconst (v := 1) hX dX5_agrees_84 rfl ?_
    cases hf
    exact hret _ _ zb_1 dX5_agrees_85
noncomputable def f_X5_agrees (I : HI) (a0 : Nat) (a1 : Nat) (x2 : Int32) : Option (Int32) := wl1 (X5_agrees_B2 I a0 a1 x2) 5000 ((0 : Int32))
set_option maxHeartbeats 4000000 in
set_option maxRecDepth 100000 in
theorem k_X5_agrees {G : GX} {l : Launch} {I : HI} {J : HJ} {r : Int32} (hG : OKG G) {a0 : Nat} {a1 : Nat} {x2 : Int32} (hk0 : gK G a0 = 6) (hk1 : gK G a1 = 2) (hf : f_X5_agrees I a0 a1 x2 = some r) : Ctr G l yX5_agrees cX5_agrees 5 (some .boolean) 3 71 [.ref a0, .ref a1, .int x2] I J (some (.int r)) I J := by
  refine ctr_Zb hG (by decide) [some (.ref a0), some (.ref a1), some (.int x2), none, none] rfl rfl fun X e1 e2 hX hret => ?_
  subst e1; subst e2
  unfold f_X5_agrees at hf
  refine r_iconst (v := 0) hX dX5_agrees_0 rfl ?_
  refine r_istore_n hX dX5_agrees_1 rfl rfl ?_
  refine V.mask [true, true, true, true, false] ?_
  exact vX5_agrees_2 hX hret a0 a1 x2 hk0 hk1 5000 ((0 : Int32)) hf
noncomputable def X5_agreeing_J25 (I : HI) (a0 : Nat) (a1 : Nat) (x2 : Int32) (x3 : Int32) (k4 : Int32 → Int32 → Option (Int32)) : Option (Int32) := lt1 (x3 + (1 : Int32)) fun x_6 => k4 x2 x_6
set_option maxHeartbeats 4000000 in
set_option maxRecDepth 100000 in
theorem vX5_agreeing_25 {X : CX} {r : Int32} {I : HI} {J : HJ} (hX : OKX X cX5_agreeing RX5 4 95 4) (hret : RetI X cX5_agreeing r I J) (a0 : Nat) (a1 : Nat) (x2 : Int32) (x3 : Int32) (hk0 : gK (xG X) a0 = 6) (hk1 : gK (xG X) a1 = 2) (k4 : Int32 → Int32 → Option (Int32)) (hc4 : ∀ (x2 : Int32) (x3 : Int32), k4 x2 x3 = some r → V X I J 4 [some (.ref a0), some (.ref a1), some (.int x2), some (.int x3)] []) (hf : X5_agreeing_J25 I a0 a1 x2 x3 k4 = some r) : V X I J 25 [some (.ref a0), some (.ref a1), some (.int x2), some (.int x3)] [] := by
  unfold X5_agreeing_J25 at hf
  obtain ⟨x_6, ex_6, hf⟩ := lt1_some hf
  refine r_iincE (n' := 1) ex_6 hX dX5_agreeing_25 rfl rfl rfl rfl ?_
  refine r_goto (tgt := 4) hX dX5_agreeing_28 (by decide) ?_
  refine V.mask [true, true, true, true] ?_
  exact hc4 x2 x_6 hf
noncomputable def X5_agreeing_B4 (I : HI) (a0 : Nat) (a1 : Nat) (k4 : Int32 → Int32 → Option (Int32)) (x2 : Int32) (x3 : Int32) : Option (Int32) := if x3 < (32 : Int32) then bd1 (f_X5_agrees I a0 a1 x3) fun r_2 => if r_2 = 0 then X5_agreeing_J25 I a0 a1 x2 x3 k4 else lt1 ((x2 ||| ((1 : Int32) <<< (x3 &&& 31)))) fun x_5 => X5_agreeing_J25 I a0 a1 x_5 x3 k4 else some x2
set_option maxHeartbeats 4000000 in
set_option maxRecDepth 100000 in
theorem vX5_agreeing_4 {X : CX} {r : Int32} {I : HI} {J : HJ} (hX : OKX X cX5_agreeing RX5 4 95 4) (hret : RetI X cX5_agreeing r I J) (a0 : Nat) (a1 : Nat) (hk0 : gK (xG X) a0 = 6) (hk1 : gK (xG X) a1 = 2)   : ∀ (n : Nat) (x2 : Int32) (x3 : Int32), wl2 (X5_agreeing_B4 I a0 a1) n x2 x3 = some r → V X I J 4 [some (.ref a0), some (.ref a1), some (.int x2), some (.int x3)] [] := by
  refine wl2_V (P := fun (x2 : Int32) (x3 : Int32) => V X I J 4 [some (.ref a0), some (.ref a1), some (.int x2), some (.int x3)] []) ?_
  intro k4 hc4 x2 x3 hf
  unfold X5_agreeing_B4 at hf
  refine r_iload_n hX dX5_agreeing_4 rfl ?_
  refine r_bipush (v := 32) hX dX5_agreeing_5 (by decide) ?_
  refine r_icmp_ge (tgt := 31) hX dX5_agreeing_7 (by decide) (fun c_1 => ?_) (fun c_1 => ?_)
  · have hf := hf_t c_1 hf
    refine r_aload_n hX dX5_agreeing_10 rfl ?_
    refine r_aload_n hX dX5_agreeing_11 rfl ?_
    refine r_iload_n hX dX5_agreeing_12 rfl ?_
    obtain ⟨r_2, h_3, hf⟩ := bd1_some hf
    refine r_callV (As := [.ref a1, .int x3]) (ci := 5) hX (k_X5_agrees (l := xl X) (J := J) hX.ok hk0 hk1 h_3) pk_X5_agrees ml_X5_26 rfl rfl rfl rfl hk0 rfl rfl rfl (Nat.le_of_ble_eq_true rfl) dX5_agreeing_13 ?_
    refine r_if_eq (tgt := 25) hX dX5_agreeing_16 (by decide) (fun c_4 => ?_) (fun c_4 => ?_)
    · have hf := hf_t c_4 hf
      refine V.mask [true, true, true, true] ?_
      exact vX5_agreeing_25 hX hret a0 a1 x2 x3 hk0 hk1 k4 hc4 hf
    · have hf := hf_f c_4 hf
      refine r_iload_n hX dX5_agreeing_19 rfl ?_
      refine r_iconst (v := 1) hX dX5_agreeing_20 rfl ?_
      refine r_iload_n hX dX5_agreeing_21 rfl ?_
      refine r_ishl hX dX5_agreeing_22 ?_
      refine r_ior hX dX5_agreeing_23 ?_
      obtain ⟨x_5, ex_5, hf⟩ := lt1_some hf
      refine V.topi ex_5 ?_
      refine r_istore_n hX dX5_agreeing_24 rfl rfl ?_
      refine V.mask [true, true, true, true] ?_
      exact vX5_agreeing_25 hX hret a0 a1 x_5 x3 hk0 hk1 k4 hc4 hf
  · have hf := hf_f c_1 hf
    refine r_iload_n hX dX5_agreeing_31 rfl ?_
    cases hf
    exact hret _ _ dX5_agreeing_32
noncomputable def f_X5_agreeing (I : HI) (a0 : Nat) (a1 : Nat) : Option (Int32) := wl2 (X5_agreeing_B4 I a0 a1) 5000 ((0 : Int32)) ((0 : Int32))
set_option maxHeartbeats 4000000 in
set_option maxRecDepth 100000 in
theorem k_X5_agreeing {G : GX} {l : Launch} {I : HI} {J : HJ} {r : Int32} (hG : OKG G) {a0 : Nat} {a1 : Nat} (hk0 : gK G a0 = 6) (hk1 : gK G a1 = 2) (hf : f_X5_agreeing I a0 a1 = some r) : Ctr G l yX5_agreeing cX5_agreeing 4 (some .int) 4 95 [.ref a0, .ref a1] I J (some (.int r)) I J := by
  refine ctr_I hG (by decide) [some (.ref a0), some (.ref a1), none, none] rfl rfl fun X e1 e2 hX hret => ?_
  subst e1; subst e2
  unfold f_X5_agreeing at hf
  refine r_iconst (v := 0) hX dX5_agreeing_0 rfl ?_
  refine r_istore_n hX dX5_agreeing_1 rfl rfl ?_
  refine r_iconst (v := 0) hX dX5_agreeing_2 rfl ?_
  refine r_istore_n hX dX5_agreeing_3 rfl rfl ?_
  refine V.mask [true, true, true, true] ?_
  exact vX5_agreeing_4 hX hret a0 a1 hk0 hk1 5000 ((0 : Int32)) ((0 : Int32)) hf
noncomputable def f_X6_append (I : HI) (a0 : Nat) (x1 : Int32) : Option (Int32 × HI) := if (I a0 0) < 0 then some ((0 : Int32), I) else if (I a0 0) < (100 : Int32) then gd (vp_in ((I a0 0)) 100) (lt1 (sI I ((a0 + 18)) ((I a0 0)).toNatClampNeg x1) fun I_4 => lt1 (sI I_4 a0 0 (((I_4 a0 0) + (1 : Int32)))) fun I_5 => some ((1 : Int32), I_5)) else some ((0 : Int32), I)
set_option maxHeartbeats 4000000 in
set_option maxRecDepth 100000 in
theorem k_X6_append {G : GX} {l : Launch} {I : HI} {J : HJ} {I' : HI} {r : Int32} (hG : OKG G) {a0 : Nat} {x1 : Int32} (hk0 : gK G a0 = 7) (hf : f_X6_append I a0 x1 = some (r, I')) : Ctr G l yX6_append cX6_append 2 (some .boolean) 0 0 [.ref a0, .int x1] I J (some (.int r)) I' J := by
  refine ctr_Zb hG (by decide) [some (.ref a0), some (.int x1)] rfl rfl fun X e1 e2 hX hret => ?_
  subst e1; subst e2
  unfold f_X6_append at hf
  refine r_aload_n hX dX6_append_0 rfl ?_
  refine g_6_0 hX fl_X6_9 hk0 dX6_append_1 ?_
  refine r_if_lt (tgt := 19) hX dX6_append_4 (by decide) (fun c_1 => ?_) (fun c_1 => ?_)
  · have hf := hf_t c_1 hf
    refine r_iconst (v := 0) hX dX6_append_19 rfl ?_
    cases hf
    exact hret _ _ zb_0 dX6_append_20
  · have hf := hf_f c_1 hf
    refine r_aload_n hX dX6_append_7 rfl ?_
    refine g_6_0 hX fl_X6_9 hk0 dX6_append_8 ?_
    refine r_aload_n hX dX6_append_11 rfl ?_
    refine g_6_2 hX fl_X6_22 hk0 dX6_append_12 ?_
    refine r_alen (n := 100) (v := 100) hX rfl ((q_7_2 hX hk0)) (by decide) dX6_append_15 ?_
    refine r_icmp_lt (tgt := 21) hX dX6_append_16 (by decide) (fun c_2 => ?_) (fun c_2 => ?_)
    · have hf := hf_t c_2 hf
      refine r_aload_n hX dX6_append_21 rfl ?_
      refine g_6_2 hX fl_X6_22 hk0 dX6_append_22 ?_
      refine r_aload_n hX dX6_append_25 rfl ?_
      refine g_6_0 hX fl_X6_9 hk0 dX6_append_26 ?_
      refine r_iload_n hX dX6_append_29 rfl ?_
      obtain ⟨g_3, hf⟩ := gd_some hf
      obtain ⟨I_4, eI_4, hf⟩ := lt1_some hf
      refine r_iastE (n := 100) eI_4 hX rfl ((q_7_2 hX hk0)) g_3 dX6_append_30 ?_
      refine r_aload_n hX dX6_append_31 rfl ?_
      refine r_dup hX dX6_append_32 rfl ?_
      refine g_6_0 hX fl_X6_9 hk0 dX6_append_33 ?_
      refine r_iconst (v := 1) hX dX6_append_36 rfl ?_
      refine r_iadd hX dX6_append_37 ?_
      obtain ⟨I_5, eI_5, hf⟩ := lt1_some hf
      refine p_6_0 eI_5 hX fl_X6_9 hk0 dX6_append_38 ?_
      refine r_iconst (v := 1) hX dX6_append_41 rfl ?_
      cases hf
      exact hret _ _ zb_1 dX6_append_42
    · have hf := hf_f c_2 hf
      refine r_iconst (v := 0) hX dX6_append_19 rfl ?_
      cases hf
      exact hret _ _ zb_0 dX6_append_20
noncomputable def f_X6_letter (I : HI) (a0 : Nat) : Option (Int32) := if (I a0 3) < 0 then some ((-9 : Int32)) else if (I a0 3) < (I a0 0) then if (I a0 3) < (100 : Int32) then gd (vp_in ((I a0 3)) 100) (some ((I ((a0 + 18)) ((I a0 3)).toNatClampNeg))) else some ((-9 : Int32)) else some ((-9 : Int32))
set_option maxHeartbeats 4000000 in
set_option maxRecDepth 100000 in
theorem k_X6_letter {G : GX} {l : Launch} {I : HI} {J : HJ} {r : Int32} (hG : OKG G) {a0 : Nat} (hk0 : gK G a0 = 7) (hf : f_X6_letter I a0 = some r) : Ctr G l yX6_letter cX6_letter 1 (some .int) 0 0 [.ref a0] I J (some (.int r)) I J := by
  refine ctr_I hG (by decide) [some (.ref a0)] rfl rfl fun X e1 e2 hX hret => ?_
  subst e1; subst e2
  unfold f_X6_letter at hf
  refine r_aload_n hX dX6_letter_0 rfl ?_
  refine g_6_3 hX fl_X6_26 hk0 dX6_letter_1 ?_
  refine r_if_lt (tgt := 42) hX dX6_letter_4 (by decide) (fun c_1 => ?_) (fun c_1 => ?_)
  · have hf := hf_t c_1 hf
    refine r_bipush (v := -9) hX dX6_letter_42 (by decide) ?_
    cases hf
    exact hret _ _ dX6_letter_44
  · have hf := hf_f c_1 hf
    refine r_aload_n hX dX6_letter_7 rfl ?_
    refine g_6_3 hX fl_X6_26 hk0 dX6_letter_8 ?_
    refine r_aload_n hX dX6_letter_11 rfl ?_
    refine g_6_0 hX fl_X6_9 hk0 dX6_letter_12 ?_
    refine r_icmp_ge (tgt := 42) hX dX6_letter_15 (by decide) (fun c_2 => ?_) (fun c_2 => ?_)
    · have hf := hf_t c_2 hf
      refine r_aload_n hX dX6_letter_18 rfl ?_
      refine g_6_3 hX fl_X6_26 hk0 dX6_letter_19 ?_
      refine r_aload_n hX dX6_letter_22 rfl ?_
      refine g_6_2 hX fl_X6_22 hk0 dX6_letter_23 ?_
      refine r_alen (n := 100) (v := 100) hX rfl ((q_7_2 hX hk0)) (by decide) dX6_letter_26 ?_
      refine r_icmp_ge (tgt := 42) hX dX6_letter_27 (by decide) (fun c_3 => ?_) (fun c_3 => ?_)
      · have hf := hf_t c_3 hf
        refine r_aload_n hX dX6_letter_30 rfl ?_
        refine g_6_2 hX fl_X6_22 hk0 dX6_letter_31 ?_
        refine r_aload_n hX dX6_letter_34 rfl ?_
        refine g_6_3 hX fl_X6_26 hk0 dX6_letter_35 ?_
        obtain ⟨g_4, hf⟩ := gd_some hf
        refine r_iald (n := 100) hX rfl ((q_7_2 hX hk0)) g_4 dX6_letter_38 ?_
        refine r_goto (tgt := 44) hX dX6_letter_39 (by decide) ?_
        cases hf
        exact hret _ _ dX6_letter_44
      · have hf := hf_f c_3 hf
        refine r_bipush (v := -9) hX dX6_letter_42 (by decide) ?_
        cases hf
        exact hret _ _ dX6_letter_44
    · have hf := hf_f c_2 hf
      refine r_bipush (v := -9) hX dX6_letter_42 (by decide) ?_
      cases hf
      exact hret _ _ dX6_letter_44
noncomputable def f_X6_pass (I : HI) (a0 : Nat) (x1 : Int32) : Option (Int32 × HI) := bd1 (f_X6_letter I a0) fun r_1 => if r_1 = x1 then lt1 (sI I a0 3 (((I a0 3) + (1 : Int32)))) fun I_4 => some ((1 : Int32), I_4) else some ((0 : Int32), I)
set_option maxHeartbeats 4000000 in
set_option maxRecDepth 100000 in
theorem k_X6_pass {G : GX} {l : Launch} {I : HI} {J : HJ} {I' : HI} {r : Int32} (hG : OKG G) {a0 : Nat} {x1 : Int32} (hk0 : gK G a0 = 7) (hf : f_X6_pass I a0 x1 = some (r, I')) : Ctr G l yX6_pass cX6_pass 2 (some .boolean) 1 20 [.ref a0, .int x1] I J (some (.int r)) I' J := by
  refine ctr_Zb hG (by decide) [some (.ref a0), some (.int x1)] rfl rfl fun X e1 e2 hX hret => ?_
  subst e1; subst e2
  unfold f_X6_pass at hf
  refine r_aload_n hX dX6_pass_0 rfl ?_
  obtain ⟨r_1, h_2, hf⟩ := bd1_some hf
  refine r_callV (As := []) (ci := 6) hX (k_X6_letter (l := xl X) (J := J) hX.ok hk0 h_2) pk_X6_letter ml_X6_42 rfl rfl rfl rfl hk0 rfl rfl rfl (Nat.le_of_ble_eq_true rfl) dX6_pass_1 ?_
  refine r_iload_n hX dX6_pass_4 rfl ?_
  refine r_icmp_eq (tgt := 10) hX dX6_pass_5 (by decide) (fun c_3 => ?_) (fun c_3 => ?_)
  · have hf := hf_t c_3 hf
    refine r_aload_n hX dX6_pass_10 rfl ?_
    refine r_dup hX dX6_pass_11 rfl ?_
    refine g_6_3 hX fl_X6_26 hk0 dX6_pass_12 ?_
    refine r_iconst (v := 1) hX dX6_pass_15 rfl ?_
    refine r_iadd hX dX6_pass_16 ?_
    obtain ⟨I_4, eI_4, hf⟩ := lt1_some hf
    refine p_6_3 eI_4 hX fl_X6_26 hk0 dX6_pass_17 ?_
    refine r_iconst (v := 1) hX dX6_pass_20 rfl ?_
    cases hf
    exact hret _ _ zb_1 dX6_pass_21
  · have hf := hf_f c_3 hf
    refine r_iconst (v := 0) hX dX6_pass_8 rfl ?_
    cases hf
    exact hret _ _ zb_0 dX6_pass_9
noncomputable def f_X6_passDigit (I : HI) (a0 : Nat) (x1 : Int32) (x2 : Int32) : Option (Int32 × HI) := bd1 (f_X6_letter I a0) fun r_1 => lt1 ((r_1 - (48 : Int32))) fun x_3 => if x_3 < x1 then some ((0 : Int32), I) else if x2 < x_3 then some ((0 : Int32), I) else lt1 (sI I a0 4 x_3) fun I_6 => lt1 (sI I_6 a0 3 (((I_6 a0 3) + (1 : Int32)))) fun I_7 => some ((1 : Int32), I_7)
set_option maxHeartbeats 4000000 in
set_option maxRecDepth 100000 in
theorem k_X6_passDigit {G : GX} {l : Launch} {I : HI} {J : HJ} {I' : HI} {r : Int32} (hG : OKG G) {a0 : Nat} {x1 : Int32} {x2 : Int32} (hk0 : gK G a0 = 7) (hf : f_X6_passDigit I a0 x1 x2 = some (r, I')) : Ctr G l yX6_passDigit cX6_passDigit 4 (some .boolean) 1 20 [.ref a0, .int x1, .int x2] I J (some (.int r)) I' J := by
  refine ctr_Zb hG (by decide) [some (.ref a0), some (.int x1), some (.int x2), none] rfl rfl fun X e1 e2 hX hret => ?_
  subst e1; subst e2
  unfold f_X6_passDigit at hf
  refine r_aload_n hX dX6_passDigit_0 rfl ?_
  obtain ⟨r_1, h_2, hf⟩ := bd1_some hf
  refine r_callV (As := []) (ci := 6) hX (k_X6_letter (l := xl X) (J := J) hX.ok hk0 h_2) pk_X6_letter ml_X6_42 rfl rfl rfl rfl hk0 rfl rfl rfl (Nat.le_of_ble_eq_true rfl) dX6_passDigit_1 ?_
  refine r_bipush (v := 48) hX dX6_passDigit_4 (by decide) ?_
  refine r_isub hX dX6_passDigit_6 ?_
  obtain ⟨x_3, ex_3, hf⟩ := lt1_some hf
  refine V.topi ex_3 ?_
  refine r_istore_n hX dX6_passDigit_7 rfl rfl ?_
  refine r_iload_n hX dX6_passDigit_8 rfl ?_
  refine r_iload_n hX dX6_passDigit_9 rfl ?_
  refine r_icmp_lt (tgt := 18) hX dX6_passDigit_10 (by decide) (fun c_4 => ?_) (fun c_4 => ?_)
  · have hf := hf_t c_4 hf
    refine r_iconst (v := 0) hX dX6_passDigit_18 rfl ?_
    cases hf
    exact hret _ _ zb_0 dX6_passDigit_19
  · have hf := hf_f c_4 hf
    refine r_iload_n hX dX6_passDigit_13 rfl ?_
    refine r_iload_n hX dX6_passDigit_14 rfl ?_
    refine r_icmp_le (tgt := 20) hX dX6_passDigit_15 (by decide) (fun c_5 => ?_) (fun c_5 => ?_)
    · have hf := hf_t c_5 hf
      refine r_iconst (v := 0) hX dX6_passDigit_18 rfl ?_
      cases hf
      exact hret _ _ zb_0 dX6_passDigit_19
    · have hf := hf_f c_5 hf
      refine r_aload_n hX dX6_passDigit_20 rfl ?_
      refine r_iload_n hX dX6_passDigit_21 rfl ?_
      obtain ⟨I_6, eI_6, hf⟩ := lt1_some hf
      refine p_6_4 eI_6 hX fl_X6_29 hk0 dX6_passDigit_22 ?_
      refine r_aload_n hX dX6_passDigit_25 rfl ?_
      refine r_dup hX dX6_passDigit_26 rfl ?_
      refine g_6_3 hX fl_X6_26 hk0 dX6_passDigit_27 ?_
      refine r_iconst (v := 1) hX dX6_passDigit_30 rfl ?_
      refine r_iadd hX dX6_passDigit_31 ?_
      obtain ⟨I_7, eI_7, hf⟩ := lt1_some hf
      refine p_6_3 eI_7 hX fl_X6_26 hk0 dX6_passDigit_32 ?_
      refine r_iconst (v := 1) hX dX6_passDigit_35 rfl ?_
      cases hf
      exact hret _ _ zb_1 dX6_passDigit_36
noncomputable def X6_readHead_J46 (I : HI) (a0 : Nat) (x1 : Int32) (sa0 : Nat) (sx1 : Int32) (sx2 : Int32) : Option (Int32 × HI) := bd2 (f_X6_passDigit I sa0 sx1 sx2) fun r_12 I_13 => if r_12 = 0 then some ((0 : Int32), I_13) else lt1 ((((10 : Int32) * x1) + (I_13 a0 4))) fun x_16 => bd2 (f_X6_passDigit I_13 a0 ((1 : Int32)) ((3 : Int32))) fun r_17 I_18 => if r_17 = 0 then some ((0 : Int32), I_18) else bd1 (f_X1_begin I_18 ((a0 + 1)) x_16 ((I_18 a0 4))) fun I_21 => some ((1 : Int32), I_21)
set_option maxHeartbeats 4000000 in
set_option maxRecDepth 100000 in
theorem vX6_readHead_46 {X : CX} {I' : HI} {r : Int32} {I : HI} {J : HJ} (hX : OKX X cX6_readHead RX6 2 44 3) (hret : RetZ X cX6_readHead r I' J) (a0 : Nat) (x1 : Int32) (sa0 : Nat) (sx1 : Int32) (sx2 : Int32) (hk0 : gK (xG X) a0 = 7) (hs0 : gK (xG X) sa0 = 7)   (hf : X6_readHead_J46 I a0 x1 sa0 sx1 sx2 = some (r, I')) : V X I J 46 [some (.ref a0), some (.int x1), none] [.int sx2, .int sx1, .ref sa0] := by
  unfold X6_readHead_J46 at hf
  obtain ⟨r_12, I_13, h_14, hf⟩ := bd2_some hf
  refine r_callV (As := [.int sx1, .int sx2]) (ci := 6) hX (k_X6_passDigit (l := xl X) (J := J) hX.ok hs0 h_14) pk_X6_passDigit ml_X6_50 rfl rfl rfl rfl hs0 rfl rfl rfl (Nat.le_of_ble_eq_true rfl) dX6_readHead_46 ?_
  refine r_if_ne (tgt := 54) hX dX6_readHead_49 (by decide) (fun c_15 => ?_) (fun c_15 => ?_)
  · have hf := hf_t c_15 hf
    refine r_iconst (v := 0) hX dX6_readHead_52 rfl ?_
    cases hf
    exact hret _ _ zb_0 dX6_readHead_53
  · have hf := hf_f c_15 hf
    refine r_bipush (v := 10) hX dX6_readHead_54 (by decide) ?_
    refine r_iload_n hX dX6_readHead_56 rfl ?_
    refine r_imul hX dX6_readHead_57 ?_
    refine r_aload_n hX dX6_readHead_58 rfl ?_
    refine g_6_4 hX fl_X6_29 hk0 dX6_readHead_59 ?_
    refine r_iadd hX dX6_readHead_62 ?_
    obtain ⟨x_16, ex_16, hf⟩ := lt1_some hf
    refine V.topi ex_16 ?_
    refine r_istore_n hX dX6_readHead_63 rfl rfl ?_
    refine r_aload_n hX dX6_readHead_64 rfl ?_
    refine r_iconst (v := 1) hX dX6_readHead_65 rfl ?_
    refine r_iconst (v := 3) hX dX6_readHead_66 rfl ?_
    obtain ⟨r_17, I_18, h_19, hf⟩ := bd2_some hf
    refine r_callV (As := [.int ((1 : Int32)), .int ((3 : Int32))]) (ci := 6) hX (k_X6_passDigit (l := xl X) (J := J) hX.ok hk0 h_19) pk_X6_passDigit ml_X6_50 rfl rfl rfl rfl hk0 rfl rfl rfl (Nat.le_of_ble_eq_true rfl) dX6_readHead_67 ?_
    refine r_if_ne (tgt := 75) hX dX6_readHead_70 (by decide) (fun c_20 => ?_) (fun c_20 => ?_)
    · have hf := hf_t c_20 hf
      refine r_iconst (v := 0) hX dX6_readHead_73 rfl ?_
      cases hf
      exact hret _ _ zb_0 dX6_readHead_74
    · have hf := hf_f c_20 hf
      refine r_aload_n hX dX6_readHead_75 rfl ?_
      refine g_6_1 hX fl_X6_18 hk0 dX6_readHead_76 ?_
      refine r_iload_n hX dX6_readHead_79 rfl ?_
      refine r_aload_n hX dX6_readHead_80 rfl ?_
      refine g_6_4 hX fl_X6_29 hk0 dX6_readHead_81 ?_
      obtain ⟨I_21, h_22, hf⟩ := bd1_some hf
      refine r_callV (As := [.int x_16, .int ((I_18 a0 4))]) (ci := 1) hX (k_X1_begin (l := xl X) (J := J) hX.ok ((q_7_1 hX hk0)) h_22) pk_X1_begin ml_X6_54 rfl rfl rfl rfl ((q_7_1 hX hk0)) rfl rfl rfl (Nat.le_of_ble_eq_true rfl) dX6_readHead_84 ?_
      refine r_iconst (v := 1) hX dX6_readHead_87 rfl ?_
      cases hf
      exact hret _ _ zb_1 dX6_readHead_88
noncomputable def X6_readHead_J35 (I : HI) (a0 : Nat) (x1 : Int32) (sa0 : Nat) (sx1 : Int32) : Option (Int32 × HI) := if x1 = 0 then X6_readHead_J46 I a0 x1 sa0 sx1 ((9 : Int32)) else X6_readHead_J46 I a0 x1 sa0 sx1 ((6 : Int32))
set_option maxHeartbeats 4000000 in
set_option maxRecDepth 100000 in
theorem vX6_readHead_35 {X : CX} {I' : HI} {r : Int32} {I : HI} {J : HJ} (hX : OKX X cX6_readHead RX6 2 44 3) (hret : RetZ X cX6_readHead r I' J) (a0 : Nat) (x1 : Int32) (sa0 : Nat) (sx1 : Int32) (hk0 : gK (xG X) a0 = 7) (hs0 : gK (xG X) sa0 = 7)   (hf : X6_readHead_J35 I a0 x1 sa0 sx1 = some (r, I')) : V X I J 35 [some (.ref a0), some (.int x1), none] [.int sx1, .ref sa0] := by
  unfold X6_readHead_J35 at hf
  refine r_iload_n hX dX6_readHead_35 rfl ?_
  refine r_if_ne (tgt := 44) hX dX6_readHead_36 (by decide) (fun c_11 => ?_) (fun c_11 => ?_)
  · have hf := hf_t c_11 hf
    refine r_bipush (v := 9) hX dX6_readHead_39 (by decide) ?_
    refine r_goto (tgt := 46) hX dX6_readHead_41 (by decide) ?_
    refine V.mask [true, true, false] ?_
    exact vX6_readHead_46 hX hret a0 x1 sa0 sx1 ((9 : Int32)) hk0 hs0 hf
  · have hf := hf_f c_11 hf
    refine r_bipush (v := 6) hX dX6_readHead_44 (by decide) ?_
    refine V.mask [true, true, false] ?_
    exact vX6_readHead_46 hX hret a0 x1 sa0 sx1 ((6 : Int32)) hk0 hs0 hf
noncomputable def f_X6_readHead (I : HI) (a0 : Nat) : Option (Int32 × HI) := bd2 (f_X6_pass I a0 ((78 : Int32))) fun r_1 I_2 => if r_1 = 0 then some ((0 : Int32), I_2) else bd2 (f_X6_passDigit I_2 a0 ((0 : Int32)) ((1 : Int32))) fun r_5 I_6 => if r_5 = 0 then some ((0 : Int32), I_6) else lt1 ((I_6 a0 4)) fun x_9 => if x_9 = 0 then X6_readHead_J35 I_6 a0 x_9 a0 ((4 : Int32)) else X6_readHead_J35 I_6 a0 x_9 a0 ((0 : Int32))
set_option maxHeartbeats 4000000 in
set_option maxRecDepth 100000 in
theorem k_X6_readHead {G : GX} {l : Launch} {I : HI} {J : HJ} {I' : HI} {r : Int32} (hG : OKG G) {a0 : Nat} (hk0 : gK G a0 = 7) (hf : f_X6_readHead I a0 = some (r, I')) : Ctr G l yX6_readHead cX6_readHead 3 (some .boolean) 2 44 [.ref a0] I J (some (.int r)) I' J := by
  refine ctr_Zb hG (by decide) [some (.ref a0), none, none] rfl rfl fun X e1 e2 hX hret => ?_
  subst e1; subst e2
  unfold f_X6_readHead at hf
  refine r_aload_n hX dX6_readHead_0 rfl ?_
  refine r_bipush (v := 78) hX dX6_readHead_1 (by decide) ?_
  obtain ⟨r_1, I_2, h_3, hf⟩ := bd2_some hf
  refine r_callV (As := [.int ((78 : Int32))]) (ci := 6) hX (k_X6_pass (l := xl X) (J := J) hX.ok hk0 h_3) pk_X6_pass ml_X6_46 rfl rfl rfl rfl hk0 rfl rfl rfl (Nat.le_of_ble_eq_true rfl) dX6_readHead_3 ?_
  refine r_if_eq (tgt := 18) hX dX6_readHead_6 (by decide) (fun c_4 => ?_) (fun c_4 => ?_)
  · have hf := hf_t c_4 hf
    refine r_iconst (v := 0) hX dX6_readHead_18 rfl ?_
    cases hf
    exact hret _ _ zb_0 dX6_readHead_19
  · have hf := hf_f c_4 hf
    refine r_aload_n hX dX6_readHead_9 rfl ?_
    refine r_iconst (v := 0) hX dX6_readHead_10 rfl ?_
    refine r_iconst (v := 1) hX dX6_readHead_11 rfl ?_
    obtain ⟨r_5, I_6, h_7, hf⟩ := bd2_some hf
    refine r_callV (As := [.int ((0 : Int32)), .int ((1 : Int32))]) (ci := 6) hX (k_X6_passDigit (l := xl X) (J := J) hX.ok hk0 h_7) pk_X6_passDigit ml_X6_50 rfl rfl rfl rfl hk0 rfl rfl rfl (Nat.le_of_ble_eq_true rfl) dX6_readHead_12 ?_
    refine r_if_ne (tgt := 20) hX dX6_readHead_15 (by decide) (fun c_8 => ?_) (fun c_8 => ?_)
    · have hf := hf_t c_8 hf
      refine r_iconst (v := 0) hX dX6_readHead_18 rfl ?_
      cases hf
      exact hret _ _ zb_0 dX6_readHead_19
    · have hf := hf_f c_8 hf
      refine r_aload_n hX dX6_readHead_20 rfl ?_
      refine g_6_4 hX fl_X6_29 hk0 dX6_readHead_21 ?_
      obtain ⟨x_9, ex_9, hf⟩ := lt1_some hf
      refine V.topi ex_9 ?_
      refine r_istore_n hX dX6_readHead_24 rfl rfl ?_
      refine r_aload_n hX dX6_readHead_25 rfl ?_
      refine r_iload_n hX dX6_readHead_26 rfl ?_
      refine r_if_ne (tgt := 34) hX dX6_readHead_27 (by decide) (fun c_10 => ?_) (fun c_10 => ?_)
      · have hf := hf_t c_10 hf
        refine r_iconst (v := 4) hX dX6_readHead_30 rfl ?_
        refine r_goto (tgt := 35) hX dX6_readHead_31 (by decide) ?_
        refine V.mask [true, true, false] ?_
        exact vX6_readHead_35 hX hret a0 x_9 a0 ((4 : Int32)) hk0 hk0 hf
      · have hf := hf_f c_10 hf
        refine r_iconst (v := 0) hX dX6_readHead_34 rfl ?_
        refine V.mask [true, true, false] ?_
        exact vX6_readHead_35 hX hret a0 x_9 a0 ((0 : Int32)) hk0 hk0 hf
noncomputable def f_X6_readFamily (I : HI) (a0 : Nat) : Option (Int32 × HI) := bd2 (f_X6_pass I a0 ((104 : Int32))) fun r_1 I_2 => if r_1 = 0 then some ((0 : Int32), I_2) else bd2 (f_X6_passDigit I_2 a0 ((1 : Int32)) ((9 : Int32))) fun r_5 I_6 => if r_5 = 0 then some ((0 : Int32), I_6) else lt1 ((I_6 a0 4)) fun x_9 => bd2 (f_X6_passDigit I_6 a0 ((0 : Int32)) ((9 : Int32))) fun r_10 I_11 => if r_10 = 0 then some ((0 : Int32), I_11) else bd1 (f_X0_addFamily I_11 (((a0 + 1) + 1)) x_9 ((I_11 a0 4))) fun I_14 => some ((1 : Int32), I_14)
set_option maxHeartbeats 4000000 in
set_option maxRecDepth 100000 in
theorem k_X6_readFamily {G : GX} {l : Launch} {I : HI} {J : HJ} {I' : HI} {r : Int32} (hG : OKG G) {a0 : Nat} (hk0 : gK G a0 = 7) (hf : f_X6_readFamily I a0 = some (r, I')) : Ctr G l yX6_readFamily cX6_readFamily 2 (some .boolean) 2 43 [.ref a0] I J (some (.int r)) I' J := by
  refine ctr_Zb hG (by decide) [some (.ref a0), none] rfl rfl fun X e1 e2 hX hret => ?_
  subst e1; subst e2
  unfold f_X6_readFamily at hf
  refine r_aload_n hX dX6_readFamily_0 rfl ?_
  refine r_bipush (v := 104) hX dX6_readFamily_1 (by decide) ?_
  obtain ⟨r_1, I_2, h_3, hf⟩ := bd2_some hf
  refine r_callV (As := [.int ((104 : Int32))]) (ci := 6) hX (k_X6_pass (l := xl X) (J := J) hX.ok hk0 h_3) pk_X6_pass ml_X6_46 rfl rfl rfl rfl hk0 rfl rfl rfl (Nat.le_of_ble_eq_true rfl) dX6_readFamily_3 ?_
  refine r_if_eq (tgt := 19) hX dX6_readFamily_6 (by decide) (fun c_4 => ?_) (fun c_4 => ?_)
  · have hf := hf_t c_4 hf
    refine r_iconst (v := 0) hX dX6_readFamily_19 rfl ?_
    cases hf
    exact hret _ _ zb_0 dX6_readFamily_20
  · have hf := hf_f c_4 hf
    refine r_aload_n hX dX6_readFamily_9 rfl ?_
    refine r_iconst (v := 1) hX dX6_readFamily_10 rfl ?_
    refine r_bipush (v := 9) hX dX6_readFamily_11 (by decide) ?_
    obtain ⟨r_5, I_6, h_7, hf⟩ := bd2_some hf
    refine r_callV (As := [.int ((1 : Int32)), .int ((9 : Int32))]) (ci := 6) hX (k_X6_passDigit (l := xl X) (J := J) hX.ok hk0 h_7) pk_X6_passDigit ml_X6_50 rfl rfl rfl rfl hk0 rfl rfl rfl (Nat.le_of_ble_eq_true rfl) dX6_readFamily_13 ?_
    refine r_if_ne (tgt := 21) hX dX6_readFamily_16 (by decide) (fun c_8 => ?_) (fun c_8 => ?_)
    · have hf := hf_t c_8 hf
      refine r_iconst (v := 0) hX dX6_readFamily_19 rfl ?_
      cases hf
      exact hret _ _ zb_0 dX6_readFamily_20
    · have hf := hf_f c_8 hf
      refine r_aload_n hX dX6_readFamily_21 rfl ?_
      refine g_6_4 hX fl_X6_29 hk0 dX6_readFamily_22 ?_
      obtain ⟨x_9, ex_9, hf⟩ := lt1_some hf
      refine V.topi ex_9 ?_
      refine r_istore_n hX dX6_readFamily_25 rfl rfl ?_
      refine r_aload_n hX dX6_readFamily_26 rfl ?_
      refine r_iconst (v := 0) hX dX6_readFamily_27 rfl ?_
      refine r_bipush (v := 9) hX dX6_readFamily_28 (by decide) ?_
      obtain ⟨r_10, I_11, h_12, hf⟩ := bd2_some hf
      refine r_callV (As := [.int ((0 : Int32)), .int ((9 : Int32))]) (ci := 6) hX (k_X6_passDigit (l := xl X) (J := J) hX.ok hk0 h_12) pk_X6_passDigit ml_X6_50 rfl rfl rfl rfl hk0 rfl rfl rfl (Nat.le_of_ble_eq_true rfl) dX6_readFamily_30 ?_
      refine r_if_ne (tgt := 38) hX dX6_readFamily_33 (by decide) (fun c_13 => ?_) (fun c_13 => ?_)
      · have hf := hf_t c_13 hf
        refine r_iconst (v := 0) hX dX6_readFamily_36 rfl ?_
        cases hf
        exact hret _ _ zb_0 dX6_readFamily_37
      · have hf := hf_f c_13 hf
        refine r_aload_n hX dX6_readFamily_38 rfl ?_
        refine g_6_1 hX fl_X6_18 hk0 dX6_readFamily_39 ?_
        refine g_1_0 hX fl_X6_58 ((q_7_1 hX hk0)) dX6_readFamily_42 ?_
        refine r_iload_n hX dX6_readFamily_45 rfl ?_
        refine r_aload_n hX dX6_readFamily_46 rfl ?_
        refine g_6_4 hX fl_X6_29 hk0 dX6_readFamily_47 ?_
        obtain ⟨I_14, h_15, hf⟩ := bd1_some hf
        refine r_callV (As := [.int x_9, .int ((I_11 a0 4))]) (ci := 0) hX (k_X0_addFamily (l := xl X) (J := J) hX.ok ((q_2_0 hX ((q_7_1 hX hk0)))) h_15) pk_X0_addFamily ml_X6_82 rfl rfl rfl rfl ((q_2_0 hX ((q_7_1 hX hk0)))) rfl rfl rfl (Nat.le_of_ble_eq_true rfl) dX6_readFamily_50 ?_
        refine r_iconst (v := 1) hX dX6_readFamily_53 rfl ?_
        cases hf
        exact hret _ _ zb_1 dX6_readFamily_54
noncomputable def f_X6_readProxy (I : HI) (a0 : Nat) : Option (Int32 × HI) := bd2 (f_X6_pass I a0 ((112 : Int32))) fun r_1 I_2 => if r_1 = 0 then some ((0 : Int32), I_2) else bd2 (f_X6_passDigit I_2 a0 ((1 : Int32)) ((9 : Int32))) fun r_5 I_6 => if r_5 = 0 then some ((0 : Int32), I_6) else lt1 ((I_6 a0 4)) fun x_9 => bd2 (f_X6_passDigit I_6 a0 ((1 : Int32)) ((9 : Int32))) fun r_10 I_11 => if r_10 = 0 then some ((0 : Int32), I_11) else bd1 (f_X1_addProxy I_11 ((a0 + 1)) x_9 ((I_11 a0 4))) fun I_14 => some ((1 : Int32), I_14)
set_option maxHeartbeats 4000000 in
set_option maxRecDepth 100000 in
theorem k_X6_readProxy {G : GX} {l : Launch} {I : HI} {J : HJ} {I' : HI} {r : Int32} (hG : OKG G) {a0 : Nat} (hk0 : gK G a0 = 7) (hf : f_X6_readProxy I a0 = some (r, I')) : Ctr G l yX6_readProxy cX6_readProxy 2 (some .boolean) 3 65 [.ref a0] I J (some (.int r)) I' J := by
  refine ctr_Zb hG (by decide) [some (.ref a0), none] rfl rfl fun X e1 e2 hX hret => ?_
  subst e1; subst e2
  unfold f_X6_readProxy at hf
  refine r_aload_n hX dX6_readProxy_0 rfl ?_
  refine r_bipush (v := 112) hX dX6_readProxy_1 (by decide) ?_
  obtain ⟨r_1, I_2, h_3, hf⟩ := bd2_some hf
  refine r_callV (As := [.int ((112 : Int32))]) (ci := 6) hX (k_X6_pass (l := xl X) (J := J) hX.ok hk0 h_3) pk_X6_pass ml_X6_46 rfl rfl rfl rfl hk0 rfl rfl rfl (Nat.le_of_ble_eq_true rfl) dX6_readProxy_3 ?_
  refine r_if_eq (tgt := 19) hX dX6_readProxy_6 (by decide) (fun c_4 => ?_) (fun c_4 => ?_)
  · have hf := hf_t c_4 hf
    refine r_iconst (v := 0) hX dX6_readProxy_19 rfl ?_
    cases hf
    exact hret _ _ zb_0 dX6_readProxy_20
  · have hf := hf_f c_4 hf
    refine r_aload_n hX dX6_readProxy_9 rfl ?_
    refine r_iconst (v := 1) hX dX6_readProxy_10 rfl ?_
    refine r_bipush (v := 9) hX dX6_readProxy_11 (by decide) ?_
    obtain ⟨r_5, I_6, h_7, hf⟩ := bd2_some hf
    refine r_callV (As := [.int ((1 : Int32)), .int ((9 : Int32))]) (ci := 6) hX (k_X6_passDigit (l := xl X) (J := J) hX.ok hk0 h_7) pk_X6_passDigit ml_X6_50 rfl rfl rfl rfl hk0 rfl rfl rfl (Nat.le_of_ble_eq_true rfl) dX6_readProxy_13 ?_
    refine r_if_ne (tgt := 21) hX dX6_readProxy_16 (by decide) (fun c_8 => ?_) (fun c_8 => ?_)
    · have hf := hf_t c_8 hf
      refine r_iconst (v := 0) hX dX6_readProxy_19 rfl ?_
      cases hf
      exact hret _ _ zb_0 dX6_readProxy_20
    · have hf := hf_f c_8 hf
      refine r_aload_n hX dX6_readProxy_21 rfl ?_
      refine g_6_4 hX fl_X6_29 hk0 dX6_readProxy_22 ?_
      obtain ⟨x_9, ex_9, hf⟩ := lt1_some hf
      refine V.topi ex_9 ?_
      refine r_istore_n hX dX6_readProxy_25 rfl rfl ?_
      refine r_aload_n hX dX6_readProxy_26 rfl ?_
      refine r_iconst (v := 1) hX dX6_readProxy_27 rfl ?_
      refine r_bipush (v := 9) hX dX6_readProxy_28 (by decide) ?_
      obtain ⟨r_10, I_11, h_12, hf⟩ := bd2_some hf
      refine r_callV (As := [.int ((1 : Int32)), .int ((9 : Int32))]) (ci := 6) hX (k_X6_passDigit (l := xl X) (J := J) hX.ok hk0 h_12) pk_X6_passDigit ml_X6_50 rfl rfl rfl rfl hk0 rfl rfl rfl (Nat.le_of_ble_eq_true rfl) dX6_readProxy_30 ?_
      refine r_if_ne (tgt := 38) hX dX6_readProxy_33 (by decide) (fun c_13 => ?_) (fun c_13 => ?_)
      · have hf := hf_t c_13 hf
        refine r_iconst (v := 0) hX dX6_readProxy_36 rfl ?_
        cases hf
        exact hret _ _ zb_0 dX6_readProxy_37
      · have hf := hf_f c_13 hf
        refine r_aload_n hX dX6_readProxy_38 rfl ?_
        refine g_6_1 hX fl_X6_18 hk0 dX6_readProxy_39 ?_
        refine r_iload_n hX dX6_readProxy_42 rfl ?_
        refine r_aload_n hX dX6_readProxy_43 rfl ?_
        refine g_6_4 hX fl_X6_29 hk0 dX6_readProxy_44 ?_
        obtain ⟨I_14, h_15, hf⟩ := bd1_some hf
        refine r_callV (As := [.int x_9, .int ((I_11 a0 4))]) (ci := 1) hX (k_X1_addProxy (l := xl X) (J := J) hX.ok ((q_7_1 hX hk0)) h_15) pk_X1_addProxy ml_X6_85 rfl rfl rfl rfl ((q_7_1 hX hk0)) rfl rfl rfl (Nat.le_of_ble_eq_true rfl) dX6_readProxy_47 ?_
        refine r_iconst (v := 1) hX dX6_readProxy_50 rfl ?_
        cases hf
        exact hret _ _ zb_1 dX6_readProxy_51
noncomputable def f_X7_isPage (x0 : Int32) : Option (Int32) := if x0 < 0 then some ((0 : Int32)) else if x0 < (32 : Int32) then some ((1 : Int32)) else some ((0 : Int32))
set_option maxHeartbeats 4000000 in
set_option maxRecDepth 100000 in
theorem k_X7_isPage {G : GX} {l : Launch} {I : HI} {J : HJ} {r : Int32} (hG : OKG G) {x0 : Int32}  (hf : f_X7_isPage x0 = some r) : Ctr G l yX7_isPage cX7_isPage 1 (some .boolean) 0 0 [.int x0] I J (some (.int r)) I J := by
  refine ctr_Zb hG (by decide) [some (.int x0)] rfl rfl fun X e1 e2 hX hret => ?_
  subst e1; subst e2
  unfold f_X7_isPage at hf
  refine r_iload_n hX dX7_isPage_0 rfl ?_
  refine r_if_lt (tgt := 14) hX dX7_isPage_1 (by decide) (fun c_1 => ?_) (fun c_1 => ?_)
  · have hf := hf_t c_1 hf
    refine r_iconst (v := 0) hX dX7_isPage_14 rfl ?_
    cases hf
    exact hret _ _ zb_0 dX7_isPage_15
  · have hf := hf_f c_1 hf
    refine r_iload_n hX dX7_isPage_4 rfl ?_
    refine r_bipush (v := 32) hX dX7_isPage_5 (by decide) ?_
    refine r_icmp_ge (tgt := 14) hX dX7_isPage_7 (by decide) (fun c_2 => ?_) (fun c_2 => ?_)
    · have hf := hf_t c_2 hf
      refine r_iconst (v := 1) hX dX7_isPage_10 rfl ?_
      refine r_goto (tgt := 15) hX dX7_isPage_11 (by decide) ?_
      cases hf
      exact hret _ _ zb_1 dX7_isPage_15
    · have hf := hf_f c_2 hf
      refine r_iconst (v := 0) hX dX7_isPage_14 rfl ?_
      cases hf
      exact hret _ _ zb_0 dX7_isPage_15
noncomputable def X6_mayBegin_J45 (I : HI) (a0 : Nat) (x1 : Int32) (x2 : Int32) (k17 : Int32 → Option (Int32)) : Option (Int32) := lt1 (x2 + (1 : Int32)) fun x_11 => k17 x_11
set_option maxHeartbeats 4000000 in
set_option maxRecDepth 100000 in
theorem vX6_mayBegin_45 {X : CX} {r : Int32} {I : HI} {J : HJ} (hX : OKX X cX6_mayBegin RX6 2 43 3) (hret : RetZ X cX6_mayBegin r I J) (a0 : Nat) (x1 : Int32) (x2 : Int32) (hk0 : gK (xG X) a0 = 5) (k17 : Int32 → Option (Int32)) (hc17 : ∀ (x2 : Int32), k17 x2 = some r → V X I J 17 [some (.ref a0), some (.int x1), some (.int x2)] []) (hf : X6_mayBegin_J45 I a0 x1 x2 k17 = some r) : V X I J 45 [some (.ref a0), some (.int x1), some (.int x2)] [] := by
  unfold X6_mayBegin_J45 at hf
  obtain ⟨x_11, ex_11, hf⟩ := lt1_some hf
  refine r_iincE (n' := 1) ex_11 hX dX6_mayBegin_45 rfl rfl rfl rfl ?_
  refine r_goto (tgt := 17) hX dX6_mayBegin_48 (by decide) ?_
  refine V.mask [true, true, true] ?_
  exact hc17 x_11 hf
noncomputable def X6_mayBegin_B17 (I : HI) (a0 : Nat) (x1 : Int32) (k17 : Int32 → Option (Int32)) (x2 : Int32) : Option (Int32) := if x2 < (((10 : Int32) * x1) + (10 : Int32)) then bd1 (f_X7_isPage x2) fun r_5 => if r_5 = 0 then X6_mayBegin_J45 I a0 x1 x2 k17 else bd1 (f_X4_has I a0 x2) fun r_8 => if r_8 = 0 then some ((1 : Int32)) else X6_mayBegin_J45 I a0 x1 x2 k17 else some ((0 : Int32))
set_option maxHeartbeats 4000000 in
set_option maxRecDepth 100000 in
theorem vX6_mayBegin_17 {X : CX} {r : Int32} {I : HI} {J : HJ} (hX : OKX X cX6_mayBegin RX6 2 43 3) (hret : RetZ X cX6_mayBegin r I J) (a0 : Nat) (x1 : Int32) (hk0 : gK (xG X) a0 = 5)   : ∀ (n : Nat) (x2 : Int32), wl1 (X6_mayBegin_B17 I a0 x1) n x2 = some r → V X I J 17 [some (.ref a0), some (.int x1), some (.int x2)] [] := by
  refine wl1_V (P := fun (x2 : Int32) => V X I J 17 [some (.ref a0), some (.int x1), some (.int x2)] []) ?_
  intro k17 hc17 x2 hf
  unfold X6_mayBegin_B17 at hf
  refine r_iload_n hX dX6_mayBegin_17 rfl ?_
  refine r_bipush (v := 10) hX dX6_mayBegin_18 (by decide) ?_
  refine r_iload_n hX dX6_mayBegin_20 rfl ?_
  refine r_imul hX dX6_mayBegin_21 ?_
  refine r_bipush (v := 10) hX dX6_mayBegin_22 (by decide) ?_
  refine r_iadd hX dX6_mayBegin_24 ?_
  refine r_icmp_ge (tgt := 51) hX dX6_mayBegin_25 (by decide) (fun c_4 => ?_) (fun c_4 => ?_)
  · have hf := hf_t c_4 hf
    refine r_iload_n hX dX6_mayBegin_28 rfl ?_
    obtain ⟨r_5, h_6, hf⟩ := bd1_some hf
    refine r_callSN (As := [.int x2]) hX (k_X7_isPage (l := xl X) (I := I) (J := J) hX.ok  h_6) pk_X7_isPage 5 rfl rfl rfl rfl (Nat.le_of_ble_eq_true rfl) dX6_mayBegin_29 ?_
    refine r_if_eq (tgt := 45) hX dX6_mayBegin_32 (by decide) (fun c_7 => ?_) (fun c_7 => ?_)
    · have hf := hf_t c_7 hf
      refine V.mask [true, true, true] ?_
      exact vX6_mayBegin_45 hX hret a0 x1 x2 hk0 k17 hc17 hf
    · have hf := hf_f c_7 hf
      refine r_aload_n hX dX6_mayBegin_35 rfl ?_
      refine r_iload_n hX dX6_mayBegin_36 rfl ?_
      obtain ⟨r_8, h_9, hf⟩ := bd1_some hf
      refine r_callV (As := [.int x2]) (ci := 4) hX (k_X4_has (l := xl X) (J := J) hX.ok hk0 h_9) pk_X4_has ml_X6_104 rfl rfl rfl rfl hk0 rfl rfl rfl (Nat.le_of_ble_eq_true rfl) dX6_mayBegin_37 ?_
      refine r_if_ne (tgt := 45) hX dX6_mayBegin_40 (by decide) (fun c_10 => ?_) (fun c_10 => ?_)
      · have hf := hf_t c_10 hf
        refine r_iconst (v := 1) hX dX6_mayBegin_43 rfl ?_
        cases hf
        exact hret _ _ zb_1 dX6_mayBegin_44
      · have hf := hf_f c_10 hf
        refine V.mask [true, true, true] ?_
        exact vX6_mayBegin_45 hX hret a0 x1 x2 hk0 k17 hc17 hf
  · have hf := hf_f c_4 hf
    refine r_iconst (v := 0) hX dX6_mayBegin_51 rfl ?_
    cases hf
    exact hret _ _ zb_0 dX6_mayBegin_52
noncomputable def f_X6_mayBegin (I : HI) (a0 : Nat) (x1 : Int32) : Option (Int32) := if x1 < 0 then some ((0 : Int32)) else if (9 : Int32) < x1 then some ((0 : Int32)) else lt1 (((10 : Int32) * x1)) fun x_3 => wl1 (X6_mayBegin_B17 I a0 x1) 5000 x_3
set_option maxHeartbeats 4000000 in
set_option maxRecDepth 100000 in
theorem k_X6_mayBegin {G : GX} {l : Launch} {I : HI} {J : HJ} {r : Int32} (hG : OKG G) {a0 : Nat} {x1 : Int32} (hk0 : gK G a0 = 5) (hf : f_X6_mayBegin I a0 x1 = some r) : Ctr G l yX6_mayBegin cX6_mayBegin 3 (some .boolean) 2 43 [.ref a0, .int x1] I J (some (.int r)) I J := by
  refine ctr_Zb hG (by decide) [some (.ref a0), some (.int x1), none] rfl rfl fun X e1 e2 hX hret => ?_
  subst e1; subst e2
  unfold f_X6_mayBegin at hf
  refine r_iload_n hX dX6_mayBegin_0 rfl ?_
  refine r_if_lt (tgt := 10) hX dX6_mayBegin_1 (by decide) (fun c_1 => ?_) (fun c_1 => ?_)
  · have hf := hf_t c_1 hf
    refine r_iconst (v := 0) hX dX6_mayBegin_10 rfl ?_
    cases hf
    exact hret _ _ zb_0 dX6_mayBegin_11
  · have hf := hf_f c_1 hf
    refine r_iload_n hX dX6_mayBegin_4 rfl ?_
    refine r_bipush (v := 9) hX dX6_mayBegin_5 (by decide) ?_
    refine r_icmp_le (tgt := 12) hX dX6_mayBegin_7 (by decide) (fun c_2 => ?_) (fun c_2 => ?_)
    · have hf := hf_t c_2 hf
      refine r_iconst (v := 0) hX dX6_mayBegin_10 rfl ?_
      cases hf
      exact hret _ _ zb_0 dX6_mayBegin_11
    · have hf := hf_f c_2 hf
      refine r_bipush (v := 10) hX dX6_mayBegin_12 (by decide) ?_
      refine r_iload_n hX dX6_mayBegin_14 rfl ?_
      refine r_imul hX dX6_mayBegin_15 ?_
      obtain ⟨x_3, ex_3, hf⟩ := lt1_some hf
      refine V.topi ex_3 ?_
      refine r_istore_n hX dX6_mayBegin_16 rfl rfl ?_
      refine V.mask [true, true, true] ?_
      exact vX6_mayBegin_17 hX hret a0 x1 hk0 5000 x_3 hf
noncomputable def f_X6_readShelved (I : HI) (a0 : Nat) : Option (Int32 × HI) := bd2 (f_X6_pass I a0 ((115 : Int32))) fun r_1 I_2 => if r_1 = 0 then some ((0 : Int32), I_2) else bd1 (f_X6_letter I_2 a0) fun r_5 => bd1 (f_X1_proxyAt I_2 ((a0 + 1)) ((r_5 - (48 : Int32)))) fun r_7 => mN r_7 (some ((0 : Int32), I_2)) (fun a_9 => bd1 (f_X4_hasRoom I_2 a_9) fun r_11 => if r_11 = 0 then some ((0 : Int32), I_2) else lt1 (sI I_2 a0 3 (((I_2 a0 3) + (1 : Int32)))) fun I_14 => bd1 (f_X6_letter I_14 a0) fun r_15 => lt1 ((r_15 - (48 : Int32))) fun x_17 => bd1 (f_X6_mayBegin I_14 a_9 x_17) fun r_18 => if r_18 = 0 then some ((0 : Int32), I_14) else lt1 (sI I_14 a0 3 (((I_14 a0 3) + (1 : Int32)))) fun I_21 => bd1 (f_X6_letter I_21 a0) fun r_22 => lt1 (((((10 : Int32) * x_17) + r_22) - (48 : Int32))) fun x_24 => bd1 (f_X7_isPage x_24) fun r_25 => if r_25 = 0 then some ((0 : Int32), I_21) else bd1 (f_X4_has I_21 a_9 x_24) fun r_28 => if r_28 = 0 then bd2 (f_X6_passDigit I_21 a0 ((0 : Int32)) ((9 : Int32))) fun r_31 I_32 => if r_31 = 0 then some ((0 : Int32), I_32) else bd1 (f_X4_addOldest I_32 a_9 x_24) fun I_35 => some ((1 : Int32), I_35) else some ((0 : Int32), I_21))
set_option maxHeartbeats 4000000 in
set_option maxRecDepth 100000 in
theorem k_X6_readShelved {G : GX} {l : Launch} {I : HI} {J : HJ} {I' : HI} {r : Int32} (hG : OKG G) {a0 : Nat} (hk0 : gK G a0 = 7) (hf : f_X6_readShelved I a0 = some (r, I')) : Ctr G l yX6_readShelved cX6_readShelved 4 (some .boolean) 3 65 [.ref a0] I J (some (.int r)) I' J := by
  refine ctr_Zb hG (by decide) [some (.ref a0), none, none, none] rfl rfl fun X e1 e2 hX hret => ?_
  subst e1; subst e2
  unfold f_X6_readShelved at hf
  refine r_aload_n hX dX6_readShelved_0 rfl ?_
  refine r_bipush (v := 115) hX dX6_readShelved_1 (by decide) ?_
  obtain ⟨r_1, I_2, h_3, hf⟩ := bd2_some hf
  refine r_callV (As := [.int ((115 : Int32))]) (ci := 6) hX (k_X6_pass (l := xl X) (J := J) hX.ok hk0 h_3) pk_X6_pass ml_X6_46 rfl rfl rfl rfl hk0 rfl rfl rfl (Nat.le_of_ble_eq_true rfl) dX6_readShelved_3 ?_
  refine r_if_ne (tgt := 11) hX dX6_readShelved_6 (by decide) (fun c_4 => ?_) (fun c_4 => ?_)
  · have hf := hf_t c_4 hf
    refine r_iconst (v := 0) hX dX6_readShelved_9 rfl ?_
    cases hf
    exact hret _ _ zb_0 dX6_readShelved_10
  · have hf := hf_f c_4 hf
    refine r_aload_n hX dX6_readShelved_11 rfl ?_
    refine g_6_1 hX fl_X6_18 hk0 dX6_readShelved_12 ?_
    refine r_aload_n hX dX6_readShelved_15 rfl ?_
    obtain ⟨r_5, h_6, hf⟩ := bd1_some hf
    refine r_callV (As := []) (ci := 6) hX (k_X6_letter (l := xl X) (J := J) hX.ok hk0 h_6) pk_X6_letter ml_X6_42 rfl rfl rfl rfl hk0 rfl rfl rfl (Nat.le_of_ble_eq_true rfl) dX6_readShelved_16 ?_
    refine r_bipush (v := 48) hX dX6_readShelved_19 (by decide) ?_
    refine r_isub hX dX6_readShelved_21 ?_
    obtain ⟨r_7, h_8, hf⟩ := bd1_some hf
    refine r_callV (As := [.int ((r_5 - (48 : Int32)))]) (ci := 1) hX (k_X1_proxyAt (l := xl X) (J := J) hX.ok ((q_7_1 hX hk0)) h_8) pk_X1_proxyAt ml_X6_88 rfl rfl rfl rfl ((q_7_1 hX hk0)) rfl rfl rfl (Nat.le_of_ble_eq_true rfl) dX6_readShelved_22 ?_
    cases r_7 with
    | none =>
      have hf := mN_n hf
      refine r_astore_nN hX dX6_readShelved_25 rfl rfl ?_
      refine r_aload_nN hX dX6_readShelved_26 rfl ?_
      refine r_ifnull_n (tgt := 37) hX dX6_readShelved_27 (by decide) ?_
      refine r_iconst (v := 0) hX dX6_readShelved_37 rfl ?_
      cases hf
      exact hret _ _ zb_0 dX6_readShelved_38
    | some a_9 =>
      have hf := mN_s hf
      have hk_10 := kt_X1_proxyAt hX.ok ((q_7_1 hX hk0)) h_8
      refine r_astore_n hX dX6_readShelved_25 rfl rfl ?_
      refine r_aload_n hX dX6_readShelved_26 rfl ?_
      refine r_ifnull_r hX dX6_readShelved_27 ?_
      refine r_aload_n hX dX6_readShelved_30 rfl ?_
      obtain ⟨r_11, h_12, hf⟩ := bd1_some hf
      refine r_callV (As := []) (ci := 4) hX (k_X4_hasRoom (l := xl X) (J := J) hX.ok hk_10 h_12) pk_X4_hasRoom ml_X6_92 rfl rfl rfl rfl hk_10 rfl rfl rfl (Nat.le_of_ble_eq_true rfl) dX6_readShelved_31 ?_
      refine r_if_ne (tgt := 39) hX dX6_readShelved_34 (by decide) (fun c_13 => ?_) (fun c_13 => ?_)
      · have hf := hf_t c_13 hf
        refine r_iconst (v := 0) hX dX6_readShelved_37 rfl ?_
        cases hf
        exact hret _ _ zb_0 dX6_readShelved_38
      · have hf := hf_f c_13 hf
        refine r_aload_n hX dX6_readShelved_39 rfl ?_
        refine r_dup hX dX6_readShelved_40 rfl ?_
        refine g_6_3 hX fl_X6_26 hk0 dX6_readShelved_41 ?_
        refine r_iconst (v := 1) hX dX6_readShelved_44 rfl ?_
        refine r_iadd hX dX6_readShelved_45 ?_
        obtain ⟨I_14, eI_14, hf⟩ := lt1_some hf
        refine p_6_3 eI_14 hX fl_X6_26 hk0 dX6_readShelved_46 ?_
        refine r_aload_n hX dX6_readShelved_49 rfl ?_
        obtain ⟨r_15, h_16, hf⟩ := bd1_some hf
        refine r_callV (As := []) (ci := 6) hX (k_X6_letter (l := xl X) (J := J) hX.ok hk0 h_16) pk_X6_letter ml_X6_42 rfl rfl rfl rfl hk0 rfl rfl rfl (Nat.le_of_ble_eq_true rfl) dX6_readShelved_50 ?_
        refine r_bipush (v := 48) hX dX6_readShelved_53 (by decide) ?_
        refine r_isub hX dX6_readShelved_55 ?_
        obtain ⟨x_17, ex_17, hf⟩ := lt1_some hf
        refine V.topi ex_17 ?_
        refine r_istore_n hX dX6_readShelved_56 rfl rfl ?_
        refine r_aload_n hX dX6_readShelved_57 rfl ?_
        refine r_iload_n hX dX6_readShelved_58 rfl ?_
        obtain ⟨r_18, h_19, hf⟩ := bd1_some hf
        refine r_callS (As := [.ref a_9, .int x_17]) hX (k_X6_mayBegin (l := xl X) (J := J) hX.ok hk_10 h_19) pk_X6_mayBegin ml_X6_97 rfl rfl rfl (Nat.le_of_ble_eq_true rfl) dX6_readShelved_59 ?_
        refine r_if_ne (tgt := 67) hX dX6_readShelved_62 (by decide) (fun c_20 => ?_) (fun c_20 => ?_)
        · have hf := hf_t c_20 hf
          refine r_iconst (v := 0) hX dX6_readShelved_65 rfl ?_
          cases hf
          exact hret _ _ zb_0 dX6_readShelved_66
        · have hf := hf_f c_20 hf
          refine r_aload_n hX dX6_readShelved_67 rfl ?_
          refine r_dup hX dX6_readShelved_68 rfl ?_
          refine g_6_3 hX fl_X6_26 hk0 dX6_readShelved_69 ?_
          refine r_iconst (v := 1) hX dX6_readShelved_72 rfl ?_
          refine r_iadd hX dX6_readShelved_73 ?_
          obtain ⟨I_21, eI_21, hf⟩ := lt1_some hf
          refine p_6_3 eI_21 hX fl_X6_26 hk0 dX6_readShelved_74 ?_
          refine r_bipush (v := 10) hX dX6_readShelved_77 (by decide) ?_
          refine r_iload_n hX dX6_readShelved_79 rfl ?_
          refine r_imul hX dX6_readShelved_80 ?_
          refine r_aload_n hX dX6_readShelved_81 rfl ?_
          obtain ⟨r_22, h_23, hf⟩ := bd1_some hf
          refine r_callV (As := []) (ci := 6) hX (k_X6_letter (l := xl X) (J := J) hX.ok hk0 h_23) pk_X6_letter ml_X6_42 rfl rfl rfl rfl hk0 rfl rfl rfl (Nat.le_of_ble_eq_true rfl) dX6_readShelved_82 ?_
          refine r_iadd hX dX6_readShelved_85 ?_
          refine r_bipush (v := 48) hX dX6_readShelved_86 (by decide) ?_
          refine r_isub hX dX6_readShelved_88 ?_
          obtain ⟨x_24, ex_24, hf⟩ := lt1_some hf
          refine V.topi ex_24 ?_
          refine r_istore_n hX dX6_readShelved_89 rfl rfl ?_
          refine r_iload_n hX dX6_readShelved_90 rfl ?_
          obtain ⟨r_25, h_26, hf⟩ := bd1_some hf
          refine r_callSN (As := [.int x_24]) hX (k_X7_isPage (l := xl X) (I := I_21) (J := J) hX.ok  h_26) pk_X7_isPage 5 rfl rfl rfl rfl (Nat.le_of_ble_eq_true rfl) dX6_readShelved_91 ?_
          refine r_if_eq (tgt := 115) hX dX6_readShelved_94 (by decide) (fun c_27 => ?_) (fun c_27 => ?_)
          · have hf := hf_t c_27 hf
            refine r_iconst (v := 0) hX dX6_readShelved_115 rfl ?_
            cases hf
            exact hret _ _ zb_0 dX6_readShelved_116
          · have hf := hf_f c_27 hf
            refine r_aload_n hX dX6_readShelved_97 rfl ?_
            refine r_iload_n hX dX6_readShelved_98 rfl ?_
            obtain ⟨r_28, h_29, hf⟩ := bd1_some hf
            refine r_callV (As := [.int x_24]) (ci := 4) hX (k_X4_has (l := xl X) (J := J) hX.ok hk_10 h_29) pk_X4_has ml_X6_104 rfl rfl rfl rfl hk_10 rfl rfl rfl (Nat.le_of_ble_eq_true rfl) dX6_readShelved_99 ?_
            refine r_if_ne (tgt := 115) hX dX6_readShelved_102 (by decide) (fun c_30 => ?_) (fun c_30 => ?_)
            · have hf := hf_t c_30 hf
              refine r_aload_n hX dX6_readShelved_105 rfl ?_
              refine r_iconst (v := 0) hX dX6_readShelved_106 rfl ?_
              refine r_bipush (v := 9) hX dX6_readShelved_107 (by decide) ?_
              obtain ⟨r_31, I_32, h_33, hf⟩ := bd2_some hf
              refine r_callV (As := [.int ((0 : Int32)), .int ((9 : Int32))]) (ci := 6) hX (k_X6_passDigit (l := xl X) (J := J) hX.ok hk0 h_33) pk_X6_passDigit ml_X6_50 rfl rfl rfl rfl hk0 rfl rfl rfl (Nat.le_of_ble_eq_true rfl) dX6_readShelved_109 ?_
              refine r_if_ne (tgt := 117) hX dX6_readShelved_112 (by decide) (fun c_34 => ?_) (fun c_34 => ?_)
              · have hf := hf_t c_34 hf
                refine r_iconst (v := 0) hX dX6_readShelved_115 rfl ?_
                cases hf
                exact hret _ _ zb_0 dX6_readShelved_116
              · have hf := hf_f c_34 hf
                refine r_aload_n hX dX6_readShelved_117 rfl ?_
                refine r_iload_n hX dX6_readShelved_118 rfl ?_
                obtain ⟨I_35, h_36, hf⟩ := bd1_some hf
                refine r_callV (As := [.int x_24]) (ci := 4) hX (k_X4_addOldest (l := xl X) (J := J) hX.ok hk_10 h_36) pk_X4_addOldest ml_X6_107 rfl rfl rfl rfl hk_10 rfl rfl rfl (Nat.le_of_ble_eq_true rfl) dX6_readShelved_119 ?_
                refine r_iconst (v := 1) hX dX6_readShelved_122 rfl ?_
                cases hf
                exact hret _ _ zb_1 dX6_readShelved_123
            · have hf := hf_f c_30 hf
              refine r_iconst (v := 0) hX dX6_readShelved_115 rfl ?_
              cases hf
              exact hret _ _ zb_0 dX6_readShelved_116

noncomputable def X8_again_B31 (a0 : Nat) (x1 : Int32) (k31 : HI → Int32 → Option (Int32 × HI)) (I : HI) (x2 : Int32) : Option (Int32 × HI) := if x2 < (121 : Int32) then gd (vp_in ((((121 : Int32) * x1) + x2)) 242) (gd (vp_in x2 121) (lt1 (sI I ((a0 + 9)) x2.toNatClampNeg ((I ((a0 + 12)) ((((121 : Int32) * x1) + x2)).toNatClampNeg))) fun I_10 => lt1 (x2 + (1 : Int32)) fun x_11 => k31 I_10 x_11)) else lt1 (sI I a0 22 ((0 : Int32))) fun I_12 => some ((I_12 a0 9), I_12)
set_option maxHeartbeats 4000000 in
set_option maxRecDepth 100000 in
theorem vX8_again_31 {X : CX} {I' : HI} {r : Int32} {J : HJ} (hX : OKX X cX8_again RX8 1 25 3) (hret : RetI X cX8_again r I' J) (a0 : Nat) (x1 : Int32) (hk0 : gK (xG X) a0 = 9)   : ∀ (n : Nat) (I : HI) (x2 : Int32), wl2 (X8_again_B31 a0 x1) n I x2 = some (r, I') → V X I J 31 [some (.ref a0), some (.int x1), some (.int x2)] [] := by
  refine wl2_V (P := fun (I : HI) (x2 : Int32) => V X I J 31 [some (.ref a0), some (.int x1), some (.int x2)] []) ?_
  intro k31 hc31 I x2 hf
  unfold X8_again_B31 at hf
  refine r_iload_n hX dX8_again_31 rfl ?_
  refine r_bipush (v := 121) hX dX8_again_32 (by decide) ?_
  refine r_icmp_ge (tgt := 60) hX dX8_again_34 (by decide) (fun c_7 => ?_) (fun c_7 => ?_)
  · have hf := hf_t c_7 hf
    refine r_aload_n hX dX8_again_37 rfl ?_
    refine g_8_19 hX fl_X8_44 hk0 dX8_again_38 ?_
    refine r_iload_n hX dX8_again_41 rfl ?_
    refine r_aload_n hX dX8_again_42 rfl ?_
    refine g_8_23 hX fl_X8_53 hk0 dX8_again_43 ?_
    refine r_bipush (v := 121) hX dX8_again_46 (by decide) ?_
    refine r_iload_n hX dX8_again_48 rfl ?_
    refine r_imul hX dX8_again_49 ?_
    refine r_iload_n hX dX8_again_50 rfl ?_
    refine r_iadd hX dX8_again_51 ?_
    obtain ⟨g_8, hf⟩ := gd_some hf
    refine r_iald (n := 242) hX rfl ((q_9_23 hX hk0)) g_8 dX8_again_52 ?_
    obtain ⟨g_9, hf⟩ := gd_some hf
    obtain ⟨I_10, eI_10, hf⟩ := lt1_some hf
    refine r_iastE (n := 121) eI_10 hX rfl ((q_9_19 hX hk0)) g_9 dX8_again_53 ?_
    obtain ⟨x_11, ex_11, hf⟩ := lt1_some hf
    refine r_iincE (n' := 1) ex_11 hX dX8_again_54 rfl rfl rfl rfl ?_
    refine r_goto (tgt := 31) hX dX8_again_57 (by decide) ?_
    refine V.mask [true, true, true] ?_
    exact hc31 I_10 x_11 hf
  · have hf := hf_f c_7 hf
    refine r_aload_n hX dX8_again_60 rfl ?_
    refine r_iconst (v := 0) hX dX8_again_61 rfl ?_
    obtain ⟨I_12, eI_12, hf⟩ := lt1_some hf
    refine p_8_22 eI_12 hX fl_X8_159 hk0 dX8_again_62 ?_
    refine r_aload_n hX dX8_again_65 rfl ?_
    refine g_8_9 hX fl_X8_78 hk0 dX8_again_66 ?_
    cases hf
    exact hret _ _ dX8_again_69
noncomputable def f_X8_again (I : HI) (a0 : Nat) (x1 : Int32) : Option (Int32 × HI) := lt1 (sI I a0 0 ((0 : Int32))) fun I_1 => bd1 (f_X8_in x1.toInt64 ((0 : Int64)) ((1 : Int64))) fun r_2 => if r_2 = 0 then some ((-1 : Int32), I_1) else gd (vp_in x1 2) (if (I_1 ((a0 + 13)) x1.toNatClampNeg) = 0 then some ((-3 : Int32), I_1) else wl2 (X8_again_B31 a0 x1) 5000 I_1 ((0 : Int32)))
set_option maxHeartbeats 4000000 in
set_option maxRecDepth 100000 in
theorem k_X8_again {G : GX} {l : Launch} {I : HI} {J : HJ} {I' : HI} {r : Int32} (hG : OKG G) {a0 : Nat} {x1 : Int32} (hk0 : gK G a0 = 9) (hf : f_X8_again I a0 x1 = some (r, I')) : Ctr G l yX8_again cX8_again 3 (some .int) 1 25 [.ref a0, .int x1] I J (some (.int r)) I' J := by
  refine ctr_I hG (by decide) [some (.ref a0), some (.int x1), none] rfl rfl fun X e1 e2 hX hret => ?_
  subst e1; subst e2
  unfold f_X8_again at hf
  refine r_aload_n hX dX8_again_0 rfl ?_
  refine r_iconst (v := 0) hX dX8_again_1 rfl ?_
  obtain ⟨I_1, eI_1, hf⟩ := lt1_some hf
  refine p_8_0 eI_1 hX fl_X8_75 hk0 dX8_again_2 ?_
  refine r_iload_n hX dX8_again_5 rfl ?_
  refine r_i2l hX dX8_again_6 ?_
  refine r_lconst (v := 0) hX dX8_again_7 rfl ?_
  refine r_lconst (v := 1) hX dX8_again_8 rfl ?_
  obtain ⟨r_2, h_3, hf⟩ := bd1_some hf
  refine r_callS (As := [.long x1.toInt64, .long ((0 : Int64)), .long ((1 : Int64))]) hX (k_X8_in (l := xl X) (I := I_1) (J := J) hX.ok  h_3) pk_X8_in ml_X8_81 rfl rfl rfl (Nat.le_of_ble_eq_true rfl) dX8_again_9 ?_
  refine r_if_ne (tgt := 17) hX dX8_again_12 (by decide) (fun c_4 => ?_) (fun c_4 => ?_)
  · have hf := hf_t c_4 hf
    refine r_iconst (v := -1) hX dX8_again_15 rfl ?_
    cases hf
    exact hret _ _ dX8_again_16
  · have hf := hf_f c_4 hf
    refine r_aload_n hX dX8_again_17 rfl ?_
    refine g_8_24 hX fl_X8_56 hk0 dX8_again_18 ?_
    refine r_iload_n hX dX8_again_21 rfl ?_
    obtain ⟨g_5, hf⟩ := gd_some hf
    refine r_zald (n := 2) hX rfl rfl ((q_9_24 hX hk0)) g_5 dX8_again_22 ?_
    refine r_if_ne (tgt := 29) hX dX8_again_23 (by decide) (fun c_6 => ?_) (fun c_6 => ?_)
    · have hf := hf_t c_6 hf
      refine r_bipush (v := -3) hX dX8_again_26 (by decide) ?_
      cases hf
      exact hret _ _ dX8_again_28
    · have hf := hf_f c_6 hf
      refine r_iconst (v := 0) hX dX8_again_29 rfl ?_
      refine r_istore_n hX dX8_again_30 rfl rfl ?_
      refine V.mask [true, true, true] ?_
      exact vX8_again_31 hX hret a0 x1 hk0 5000 I_1 ((0 : Int32)) hf
noncomputable def X8_onShelves_B4 (I : HI) (a0 : Nat) (k4 : Int32 → Int32 → Option (Int32)) (x1 : Int32) (x2 : Int32) : Option (Int32) := if x2 < (I a0 9) then gd (vp_in ((((29 : Int32) * x2) + (9 : Int32))) 121) (lt1 ((x1 + (I ((a0 + 9)) ((((29 : Int32) * x2) + (9 : Int32))).toNatClampNeg))) fun x_3 => lt1 (x2 + (1 : Int32)) fun x_4 => k4 x_3 x_4) else some x1
set_option maxHeartbeats 4000000 in
set_option maxRecDepth 100000 in
theorem vX8_onShelves_4 {X : CX} {r : Int32} {I : HI} {J : HJ} (hX : OKX X cX8_onShelves RX8 0 0 3) (hret : RetI X cX8_onShelves r I J) (a0 : Nat) (hk0 : gK (xG X) a0 = 9)   : ∀ (n : Nat) (x1 : Int32) (x2 : Int32), wl2 (X8_onShelves_B4 I a0) n x1 x2 = some r → V X I J 4 [some (.ref a0), some (.int x1), some (.int x2)] [] := by
  refine wl2_V (P := fun (x1 : Int32) (x2 : Int32) => V X I J 4 [some (.ref a0), some (.int x1), some (.int x2)] []) ?_
  intro k4 hc4 x1 x2 hf
  unfold X8_onShelves_B4 at hf
  refine r_iload_n hX dX8_onShelves_4 rfl ?_
  refine r_aload_n hX dX8_onShelves_5 rfl ?_
  refine g_8_9 hX fl_X8_78 hk0 dX8_onShelves_6 ?_
  refine r_icmp_ge (tgt := 33) hX dX8_onShelves_9 (by decide) (fun c_1 => ?_) (fun c_1 => ?_)
  · have hf := hf_t c_1 hf
    refine r_iload_n hX dX8_onShelves_12 rfl ?_
    refine r_aload_n hX dX8_onShelves_13 rfl ?_
    refine g_8_19 hX fl_X8_44 hk0 dX8_onShelves_14 ?_
    refine r_bipush (v := 29) hX dX8_onShelves_17 (by decide) ?_
    refine r_iload_n hX dX8_onShelves_19 rfl ?_
    refine r_imul hX dX8_onShelves_20 ?_
    refine r_bipush (v := 9) hX dX8_onShelves_21 (by decide) ?_
    refine r_iadd hX dX8_onShelves_23 ?_
    obtain ⟨g_2, hf⟩ := gd_some hf
    refine r_iald (n := 121) hX rfl ((q_9_19 hX hk0)) g_2 dX8_onShelves_24 ?_
    refine r_iadd hX dX8_onShelves_25 ?_
    obtain ⟨x_3, ex_3, hf⟩ := lt1_some hf
    refine V.topi ex_3 ?_
    refine r_istore_n hX dX8_onShelves_26 rfl rfl ?_
    obtain ⟨x_4, ex_4, hf⟩ := lt1_some hf
    refine r_iincE (n' := 1) ex_4 hX dX8_onShelves_27 rfl rfl rfl rfl ?_
    refine r_goto (tgt := 4) hX dX8_onShelves_30 (by decide) ?_
    refine V.mask [true, true, true] ?_
    exact hc4 x_3 x_4 hf
  · have hf := hf_f c_1 hf
    refine r_iload_n hX dX8_onShelves_33 rfl ?_
    cases hf
    exact hret _ _ dX8_onShelves_34
noncomputable def f_X8_onShelves (I : HI) (a0 : Nat) : Option (Int32) := wl2 (X8_onShelves_B4 I a0) 5000 ((0 : Int32)) ((0 : Int32))
set_option maxHeartbeats 4000000 in
set_option maxRecDepth 100000 in
theorem k_X8_onShelves {G : GX} {l : Launch} {I : HI} {J : HJ} {r : Int32} (hG : OKG G) {a0 : Nat} (hk0 : gK G a0 = 9) (hf : f_X8_onShelves I a0 = some r) : Ctr G l yX8_onShelves cX8_onShelves 3 (some .int) 0 0 [.ref a0] I J (some (.int r)) I J := by
  refine ctr_I hG (by decide) [some (.ref a0), none, none] rfl rfl fun X e1 e2 hX hret => ?_
  subst e1; subst e2
  unfold f_X8_onShelves at hf
  refine r_iconst (v := 0) hX dX8_onShelves_0 rfl ?_
  refine r_istore_n hX dX8_onShelves_1 rfl rfl ?_
  refine r_iconst (v := 0) hX dX8_onShelves_2 rfl ?_
  refine r_istore_n hX dX8_onShelves_3 rfl rfl ?_
  refine V.mask [true, true, true] ?_
  exact vX8_onShelves_4 hX hret a0 hk0 5000 ((0 : Int32)) ((0 : Int32)) hf
noncomputable def X8_count_J105 (I : HI) (a0 : Nat) (x1 : Int32) : Option (Int32 × HI) := gd (vp_in ((((117 : Int32) + x1) - (6 : Int32))) 121) (some ((I ((a0 + 9)) ((((117 : Int32) + x1) - (6 : Int32))).toNatClampNeg), I))
set_option maxHeartbeats 4000000 in
set_option maxRecDepth 100000 in
theorem vX8_count_105 {X : CX} {I' : HI} {r : Int32} {I : HI} {J : HJ} (hX : OKX X cX8_count RX8 1 22 2) (hret : RetI X cX8_count r I' J) (a0 : Nat) (x1 : Int32) (hk0 : gK (xG X) a0 = 9)   (hf : X8_count_J105 I a0 x1 = some (r, I')) : V X I J 105 [some (.ref a0), some (.int x1)] [] := by
  unfold X8_count_J105 at hf
  refine r_aload_n hX dX8_count_105 rfl ?_
  refine g_8_19 hX fl_X8_44 hk0 dX8_count_106 ?_
  refine r_bipush (v := 117) hX dX8_count_109 (by decide) ?_
  refine r_iload_n hX dX8_count_111 rfl ?_
  refine r_iadd hX dX8_count_112 ?_
  refine r_bipush (v := 6) hX dX8_count_113 (by decide) ?_
  refine r_isub hX dX8_count_115 ?_
  obtain ⟨g_18, hf⟩ := gd_some hf
  refine r_iald (n := 121) hX rfl ((q_9_19 hX hk0)) g_18 dX8_count_116 ?_
  cases hf
  exact hret _ _ dX8_count_117
noncomputable def f_X8_count (I : HI) (a0 : Nat) (x1 : Int32) : Option (Int32 × HI) := lt1 (sI I a0 0 ((0 : Int32))) fun I_1 => if x1 = 0 then some ((I_1 a0 2), I_1) else if x1 = 1 then some ((I_1 a0 9), I_1) else if x1 = 2 then some ((I_1 a0 6), I_1) else if x1 = 3 then some ((I_1 a0 4), I_1) else if x1 = 4 then some ((I_1 a0 5), I_1) else if x1 = 5 then gd (vp_in ((116 : Int32)) 121) (some ((I_1 ((a0 + 9)) ((116 : Int32)).toNatClampNeg), I_1)) else if x1 = 6 then X8_count_J105 I_1 a0 x1 else if x1 = 7 then X8_count_J105 I_1 a0 x1 else if x1 = 8 then X8_count_J105 I_1 a0 x1 else if x1 = 9 then X8_count_J105 I_1 a0 x1 else if x1 = 10 then bd1 (f_X8_onShelves I_1 a0) fun r_14 => some (r_14, I_1) else if x1 = 11 then some ((I_1 a0 22), I_1) else if x1 = 12 then some ((I_1 a0 25), I_1) else some ((-2 : Int32), I_1)
set_option maxHeartbeats 4000000 in
set_option maxRecDepth 100000 in
theorem k_X8_count {G : GX} {l : Launch} {I : HI} {J : HJ} {I' : HI} {r : Int32} (hG : OKG G) {a0 : Nat} {x1 : Int32} (hk0 : gK G a0 = 9) (hf : f_X8_count I a0 x1 = some (r, I')) : Ctr G l yX8_count cX8_count 2 (some .int) 1 22 [.ref a0, .int x1] I J (some (.int r)) I' J := by
  refine ctr_I hG (by decide) [some (.ref a0), some (.int x1)] rfl rfl fun X e1 e2 hX hret => ?_
  subst e1; subst e2
  unfold f_X8_count at hf
  refine r_aload_n hX dX8_count_0 rfl ?_
  refine r_iconst (v := 0) hX dX8_count_1 rfl ?_
  obtain ⟨I_1, eI_1, hf⟩ := lt1_some hf
  refine p_8_0 eI_1 hX fl_X8_75 hk0 dX8_count_2 ?_
  refine r_iload_n hX dX8_count_5 rfl ?_
  by_cases c_2 : x1 = 0
  · have hf := hf_t c_2 hf
    refine r_tsw (off := 66) (tgt := 72) hX 0 dX8_count_6 c_2 (by decide) (by decide) (by decide) (by decide) ?_
    refine r_aload_n hX dX8_count_72 rfl ?_
    refine g_8_2 hX fl_X8_89 hk0 dX8_count_73 ?_
    cases hf
    exact hret _ _ dX8_count_76
  have hf := hf_f c_2 hf
  by_cases c_3 : x1 = 1
  · have hf := hf_t c_3 hf
    refine r_tsw (off := 71) (tgt := 77) hX 1 dX8_count_6 c_3 (by decide) (by decide) (by decide) (by decide) ?_
    refine r_aload_n hX dX8_count_77 rfl ?_
    refine g_8_9 hX fl_X8_78 hk0 dX8_count_78 ?_
    cases hf
    exact hret _ _ dX8_count_81
  have hf := hf_f c_3 hf
  by_cases c_4 : x1 = 2
  · have hf := hf_t c_4 hf
    refine r_tsw (off := 76) (tgt := 82) hX 2 dX8_count_6 c_4 (by decide) (by decide) (by decide) (by decide) ?_
    refine r_aload_n hX dX8_count_82 rfl ?_
    refine g_8_6 hX fl_X8_20 hk0 dX8_count_83 ?_
    cases hf
    exact hret _ _ dX8_count_86
  have hf := hf_f c_4 hf
  by_cases c_5 : x1 = 3
  · have hf := hf_t c_5 hf
    refine r_tsw (off := 81) (tgt := 87) hX 3 dX8_count_6 c_5 (by decide) (by decide) (by decide) (by decide) ?_
    refine r_aload_n hX dX8_count_87 rfl ?_
    refine g_8_4 hX fl_X8_13 hk0 dX8_count_88 ?_
    cases hf
    exact hret _ _ dX8_count_91
  have hf := hf_f c_5 hf
  by_cases c_6 : x1 = 4
  · have hf := hf_t c_6 hf
    refine r_tsw (off := 86) (tgt := 92) hX 4 dX8_count_6 c_6 (by decide) (by decide) (by decide) (by decide) ?_
    refine r_aload_n hX dX8_count_92 rfl ?_
    refine g_8_5 hX fl_X8_17 hk0 dX8_count_93 ?_
    cases hf
    exact hret _ _ dX8_count_96
  have hf := hf_f c_6 hf
  by_cases c_7 : x1 = 5
  · have hf := hf_t c_7 hf
    refine r_tsw (off := 91) (tgt := 97) hX 5 dX8_count_6 c_7 (by decide) (by decide) (by decide) (by decide) ?_
    refine r_aload_n hX dX8_count_97 rfl ?_
    refine g_8_19 hX fl_X8_44 hk0 dX8_count_98 ?_
    refine r_bipush (v := 116) hX dX8_count_101 (by decide) ?_
    obtain ⟨g_8, hf⟩ := gd_some hf
    refine r_iald (n := 121) hX rfl ((q_9_19 hX hk0)) g_8 dX8_count_103 ?_
    cases hf
    exact hret _ _ dX8_count_104
  have hf := hf_f c_7 hf
  by_cases c_9 : x1 = 6
  · have hf := hf_t c_9 hf
    refine r_tsw (off := 99) (tgt := 105) hX 6 dX8_count_6 c_9 (by decide) (by decide) (by decide) (by decide) ?_
    refine V.mask [true, true] ?_
    exact vX8_count_105 hX hret a0 x1 hk0 hf
  have hf := hf_f c_9 hf
  by_cases c_10 : x1 = 7
  · have hf := hf_t c_10 hf
    refine r_tsw (off := 99) (tgt := 105) hX 7 dX8_count_6 c_10 (by decide) (by decide) (by decide) (by decide) ?_
    refine V.mask [true, true] ?_
    exact vX8_count_105 hX hret a0 x1 hk0 hf
  have hf := hf_f c_10 hf
  by_cases c_11 : x1 = 8
  · have hf := hf_t c_11 hf
    refine r_tsw (off := 99) (tgt := 105) hX 8 dX8_count_6 c_11 (by decide) (by decide) (by decide) (by decide) ?_
    refine V.mask [true, true] ?_
    exact vX8_count_105 hX hret a0 x1 hk0 hf
  have hf := hf_f c_11 hf
  by_cases c_12 : x1 = 9
  · have hf := hf_t c_12 hf
    refine r_tsw (off := 99) (tgt := 105) hX 9 dX8_count_6 c_12 (by decide) (by decide) (by decide) (by decide) ?_
    refine V.mask [true, true] ?_
    exact vX8_count_105 hX hret a0 x1 hk0 hf
  have hf := hf_f c_12 hf
  by_cases c_13 : x1 = 10
  · have hf := hf_t c_13 hf
    refine r_tsw (off := 112) (tgt := 118) hX 10 dX8_count_6 c_13 (by decide) (by decide) (by decide) (by decide) ?_
    refine r_aload_n hX dX8_count_118 rfl ?_
    obtain ⟨r_14, h_15, hf⟩ := bd1_some hf
    refine r_callV (As := []) (ci := 8) hX (k_X8_onShelves (l := xl X) (J := J) hX.ok hk0 h_15) pk_X8_onShelves ml_X8_309 rfl rfl rfl rfl hk0 rfl rfl rfl (Nat.le_of_ble_eq_true rfl) dX8_count_119 ?_
    cases hf
    exact hret _ _ dX8_count_122
  have hf := hf_f c_13 hf
  by_cases c_16 : x1 = 11
  · have hf := hf_t c_16 hf
    refine r_tsw (off := 117) (tgt := 123) hX 11 dX8_count_6 c_16 (by decide) (by decide) (by decide) (by decide) ?_
    refine r_aload_n hX dX8_count_123 rfl ?_
    refine g_8_22 hX fl_X8_159 hk0 dX8_count_124 ?_
    cases hf
    exact hret _ _ dX8_count_127
  have hf := hf_f c_16 hf
  by_cases c_17 : x1 = 12
  · have hf := hf_t c_17 hf
    refine r_tsw (off := 122) (tgt := 128) hX 12 dX8_count_6 c_17 (by decide) (by decide) (by decide) (by decide) ?_
    refine r_aload_n hX dX8_count_128 rfl ?_
    refine g_8_25 hX fl_X8_275 hk0 dX8_count_129 ?_
    cases hf
    exact hret _ _ dX8_count_132
  have hf := hf_f c_17 hf
  refine r_tswD (tgt := 133) hX dX8_count_6 [0, 1, 2, 3, 4, 5, 6, 7, 8, 9, 10, 11, 12] (by decide) (List.forall_mem_cons.mpr ⟨c_2, List.forall_mem_cons.mpr ⟨c_3, List.forall_mem_cons.mpr ⟨c_4, List.forall_mem_cons.mpr ⟨c_5, List.forall_mem_cons.mpr ⟨c_6, List.forall_mem_cons.mpr ⟨c_7, List.forall_mem_cons.mpr ⟨c_9, List.forall_mem_cons.mpr ⟨c_10, List.forall_mem_cons.mpr ⟨c_11, List.forall_mem_cons.mpr ⟨c_12, List.forall_mem_cons.mpr ⟨c_13, List.forall_mem_cons.mpr ⟨c_16, List.forall_mem_cons.mpr ⟨c_17, (fun _ h => absurd h List.not_mem_nil)⟩⟩⟩⟩⟩⟩⟩⟩⟩⟩⟩⟩⟩) (by decide) ?_
  refine r_bipush (v := -2) hX dX8_count_133 (by decide) ?_
  cases hf
  exact hret _ _ dX8_count_135

noncomputable def X7_judge_B54 (a0 : Nat) (x1 : Int32) (y2 : Int64) (k54 : HI → Int64 → Int32 → Option (Int32 × HI)) (I : HI) (y4 : Int64) (x6 : Int32) : Option (Int32 × HI) := if x6 < x1 then if 0 < (lg_cmp y4 ((0 : Int64))) then gd (¬ y4 = 0) (bd2 (f_X7_holds I ((a0 + 37)) (((jreml ((y2 / y4)) ((100000 : Int64)))).toInt32)) fun r_14 I_15 => if r_14 = 0 then some (x6, I_15) else lt1 ((y4 / (100000 : Int64))) fun y_18 => lt1 (x6 + (1 : Int32)) fun x_19 => k54 I_15 y_18 x_19) else some ((-9 : Int32), I) else some ((-9 : Int32), I)
set_option maxHeartbeats 4000000 in
set_option maxRecDepth 100000 in
theorem vX7_judge_54 {X : CX} {I' : HI} {r : Int32} {J : HJ} (hX : OKX X cX7_judge RX7 5 121 7) (hret : RetI X cX7_judge r I' J) (a0 : Nat) (x1 : Int32) (y2 : Int64) (hk0 : gK (xG X) a0 = 8)   : ∀ (n : Nat) (I : HI) (y4 : Int64) (x6 : Int32), wl3 (X7_judge_B54 a0 x1 y2) n I y4 x6 = some (r, I') → V X I J 54 [some (.ref a0), some (.int x1), some (.long y2), none, some (.long y4), none, some (.int x6)] [] := by
  refine wl3_V (P := fun (I : HI) (y4 : Int64) (x6 : Int32) => V X I J 54 [some (.ref a0), some (.int x1), some (.long y2), none, some (.long y4), none, some (.int x6)] []) ?_
  intro k54 hc54 I y4 x6 hf
  unfold X7_judge_B54 at hf
  refine r_iload hX dX7_judge_54 rfl ?_
  refine r_iload_n hX dX7_judge_56 rfl ?_
  refine r_icmp_ge (tgt := 103) hX dX7_judge_57 (by decide) (fun c_11 => ?_) (fun c_11 => ?_)
  · have hf := hf_t c_11 hf
    refine r_lload hX dX7_judge_60 rfl ?_
    refine r_lconst (v := 0) hX dX7_judge_62 rfl ?_
    refine r_lcmp hX dX7_judge_63 ?_
    refine r_if_le (tgt := 103) hX dX7_judge_64 (by decide) (fun c_12 => ?_) (fun c_12 => ?_)
    · have hf := hf_t c_12 hf
      refine r_aload_n hX dX7_judge_67 rfl ?_
      refine g_7_2 hX fl_X7_23 hk0 dX7_judge_68 ?_
      refine r_lload_n hX dX7_judge_71 rfl ?_
      refine r_lload hX dX7_judge_72 rfl ?_
      obtain ⟨g_13, hf⟩ := gd_some hf
      refine r_ldiv hX dX7_judge_74 g_13 ?_
      refine r_ldc2 hX dX7_judge_75 cn_X7_220 ?_
      refine r_lrem hX dX7_judge_78 (by decide) ?_
      refine r_l2i hX dX7_judge_79 ?_
      obtain ⟨r_14, I_15, h_16, hf⟩ := bd2_some hf
      refine r_callS (As := [.ref ((a0 + 37)), .int (((jreml ((y2 / y4)) ((100000 : Int64)))).toInt32)]) hX (k_X7_holds (l := xl X) (J := J) hX.ok ((q_8_2 hX hk0)) h_16) pk_X7_holds ml_X7_222 rfl rfl rfl (Nat.le_of_ble_eq_true rfl) dX7_judge_80 ?_
      refine r_if_ne (tgt := 89) hX dX7_judge_83 (by decide) (fun c_17 => ?_) (fun c_17 => ?_)
      · have hf := hf_t c_17 hf
        refine r_iload hX dX7_judge_86 rfl ?_
        cases hf
        exact hret _ _ dX7_judge_88
      · have hf := hf_f c_17 hf
        refine r_lload hX dX7_judge_89 rfl ?_
        refine r_ldc2 hX dX7_judge_91 cn_X7_220 ?_
        refine r_ldiv hX dX7_judge_94 (by decide) ?_
        obtain ⟨y_18, ey_18, hf⟩ := lt1_some hf
        refine V.topl ey_18 ?_
        refine r_lstore hX dX7_judge_95 rfl rfl ?_
        obtain ⟨x_19, ex_19, hf⟩ := lt1_some hf
        refine r_iincE (n' := 1) ex_19 hX dX7_judge_97 rfl rfl rfl rfl ?_
        refine r_goto (tgt := 54) hX dX7_judge_100 (by decide) ?_
        refine V.mask [true, true, true, false, true, false, true] ?_
        exact hc54 I_15 y_18 x_19 hf
    · have hf := hf_f c_12 hf
      refine r_bipush (v := -9) hX dX7_judge_103 (by decide) ?_
      cases hf
      exact hret _ _ dX7_judge_105
  · have hf := hf_f c_11 hf
    refine r_bipush (v := -9) hX dX7_judge_103 (by decide) ?_
    cases hf
    exact hret _ _ dX7_judge_105
noncomputable def f_X7_judge (I : HI) (a0 : Nat) (x1 : Int32) (y2 : Int64) : Option (Int32 × HI) := if x1 < (1 : Int32) then some ((-2 : Int32), I) else if (3 : Int32) < x1 then some ((-2 : Int32), I) else if (lg_cmp y2 ((0 : Int64))) < 0 then some ((-2 : Int32), I) else bd1 (f_X7_powerOfTen (((5 : Int32) * x1))) fun r_4 => if (lg_cmp y2 r_4) < 0 then bd1 (f_X1_take I ((a0 + 37)) ((a0 + 20))) fun I_7 => bd1 (f_X7_powerOfTen ((((5 : Int32) * x1) - (5 : Int32)))) fun r_9 => wl3 (X7_judge_B54 a0 x1 y2) 5000 I_7 r_9 ((0 : Int32)) else some ((-2 : Int32), I)
set_option maxHeartbeats 4000000 in
set_option maxRecDepth 100000 in
theorem k_X7_judge {G : GX} {l : Launch} {I : HI} {J : HJ} {I' : HI} {r : Int32} (hG : OKG G) {a0 : Nat} {x1 : Int32} {y2 : Int64} (hk0 : gK G a0 = 8) (hf : f_X7_judge I a0 x1 y2 = some (r, I')) : Ctr G l yX7_judge cX7_judge 7 (some .int) 5 121 [.ref a0, .int x1, .long y2] I J (some (.int r)) I' J := by
  refine ctr_I hG (by decide) [some (.ref a0), some (.int x1), some (.long y2), none, none, none, none] rfl rfl fun X e1 e2 hX hret => ?_
  subst e1; subst e2
  unfold f_X7_judge at hf
  refine r_iload_n hX dX7_judge_0 rfl ?_
  refine r_iconst (v := 1) hX dX7_judge_1 rfl ?_
  refine r_icmp_lt (tgt := 27) hX dX7_judge_2 (by decide) (fun c_1 => ?_) (fun c_1 => ?_)
  · have hf := hf_t c_1 hf
    refine r_bipush (v := -2) hX dX7_judge_27 (by decide) ?_
    cases hf
    exact hret _ _ dX7_judge_29
  · have hf := hf_f c_1 hf
    refine r_iload_n hX dX7_judge_5 rfl ?_
    refine r_iconst (v := 3) hX dX7_judge_6 rfl ?_
    refine r_icmp_gt (tgt := 27) hX dX7_judge_7 (by decide) (fun c_2 => ?_) (fun c_2 => ?_)
    · have hf := hf_t c_2 hf
      refine r_bipush (v := -2) hX dX7_judge_27 (by decide) ?_
      cases hf
      exact hret _ _ dX7_judge_29
    · have hf := hf_f c_2 hf
      refine r_lload_n hX dX7_judge_10 rfl ?_
      refine r_lconst (v := 0) hX dX7_judge_11 rfl ?_
      refine r_lcmp hX dX7_judge_12 ?_
      refine r_if_lt (tgt := 27) hX dX7_judge_13 (by decide) (fun c_3 => ?_) (fun c_3 => ?_)
      · have hf := hf_t c_3 hf
        refine r_bipush (v := -2) hX dX7_judge_27 (by decide) ?_
        cases hf
        exact hret _ _ dX7_judge_29
      · have hf := hf_f c_3 hf
        refine r_lload_n hX dX7_judge_16 rfl ?_
        refine r_iconst (v := 5) hX dX7_judge_17 rfl ?_
        refine r_iload_n hX dX7_judge_18 rfl ?_
        refine r_imul hX dX7_judge_19 ?_
        obtain ⟨r_4, h_5, hf⟩ := bd1_some hf
        refine r_callS (As := [.int (((5 : Int32) * x1))]) hX (k_X7_powerOfTen (l := xl X) (I := I) (J := J) hX.ok  h_5) pk_X7_powerOfTen ml_X7_207 rfl rfl rfl (Nat.le_of_ble_eq_true rfl) dX7_judge_20 ?_
        refine r_lcmp hX dX7_judge_23 ?_
        refine r_if_lt (tgt := 30) hX dX7_judge_24 (by decide) (fun c_6 => ?_) (fun c_6 => ?_)
        · have hf := hf_t c_6 hf
          refine r_aload_n hX dX7_judge_30 rfl ?_
          refine g_7_2 hX fl_X7_23 hk0 dX7_judge_31 ?_
          refine r_aload_n hX dX7_judge_34 rfl ?_
          refine g_7_1 hX fl_X7_19 hk0 dX7_judge_35 ?_
          obtain ⟨I_7, h_8, hf⟩ := bd1_some hf
          refine r_callV (As := [.ref ((a0 + 20))]) (ci := 1) hX (k_X1_take (l := xl X) (J := J) hX.ok ((q_8_2 hX hk0)) ((q_8_1 hX hk0)) h_8) pk_X1_take ml_X7_84 rfl rfl rfl rfl ((q_8_2 hX hk0)) rfl rfl rfl (Nat.le_of_ble_eq_true rfl) dX7_judge_38 ?_
          refine r_iconst (v := 5) hX dX7_judge_41 rfl ?_
          refine r_iload_n hX dX7_judge_42 rfl ?_
          refine r_imul hX dX7_judge_43 ?_
          refine r_iconst (v := 5) hX dX7_judge_44 rfl ?_
          refine r_isub hX dX7_judge_45 ?_
          obtain ⟨r_9, h_10, hf⟩ := bd1_some hf
          refine r_callS (As := [.int ((((5 : Int32) * x1) - (5 : Int32)))]) hX (k_X7_powerOfTen (l := xl X) (I := I_7) (J := J) hX.ok  h_10) pk_X7_powerOfTen ml_X7_207 rfl rfl rfl (Nat.le_of_ble_eq_true rfl) dX7_judge_46 ?_
          refine r_lstore hX dX7_judge_49 rfl rfl ?_
          refine r_iconst (v := 0) hX dX7_judge_51 rfl ?_
          refine r_istore hX dX7_judge_52 rfl rfl ?_
          refine V.mask [true, true, true, false, true, false, true] ?_
          exact vX7_judge_54 hX hret a0 x1 y2 hk0 5000 I_7 r_9 ((0 : Int32)) hf
        · have hf := hf_f c_6 hf
          refine r_bipush (v := -2) hX dX7_judge_27 (by decide) ?_
          cases hf
          exact hret _ _ dX7_judge_29
noncomputable def X7_see_J50 (I : HI) (a0 : Nat) (sa0 : Nat) (sx1 : Int32) (sx2 : Int32) (sx3 : Int32) : Option (Int32 × HI) := bd2 (f_X5_add I sa0 sx1 sx2 sx3) fun r_10 I_11 => if r_10 = 0 then some ((-4 : Int32), I_11) else some ((I_11 ((a0 + 296)) 3), I_11)
set_option maxHeartbeats 4000000 in
set_option maxRecDepth 100000 in
theorem vX7_see_50 {X : CX} {I' : HI} {r : Int32} {I : HI} {J : HJ} (hX : OKX X cX7_see RX7 1 23 4) (hret : RetI X cX7_see r I' J) (a0 : Nat) (sa0 : Nat) (sx1 : Int32) (sx2 : Int32) (sx3 : Int32) (hk0 : gK (xG X) a0 = 8) (hs0 : gK (xG X) sa0 = 6)   (hf : X7_see_J50 I a0 sa0 sx1 sx2 sx3 = some (r, I')) : V X I J 50 [some (.ref a0), none, none, none] [.int sx3, .int sx2, .int sx1, .ref sa0] := by
  unfold X7_see_J50 at hf
  obtain ⟨r_10, I_11, h_12, hf⟩ := bd2_some hf
  refine r_callV (As := [.int sx1, .int sx2, .int sx3]) (ci := 5) hX (k_X5_add (l := xl X) (J := J) hX.ok hs0 h_12) pk_X5_add ml_X7_226 rfl rfl rfl rfl hs0 rfl rfl rfl (Nat.le_of_ble_eq_true rfl) dX7_see_50 ?_
  refine r_if_eq (tgt := 66) hX dX7_see_53 (by decide) (fun c_13 => ?_) (fun c_13 => ?_)
  · have hf := hf_t c_13 hf
    refine r_bipush (v := -4) hX dX7_see_66 (by decide) ?_
    cases hf
    exact hret _ _ dX7_see_68
  · have hf := hf_f c_13 hf
    refine r_aload_n hX dX7_see_56 rfl ?_
    refine g_7_6 hX fl_X7_44 hk0 dX7_see_57 ?_
    refine g_5_3 hX fl_X7_230 ((q_8_6 hX hk0)) dX7_see_60 ?_
    refine r_goto (tgt := 68) hX dX7_see_63 (by decide) ?_
    cases hf
    exact hret _ _ dX7_see_68
noncomputable def f_X7_see (I : HI) (a0 : Nat) (x1 : Int32) (x2 : Int32) (x3 : Int32) : Option (Int32 × HI) := bd1 (f_X1_proxyAt I ((a0 + 20)) x1) fun r_1 => mN r_1 (some ((-1 : Int32), I)) (fun a_3 => if x2 < 0 then some ((-2 : Int32), I) else if (2 : Int32) < x2 then some ((-2 : Int32), I) else if x3 < 0 then some ((-2 : Int32), I) else if (1 : Int32) < x3 then some ((-2 : Int32), I) else if x3 = (1 : Int32) then X7_see_J50 I a0 ((a0 + 296)) x1 x2 ((1 : Int32)) else X7_see_J50 I a0 ((a0 + 296)) x1 x2 ((0 : Int32)))
set_option maxHeartbeats 4000000 in
set_option maxRecDepth 100000 in
theorem k_X7_see {G : GX} {l : Launch} {I : HI} {J : HJ} {I' : HI} {r : Int32} (hG : OKG G) {a0 : Nat} {x1 : Int32} {x2 : Int32} {x3 : Int32} (hk0 : gK G a0 = 8) (hf : f_X7_see I a0 x1 x2 x3 = some (r, I')) : Ctr G l yX7_see cX7_see 4 (some .int) 1 23 [.ref a0, .int x1, .int x2, .int x3] I J (some (.int r)) I' J := by
  refine ctr_I hG (by decide) [some (.ref a0), some (.int x1), some (.int x2), some (.int x3)] rfl rfl fun X e1 e2 hX hret => ?_
  subst e1; subst e2
  unfold f_X7_see at hf
  refine r_aload_n hX dX7_see_0 rfl ?_
  refine g_7_1 hX fl_X7_19 hk0 dX7_see_1 ?_
  refine r_iload_n hX dX7_see_4 rfl ?_
  obtain ⟨r_1, h_2, hf⟩ := bd1_some hf
  refine r_callV (As := [.int x1]) (ci := 1) hX (k_X1_proxyAt (l := xl X) (J := J) hX.ok ((q_8_1 hX hk0)) h_2) pk_X1_proxyAt ml_X7_94 rfl rfl rfl rfl ((q_8_1 hX hk0)) rfl rfl rfl (Nat.le_of_ble_eq_true rfl) dX7_see_5 ?_
  cases r_1 with
  | none =>
    have hf := mN_n hf
    refine r_ifnonnull_n hX dX7_see_8 ?_
    refine r_iconst (v := -1) hX dX7_see_11 rfl ?_
    cases hf
    exact hret _ _ dX7_see_12
  | some a_3 =>
    have hf := mN_s hf
    have hk_4 := kt_X1_proxyAt hX.ok ((q_8_1 hX hk0)) h_2
    refine r_ifnonnull_r (tgt := 13) hX dX7_see_8 (by decide) ?_
    refine r_iload_n hX dX7_see_13 rfl ?_
    refine r_if_lt (tgt := 31) hX dX7_see_14 (by decide) (fun c_5 => ?_) (fun c_5 => ?_)
    · have hf := hf_t c_5 hf
      refine r_bipush (v := -2) hX dX7_see_31 (by decide) ?_
      cases hf
      exact hret _ _ dX7_see_33
    · have hf := hf_f c_5 hf
      refine r_iload_n hX dX7_see_17 rfl ?_
      refine r_iconst (v := 2) hX dX7_see_18 rfl ?_
      refine r_icmp_gt (tgt := 31) hX dX7_see_19 (by decide) (fun c_6 => ?_) (fun c_6 => ?_)
      · have hf := hf_t c_6 hf
        refine r_bipush (v := -2) hX dX7_see_31 (by decide) ?_
        cases hf
        exact hret _ _ dX7_see_33
      · have hf := hf_f c_6 hf
        refine r_iload_n hX dX7_see_22 rfl ?_
        refine r_if_lt (tgt := 31) hX dX7_see_23 (by decide) (fun c_7 => ?_) (fun c_7 => ?_)
        · have hf := hf_t c_7 hf
          refine r_bipush (v := -2) hX dX7_see_31 (by decide) ?_
          cases hf
          exact hret _ _ dX7_see_33
        · have hf := hf_f c_7 hf
          refine r_iload_n hX dX7_see_26 rfl ?_
          refine r_iconst (v := 1) hX dX7_see_27 rfl ?_
          refine r_icmp_le (tgt := 34) hX dX7_see_28 (by decide) (fun c_8 => ?_) (fun c_8 => ?_)
          · have hf := hf_t c_8 hf
            refine r_bipush (v := -2) hX dX7_see_31 (by decide) ?_
            cases hf
            exact hret _ _ dX7_see_33
          · have hf := hf_f c_8 hf
            refine r_aload_n hX dX7_see_34 rfl ?_
            refine g_7_6 hX fl_X7_44 hk0 dX7_see_35 ?_
            refine r_iload_n hX dX7_see_38 rfl ?_
            refine r_iload_n hX dX7_see_39 rfl ?_
            refine r_iload_n hX dX7_see_40 rfl ?_
            refine r_iconst (v := 1) hX dX7_see_41 rfl ?_
            refine r_icmp_ne (tgt := 49) hX dX7_see_42 (by decide) (fun c_9 => ?_) (fun c_9 => ?_)
            · have hf := hf_t c_9 hf
              refine r_iconst (v := 1) hX dX7_see_45 rfl ?_
              refine r_goto (tgt := 50) hX dX7_see_46 (by decide) ?_
              refine V.mask [true, false, false, false] ?_
              exact vX7_see_50 hX hret a0 ((a0 + 296)) x1 x2 ((1 : Int32)) hk0 (q_8_6 hX hk0) hf
            · have hf := hf_f c_9 hf
              refine r_iconst (v := 0) hX dX7_see_49 rfl ?_
              refine V.mask [true, false, false, false] ?_
              exact vX7_see_50 hX hret a0 ((a0 + 296)) x1 x2 ((0 : Int32)) hk0 (q_8_6 hX hk0) hf
noncomputable def f_X7_unsee (I : HI) (a0 : Nat) : Option (Int32 × HI) := lt1 ((I ((a0 + 296)) 3)) fun x_1 => lt1 (sI I ((a0 + 296)) 3 ((0 : Int32))) fun I_2 => some (x_1, I_2)
set_option maxHeartbeats 4000000 in
set_option maxRecDepth 100000 in
theorem k_X7_unsee {G : GX} {l : Launch} {I : HI} {J : HJ} {I' : HI} {r : Int32} (hG : OKG G) {a0 : Nat} (hk0 : gK G a0 = 8) (hf : f_X7_unsee I a0 = some (r, I')) : Ctr G l yX7_unsee cX7_unsee 2 (some .int) 0 0 [.ref a0] I J (some (.int r)) I' J := by
  refine ctr_I hG (by decide) [some (.ref a0), none] rfl rfl fun X e1 e2 hX hret => ?_
  subst e1; subst e2
  unfold f_X7_unsee at hf
  refine r_aload_n hX dX7_unsee_0 rfl ?_
  refine g_7_6 hX fl_X7_44 hk0 dX7_unsee_1 ?_
  refine g_5_3 hX fl_X7_230 ((q_8_6 hX hk0)) dX7_unsee_4 ?_
  obtain ⟨x_1, ex_1, hf⟩ := lt1_some hf
  refine V.topi ex_1 ?_
  refine r_istore_n hX dX7_unsee_7 rfl rfl ?_
  refine r_aload_n hX dX7_unsee_8 rfl ?_
  refine g_7_6 hX fl_X7_44 hk0 dX7_unsee_9 ?_
  refine r_iconst (v := 0) hX dX7_unsee_12 rfl ?_
  obtain ⟨I_2, eI_2, hf⟩ := lt1_some hf
  refine p_5_3 eI_2 hX fl_X7_230 ((q_8_6 hX hk0)) dX7_unsee_13 ?_
  refine r_iload_n hX dX7_unsee_16 rfl ?_
  cases hf
  exact hret _ _ dX7_unsee_17
noncomputable def f_X7_which (I : HI) (a0 : Nat) : Option (Int32) := bd1 (f_X5_agreeing I ((a0 + 296)) ((a0 + 20))) fun r_1 => some r_1
set_option maxHeartbeats 4000000 in
set_option maxRecDepth 100000 in
theorem k_X7_which {G : GX} {l : Launch} {I : HI} {J : HJ} {r : Int32} (hG : OKG G) {a0 : Nat} (hk0 : gK G a0 = 8) (hf : f_X7_which I a0 = some r) : Ctr G l yX7_which cX7_which 1 (some .int) 5 118 [.ref a0] I J (some (.int r)) I J := by
  refine ctr_I hG (by decide) [some (.ref a0)] rfl rfl fun X e1 e2 hX hret => ?_
  subst e1; subst e2
  unfold f_X7_which at hf
  refine r_aload_n hX dX7_which_0 rfl ?_
  refine g_7_6 hX fl_X7_44 hk0 dX7_which_1 ?_
  refine r_aload_n hX dX7_which_4 rfl ?_
  refine g_7_1 hX fl_X7_19 hk0 dX7_which_5 ?_
  obtain ⟨r_1, h_2, hf⟩ := bd1_some hf
  refine r_callV (As := [.ref ((a0 + 20))]) (ci := 5) hX (k_X5_agreeing (l := xl X) (J := J) hX.ok ((q_8_6 hX hk0)) ((q_8_1 hX hk0)) h_2) pk_X5_agreeing ml_X7_231 rfl rfl rfl rfl ((q_8_6 hX hk0)) rfl rfl rfl (Nat.le_of_ble_eq_true rfl) dX7_which_8 ?_
  cases hf
  exact hret _ _ dX7_which_11
noncomputable def X7_commonDivisor_B7  (k7 : Int32 → Int32 → Int32 → Option (Int32)) (x2 : Int32) (x3 : Int32) (x4 : Int32) : Option (Int32) := if x4 < (100 : Int32) then if x3 = 0 then some x2 else gd (¬ x3 = 0) (lt1 ((jrem x2 x3)) fun x_4 => lt1 (x4 + (1 : Int32)) fun x_5 => k7 x3 x_4 x_5) else some x2
set_option maxHeartbeats 4000000 in
set_option maxRecDepth 100000 in
theorem vX7_commonDivisor_7 {X : CX} {r : Int32} {I : HI} {J : HJ} (hX : OKX X cX7_commonDivisor RX7 0 0 6) (hret : RetI X cX7_commonDivisor r I J)     : ∀ (n : Nat) (x2 : Int32) (x3 : Int32) (x4 : Int32), wl3 (X7_commonDivisor_B7) n x2 x3 x4 = some r → V X I J 7 [none, none, some (.int x2), some (.int x3), some (.int x4), none] [] := by
  refine wl3_V (P := fun (x2 : Int32) (x3 : Int32) (x4 : Int32) => V X I J 7 [none, none, some (.int x2), some (.int x3), some (.int x4), none] []) ?_
  intro k7 hc7 x2 x3 x4 hf
  unfold X7_commonDivisor_B7 at hf
  refine r_iload hX dX7_commonDivisor_7 rfl ?_
  refine r_bipush (v := 100) hX dX7_commonDivisor_9 (by decide) ?_
  refine r_icmp_ge (tgt := 34) hX dX7_commonDivisor_11 (by decide) (fun c_1 => ?_) (fun c_1 => ?_)
  · have hf := hf_t c_1 hf
    refine r_iload_n hX dX7_commonDivisor_14 rfl ?_
    refine r_if_eq (tgt := 34) hX dX7_commonDivisor_15 (by decide) (fun c_2 => ?_) (fun c_2 => ?_)
    · have hf := hf_t c_2 hf
      refine r_iload_n hX dX7_commonDivisor_34 rfl ?_
      cases hf
      exact hret _ _ dX7_commonDivisor_35
    · have hf := hf_f c_2 hf
      refine r_iload_n hX dX7_commonDivisor_18 rfl ?_
      refine r_iload_n hX dX7_commonDivisor_19 rfl ?_
      obtain ⟨g_3, hf⟩ := gd_some hf
      refine r_irem hX dX7_commonDivisor_20 g_3 ?_
      obtain ⟨x_4, ex_4, hf⟩ := lt1_some hf
      refine V.topi ex_4 ?_
      refine r_istore hX dX7_commonDivisor_21 rfl rfl ?_
      refine r_iload_n hX dX7_commonDivisor_23 rfl ?_
      refine r_istore_n hX dX7_commonDivisor_24 rfl rfl ?_
      refine r_iload hX dX7_commonDivisor_25 rfl ?_
      refine r_istore_n hX dX7_commonDivisor_27 rfl rfl ?_
      obtain ⟨x_5, ex_5, hf⟩ := lt1_some hf
      refine r_iincE (n' := 1) ex_5 hX dX7_commonDivisor_28 rfl rfl rfl rfl ?_
      refine r_goto (tgt := 7) hX dX7_commonDivisor_31 (by decide) ?_
      refine V.mask [false, false, true, true, true, false] ?_
      exact hc7 x3 x_4 x_5 hf
  · have hf := hf_f c_1 hf
    refine r_iload_n hX dX7_commonDivisor_34 rfl ?_
    cases hf
    exact hret _ _ dX7_commonDivisor_35
noncomputable def f_X7_commonDivisor (x0 : Int32) (x1 : Int32) : Option (Int32) := wl3 (X7_commonDivisor_B7 ) 5000 x0 x1 ((0 : Int32))
set_option maxHeartbeats 4000000 in
set_option maxRecDepth 100000 in
theorem k_X7_commonDivisor {G : GX} {l : Launch} {I : HI} {J : HJ} {r : Int32} (hG : OKG G) {x0 : Int32} {x1 : Int32}  (hf : f_X7_commonDivisor x0 x1 = some r) : Ctr G l yX7_commonDivisor cX7_commonDivisor 6 (some .int) 0 0 [.int x0, .int x1] I J (some (.int r)) I J := by
  refine ctr_I hG (by decide) [some (.int x0), some (.int x1), none, none, none, none] rfl rfl fun X e1 e2 hX hret => ?_
  subst e1; subst e2
  unfold f_X7_commonDivisor at hf
  refine r_iload_n hX dX7_commonDivisor_0 rfl ?_
  refine r_istore_n hX dX7_commonDivisor_1 rfl rfl ?_
  refine r_iload_n hX dX7_commonDivisor_2 rfl ?_
  refine r_istore_n hX dX7_commonDivisor_3 rfl rfl ?_
  refine r_iconst (v := 0) hX dX7_commonDivisor_4 rfl ?_
  refine r_istore hX dX7_commonDivisor_5 rfl rfl ?_
  refine V.mask [false, false, true, true, true, false] ?_
  exact vX7_commonDivisor_7 hX hret  5000 x0 x1 ((0 : Int32)) hf
noncomputable def X7_ofFraction_J21 (x3 : Int32) (sx0 : Int32) : Option (Int32) := gd (¬ x3 = 0) (some ((sx0 / x3)))
set_option maxHeartbeats 4000000 in
set_option maxRecDepth 100000 in
theorem vX7_ofFraction_21 {X : CX} {r : Int32} {I : HI} {J : HJ} (hX : OKX X cX7_ofFraction RX7 1 25 4) (hret : RetI X cX7_ofFraction r I J) (x3 : Int32) (sx0 : Int32)    (hf : X7_ofFraction_J21 x3 sx0 = some r) : V X I J 21 [none, none, none, some (.int x3)] [.int sx0] := by
  unfold X7_ofFraction_J21 at hf
  refine r_iload_n hX dX7_ofFraction_21 rfl ?_
  obtain ⟨g_5, hf⟩ := gd_some hf
  refine r_idiv hX dX7_ofFraction_22 g_5 ?_
  cases hf
  exact hret _ _ dX7_ofFraction_23
noncomputable def f_X7_ofFraction (x0 : Int32) (x1 : Int32) (x2 : Int32) : Option (Int32) := bd1 (f_X7_commonDivisor x0 x1) fun r_1 => if r_1 = 0 then some ((0 : Int32)) else if x2 = 0 then X7_ofFraction_J21 r_1 x1 else X7_ofFraction_J21 r_1 x0
set_option maxHeartbeats 4000000 in
set_option maxRecDepth 100000 in
theorem k_X7_ofFraction {G : GX} {l : Launch} {I : HI} {J : HJ} {r : Int32} (hG : OKG G) {x0 : Int32} {x1 : Int32} {x2 : Int32}  (hf : f_X7_ofFraction x0 x1 x2 = some r) : Ctr G l yX7_ofFraction cX7_ofFraction 4 (some .int) 1 25 [.int x0, .int x1, .int x2] I J (some (.int r)) I J := by
  refine ctr_I hG (by decide) [some (.int x0), some (.int x1), some (.int x2), none] rfl rfl fun X e1 e2 hX hret => ?_
  subst e1; subst e2
  unfold f_X7_ofFraction at hf
  refine r_iload_n hX dX7_ofFraction_0 rfl ?_
  refine r_iload_n hX dX7_ofFraction_1 rfl ?_
  obtain ⟨r_1, h_2, hf⟩ := bd1_some hf
  refine r_callS (As := [.int x0, .int x1]) hX (k_X7_commonDivisor (l := xl X) (I := I) (J := J) hX.ok  h_2) pk_X7_commonDivisor ml_X7_275 rfl rfl rfl (Nat.le_of_ble_eq_true rfl) dX7_ofFraction_2 ?_
  refine r_istore_n hX dX7_ofFraction_5 rfl rfl ?_
  refine r_iload_n hX dX7_ofFraction_6 rfl ?_
  refine r_if_ne (tgt := 12) hX dX7_ofFraction_7 (by decide) (fun c_3 => ?_) (fun c_3 => ?_)
  · have hf := hf_t c_3 hf
    refine r_iconst (v := 0) hX dX7_ofFraction_10 rfl ?_
    cases hf
    exact hret _ _ dX7_ofFraction_11
  · have hf := hf_f c_3 hf
    refine r_iload_n hX dX7_ofFraction_12 rfl ?_
    refine r_if_eq (tgt := 20) hX dX7_ofFraction_13 (by decide) (fun c_4 => ?_) (fun c_4 => ?_)
    · have hf := hf_t c_4 hf
      refine r_iload_n hX dX7_ofFraction_20 rfl ?_
      refine V.mask [false, false, false, true] ?_
      exact vX7_ofFraction_21 hX hret r_1 x1 hf
    · have hf := hf_f c_4 hf
      refine r_iload_n hX dX7_ofFraction_16 rfl ?_
      refine r_goto (tgt := 21) hX dX7_ofFraction_17 (by decide) ?_
      refine V.mask [false, false, false, true] ?_
      exact vX7_ofFraction_21 hX hret r_1 x0 hf
noncomputable def X7_share_J60 (I : HI) (a0 : Nat) (x2 : Int32) (a3 : Nat) (x4 : Int32) (x5 : Int32) (k21 : Int32 → Int32 → Option (Int32)) : Option (Int32) := lt1 (x5 + (1 : Int32)) fun x_15 => k21 x4 x_15
set_option maxHeartbeats 4000000 in
set_option maxRecDepth 100000 in
theorem vX7_share_60 {X : CX} {r : Int32} {I : HI} {J : HJ} (hX : OKX X cX7_share RX7 3 67 7) (hret : RetI X cX7_share r I J) (a0 : Nat) (x2 : Int32) (a3 : Nat) (x4 : Int32) (x5 : Int32) (hk0 : gK (xG X) a0 = 8) (hk3 : gK (xG X) a3 = 5) (k21 : Int32 → Int32 → Option (Int32)) (hc21 : ∀ (x4 : Int32) (x5 : Int32), k21 x4 x5 = some r → V X I J 21 [some (.ref a0), none, some (.int x2), some (.ref a3), some (.int x4), some (.int x5), none] []) (hf : X7_share_J60 I a0 x2 a3 x4 x5 k21 = some r) : V X I J 60 [some (.ref a0), none, some (.int x2), some (.ref a3), some (.int x4), some (.int x5), none] [] := by
  unfold X7_share_J60 at hf
  obtain ⟨x_15, ex_15, hf⟩ := lt1_some hf
  refine r_iincE (n' := 1) ex_15 hX dX7_share_60 rfl rfl rfl rfl ?_
  refine r_goto (tgt := 21) hX dX7_share_63 (by decide) ?_
  refine V.mask [true, false, true, true, true, true, false] ?_
  exact hc21 x4 x_15 hf
noncomputable def X7_share_B21 (I : HI) (a0 : Nat) (x2 : Int32) (a3 : Nat) (k21 : Int32 → Int32 → Option (Int32)) (x4 : Int32) (x5 : Int32) : Option (Int32) := if x5 < (I a3 2) then bd1 (f_X4_pageAt I a3 x5) fun r_6 => bd1 (f_X1_holders I ((a0 + 20)) r_6) fun r_8 => if 0 < r_8 then gd (¬ r_8 = 0) (lt1 ((x4 + ((12 : Int32) / r_8))) fun x_12 => X7_share_J60 I a0 x2 a3 x_12 x5 k21) else X7_share_J60 I a0 x2 a3 x4 x5 k21 else bd1 (f_X7_ofFraction x4 ((12 : Int32)) x2) fun r_13 => some r_13
set_option maxHeartbeats 4000000 in
set_option maxRecDepth 100000 in
theorem vX7_share_21 {X : CX} {r : Int32} {I : HI} {J : HJ} (hX : OKX X cX7_share RX7 3 67 7) (hret : RetI X cX7_share r I J) (a0 : Nat) (x2 : Int32) (a3 : Nat) (hk0 : gK (xG X) a0 = 8) (hk3 : gK (xG X) a3 = 5)   : ∀ (n : Nat) (x4 : Int32) (x5 : Int32), wl2 (X7_share_B21 I a0 x2 a3) n x4 x5 = some r → V X I J 21 [some (.ref a0), none, some (.int x2), some (.ref a3), some (.int x4), some (.int x5), none] [] := by
  refine wl2_V (P := fun (x4 : Int32) (x5 : Int32) => V X I J 21 [some (.ref a0), none, some (.int x2), some (.ref a3), some (.int x4), some (.int x5), none] []) ?_
  intro k21 hc21 x4 x5 hf
  unfold X7_share_B21 at hf
  refine r_iload hX dX7_share_21 rfl ?_
  refine r_aload_n hX dX7_share_23 rfl ?_
  refine g_4_2 hX fl_X7_106 hk3 dX7_share_24 ?_
  refine r_icmp_ge (tgt := 66) hX dX7_share_27 (by decide) (fun c_5 => ?_) (fun c_5 => ?_)
  · have hf := hf_t c_5 hf
    refine r_aload_n hX dX7_share_30 rfl ?_
    refine g_7_1 hX fl_X7_19 hk0 dX7_share_31 ?_
    refine r_aload_n hX dX7_share_34 rfl ?_
    refine r_iload hX dX7_share_35 rfl ?_
    obtain ⟨r_6, h_7, hf⟩ := bd1_some hf
    refine r_callV (As := [.int x5]) (ci := 4) hX (k_X4_pageAt (l := xl X) (J := J) hX.ok hk3 h_7) pk_X4_pageAt ml_X7_128 rfl rfl rfl rfl hk3 rfl rfl rfl (Nat.le_of_ble_eq_true rfl) dX7_share_37 ?_
    obtain ⟨r_8, h_9, hf⟩ := bd1_some hf
    refine r_callV (As := [.int r_6]) (ci := 1) hX (k_X1_holders (l := xl X) (J := J) hX.ok ((q_8_1 hX hk0)) h_9) pk_X1_holders ml_X7_235 rfl rfl rfl rfl ((q_8_1 hX hk0)) rfl rfl rfl (Nat.le_of_ble_eq_true rfl) dX7_share_40 ?_
    refine r_istore hX dX7_share_43 rfl rfl ?_
    refine r_iload hX dX7_share_45 rfl ?_
    refine r_if_le (tgt := 60) hX dX7_share_47 (by decide) (fun c_10 => ?_) (fun c_10 => ?_)
    · have hf := hf_t c_10 hf
      refine r_iload hX dX7_share_50 rfl ?_
      refine r_bipush (v := 12) hX dX7_share_52 (by decide) ?_
      refine r_iload hX dX7_share_54 rfl ?_
      obtain ⟨g_11, hf⟩ := gd_some hf
      refine r_idiv hX dX7_share_56 g_11 ?_
      refine r_iadd hX dX7_share_57 ?_
      obtain ⟨x_12, ex_12, hf⟩ := lt1_some hf
      refine V.topi ex_12 ?_
      refine r_istore hX dX7_share_58 rfl rfl ?_
      refine V.mask [true, false, true, true, true, true, false] ?_
      exact vX7_share_60 hX hret a0 x2 a3 x_12 x5 hk0 hk3 k21 hc21 hf
    · have hf := hf_f c_10 hf
      refine V.mask [true, false, true, true, true, true, false] ?_
      exact vX7_share_60 hX hret a0 x2 a3 x4 x5 hk0 hk3 k21 hc21 hf
  · have hf := hf_f c_5 hf
    refine r_iload hX dX7_share_66 rfl ?_
    refine r_bipush (v := 12) hX dX7_share_68 (by decide) ?_
    refine r_iload_n hX dX7_share_70 rfl ?_
    obtain ⟨r_13, h_14, hf⟩ := bd1_some hf
    refine r_callS (As := [.int x4, .int ((12 : Int32)), .int x2]) hX (k_X7_ofFraction (l := xl X) (I := I) (J := J) hX.ok  h_14) pk_X7_ofFraction ml_X7_238 rfl rfl rfl (Nat.le_of_ble_eq_true rfl) dX7_share_71 ?_
    cases hf
    exact hret _ _ dX7_share_74
noncomputable def f_X7_share (I : HI) (a0 : Nat) (x1 : Int32) (x2 : Int32) : Option (Int32) := bd1 (f_X1_proxyAt I ((a0 + 20)) x1) fun r_1 => mN r_1 (some ((-1 : Int32))) (fun a_3 => wl2 (X7_share_B21 I a0 x2 a_3) 5000 ((0 : Int32)) ((0 : Int32)))
set_option maxHeartbeats 4000000 in
set_option maxRecDepth 100000 in
theorem k_X7_share {G : GX} {l : Launch} {I : HI} {J : HJ} {r : Int32} (hG : OKG G) {a0 : Nat} {x1 : Int32} {x2 : Int32} (hk0 : gK G a0 = 8) (hf : f_X7_share I a0 x1 x2 = some r) : Ctr G l yX7_share cX7_share 7 (some .int) 3 67 [.ref a0, .int x1, .int x2] I J (some (.int r)) I J := by
  refine ctr_I hG (by decide) [some (.ref a0), some (.int x1), some (.int x2), none, none, none, none] rfl rfl fun X e1 e2 hX hret => ?_
  subst e1; subst e2
  unfold f_X7_share at hf
  refine r_aload_n hX dX7_share_0 rfl ?_
  refine g_7_1 hX fl_X7_19 hk0 dX7_share_1 ?_
  refine r_iload_n hX dX7_share_4 rfl ?_
  obtain ⟨r_1, h_2, hf⟩ := bd1_some hf
  refine r_callV (As := [.int x1]) (ci := 1) hX (k_X1_proxyAt (l := xl X) (J := J) hX.ok ((q_8_1 hX hk0)) h_2) pk_X1_proxyAt ml_X7_94 rfl rfl rfl rfl ((q_8_1 hX hk0)) rfl rfl rfl (Nat.le_of_ble_eq_true rfl) dX7_share_5 ?_
  cases r_1 with
  | none =>
    have hf := mN_n hf
    refine r_astore_nN hX dX7_share_8 rfl rfl ?_
    refine r_aload_nN hX dX7_share_9 rfl ?_
    refine r_ifnonnull_n hX dX7_share_10 ?_
    refine r_iconst (v := -1) hX dX7_share_13 rfl ?_
    cases hf
    exact hret _ _ dX7_share_14
  | some a_3 =>
    have hf := mN_s hf
    have hk_4 := kt_X1_proxyAt hX.ok ((q_8_1 hX hk0)) h_2
    refine r_astore_n hX dX7_share_8 rfl rfl ?_
    refine r_aload_n hX dX7_share_9 rfl ?_
    refine r_ifnonnull_r (tgt := 15) hX dX7_share_10 (by decide) ?_
    refine r_iconst (v := 0) hX dX7_share_15 rfl ?_
    refine r_istore hX dX7_share_16 rfl rfl ?_
    refine r_iconst (v := 0) hX dX7_share_18 rfl ?_
    refine r_istore hX dX7_share_19 rfl rfl ?_
    refine V.mask [true, false, true, true, true, true, false] ?_
    exact vX7_share_21 hX hret a0 x2 a_3 hk0 hk_4 5000 ((0 : Int32)) ((0 : Int32)) hf
noncomputable def X7_wayWeight_J36 (I : HI) (a0 : Nat) (x1 : Int32) (x2 : Int32) (x4 : Int32) (sx0 : Int32) (sx1 : Int32) (k5 : Int32 → Int32 → Option (Int32)) : Option (Int32) := lt1 ((sx0 * sx1)) fun x_3 => lt1 (x4 + (1 : Int32)) fun x_4 => k5 x_3 x_4
set_option maxHeartbeats 4000000 in
set_option maxRecDepth 100000 in
theorem vX7_wayWeight_36 {X : CX} {r : Int32} {I : HI} {J : HJ} (hX : OKX X cX7_wayWeight RX7 0 0 5) (hret : RetI X cX7_wayWeight r I J) (a0 : Nat) (x1 : Int32) (x2 : Int32) (x4 : Int32) (sx0 : Int32) (sx1 : Int32) (hk0 : gK (xG X) a0 = 8) (k5 : Int32 → Int32 → Option (Int32)) (hc5 : ∀ (x3 : Int32) (x4 : Int32), k5 x3 x4 = some r → V X I J 5 [some (.ref a0), some (.int x1), some (.int x2), some (.int x3), some (.int x4)] []) (hf : X7_wayWeight_J36 I a0 x1 x2 x4 sx0 sx1 k5 = some r) : V X I J 36 [some (.ref a0), some (.int x1), some (.int x2), none, some (.int x4)] [.int sx1, .int sx0] := by
  unfold X7_wayWeight_J36 at hf
  refine r_imul hX dX7_wayWeight_36 ?_
  obtain ⟨x_3, ex_3, hf⟩ := lt1_some hf
  refine V.topi ex_3 ?_
  refine r_istore_n hX dX7_wayWeight_37 rfl rfl ?_
  obtain ⟨x_4, ex_4, hf⟩ := lt1_some hf
  refine r_iincE (n' := 1) ex_4 hX dX7_wayWeight_38 rfl rfl rfl rfl ?_
  refine r_goto (tgt := 5) hX dX7_wayWeight_41 (by decide) ?_
  refine V.mask [true, true, true, true, true] ?_
  exact hc5 x_3 x_4 hf
noncomputable def X7_wayWeight_B5 (I : HI) (a0 : Nat) (x1 : Int32) (x2 : Int32) (k5 : Int32 → Int32 → Option (Int32)) (x3 : Int32) (x4 : Int32) : Option (Int32) := if x4 < (I ((a0 + 20)) 2) then if ((x1 >>> (x4 &&& 31)) &&& (1 : Int32)) = (1 : Int32) then X7_wayWeight_J36 I a0 x1 x2 x4 x3 x2 k5 else X7_wayWeight_J36 I a0 x1 x2 x4 x3 (((10 : Int32) - x2)) k5 else some x3
set_option maxHeartbeats 4000000 in
set_option maxRecDepth 100000 in
theorem vX7_wayWeight_5 {X : CX} {r : Int32} {I : HI} {J : HJ} (hX : OKX X cX7_wayWeight RX7 0 0 5) (hret : RetI X cX7_wayWeight r I J) (a0 : Nat) (x1 : Int32) (x2 : Int32) (hk0 : gK (xG X) a0 = 8)   : ∀ (n : Nat) (x3 : Int32) (x4 : Int32), wl2 (X7_wayWeight_B5 I a0 x1 x2) n x3 x4 = some r → V X I J 5 [some (.ref a0), some (.int x1), some (.int x2), some (.int x3), some (.int x4)] [] := by
  refine wl2_V (P := fun (x3 : Int32) (x4 : Int32) => V X I J 5 [some (.ref a0), some (.int x1), some (.int x2), some (.int x3), some (.int x4)] []) ?_
  intro k5 hc5 x3 x4 hf
  unfold X7_wayWeight_B5 at hf
  refine r_iload hX dX7_wayWeight_5 rfl ?_
  refine r_aload_n hX dX7_wayWeight_7 rfl ?_
  refine g_7_1 hX fl_X7_19 hk0 dX7_wayWeight_8 ?_
  refine g_1_2 hX fl_X7_91 ((q_8_1 hX hk0)) dX7_wayWeight_11 ?_
  refine r_icmp_ge (tgt := 44) hX dX7_wayWeight_14 (by decide) (fun c_1 => ?_) (fun c_1 => ?_)
  · have hf := hf_t c_1 hf
    refine r_iload_n hX dX7_wayWeight_17 rfl ?_
    refine r_iload_n hX dX7_wayWeight_18 rfl ?_
    refine r_iload hX dX7_wayWeight_19 rfl ?_
    refine r_ishr hX dX7_wayWeight_21 ?_
    refine r_iconst (v := 1) hX dX7_wayWeight_22 rfl ?_
    refine r_iand hX dX7_wayWeight_23 ?_
    refine r_iconst (v := 1) hX dX7_wayWeight_24 rfl ?_
    refine r_icmp_ne (tgt := 32) hX dX7_wayWeight_25 (by decide) (fun c_2 => ?_) (fun c_2 => ?_)
    · have hf := hf_t c_2 hf
      refine r_iload_n hX dX7_wayWeight_28 rfl ?_
      refine r_goto (tgt := 36) hX dX7_wayWeight_29 (by decide) ?_
      refine V.mask [true, true, true, false, true] ?_
      exact vX7_wayWeight_36 hX hret a0 x1 x2 x4 x3 x2 hk0 k5 hc5 hf
    · have hf := hf_f c_2 hf
      refine r_bipush (v := 10) hX dX7_wayWeight_32 (by decide) ?_
      refine r_iload_n hX dX7_wayWeight_34 rfl ?_
      refine r_isub hX dX7_wayWeight_35 ?_
      refine V.mask [true, true, true, false, true] ?_
      exact vX7_wayWeight_36 hX hret a0 x1 x2 x4 x3 (((10 : Int32) - x2)) hk0 k5 hc5 hf
  · have hf := hf_f c_1 hf
    refine r_iload_n hX dX7_wayWeight_44 rfl ?_
    cases hf
    exact hret _ _ dX7_wayWeight_45
noncomputable def f_X7_wayWeight (I : HI) (a0 : Nat) (x1 : Int32) (x2 : Int32) : Option (Int32) := wl2 (X7_wayWeight_B5 I a0 x1 x2) 5000 ((1 : Int32)) ((0 : Int32))
set_option maxHeartbeats 4000000 in
set_option maxRecDepth 100000 in
theorem k_X7_wayWeight {G : GX} {l : Launch} {I : HI} {J : HJ} {r : Int32} (hG : OKG G) {a0 : Nat} {x1 : Int32} {x2 : Int32} (hk0 : gK G a0 = 8) (hf : f_X7_wayWeight I a0 x1 x2 = some r) : Ctr G l yX7_wayWeight cX7_wayWeight 5 (some .int) 0 0 [.ref a0, .int x1, .int x2] I J (some (.int r)) I J := by
  refine ctr_I hG (by decide) [some (.ref a0), some (.int x1), some (.int x2), none, none] rfl rfl fun X e1 e2 hX hret => ?_
  subst e1; subst e2
  unfold f_X7_wayWeight at hf
  refine r_iconst (v := 1) hX dX7_wayWeight_0 rfl ?_
  refine r_istore_n hX dX7_wayWeight_1 rfl rfl ?_
  refine r_iconst (v := 0) hX dX7_wayWeight_2 rfl ?_
  refine r_istore hX dX7_wayWeight_3 rfl rfl ?_
  refine V.mask [true, true, true, true, true] ?_
  exact vX7_wayWeight_5 hX hret a0 x1 x2 hk0 5000 ((1 : Int32)) ((0 : Int32)) hf
noncomputable def X7_lost_J98 (I : HI) (a0 : Nat) (x1 : Int32) (x2 : Int32) (x3 : Int32) (x4 : Int32) (x6 : Int32) (x7 : Int32) (x8 : Int32) (k65 : Int32 → Int32 → Option (Int32)) : Option (Int32) := lt1 (x8 + (1 : Int32)) fun x_25 => k65 x7 x_25
set_option maxHeartbeats 4000000 in
set_option maxRecDepth 100000 in
theorem vX7_lost_98 {X : CX} {r : Int32} {I : HI} {J : HJ} (hX : OKX X cX7_lost RX7 4 97 9) (hret : RetI X cX7_lost r I J) (a0 : Nat) (x1 : Int32) (x2 : Int32) (x3 : Int32) (x4 : Int32) (x6 : Int32) (x7 : Int32) (x8 : Int32) (hk0 : gK (xG X) a0 = 8) (k65 : Int32 → Int32 → Option (Int32)) (hc65 : ∀ (x7 : Int32) (x8 : Int32), k65 x7 x8 = some r → V X I J 65 [some (.ref a0), some (.int x1), some (.int x2), some (.int x3), some (.int x4), none, some (.int x6), some (.int x7), some (.int x8)] []) (hf : X7_lost_J98 I a0 x1 x2 x3 x4 x6 x7 x8 k65 = some r) : V X I J 98 [some (.ref a0), some (.int x1), some (.int x2), some (.int x3), some (.int x4), none, some (.int x6), some (.int x7), some (.int x8)] [] := by
  unfold X7_lost_J98 at hf
  obtain ⟨x_25, ex_25, hf⟩ := lt1_some hf
  refine r_iincE (n' := 1) ex_25 hX dX7_lost_98 rfl rfl rfl rfl ?_
  refine r_goto (tgt := 65) hX dX7_lost_101 (by decide) ?_
  refine V.mask [true, true, true, true, true, false, true, true, true] ?_
  exact hc65 x7 x_25 hf
noncomputable def X7_lost_B65 (I : HI) (a0 : Nat) (x1 : Int32) (x2 : Int32) (x3 : Int32) (x4 : Int32) (x6 : Int32) (k65 : Int32 → Int32 → Option (Int32)) (x7 : Int32) (x8 : Int32) : Option (Int32) := if x8 < x6 then bd1 (f_X1_servesWell I ((a0 + 20)) x1 x2 x8) fun r_15 => if r_15 = 0 then X7_lost_J98 I a0 x1 x2 x3 x4 x6 x7 x8 k65 else bd1 (f_X7_wayWeight I a0 x8 x3) fun r_18 => lt1 ((x7 + r_18)) fun x_20 => X7_lost_J98 I a0 x1 x2 x3 x4 x6 x_20 x8 k65 else bd1 (f_X7_powerOfTen ((I ((a0 + 20)) 2))) fun r_21 => bd1 (f_X7_ofFraction x7 r_21.toInt32 x4) fun r_23 => some r_23
set_option maxHeartbeats 4000000 in
set_option maxRecDepth 100000 in
theorem vX7_lost_65 {X : CX} {r : Int32} {I : HI} {J : HJ} (hX : OKX X cX7_lost RX7 4 97 9) (hret : RetI X cX7_lost r I J) (a0 : Nat) (x1 : Int32) (x2 : Int32) (x3 : Int32) (x4 : Int32) (x6 : Int32) (hk0 : gK (xG X) a0 = 8)   : ∀ (n : Nat) (x7 : Int32) (x8 : Int32), wl2 (X7_lost_B65 I a0 x1 x2 x3 x4 x6) n x7 x8 = some r → V X I J 65 [some (.ref a0), some (.int x1), some (.int x2), some (.int x3), some (.int x4), none, some (.int x6), some (.int x7), some (.int x8)] [] := by
  refine wl2_V (P := fun (x7 : Int32) (x8 : Int32) => V X I J 65 [some (.ref a0), some (.int x1), some (.int x2), some (.int x3), some (.int x4), none, some (.int x6), some (.int x7), some (.int x8)] []) ?_
  intro k65 hc65 x7 x8 hf
  unfold X7_lost_B65 at hf
  refine r_iload hX dX7_lost_65 rfl ?_
  refine r_iload hX dX7_lost_67 rfl ?_
  refine r_icmp_ge (tgt := 104) hX dX7_lost_69 (by decide) (fun c_14 => ?_) (fun c_14 => ?_)
  · have hf := hf_t c_14 hf
    refine r_aload_n hX dX7_lost_72 rfl ?_
    refine g_7_1 hX fl_X7_19 hk0 dX7_lost_73 ?_
    refine r_iload_n hX dX7_lost_76 rfl ?_
    refine r_iload_n hX dX7_lost_77 rfl ?_
    refine r_iload hX dX7_lost_78 rfl ?_
    obtain ⟨r_15, h_16, hf⟩ := bd1_some hf
    refine r_callV (As := [.int x1, .int x2, .int x8]) (ci := 1) hX (k_X1_servesWell (l := xl X) (J := J) hX.ok ((q_8_1 hX hk0)) h_16) pk_X1_servesWell ml_X7_242 rfl rfl rfl rfl ((q_8_1 hX hk0)) rfl rfl rfl (Nat.le_of_ble_eq_true rfl) dX7_lost_80 ?_
    refine r_if_eq (tgt := 98) hX dX7_lost_83 (by decide) (fun c_17 => ?_) (fun c_17 => ?_)
    · have hf := hf_t c_17 hf
      refine V.mask [true, true, true, true, true, false, true, true, true] ?_
      exact vX7_lost_98 hX hret a0 x1 x2 x3 x4 x6 x7 x8 hk0 k65 hc65 hf
    · have hf := hf_f c_17 hf
      refine r_iload hX dX7_lost_86 rfl ?_
      refine r_aload_n hX dX7_lost_88 rfl ?_
      refine r_iload hX dX7_lost_89 rfl ?_
      refine r_iload_n hX dX7_lost_91 rfl ?_
      obtain ⟨r_18, h_19, hf⟩ := bd1_some hf
      refine r_callV (As := [.int x8, .int x3]) (ci := 7) hX (k_X7_wayWeight (l := xl X) (J := J) hX.ok hk0 h_19) pk_X7_wayWeight ml_X7_246 rfl rfl rfl rfl hk0 rfl rfl rfl (Nat.le_of_ble_eq_true rfl) dX7_lost_92 ?_
      refine r_iadd hX dX7_lost_95 ?_
      obtain ⟨x_20, ex_20, hf⟩ := lt1_some hf
      refine V.topi ex_20 ?_
      refine r_istore hX dX7_lost_96 rfl rfl ?_
      refine V.mask [true, true, true, true, true, false, true, true, true] ?_
      exact vX7_lost_98 hX hret a0 x1 x2 x3 x4 x6 x_20 x8 hk0 k65 hc65 hf
  · have hf := hf_f c_14 hf
    refine r_iload hX dX7_lost_104 rfl ?_
    refine r_aload_n hX dX7_lost_106 rfl ?_
    refine g_7_1 hX fl_X7_19 hk0 dX7_lost_107 ?_
    refine g_1_2 hX fl_X7_91 ((q_8_1 hX hk0)) dX7_lost_110 ?_
    obtain ⟨r_21, h_22, hf⟩ := bd1_some hf
    refine r_callS (As := [.int ((I ((a0 + 20)) 2))]) hX (k_X7_powerOfTen (l := xl X) (I := I) (J := J) hX.ok  h_22) pk_X7_powerOfTen ml_X7_207 rfl rfl rfl (Nat.le_of_ble_eq_true rfl) dX7_lost_113 ?_
    refine r_l2i hX dX7_lost_116 ?_
    refine r_iload hX dX7_lost_117 rfl ?_
    obtain ⟨r_23, h_24, hf⟩ := bd1_some hf
    refine r_callS (As := [.int x7, .int r_21.toInt32, .int x4]) hX (k_X7_ofFraction (l := xl X) (I := I) (J := J) hX.ok  h_24) pk_X7_ofFraction ml_X7_238 rfl rfl rfl (Nat.le_of_ble_eq_true rfl) dX7_lost_119 ?_
    cases hf
    exact hret _ _ dX7_lost_122
noncomputable def f_X7_lost (I : HI) (a0 : Nat) (x1 : Int32) (x2 : Int32) (x3 : Int32) (x4 : Int32) : Option (Int32) := bd1 (f_X1_proxyAt I ((a0 + 20)) x1) fun r_1 => mN r_1 (some ((-1 : Int32))) (fun a_3 => bd1 (f_X7_isPage x2) fun r_5 => if r_5 = 0 then some ((-1 : Int32)) else if x3 < 0 then some ((-2 : Int32)) else if (10 : Int32) < x3 then some ((-2 : Int32)) else bd1 (f_X4_has I a_3 x2) fun r_10 => if r_10 = 0 then lt1 (((1 : Int32) <<< ((I ((a0 + 20)) 2) &&& 31))) fun x_13 => wl2 (X7_lost_B65 I a0 x1 x2 x3 x4 x_13) 5000 ((0 : Int32)) ((0 : Int32)) else some ((1 : Int32)))
set_option maxHeartbeats 4000000 in
set_option maxRecDepth 100000 in
theorem k_X7_lost {G : GX} {l : Launch} {I : HI} {J : HJ} {r : Int32} (hG : OKG G) {a0 : Nat} {x1 : Int32} {x2 : Int32} {x3 : Int32} {x4 : Int32} (hk0 : gK G a0 = 8) (hf : f_X7_lost I a0 x1 x2 x3 x4 = some r) : Ctr G l yX7_lost cX7_lost 9 (some .int) 4 97 [.ref a0, .int x1, .int x2, .int x3, .int x4] I J (some (.int r)) I J := by
  refine ctr_I hG (by decide) [some (.ref a0), some (.int x1), some (.int x2), some (.int x3), some (.int x4), none, none, none, none] rfl rfl fun X e1 e2 hX hret => ?_
  subst e1; subst e2
  unfold f_X7_lost at hf
  refine r_aload_n hX dX7_lost_0 rfl ?_
  refine g_7_1 hX fl_X7_19 hk0 dX7_lost_1 ?_
  refine r_iload_n hX dX7_lost_4 rfl ?_
  obtain ⟨r_1, h_2, hf⟩ := bd1_some hf
  refine r_callV (As := [.int x1]) (ci := 1) hX (k_X1_proxyAt (l := xl X) (J := J) hX.ok ((q_8_1 hX hk0)) h_2) pk_X1_proxyAt ml_X7_94 rfl rfl rfl rfl ((q_8_1 hX hk0)) rfl rfl rfl (Nat.le_of_ble_eq_true rfl) dX7_lost_5 ?_
  cases r_1 with
  | none =>
    have hf := mN_n hf
    refine r_astoreN hX dX7_lost_8 rfl rfl ?_
    refine r_aloadN hX dX7_lost_10 rfl ?_
    refine r_ifnull_n (tgt := 22) hX dX7_lost_12 (by decide) ?_
    refine r_iconst (v := -1) hX dX7_lost_22 rfl ?_
    cases hf
    exact hret _ _ dX7_lost_23
  | some a_3 =>
    have hf := mN_s hf
    have hk_4 := kt_X1_proxyAt hX.ok ((q_8_1 hX hk0)) h_2
    refine r_astore hX dX7_lost_8 rfl rfl ?_
    refine r_aload hX dX7_lost_10 rfl ?_
    refine r_ifnull_r hX dX7_lost_12 ?_
    refine r_iload_n hX dX7_lost_15 rfl ?_
    obtain ⟨r_5, h_6, hf⟩ := bd1_some hf
    refine r_callS (As := [.int x2]) hX (k_X7_isPage (l := xl X) (I := I) (J := J) hX.ok  h_6) pk_X7_isPage ml_X7_147 rfl rfl rfl (Nat.le_of_ble_eq_true rfl) dX7_lost_16 ?_
    refine r_if_ne (tgt := 24) hX dX7_lost_19 (by decide) (fun c_7 => ?_) (fun c_7 => ?_)
    · have hf := hf_t c_7 hf
      refine r_iconst (v := -1) hX dX7_lost_22 rfl ?_
      cases hf
      exact hret _ _ dX7_lost_23
    · have hf := hf_f c_7 hf
      refine r_iload_n hX dX7_lost_24 rfl ?_
      refine r_if_lt (tgt := 34) hX dX7_lost_25 (by decide) (fun c_8 => ?_) (fun c_8 => ?_)
      · have hf := hf_t c_8 hf
        refine r_bipush (v := -2) hX dX7_lost_34 (by decide) ?_
        cases hf
        exact hret _ _ dX7_lost_36
      · have hf := hf_f c_8 hf
        refine r_iload_n hX dX7_lost_28 rfl ?_
        refine r_bipush (v := 10) hX dX7_lost_29 (by decide) ?_
        refine r_icmp_le (tgt := 37) hX dX7_lost_31 (by decide) (fun c_9 => ?_) (fun c_9 => ?_)
        · have hf := hf_t c_9 hf
          refine r_bipush (v := -2) hX dX7_lost_34 (by decide) ?_
          cases hf
          exact hret _ _ dX7_lost_36
        · have hf := hf_f c_9 hf
          refine r_aload hX dX7_lost_37 rfl ?_
          refine r_iload_n hX dX7_lost_39 rfl ?_
          obtain ⟨r_10, h_11, hf⟩ := bd1_some hf
          refine r_callV (As := [.int x2]) (ci := 4) hX (k_X4_has (l := xl X) (J := J) hX.ok hk_4 h_11) pk_X4_has ml_X7_168 rfl rfl rfl rfl hk_4 rfl rfl rfl (Nat.le_of_ble_eq_true rfl) dX7_lost_40 ?_
          refine r_if_eq (tgt := 48) hX dX7_lost_43 (by decide) (fun c_12 => ?_) (fun c_12 => ?_)
          · have hf := hf_t c_12 hf
            refine r_iconst (v := 1) hX dX7_lost_48 rfl ?_
            refine r_aload_n hX dX7_lost_49 rfl ?_
            refine g_7_1 hX fl_X7_19 hk0 dX7_lost_50 ?_
            refine g_1_2 hX fl_X7_91 ((q_8_1 hX hk0)) dX7_lost_53 ?_
            refine r_ishl hX dX7_lost_56 ?_
            obtain ⟨x_13, ex_13, hf⟩ := lt1_some hf
            refine V.topi ex_13 ?_
            refine r_istore hX dX7_lost_57 rfl rfl ?_
            refine r_iconst (v := 0) hX dX7_lost_59 rfl ?_
            refine r_istore hX dX7_lost_60 rfl rfl ?_
            refine r_iconst (v := 0) hX dX7_lost_62 rfl ?_
            refine r_istore hX dX7_lost_63 rfl rfl ?_
            refine V.mask [true, true, true, true, true, false, true, true, true] ?_
            exact vX7_lost_65 hX hret a0 x1 x2 x3 x4 x_13 hk0 5000 ((0 : Int32)) ((0 : Int32)) hf
          · have hf := hf_f c_12 hf
            refine r_iconst (v := 1) hX dX7_lost_46 rfl ?_
            cases hf
            exact hret _ _ dX7_lost_47
noncomputable def f_X7_seed (J : HJ) (a0 : Nat) (y1 : Int64) : Option (Int64 × HJ) := lt1 ((J a0)) fun y_1 => lt1 (sJ J a0 y1) fun J_2 => some (y_1, J_2)
set_option maxHeartbeats 4000000 in
set_option maxRecDepth 100000 in
theorem k_X7_seed {G : GX} {l : Launch} {I : HI} {J : HJ} {J' : HJ} {r : Int64} (hG : OKG G) {a0 : Nat} {y1 : Int64} (hk0 : gK G a0 = 8) (hf : f_X7_seed J a0 y1 = some (r, J')) : Ctr G l yX7_seed cX7_seed 5 (some .long) 0 0 [.ref a0, .long y1] I J (some (.long r)) I J' := by
  refine ctr_L hG (by decide) [some (.ref a0), some (.long y1), none, none, none] rfl rfl fun X e1 e2 hX hret => ?_
  subst e1; subst e2
  unfold f_X7_seed at hf
  refine r_aload_n hX dX7_seed_0 rfl ?_
  refine g_7_9 hX fl_X7_58 hk0 dX7_seed_1 ?_
  obtain ⟨y_1, ey_1, hf⟩ := lt1_some hf
  refine V.topl ey_1 ?_
  refine r_lstore_n hX dX7_seed_4 rfl rfl ?_
  refine r_aload_n hX dX7_seed_5 rfl ?_
  refine r_lload_n hX dX7_seed_6 rfl ?_
  obtain ⟨J_2, eJ_2, hf⟩ := lt1_some hf
  refine p_7_9 eJ_2 hX fl_X7_58 hk0 dX7_seed_7 ?_
  refine r_lload_n hX dX7_seed_10 rfl ?_
  cases hf
  exact hret _ _ dX7_seed_11
noncomputable def X7_drawn_J91 (I : HI) (J : HJ) (a0 : Nat) (x1 : Int32) (x2 : Int32) (k27 : HI → HJ → Int32 → Option (Int32 × HI × HJ)) : Option (Int32 × HI × HJ) := lt1 (x2 + (1 : Int32)) fun x_17 => k27 I J x_17
set_option maxHeartbeats 4000000 in
set_option maxRecDepth 100000 in
theorem vX7_drawn_91 {X : CX} {I' : HI} {J' : HJ} {r : Int32} {I : HI} {J : HJ} (hX : OKX X cX7_drawn RX7 4 95 4) (hret : RetI X cX7_drawn r I' J') (a0 : Nat) (x1 : Int32) (x2 : Int32) (hk0 : gK (xG X) a0 = 8) (k27 : HI → HJ → Int32 → Option (Int32 × HI × HJ)) (hc27 : ∀ (I : HI) (J : HJ) (x2 : Int32), k27 I J x2 = some (r, I', J') → V X I J 27 [some (.ref a0), some (.int x1), some (.int x2), none] []) (hf : X7_drawn_J91 I J a0 x1 x2 k27 = some (r, I', J')) : V X I J 91 [some (.ref a0), some (.int x1), some (.int x2), none] [] := by
  unfold X7_drawn_J91 at hf
  obtain ⟨x_17, ex_17, hf⟩ := lt1_some hf
  refine r_iincE (n' := 1) ex_17 hX dX7_drawn_91 rfl rfl rfl rfl ?_
  refine r_goto (tgt := 27) hX dX7_drawn_94 (by decide) ?_
  refine V.mask [true, true, true, false] ?_
  exact hc27 I J x_17 hf
noncomputable def X7_drawn_B27 (a0 : Nat) (x1 : Int32) (k27 : HI → HJ → Int32 → Option (Int32 × HI × HJ)) (I : HI) (J : HJ) (x2 : Int32) : Option (Int32 × HI × HJ) := if x2 < x1 then lt1 (sJ J a0 ((((J a0) * (6364136223846793005 : Int64)) + (1442695040888963407 : Int64)))) fun J_6 => lt1 ((((((J_6 a0)).toUInt64 >>> (((33 : Int32)).toInt64.toUInt64 &&& Int64.toUInt64 63)).toInt64)).toInt32) fun x_7 => if 0 < (I ((a0 + 37)) 2) then gd (¬ (I ((a0 + 37)) 2) = 0) (bd2 (f_X1_request I ((a0 + 37)) ((jrem x_7 ((I ((a0 + 37)) 2)))) ((jrem ((x_7 / (8 : Int32))) ((32 : Int32))))) fun r_10 I_11 => X7_drawn_J91 I_11 J_6 a0 x1 x2 k27) else X7_drawn_J91 I J_6 a0 x1 x2 k27 else bd1 (f_X1_cost I ((a0 + 37))) fun r_13 => bd1 (f_X1_cost I ((a0 + 20))) fun r_15 => some ((r_13 - r_15), I, J)
set_option maxHeartbeats 4000000 in
set_option maxRecDepth 100000 in
theorem vX7_drawn_27 {X : CX} {I' : HI} {J' : HJ} {r : Int32} (hX : OKX X cX7_drawn RX7 4 95 4) (hret : RetI X cX7_drawn r I' J') (a0 : Nat) (x1 : Int32) (hk0 : gK (xG X) a0 = 8)   : ∀ (n : Nat) (I : HI) (J : HJ) (x2 : Int32), wl3 (X7_drawn_B27 a0 x1) n I J x2 = some (r, I', J') → V X I J 27 [some (.ref a0), some (.int x1), some (.int x2), none] [] := by
  refine wl3_V (P := fun (I : HI) (J : HJ) (x2 : Int32) => V X I J 27 [some (.ref a0), some (.int x1), some (.int x2), none] []) ?_
  intro k27 hc27 I J x2 hf
  unfold X7_drawn_B27 at hf
  refine r_iload_n hX dX7_drawn_27 rfl ?_
  refine r_iload_n hX dX7_drawn_28 rfl ?_
  refine r_icmp_ge (tgt := 97) hX dX7_drawn_29 (by decide) (fun c_5 => ?_) (fun c_5 => ?_)
  · have hf := hf_t c_5 hf
    refine r_aload_n hX dX7_drawn_32 rfl ?_
    refine r_aload_n hX dX7_drawn_33 rfl ?_
    refine g_7_9 hX fl_X7_58 hk0 dX7_drawn_34 ?_
    refine r_ldc2 hX dX7_drawn_37 cn_X7_249 ?_
    refine r_lmul hX dX7_drawn_40 ?_
    refine r_ldc2 hX dX7_drawn_41 cn_X7_251 ?_
    refine r_ladd hX dX7_drawn_44 ?_
    obtain ⟨J_6, eJ_6, hf⟩ := lt1_some hf
    refine p_7_9 eJ_6 hX fl_X7_58 hk0 dX7_drawn_45 ?_
    refine r_aload_n hX dX7_drawn_48 rfl ?_
    refine g_7_9 hX fl_X7_58 hk0 dX7_drawn_49 ?_
    refine r_bipush (v := 33) hX dX7_drawn_52 (by decide) ?_
    refine r_lushr hX dX7_drawn_54 ?_
    refine r_l2i hX dX7_drawn_55 ?_
    obtain ⟨x_7, ex_7, hf⟩ := lt1_some hf
    refine V.topi ex_7 ?_
    refine r_istore_n hX dX7_drawn_56 rfl rfl ?_
    refine r_aload_n hX dX7_drawn_57 rfl ?_
    refine g_7_2 hX fl_X7_23 hk0 dX7_drawn_58 ?_
    refine g_1_2 hX fl_X7_91 ((q_8_2 hX hk0)) dX7_drawn_61 ?_
    refine r_if_le (tgt := 91) hX dX7_drawn_64 (by decide) (fun c_8 => ?_) (fun c_8 => ?_)
    · have hf := hf_t c_8 hf
      refine r_aload_n hX dX7_drawn_67 rfl ?_
      refine g_7_2 hX fl_X7_23 hk0 dX7_drawn_68 ?_
      refine r_iload_n hX dX7_drawn_71 rfl ?_
      refine r_aload_n hX dX7_drawn_72 rfl ?_
      refine g_7_2 hX fl_X7_23 hk0 dX7_drawn_73 ?_
      refine g_1_2 hX fl_X7_91 ((q_8_2 hX hk0)) dX7_drawn_76 ?_
      obtain ⟨g_9, hf⟩ := gd_some hf
      refine r_irem hX dX7_drawn_79 g_9 ?_
      refine r_iload_n hX dX7_drawn_80 rfl ?_
      refine r_bipush (v := 8) hX dX7_drawn_81 (by decide) ?_
      refine r_idiv hX dX7_drawn_83 (by decide) ?_
      refine r_bipush (v := 32) hX dX7_drawn_84 (by decide) ?_
      refine r_irem hX dX7_drawn_86 (by decide) ?_
      obtain ⟨r_10, I_11, h_12, hf⟩ := bd2_some hf
      refine r_callV (As := [.int ((jrem x_7 ((I ((a0 + 37)) 2)))), .int ((jrem ((x_7 / (8 : Int32))) ((32 : Int32))))]) (ci := 1) hX (k_X1_request (l := xl X) (J := J_6) hX.ok ((q_8_2 hX hk0)) h_12) pk_X1_request ml_X7_164 rfl rfl rfl rfl ((q_8_2 hX hk0)) rfl rfl rfl (Nat.le_of_ble_eq_true rfl) dX7_drawn_87 ?_
      refine r_pop hX dX7_drawn_90 rfl ?_
      refine V.mask [true, true, true, false] ?_
      exact vX7_drawn_91 hX hret a0 x1 x2 hk0 k27 hc27 hf
    · have hf := hf_f c_8 hf
      refine V.mask [true, true, true, false] ?_
      exact vX7_drawn_91 hX hret a0 x1 x2 hk0 k27 hc27 hf
  · have hf := hf_f c_5 hf
    refine r_aload_n hX dX7_drawn_97 rfl ?_
    refine g_7_2 hX fl_X7_23 hk0 dX7_drawn_98 ?_
    obtain ⟨r_13, h_14, hf⟩ := bd1_some hf
    refine r_callV (As := []) (ci := 1) hX (k_X1_cost (l := xl X) (J := J) hX.ok ((q_8_2 hX hk0)) h_14) pk_X1_cost ml_X7_213 rfl rfl rfl rfl ((q_8_2 hX hk0)) rfl rfl rfl (Nat.le_of_ble_eq_true rfl) dX7_drawn_101 ?_
    refine r_aload_n hX dX7_drawn_104 rfl ?_
    refine g_7_1 hX fl_X7_19 hk0 dX7_drawn_105 ?_
    obtain ⟨r_15, h_16, hf⟩ := bd1_some hf
    refine r_callV (As := []) (ci := 1) hX (k_X1_cost (l := xl X) (J := J) hX.ok ((q_8_1 hX hk0)) h_16) pk_X1_cost ml_X7_213 rfl rfl rfl rfl ((q_8_1 hX hk0)) rfl rfl rfl (Nat.le_of_ble_eq_true rfl) dX7_drawn_108 ?_
    refine r_isub hX dX7_drawn_111 ?_
    cases hf
    exact hret _ _ dX7_drawn_112
noncomputable def f_X7_drawn (I : HI) (J : HJ) (a0 : Nat) (x1 : Int32) : Option (Int32 × HI × HJ) := if x1 < (1 : Int32) then some ((-2 : Int32), I, J) else if (20 : Int32) < x1 then some ((-2 : Int32), I, J) else bd1 (f_X1_take I ((a0 + 37)) ((a0 + 20))) fun I_3 => wl3 (X7_drawn_B27 a0 x1) 5000 I_3 J ((0 : Int32))
set_option maxHeartbeats 4000000 in
set_option maxRecDepth 100000 in
theorem k_X7_drawn {G : GX} {l : Launch} {I : HI} {J : HJ} {I' : HI} {J' : HJ} {r : Int32} (hG : OKG G) {a0 : Nat} {x1 : Int32} (hk0 : gK G a0 = 8) (hf : f_X7_drawn I J a0 x1 = some (r, I', J')) : Ctr G l yX7_drawn cX7_drawn 4 (some .int) 4 95 [.ref a0, .int x1] I J (some (.int r)) I' J' := by
  refine ctr_I hG (by decide) [some (.ref a0), some (.int x1), none, none] rfl rfl fun X e1 e2 hX hret => ?_
  subst e1; subst e2
  unfold f_X7_drawn at hf
  refine r_iload_n hX dX7_drawn_0 rfl ?_
  refine r_iconst (v := 1) hX dX7_drawn_1 rfl ?_
  refine r_icmp_lt (tgt := 11) hX dX7_drawn_2 (by decide) (fun c_1 => ?_) (fun c_1 => ?_)
  · have hf := hf_t c_1 hf
    refine r_bipush (v := -2) hX dX7_drawn_11 (by decide) ?_
    cases hf
    exact hret _ _ dX7_drawn_13
  · have hf := hf_f c_1 hf
    refine r_iload_n hX dX7_drawn_5 rfl ?_
    refine r_bipush (v := 20) hX dX7_drawn_6 (by decide) ?_
    refine r_icmp_le (tgt := 14) hX dX7_drawn_8 (by decide) (fun c_2 => ?_) (fun c_2 => ?_)
    · have hf := hf_t c_2 hf
      refine r_bipush (v := -2) hX dX7_drawn_11 (by decide) ?_
      cases hf
      exact hret _ _ dX7_drawn_13
    · have hf := hf_f c_2 hf
      refine r_aload_n hX dX7_drawn_14 rfl ?_
      refine g_7_2 hX fl_X7_23 hk0 dX7_drawn_15 ?_
      refine r_aload_n hX dX7_drawn_18 rfl ?_
      refine g_7_1 hX fl_X7_19 hk0 dX7_drawn_19 ?_
      obtain ⟨I_3, h_4, hf⟩ := bd1_some hf
      refine r_callV (As := [.ref ((a0 + 20))]) (ci := 1) hX (k_X1_take (l := xl X) (J := J) hX.ok ((q_8_2 hX hk0)) ((q_8_1 hX hk0)) h_4) pk_X1_take ml_X7_84 rfl rfl rfl rfl ((q_8_2 hX hk0)) rfl rfl rfl (Nat.le_of_ble_eq_true rfl) dX7_drawn_22 ?_
      refine r_iconst (v := 0) hX dX7_drawn_25 rfl ?_
      refine r_istore_n hX dX7_drawn_26 rfl rfl ?_
      refine V.mask [true, true, true, false] ?_
      exact vX7_drawn_27 hX hret a0 x1 hk0 5000 I_3 J ((0 : Int32)) hf
noncomputable def f_X7_keep (I : HI) (a0 : Nat) (x1 : Int32) : Option (Int32 × HI) := bd1 (f_X7_netAt ((a0 + 294)) 2 ((a0 + 294) + 10) x1) fun r_1 => mN r_1 (some ((-1 : Int32), I)) (fun a_3 => if x1 < 0 then some ((-1 : Int32), I) else if x1 < (2 : Int32) then bd1 (f_X1_take I a_3 ((a0 + 20))) fun I_7 => gd (vp_in x1 2) (lt1 (sI I_7 ((a0 + 295)) x1.toNatClampNeg ((1 : Int32))) fun I_10 => some ((I_10 ((a0 + 20)) 2), I_10)) else some ((-1 : Int32), I))
set_option maxHeartbeats 4000000 in
set_option maxRecDepth 100000 in
theorem k_X7_keep {G : GX} {l : Launch} {I : HI} {J : HJ} {I' : HI} {r : Int32} (hG : OKG G) {a0 : Nat} {x1 : Int32} (hk0 : gK G a0 = 8) (hf : f_X7_keep I a0 x1 = some (r, I')) : Ctr G l yX7_keep cX7_keep 3 (some .int) 3 65 [.ref a0, .int x1] I J (some (.int r)) I' J := by
  refine ctr_I hG (by decide) [some (.ref a0), some (.int x1), none] rfl rfl fun X e1 e2 hX hret => ?_
  subst e1; subst e2
  unfold f_X7_keep at hf
  refine r_aload_n hX dX7_keep_0 rfl ?_
  refine g_7_4 hX fl_X7_33 hk0 dX7_keep_1 ?_
  refine r_iload_n hX dX7_keep_4 rfl ?_
  obtain ⟨r_1, h_2, hf⟩ := bd1_some hf
  refine r_callS (As := [.ref ((a0 + 294)), .int x1]) hX (k_X7_netAt (l := xl X) (I := I) (J := J) hX.ok (rn_12 ((q_8_4 hX hk0))) h_2) pk_X7_netAt ml_X7_253 rfl rfl rfl (Nat.le_of_ble_eq_true rfl) dX7_keep_5 ?_
  cases r_1 with
  | none =>
    have hf := mN_n hf
    refine r_astore_nN hX dX7_keep_8 rfl rfl ?_
    refine r_aload_nN hX dX7_keep_9 rfl ?_
    refine r_ifnull_n (tgt := 26) hX dX7_keep_10 (by decide) ?_
    refine r_iconst (v := -1) hX dX7_keep_26 rfl ?_
    cases hf
    exact hret _ _ dX7_keep_27
  | some a_3 =>
    have hf := mN_s hf
    have hk_4 := kt_X7_netAt hX.ok (rn_12 ((q_8_4 hX hk0))) h_2
    refine r_astore_n hX dX7_keep_8 rfl rfl ?_
    refine r_aload_n hX dX7_keep_9 rfl ?_
    refine r_ifnull_r hX dX7_keep_10 ?_
    refine r_iload_n hX dX7_keep_13 rfl ?_
    refine r_if_lt (tgt := 26) hX dX7_keep_14 (by decide) (fun c_5 => ?_) (fun c_5 => ?_)
    · have hf := hf_t c_5 hf
      refine r_iconst (v := -1) hX dX7_keep_26 rfl ?_
      cases hf
      exact hret _ _ dX7_keep_27
    · have hf := hf_f c_5 hf
      refine r_iload_n hX dX7_keep_17 rfl ?_
      refine r_aload_n hX dX7_keep_18 rfl ?_
      refine g_7_5 hX fl_X7_37 hk0 dX7_keep_19 ?_
      refine r_zlen (n := 2) (v := 2) hX rfl rfl ((q_8_5 hX hk0)) (by decide) dX7_keep_22 ?_
      refine r_icmp_lt (tgt := 28) hX dX7_keep_23 (by decide) (fun c_6 => ?_) (fun c_6 => ?_)
      · have hf := hf_t c_6 hf
        refine r_aload_n hX dX7_keep_28 rfl ?_
        refine r_aload_n hX dX7_keep_29 rfl ?_
        refine g_7_1 hX fl_X7_19 hk0 dX7_keep_30 ?_
        obtain ⟨I_7, h_8, hf⟩ := bd1_some hf
        refine r_callV (As := [.ref ((a0 + 20))]) (ci := 1) hX (k_X1_take (l := xl X) (J := J) hX.ok hk_4 ((q_8_1 hX hk0)) h_8) pk_X1_take ml_X7_84 rfl rfl rfl rfl hk_4 rfl rfl rfl (Nat.le_of_ble_eq_true rfl) dX7_keep_33 ?_
        refine r_aload_n hX dX7_keep_36 rfl ?_
        refine g_7_5 hX fl_X7_37 hk0 dX7_keep_37 ?_
        refine r_iload_n hX dX7_keep_40 rfl ?_
        refine r_iconst (v := 1) hX dX7_keep_41 rfl ?_
        obtain ⟨g_9, hf⟩ := gd_some hf
        obtain ⟨I_10, eI_10, hf⟩ := lt1_some hf
        refine r_zastE (n := 2) eI_10 hX rfl rfl ((q_8_5 hX hk0)) g_9 zb_1 dX7_keep_42 ?_
        refine r_aload_n hX dX7_keep_43 rfl ?_
        refine g_7_1 hX fl_X7_19 hk0 dX7_keep_44 ?_
        refine g_1_2 hX fl_X7_91 ((q_8_1 hX hk0)) dX7_keep_47 ?_
        cases hf
        exact hret _ _ dX7_keep_50
      · have hf := hf_f c_6 hf
        refine r_iconst (v := -1) hX dX7_keep_26 rfl ?_
        cases hf
        exact hret _ _ dX7_keep_27
noncomputable def f_X7_again (I : HI) (a0 : Nat) (x1 : Int32) : Option (Int32 × HI) := bd1 (f_X7_netAt ((a0 + 294)) 2 ((a0 + 294) + 10) x1) fun r_1 => mN r_1 (some ((-1 : Int32), I)) (fun a_3 => if x1 < 0 then some ((-1 : Int32), I) else if x1 < (2 : Int32) then gd (vp_in x1 2) (if (I ((a0 + 295)) x1.toNatClampNeg) = 0 then some ((-3 : Int32), I) else bd1 (f_X1_take I ((a0 + 20)) a_3) fun I_9 => bd1 (f_X3_forget I_9 ((a0 + 54))) fun I_11 => some ((I_11 ((a0 + 20)) 2), I_11)) else some ((-1 : Int32), I))
set_option maxHeartbeats 4000000 in
set_option maxRecDepth 100000 in
theorem k_X7_again {G : GX} {l : Launch} {I : HI} {J : HJ} {I' : HI} {r : Int32} (hG : OKG G) {a0 : Nat} {x1 : Int32} (hk0 : gK G a0 = 8) (hf : f_X7_again I a0 x1 = some (r, I')) : Ctr G l yX7_again cX7_again 3 (some .int) 3 65 [.ref a0, .int x1] I J (some (.int r)) I' J := by
  refine ctr_I hG (by decide) [some (.ref a0), some (.int x1), none] rfl rfl fun X e1 e2 hX hret => ?_
  subst e1; subst e2
  unfold f_X7_again at hf
  refine r_aload_n hX dX7_again_0 rfl ?_
  refine g_7_4 hX fl_X7_33 hk0 dX7_again_1 ?_
  refine r_iload_n hX dX7_again_4 rfl ?_
  obtain ⟨r_1, h_2, hf⟩ := bd1_some hf
  refine r_callS (As := [.ref ((a0 + 294)), .int x1]) hX (k_X7_netAt (l := xl X) (I := I) (J := J) hX.ok (rn_12 ((q_8_4 hX hk0))) h_2) pk_X7_netAt ml_X7_253 rfl rfl rfl (Nat.le_of_ble_eq_true rfl) dX7_again_5 ?_
  cases r_1 with
  | none =>
    have hf := mN_n hf
    refine r_astore_nN hX dX7_again_8 rfl rfl ?_
    refine r_aload_nN hX dX7_again_9 rfl ?_
    refine r_ifnull_n (tgt := 26) hX dX7_again_10 (by decide) ?_
    refine r_iconst (v := -1) hX dX7_again_26 rfl ?_
    cases hf
    exact hret _ _ dX7_again_27
  | some a_3 =>
    have hf := mN_s hf
    have hk_4 := kt_X7_netAt hX.ok (rn_12 ((q_8_4 hX hk0))) h_2
    refine r_astore_n hX dX7_again_8 rfl rfl ?_
    refine r_aload_n hX dX7_again_9 rfl ?_
    refine r_ifnull_r hX dX7_again_10 ?_
    refine r_iload_n hX dX7_again_13 rfl ?_
    refine r_if_lt (tgt := 26) hX dX7_again_14 (by decide) (fun c_5 => ?_) (fun c_5 => ?_)
    · have hf := hf_t c_5 hf
      refine r_iconst (v := -1) hX dX7_again_26 rfl ?_
      cases hf
      exact hret _ _ dX7_again_27
    · have hf := hf_f c_5 hf
      refine r_iload_n hX dX7_again_17 rfl ?_
      refine r_aload_n hX dX7_again_18 rfl ?_
      refine g_7_5 hX fl_X7_37 hk0 dX7_again_19 ?_
      refine r_zlen (n := 2) (v := 2) hX rfl rfl ((q_8_5 hX hk0)) (by decide) dX7_again_22 ?_
      refine r_icmp_lt (tgt := 28) hX dX7_again_23 (by decide) (fun c_6 => ?_) (fun c_6 => ?_)
      · have hf := hf_t c_6 hf
        refine r_aload_n hX dX7_again_28 rfl ?_
        refine g_7_5 hX fl_X7_37 hk0 dX7_again_29 ?_
        refine r_iload_n hX dX7_again_32 rfl ?_
        obtain ⟨g_7, hf⟩ := gd_some hf
        refine r_zald (n := 2) hX rfl rfl ((q_8_5 hX hk0)) g_7 dX7_again_33 ?_
        refine r_if_ne (tgt := 40) hX dX7_again_34 (by decide) (fun c_8 => ?_) (fun c_8 => ?_)
        · have hf := hf_t c_8 hf
          refine r_bipush (v := -3) hX dX7_again_37 (by decide) ?_
          cases hf
          exact hret _ _ dX7_again_39
        · have hf := hf_f c_8 hf
          refine r_aload_n hX dX7_again_40 rfl ?_
          refine g_7_1 hX fl_X7_19 hk0 dX7_again_41 ?_
          refine r_aload_n hX dX7_again_44 rfl ?_
          obtain ⟨I_9, h_10, hf⟩ := bd1_some hf
          refine r_callV (As := [.ref a_3]) (ci := 1) hX (k_X1_take (l := xl X) (J := J) hX.ok ((q_8_1 hX hk0)) hk_4 h_10) pk_X1_take ml_X7_84 rfl rfl rfl rfl ((q_8_1 hX hk0)) rfl rfl rfl (Nat.le_of_ble_eq_true rfl) dX7_again_45 ?_
          refine r_aload_n hX dX7_again_48 rfl ?_
          refine g_7_3 hX fl_X7_29 hk0 dX7_again_49 ?_
          obtain ⟨I_11, h_12, hf⟩ := bd1_some hf
          refine r_callV (As := []) (ci := 3) hX (k_X3_forget (l := xl X) (J := J) hX.ok ((q_8_3 hX hk0)) h_12) pk_X3_forget ml_X7_88 rfl rfl rfl rfl ((q_8_3 hX hk0)) rfl rfl rfl (Nat.le_of_ble_eq_true rfl) dX7_again_52 ?_
          refine r_aload_n hX dX7_again_55 rfl ?_
          refine g_7_1 hX fl_X7_19 hk0 dX7_again_56 ?_
          refine g_1_2 hX fl_X7_91 ((q_8_1 hX hk0)) dX7_again_59 ?_
          cases hf
          exact hret _ _ dX7_again_62
      · have hf := hf_f c_6 hf
        refine r_iconst (v := -1) hX dX7_again_26 rfl ?_
        cases hf
        exact hret _ _ dX7_again_27
noncomputable def f_X7_count (I : HI) (a0 : Nat) (x1 : Int32) : Option (Int32) := if x1 = 0 then some ((I ((a0 + 1)) 0)) else if x1 = 1 then some ((I ((a0 + 20)) 2)) else if x1 = 2 then some ((I (((a0 + 20) + 1)) 2)) else if x1 = 3 then some ((I (((a0 + 20) + 1)) 0)) else if x1 = 4 then some ((I (((a0 + 20) + 1)) 1)) else if x1 = 5 then some ((I (((a0 + 20) + 1)) 3)) else if x1 = 6 then some ((I ((a0 + 20)) 3)) else if x1 = 7 then some ((I ((a0 + 20)) 4)) else if x1 = 8 then some ((I ((a0 + 20)) 5)) else if x1 = 9 then some ((I ((a0 + 20)) 6)) else if x1 = 10 then bd1 (f_X1_allPages I ((a0 + 20))) fun r_12 => some r_12 else if x1 = 11 then some ((I ((a0 + 54)) 2)) else if x1 = 12 then some ((I ((a0 + 296)) 3)) else some ((-2 : Int32))
set_option maxHeartbeats 4000000 in
set_option maxRecDepth 100000 in
theorem k_X7_count {G : GX} {l : Launch} {I : HI} {J : HJ} {r : Int32} (hG : OKG G) {a0 : Nat} {x1 : Int32} (hk0 : gK G a0 = 8) (hf : f_X7_count I a0 x1 = some r) : Ctr G l yX7_count cX7_count 2 (some .int) 2 44 [.ref a0, .int x1] I J (some (.int r)) I J := by
  refine ctr_I hG (by decide) [some (.ref a0), some (.int x1)] rfl rfl fun X e1 e2 hX hret => ?_
  subst e1; subst e2
  unfold f_X7_count at hf
  refine r_iload_n hX dX7_count_0 rfl ?_
  by_cases c_1 : x1 = 0
  · have hf := hf_t c_1 hf
    refine r_tsw (off := 67) (tgt := 68) hX 0 dX7_count_1 c_1 (by decide) (by decide) (by decide) (by decide) ?_
    refine r_aload_n hX dX7_count_68 rfl ?_
    refine g_7_0 hX fl_X7_10 hk0 dX7_count_69 ?_
    refine g_6_0 hX fl_X7_73 ((q_8_0 hX hk0)) dX7_count_72 ?_
    cases hf
    exact hret _ _ dX7_count_75
  have hf := hf_f c_1 hf
  by_cases c_2 : x1 = 1
  · have hf := hf_t c_2 hf
    refine r_tsw (off := 75) (tgt := 76) hX 1 dX7_count_1 c_2 (by decide) (by decide) (by decide) (by decide) ?_
    refine r_aload_n hX dX7_count_76 rfl ?_
    refine g_7_1 hX fl_X7_19 hk0 dX7_count_77 ?_
    refine g_1_2 hX fl_X7_91 ((q_8_1 hX hk0)) dX7_count_80 ?_
    cases hf
    exact hret _ _ dX7_count_83
  have hf := hf_f c_2 hf
  by_cases c_3 : x1 = 2
  · have hf := hf_t c_3 hf
    refine r_tsw (off := 83) (tgt := 84) hX 2 dX7_count_1 c_3 (by decide) (by decide) (by decide) (by decide) ?_
    refine r_aload_n hX dX7_count_84 rfl ?_
    refine g_7_1 hX fl_X7_19 hk0 dX7_count_85 ?_
    refine g_1_0 hX fl_X7_131 ((q_8_1 hX hk0)) dX7_count_88 ?_
    refine g_0_2 hX fl_X7_200 ((q_2_0 hX ((q_8_1 hX hk0)))) dX7_count_91 ?_
    cases hf
    exact hret _ _ dX7_count_94
  have hf := hf_f c_3 hf
  by_cases c_4 : x1 = 3
  · have hf := hf_t c_4 hf
    refine r_tsw (off := 94) (tgt := 95) hX 3 dX7_count_1 c_4 (by decide) (by decide) (by decide) (by decide) ?_
    refine r_aload_n hX dX7_count_95 rfl ?_
    refine g_7_1 hX fl_X7_19 hk0 dX7_count_96 ?_
    refine g_1_0 hX fl_X7_131 ((q_8_1 hX hk0)) dX7_count_99 ?_
    refine g_0_0 hX fl_X7_135 ((q_2_0 hX ((q_8_1 hX hk0)))) dX7_count_102 ?_
    cases hf
    exact hret _ _ dX7_count_105
  have hf := hf_f c_4 hf
  by_cases c_5 : x1 = 4
  · have hf := hf_t c_5 hf
    refine r_tsw (off := 105) (tgt := 106) hX 4 dX7_count_1 c_5 (by decide) (by decide) (by decide) (by decide) ?_
    refine r_aload_n hX dX7_count_106 rfl ?_
    refine g_7_1 hX fl_X7_19 hk0 dX7_count_107 ?_
    refine g_1_0 hX fl_X7_131 ((q_8_1 hX hk0)) dX7_count_110 ?_
    refine g_0_1 hX fl_X7_150 ((q_2_0 hX ((q_8_1 hX hk0)))) dX7_count_113 ?_
    cases hf
    exact hret _ _ dX7_count_116
  have hf := hf_f c_5 hf
  by_cases c_6 : x1 = 5
  · have hf := hf_t c_6 hf
    refine r_tsw (off := 116) (tgt := 117) hX 5 dX7_count_1 c_6 (by decide) (by decide) (by decide) (by decide) ?_
    refine r_aload_n hX dX7_count_117 rfl ?_
    refine g_7_1 hX fl_X7_19 hk0 dX7_count_118 ?_
    refine g_1_0 hX fl_X7_131 ((q_8_1 hX hk0)) dX7_count_121 ?_
    refine g_0_3 hX fl_X7_182 ((q_2_0 hX ((q_8_1 hX hk0)))) dX7_count_124 ?_
    cases hf
    exact hret _ _ dX7_count_127
  have hf := hf_f c_6 hf
  by_cases c_7 : x1 = 6
  · have hf := hf_t c_7 hf
    refine r_tsw (off := 127) (tgt := 128) hX 6 dX7_count_1 c_7 (by decide) (by decide) (by decide) (by decide) ?_
    refine r_aload_n hX dX7_count_128 rfl ?_
    refine g_7_1 hX fl_X7_19 hk0 dX7_count_129 ?_
    refine g_1_3 hX fl_X7_257 ((q_8_1 hX hk0)) dX7_count_132 ?_
    cases hf
    exact hret _ _ dX7_count_135
  have hf := hf_f c_7 hf
  by_cases c_8 : x1 = 7
  · have hf := hf_t c_8 hf
    refine r_tsw (off := 135) (tgt := 136) hX 7 dX7_count_1 c_8 (by decide) (by decide) (by decide) (by decide) ?_
    refine r_aload_n hX dX7_count_136 rfl ?_
    refine g_7_1 hX fl_X7_19 hk0 dX7_count_137 ?_
    refine g_1_4 hX fl_X7_260 ((q_8_1 hX hk0)) dX7_count_140 ?_
    cases hf
    exact hret _ _ dX7_count_143
  have hf := hf_f c_8 hf
  by_cases c_9 : x1 = 8
  · have hf := hf_t c_9 hf
    refine r_tsw (off := 143) (tgt := 144) hX 8 dX7_count_1 c_9 (by decide) (by decide) (by decide) (by decide) ?_
    refine r_aload_n hX dX7_count_144 rfl ?_
    refine g_7_1 hX fl_X7_19 hk0 dX7_count_145 ?_
    refine g_1_5 hX fl_X7_263 ((q_8_1 hX hk0)) dX7_count_148 ?_
    cases hf
    exact hret _ _ dX7_count_151
  have hf := hf_f c_9 hf
  by_cases c_10 : x1 = 9
  · have hf := hf_t c_10 hf
    refine r_tsw (off := 151) (tgt := 152) hX 9 dX7_count_1 c_10 (by decide) (by decide) (by decide) (by decide) ?_
    refine r_aload_n hX dX7_count_152 rfl ?_
    refine g_7_1 hX fl_X7_19 hk0 dX7_count_153 ?_
    refine g_1_6 hX fl_X7_266 ((q_8_1 hX hk0)) dX7_count_156 ?_
    cases hf
    exact hret _ _ dX7_count_159
  have hf := hf_f c_10 hf
  by_cases c_11 : x1 = 10
  · have hf := hf_t c_11 hf
    refine r_tsw (off := 159) (tgt := 160) hX 10 dX7_count_1 c_11 (by decide) (by decide) (by decide) (by decide) ?_
    refine r_aload_n hX dX7_count_160 rfl ?_
    refine g_7_1 hX fl_X7_19 hk0 dX7_count_161 ?_
    obtain ⟨r_12, h_13, hf⟩ := bd1_some hf
    refine r_callV (As := []) (ci := 1) hX (k_X1_allPages (l := xl X) (J := J) hX.ok ((q_8_1 hX hk0)) h_13) pk_X1_allPages ml_X7_269 rfl rfl rfl rfl ((q_8_1 hX hk0)) rfl rfl rfl (Nat.le_of_ble_eq_true rfl) dX7_count_164 ?_
    cases hf
    exact hret _ _ dX7_count_167
  have hf := hf_f c_11 hf
  by_cases c_14 : x1 = 11
  · have hf := hf_t c_14 hf
    refine r_tsw (off := 167) (tgt := 168) hX 11 dX7_count_1 c_14 (by decide) (by decide) (by decide) (by decide) ?_
    refine r_aload_n hX dX7_count_168 rfl ?_
    refine g_7_3 hX fl_X7_29 hk0 dX7_count_169 ?_
    refine g_3_2 hX fl_X7_192 ((q_8_3 hX hk0)) dX7_count_172 ?_
    cases hf
    exact hret _ _ dX7_count_175
  have hf := hf_f c_14 hf
  by_cases c_15 : x1 = 12
  · have hf := hf_t c_15 hf
    refine r_tsw (off := 175) (tgt := 176) hX 12 dX7_count_1 c_15 (by decide) (by decide) (by decide) (by decide) ?_
    refine r_aload_n hX dX7_count_176 rfl ?_
    refine g_7_6 hX fl_X7_44 hk0 dX7_count_177 ?_
    refine g_5_3 hX fl_X7_230 ((q_8_6 hX hk0)) dX7_count_180 ?_
    cases hf
    exact hret _ _ dX7_count_183
  have hf := hf_f c_15 hf
  refine r_tswD (tgt := 184) hX dX7_count_1 [0, 1, 2, 3, 4, 5, 6, 7, 8, 9, 10, 11, 12] (by decide) (List.forall_mem_cons.mpr ⟨c_1, List.forall_mem_cons.mpr ⟨c_2, List.forall_mem_cons.mpr ⟨c_3, List.forall_mem_cons.mpr ⟨c_4, List.forall_mem_cons.mpr ⟨c_5, List.forall_mem_cons.mpr ⟨c_6, List.forall_mem_cons.mpr ⟨c_7, List.forall_mem_cons.mpr ⟨c_8, List.forall_mem_cons.mpr ⟨c_9, List.forall_mem_cons.mpr ⟨c_10, List.forall_mem_cons.mpr ⟨c_11, List.forall_mem_cons.mpr ⟨c_14, List.forall_mem_cons.mpr ⟨c_15, (fun _ h => absurd h List.not_mem_nil)⟩⟩⟩⟩⟩⟩⟩⟩⟩⟩⟩⟩⟩) (by decide) ?_
  refine r_bipush (v := -2) hX dX7_count_184 (by decide) ?_
  cases hf
  exact hret _ _ dX7_count_186
noncomputable def f_X8_in (y0 : Int64) (y2 : Int64) (y4 : Int64) : Option (Int32) := if (lg_cmp y0 y2) < 0 then some ((0 : Int32)) else if 0 < (lg_cmp y0 y4) then some ((0 : Int32)) else some ((1 : Int32))
set_option maxHeartbeats 4000000 in
set_option maxRecDepth 100000 in
theorem k_X8_in {G : GX} {l : Launch} {I : HI} {J : HJ} {r : Int32} (hG : OKG G) {y0 : Int64} {y2 : Int64} {y4 : Int64}  (hf : f_X8_in y0 y2 y4 = some r) : Ctr G l yX8_in cX8_in 6 (some .boolean) 0 0 [.long y0, .long y2, .long y4] I J (some (.int r)) I J := by
  refine ctr_Zb hG (by decide) [some (.long y0), none, some (.long y2), none, some (.long y4), none] rfl rfl fun X e1 e2 hX hret => ?_
  subst e1; subst e2
  unfold f_X8_in at hf
  refine r_lload_n hX dX8_in_0 rfl ?_
  refine r_lload_n hX dX8_in_1 rfl ?_
  refine r_lcmp hX dX8_in_2 ?_
  refine r_if_lt (tgt := 17) hX dX8_in_3 (by decide) (fun c_1 => ?_) (fun c_1 => ?_)
  · have hf := hf_t c_1 hf
    refine r_iconst (v := 0) hX dX8_in_17 rfl ?_
    cases hf
    exact hret _ _ zb_0 dX8_in_18
  · have hf := hf_f c_1 hf
    refine r_lload_n hX dX8_in_6 rfl ?_
    refine r_lload hX dX8_in_7 rfl ?_
    refine r_lcmp hX dX8_in_9 ?_
    refine r_if_gt (tgt := 17) hX dX8_in_10 (by decide) (fun c_2 => ?_) (fun c_2 => ?_)
    · have hf := hf_t c_2 hf
      refine r_iconst (v := 0) hX dX8_in_17 rfl ?_
      cases hf
      exact hret _ _ zb_0 dX8_in_18
    · have hf := hf_f c_2 hf
      refine r_iconst (v := 1) hX dX8_in_13 rfl ?_
      refine r_goto (tgt := 18) hX dX8_in_14 (by decide) ?_
      cases hf
      exact hret _ _ zb_1 dX8_in_18
noncomputable def f_X8_has (x0 : Int32) (x1 : Int32) : Option (Int32) := if ((x0 >>> (x1 &&& 31)) &&& (1 : Int32)) = (1 : Int32) then some ((1 : Int32)) else some ((0 : Int32))
set_option maxHeartbeats 4000000 in
set_option maxRecDepth 100000 in
theorem k_X8_has {G : GX} {l : Launch} {I : HI} {J : HJ} {r : Int32} (hG : OKG G) {x0 : Int32} {x1 : Int32}  (hf : f_X8_has x0 x1 = some r) : Ctr G l yX8_has cX8_has 2 (some .boolean) 0 0 [.int x0, .int x1] I J (some (.int r)) I J := by
  refine ctr_Zb hG (by decide) [some (.int x0), some (.int x1)] rfl rfl fun X e1 e2 hX hret => ?_
  subst e1; subst e2
  unfold f_X8_has at hf
  refine r_iload_n hX dX8_has_0 rfl ?_
  refine r_iload_n hX dX8_has_1 rfl ?_
  refine r_ishr hX dX8_has_2 ?_
  refine r_iconst (v := 1) hX dX8_has_3 rfl ?_
  refine r_iand hX dX8_has_4 ?_
  refine r_iconst (v := 1) hX dX8_has_5 rfl ?_
  refine r_icmp_ne (tgt := 13) hX dX8_has_6 (by decide) (fun c_1 => ?_) (fun c_1 => ?_)
  · have hf := hf_t c_1 hf
    refine r_iconst (v := 1) hX dX8_has_9 rfl ?_
    refine r_goto (tgt := 14) hX dX8_has_10 (by decide) ?_
    cases hf
    exact hret _ _ zb_1 dX8_has_14
  · have hf := hf_f c_1 hf
    refine r_iconst (v := 0) hX dX8_has_13 rfl ?_
    cases hf
    exact hret _ _ zb_0 dX8_has_14
noncomputable def X8_ones_B4 (x0 : Int32) (k4 : Int32 → Int32 → Option (Int32)) (x1 : Int32) (x2 : Int32) : Option (Int32) := if x2 < (32 : Int32) then lt1 ((x1 + ((x0 >>> (x2 &&& 31)) &&& (1 : Int32)))) fun x_2 => lt1 (x2 + (1 : Int32)) fun x_3 => k4 x_2 x_3 else some x1
set_option maxHeartbeats 4000000 in
set_option maxRecDepth 100000 in
theorem vX8_ones_4 {X : CX} {r : Int32} {I : HI} {J : HJ} (hX : OKX X cX8_ones RX8 0 0 3) (hret : RetI X cX8_ones r I J) (x0 : Int32)    : ∀ (n : Nat) (x1 : Int32) (x2 : Int32), wl2 (X8_ones_B4 x0) n x1 x2 = some r → V X I J 4 [some (.int x0), some (.int x1), some (.int x2)] [] := by
  refine wl2_V (P := fun (x1 : Int32) (x2 : Int32) => V X I J 4 [some (.int x0), some (.int x1), some (.int x2)] []) ?_
  intro k4 hc4 x1 x2 hf
  unfold X8_ones_B4 at hf
  refine r_iload_n hX dX8_ones_4 rfl ?_
  refine r_bipush (v := 32) hX dX8_ones_5 (by decide) ?_
  refine r_icmp_ge (tgt := 24) hX dX8_ones_7 (by decide) (fun c_1 => ?_) (fun c_1 => ?_)
  · have hf := hf_t c_1 hf
    refine r_iload_n hX dX8_ones_10 rfl ?_
    refine r_iload_n hX dX8_ones_11 rfl ?_
    refine r_iload_n hX dX8_ones_12 rfl ?_
    refine r_ishr hX dX8_ones_13 ?_
    refine r_iconst (v := 1) hX dX8_ones_14 rfl ?_
    refine r_iand hX dX8_ones_15 ?_
    refine r_iadd hX dX8_ones_16 ?_
    obtain ⟨x_2, ex_2, hf⟩ := lt1_some hf
    refine V.topi ex_2 ?_
    refine r_istore_n hX dX8_ones_17 rfl rfl ?_
    obtain ⟨x_3, ex_3, hf⟩ := lt1_some hf
    refine r_iincE (n' := 1) ex_3 hX dX8_ones_18 rfl rfl rfl rfl ?_
    refine r_goto (tgt := 4) hX dX8_ones_21 (by decide) ?_
    refine V.mask [true, true, true] ?_
    exact hc4 x_2 x_3 hf
  · have hf := hf_f c_1 hf
    refine r_iload_n hX dX8_ones_24 rfl ?_
    cases hf
    exact hret _ _ dX8_ones_25
noncomputable def f_X8_ones (x0 : Int32) : Option (Int32) := wl2 (X8_ones_B4 x0) 5000 ((0 : Int32)) ((0 : Int32))
set_option maxHeartbeats 4000000 in
set_option maxRecDepth 100000 in
theorem k_X8_ones {G : GX} {l : Launch} {I : HI} {J : HJ} {r : Int32} (hG : OKG G) {x0 : Int32}  (hf : f_X8_ones x0 = some r) : Ctr G l yX8_ones cX8_ones 3 (some .int) 0 0 [.int x0] I J (some (.int r)) I J := by
  refine ctr_I hG (by decide) [some (.int x0), none, none] rfl rfl fun X e1 e2 hX hret => ?_
  subst e1; subst e2
  unfold f_X8_ones at hf
  refine r_iconst (v := 0) hX dX8_ones_0 rfl ?_
  refine r_istore_n hX dX8_ones_1 rfl rfl ?_
  refine r_iconst (v := 0) hX dX8_ones_2 rfl ?_
  refine r_istore_n hX dX8_ones_3 rfl rfl ?_
  refine V.mask [true, true, true] ?_
  exact vX8_ones_4 hX hret x0 5000 ((0 : Int32)) ((0 : Int32)) hf
noncomputable def X8_power_B4 (x0 : Int32) (x1 : Int32) (k4 : Int32 → Int32 → Option (Int32)) (x2 : Int32) (x3 : Int32) : Option (Int32) := if x3 < x1 then lt1 ((x2 * x0)) fun x_2 => lt1 (x3 + (1 : Int32)) fun x_3 => k4 x_2 x_3 else some x2
set_option maxHeartbeats 4000000 in
set_option maxRecDepth 100000 in
theorem vX8_power_4 {X : CX} {r : Int32} {I : HI} {J : HJ} (hX : OKX X cX8_power RX8 0 0 4) (hret : RetI X cX8_power r I J) (x0 : Int32) (x1 : Int32)    : ∀ (n : Nat) (x2 : Int32) (x3 : Int32), wl2 (X8_power_B4 x0 x1) n x2 x3 = some r → V X I J 4 [some (.int x0), some (.int x1), some (.int x2), some (.int x3)] [] := by
  refine wl2_V (P := fun (x2 : Int32) (x3 : Int32) => V X I J 4 [some (.int x0), some (.int x1), some (.int x2), some (.int x3)] []) ?_
  intro k4 hc4 x2 x3 hf
  unfold X8_power_B4 at hf
  refine r_iload_n hX dX8_power_4 rfl ?_
  refine r_iload_n hX dX8_power_5 rfl ?_
  refine r_icmp_ge (tgt := 19) hX dX8_power_6 (by decide) (fun c_1 => ?_) (fun c_1 => ?_)
  · have hf := hf_t c_1 hf
    refine r_iload_n hX dX8_power_9 rfl ?_
    refine r_iload_n hX dX8_power_10 rfl ?_
    refine r_imul hX dX8_power_11 ?_
    obtain ⟨x_2, ex_2, hf⟩ := lt1_some hf
    refine V.topi ex_2 ?_
    refine r_istore_n hX dX8_power_12 rfl rfl ?_
    obtain ⟨x_3, ex_3, hf⟩ := lt1_some hf
    refine r_iincE (n' := 1) ex_3 hX dX8_power_13 rfl rfl rfl rfl ?_
    refine r_goto (tgt := 4) hX dX8_power_16 (by decide) ?_
    refine V.mask [true, true, true, true] ?_
    exact hc4 x_2 x_3 hf
  · have hf := hf_f c_1 hf
    refine r_iload_n hX dX8_power_19 rfl ?_
    cases hf
    exact hret _ _ dX8_power_20
noncomputable def f_X8_power (x0 : Int32) (x1 : Int32) : Option (Int32) := wl2 (X8_power_B4 x0 x1) 5000 ((1 : Int32)) ((0 : Int32))
set_option maxHeartbeats 4000000 in
set_option maxRecDepth 100000 in
theorem k_X8_power {G : GX} {l : Launch} {I : HI} {J : HJ} {r : Int32} (hG : OKG G) {x0 : Int32} {x1 : Int32}  (hf : f_X8_power x0 x1 = some r) : Ctr G l yX8_power cX8_power 4 (some .int) 0 0 [.int x0, .int x1] I J (some (.int r)) I J := by
  refine ctr_I hG (by decide) [some (.int x0), some (.int x1), none, none] rfl rfl fun X e1 e2 hX hret => ?_
  subst e1; subst e2
  unfold f_X8_power at hf
  refine r_iconst (v := 1) hX dX8_power_0 rfl ?_
  refine r_istore_n hX dX8_power_1 rfl rfl ?_
  refine r_iconst (v := 0) hX dX8_power_2 rfl ?_
  refine r_istore_n hX dX8_power_3 rfl rfl ?_
  refine V.mask [true, true, true, true] ?_
  exact vX8_power_4 hX hret x0 x1 5000 ((1 : Int32)) ((0 : Int32)) hf
noncomputable def X8_layTrial_B2 (a0 : Nat) (k2 : HI → Int32 → Option (HI)) (I : HI) (x1 : Int32) : Option (HI) := if x1 < (121 : Int32) then gd (vp_in x1 121) (gd (vp_in x1 121) (lt1 (sI I ((a0 + 10)) x1.toNatClampNeg ((I ((a0 + 9)) x1.toNatClampNeg))) fun I_4 => lt1 (x1 + (1 : Int32)) fun x_5 => k2 I_4 x_5)) else some I
set_option maxHeartbeats 4000000 in
set_option maxRecDepth 100000 in
theorem vX8_layTrial_2 {X : CX} {I' : HI} {J : HJ} (hX : OKX X cX8_layTrial RX8 0 0 2) (hret : RetV X cX8_layTrial I' J) (a0 : Nat) (hk0 : gK (xG X) a0 = 9)   : ∀ (n : Nat) (I : HI) (x1 : Int32), wl2 (X8_layTrial_B2 a0) n I x1 = some I' → V X I J 2 [some (.ref a0), some (.int x1)] [] := by
  refine wl2_V (P := fun (I : HI) (x1 : Int32) => V X I J 2 [some (.ref a0), some (.int x1)] []) ?_
  intro k2 hc2 I x1 hf
  unfold X8_layTrial_B2 at hf
  refine r_iload_n hX dX8_layTrial_2 rfl ?_
  refine r_bipush (v := 121) hX dX8_layTrial_3 (by decide) ?_
  refine r_icmp_ge (tgt := 26) hX dX8_layTrial_5 (by decide) (fun c_1 => ?_) (fun c_1 => ?_)
  · have hf := hf_t c_1 hf
    refine r_aload_n hX dX8_layTrial_8 rfl ?_
    refine g_8_20 hX fl_X8_47 hk0 dX8_layTrial_9 ?_
    refine r_iload_n hX dX8_layTrial_12 rfl ?_
    refine r_aload_n hX dX8_layTrial_13 rfl ?_
    refine g_8_19 hX fl_X8_44 hk0 dX8_layTrial_14 ?_
    refine r_iload_n hX dX8_layTrial_17 rfl ?_
    obtain ⟨g_2, hf⟩ := gd_some hf
    refine r_iald (n := 121) hX rfl ((q_9_19 hX hk0)) g_2 dX8_layTrial_18 ?_
    obtain ⟨g_3, hf⟩ := gd_some hf
    obtain ⟨I_4, eI_4, hf⟩ := lt1_some hf
    refine r_iastE (n := 121) eI_4 hX rfl ((q_9_20 hX hk0)) g_3 dX8_layTrial_19 ?_
    obtain ⟨x_5, ex_5, hf⟩ := lt1_some hf
    refine r_iincE (n' := 1) ex_5 hX dX8_layTrial_20 rfl rfl rfl rfl ?_
    refine r_goto (tgt := 2) hX dX8_layTrial_23 (by decide) ?_
    refine V.mask [true, true] ?_
    exact hc2 I_4 x_5 hf
  · have hf := hf_f c_1 hf
    cases hf
    exact hret _ _ dX8_layTrial_26
noncomputable def f_X8_layTrial (I : HI) (a0 : Nat) : Option (HI) := wl2 (X8_layTrial_B2 a0) 5000 I ((0 : Int32))
set_option maxHeartbeats 4000000 in
set_option maxRecDepth 100000 in
theorem k_X8_layTrial {G : GX} {l : Launch} {I : HI} {J : HJ} {I' : HI} (hG : OKG G) {a0 : Nat} (hk0 : gK G a0 = 9) (hf : f_X8_layTrial I a0 = some I') : Ctr G l yX8_layTrial cX8_layTrial 2 none 0 0 [.ref a0] I J none I' J := by
  refine ctr_V hG (by decide) [some (.ref a0), none] rfl rfl fun X e1 e2 hX hret => ?_
  subst e1; subst e2
  unfold f_X8_layTrial at hf
  refine r_iconst (v := 0) hX dX8_layTrial_0 rfl ?_
  refine r_istore_n hX dX8_layTrial_1 rfl rfl ?_
  refine V.mask [true, true] ?_
  exact vX8_layTrial_2 hX hret a0 hk0 5000 I ((0 : Int32)) hf
noncomputable def f_X8_noProxy (I : HI) (a0 : Nat) (x1 : Int32) : Option (Int32) := bd1 (f_X8_in x1.toInt64 ((0 : Int64)) ((((I a0 9) - (1 : Int32))).toInt64)) fun r_1 => if r_1 = 0 then some ((1 : Int32)) else some ((0 : Int32))
set_option maxHeartbeats 4000000 in
set_option maxRecDepth 100000 in
theorem k_X8_noProxy {G : GX} {l : Launch} {I : HI} {J : HJ} {r : Int32} (hG : OKG G) {a0 : Nat} {x1 : Int32} (hk0 : gK G a0 = 9) (hf : f_X8_noProxy I a0 x1 = some r) : Ctr G l yX8_noProxy cX8_noProxy 2 (some .boolean) 1 25 [.ref a0, .int x1] I J (some (.int r)) I J := by
  refine ctr_Zb hG (by decide) [some (.ref a0), some (.int x1)] rfl rfl fun X e1 e2 hX hret => ?_
  subst e1; subst e2
  unfold f_X8_noProxy at hf
  refine r_iload_n hX dX8_noProxy_0 rfl ?_
  refine r_i2l hX dX8_noProxy_1 ?_
  refine r_lconst (v := 0) hX dX8_noProxy_2 rfl ?_
  refine r_aload_n hX dX8_noProxy_3 rfl ?_
  refine g_8_9 hX fl_X8_78 hk0 dX8_noProxy_4 ?_
  refine r_iconst (v := 1) hX dX8_noProxy_7 rfl ?_
  refine r_isub hX dX8_noProxy_8 ?_
  refine r_i2l hX dX8_noProxy_9 ?_
  obtain ⟨r_1, h_2, hf⟩ := bd1_some hf
  refine r_callS (As := [.long x1.toInt64, .long ((0 : Int64)), .long ((((I a0 9) - (1 : Int32))).toInt64)]) hX (k_X8_in (l := xl X) (I := I) (J := J) hX.ok  h_2) pk_X8_in ml_X8_81 rfl rfl rfl (Nat.le_of_ble_eq_true rfl) dX8_noProxy_10 ?_
  refine r_if_ne (tgt := 20) hX dX8_noProxy_13 (by decide) (fun c_3 => ?_) (fun c_3 => ?_)
  · have hf := hf_t c_3 hf
    refine r_iconst (v := 1) hX dX8_noProxy_16 rfl ?_
    refine r_goto (tgt := 21) hX dX8_noProxy_17 (by decide) ?_
    cases hf
    exact hret _ _ zb_1 dX8_noProxy_21
  · have hf := hf_f c_3 hf
    refine r_iconst (v := 0) hX dX8_noProxy_20 rfl ?_
    cases hf
    exact hret _ _ zb_0 dX8_noProxy_21
noncomputable def f_X8_noPage (x0 : Int32) : Option (Int32) := bd1 (f_X8_in x0.toInt64 ((0 : Int64)) ((31 : Int64))) fun r_1 => if r_1 = 0 then some ((1 : Int32)) else some ((0 : Int32))
set_option maxHeartbeats 4000000 in
set_option maxRecDepth 100000 in
theorem k_X8_noPage {G : GX} {l : Launch} {I : HI} {J : HJ} {r : Int32} (hG : OKG G) {x0 : Int32}  (hf : f_X8_noPage x0 = some r) : Ctr G l yX8_noPage cX8_noPage 1 (some .boolean) 1 25 [.int x0] I J (some (.int r)) I J := by
  refine ctr_Zb hG (by decide) [some (.int x0)] rfl rfl fun X e1 e2 hX hret => ?_
  subst e1; subst e2
  unfold f_X8_noPage at hf
  refine r_iload_n hX dX8_noPage_0 rfl ?_
  refine r_i2l hX dX8_noPage_1 ?_
  refine r_lconst (v := 0) hX dX8_noPage_2 rfl ?_
  refine r_ldc2 hX dX8_noPage_3 cn_X8_85 ?_
  obtain ⟨r_1, h_2, hf⟩ := bd1_some hf
  refine r_callS (As := [.long x0.toInt64, .long ((0 : Int64)), .long ((31 : Int64))]) hX (k_X8_in (l := xl X) (I := I) (J := J) hX.ok  h_2) pk_X8_in ml_X8_81 rfl rfl rfl (Nat.le_of_ble_eq_true rfl) dX8_noPage_6 ?_
  refine r_if_ne (tgt := 16) hX dX8_noPage_9 (by decide) (fun c_3 => ?_) (fun c_3 => ?_)
  · have hf := hf_t c_3 hf
    refine r_iconst (v := 1) hX dX8_noPage_12 rfl ?_
    refine r_goto (tgt := 17) hX dX8_noPage_13 (by decide) ?_
    cases hf
    exact hret _ _ zb_1 dX8_noPage_17
  · have hf := hf_f c_3 hf
    refine r_iconst (v := 0) hX dX8_noPage_16 rfl ?_
    cases hf
    exact hret _ _ zb_0 dX8_noPage_17
noncomputable def f_X8_write (I : HI) (a0 : Nat) (x1 : Int32) : Option (Int32 × HI) := lt1 (sI I a0 0 ((0 : Int32))) fun I_1 => bd1 (f_X8_in x1.toInt64 ((0 : Int64)) ((255 : Int64))) fun r_2 => if r_2 = 0 then some ((-2 : Int32), I_1) else if (I_1 a0 2) = (100 : Int32) then some ((-4 : Int32), I_1) else gd (vp_in ((I_1 a0 2)) 100) (lt1 (sI I_1 ((a0 + 1)) ((I_1 a0 2)).toNatClampNeg x1) fun I_7 => lt1 (sI I_7 a0 2 (((I_7 a0 2) + (1 : Int32)))) fun I_8 => some ((I_8 a0 2), I_8))
set_option maxHeartbeats 4000000 in
set_option maxRecDepth 100000 in
theorem k_X8_write {G : GX} {l : Launch} {I : HI} {J : HJ} {I' : HI} {r : Int32} (hG : OKG G) {a0 : Nat} {x1 : Int32} (hk0 : gK G a0 = 9) (hf : f_X8_write I a0 x1 = some (r, I')) : Ctr G l yX8_write cX8_write 2 (some .int) 1 25 [.ref a0, .int x1] I J (some (.int r)) I' J := by
  refine ctr_I hG (by decide) [some (.ref a0), some (.int x1)] rfl rfl fun X e1 e2 hX hret => ?_
  subst e1; subst e2
  unfold f_X8_write at hf
  refine r_aload_n hX dX8_write_0 rfl ?_
  refine r_iconst (v := 0) hX dX8_write_1 rfl ?_
  obtain ⟨I_1, eI_1, hf⟩ := lt1_some hf
  refine p_8_0 eI_1 hX fl_X8_75 hk0 dX8_write_2 ?_
  refine r_iload_n hX dX8_write_5 rfl ?_
  refine r_i2l hX dX8_write_6 ?_
  refine r_lconst (v := 0) hX dX8_write_7 rfl ?_
  refine r_ldc2 hX dX8_write_8 cn_X8_87 ?_
  obtain ⟨r_2, h_3, hf⟩ := bd1_some hf
  refine r_callS (As := [.long x1.toInt64, .long ((0 : Int64)), .long ((255 : Int64))]) hX (k_X8_in (l := xl X) (I := I_1) (J := J) hX.ok  h_3) pk_X8_in ml_X8_81 rfl rfl rfl (Nat.le_of_ble_eq_true rfl) dX8_write_11 ?_
  refine r_if_ne (tgt := 20) hX dX8_write_14 (by decide) (fun c_4 => ?_) (fun c_4 => ?_)
  · have hf := hf_t c_4 hf
    refine r_bipush (v := -2) hX dX8_write_17 (by decide) ?_
    cases hf
    exact hret _ _ dX8_write_19
  · have hf := hf_f c_4 hf
    refine r_aload_n hX dX8_write_20 rfl ?_
    refine g_8_2 hX fl_X8_89 hk0 dX8_write_21 ?_
    refine r_bipush (v := 100) hX dX8_write_24 (by decide) ?_
    refine r_icmp_ne (tgt := 32) hX dX8_write_26 (by decide) (fun c_5 => ?_) (fun c_5 => ?_)
    · have hf := hf_t c_5 hf
      refine r_bipush (v := -4) hX dX8_write_29 (by decide) ?_
      cases hf
      exact hret _ _ dX8_write_31
    · have hf := hf_f c_5 hf
      refine r_aload_n hX dX8_write_32 rfl ?_
      refine g_8_1 hX fl_X8_7 hk0 dX8_write_33 ?_
      refine r_aload_n hX dX8_write_36 rfl ?_
      refine g_8_2 hX fl_X8_89 hk0 dX8_write_37 ?_
      refine r_iload_n hX dX8_write_40 rfl ?_
      obtain ⟨g_6, hf⟩ := gd_some hf
      obtain ⟨I_7, eI_7, hf⟩ := lt1_some hf
      refine r_iastE (n := 100) eI_7 hX rfl ((q_9_1 hX hk0)) g_6 dX8_write_41 ?_
      refine r_aload_n hX dX8_write_42 rfl ?_
      refine r_dup hX dX8_write_43 rfl ?_
      refine g_8_2 hX fl_X8_89 hk0 dX8_write_44 ?_
      refine r_iconst (v := 1) hX dX8_write_47 rfl ?_
      refine r_iadd hX dX8_write_48 ?_
      obtain ⟨I_8, eI_8, hf⟩ := lt1_some hf
      refine p_8_2 eI_8 hX fl_X8_89 hk0 dX8_write_49 ?_
      refine r_aload_n hX dX8_write_52 rfl ?_
      refine g_8_2 hX fl_X8_89 hk0 dX8_write_53 ?_
      cases hf
      exact hret _ _ dX8_write_56
noncomputable def f_X8_wipe (I : HI) (a0 : Nat) : Option (Int32 × HI) := lt1 (sI I a0 0 ((0 : Int32))) fun I_1 => lt1 ((I_1 a0 2)) fun x_2 => lt1 (sI I_1 a0 2 ((0 : Int32))) fun I_3 => some (x_2, I_3)
set_option maxHeartbeats 4000000 in
set_option maxRecDepth 100000 in
theorem k_X8_wipe {G : GX} {l : Launch} {I : HI} {J : HJ} {I' : HI} {r : Int32} (hG : OKG G) {a0 : Nat} (hk0 : gK G a0 = 9) (hf : f_X8_wipe I a0 = some (r, I')) : Ctr G l yX8_wipe cX8_wipe 2 (some .int) 0 0 [.ref a0] I J (some (.int r)) I' J := by
  refine ctr_I hG (by decide) [some (.ref a0), none] rfl rfl fun X e1 e2 hX hret => ?_
  subst e1; subst e2
  unfold f_X8_wipe at hf
  refine r_aload_n hX dX8_wipe_0 rfl ?_
  refine r_iconst (v := 0) hX dX8_wipe_1 rfl ?_
  obtain ⟨I_1, eI_1, hf⟩ := lt1_some hf
  refine p_8_0 eI_1 hX fl_X8_75 hk0 dX8_wipe_2 ?_
  refine r_aload_n hX dX8_wipe_5 rfl ?_
  refine g_8_2 hX fl_X8_89 hk0 dX8_wipe_6 ?_
  obtain ⟨x_2, ex_2, hf⟩ := lt1_some hf
  refine V.topi ex_2 ?_
  refine r_istore_n hX dX8_wipe_9 rfl rfl ?_
  refine r_aload_n hX dX8_wipe_10 rfl ?_
  refine r_iconst (v := 0) hX dX8_wipe_11 rfl ?_
  obtain ⟨I_3, eI_3, hf⟩ := lt1_some hf
  refine p_8_2 eI_3 hX fl_X8_89 hk0 dX8_wipe_12 ?_
  refine r_iload_n hX dX8_wipe_15 rfl ?_
  cases hf
  exact hret _ _ dX8_wipe_16
noncomputable def X8_isFigure_J54 (I : HI) (x3 : Int32) (sa0 : Nat) (sx1 : Int32) (sx2 : Int32) : Option (Int32 × HI) := lt1 (sI I sa0 3 ((sx1 + sx2))) fun I_7 => gd (zb x3) (some (x3, I_7))
set_option maxHeartbeats 4000000 in
set_option maxRecDepth 100000 in
theorem vX8_isFigure_54 {X : CX} {I' : HI} {r : Int32} {I : HI} {J : HJ} (hX : OKX X cX8_isFigure RX8 1 25 4) (hret : RetZ X cX8_isFigure r I' J) (x3 : Int32) (sa0 : Nat) (sx1 : Int32) (sx2 : Int32) (hs0 : gK (xG X) sa0 = 9)   (hf : X8_isFigure_J54 I x3 sa0 sx1 sx2 = some (r, I')) : V X I J 54 [none, none, none, some (.int x3)] [.int sx2, .int sx1, .ref sa0] := by
  unfold X8_isFigure_J54 at hf
  refine r_iadd hX dX8_isFigure_54 ?_
  obtain ⟨I_7, eI_7, hf⟩ := lt1_some hf
  refine p_8_3 eI_7 hX fl_X8_92 hs0 dX8_isFigure_55 ?_
  refine r_iload_n hX dX8_isFigure_58 rfl ?_
  obtain ⟨g_8, hf⟩ := gd_some hf
  cases hf
  exact hret _ _ g_8 dX8_isFigure_59
noncomputable def X8_isFigure_J39 (I : HI) (a0 : Nat) (sx0 : Int32) : Option (Int32 × HI) := if sx0 = 0 then X8_isFigure_J54 I sx0 a0 ((I a0 3)) ((0 : Int32)) else X8_isFigure_J54 I sx0 a0 ((I a0 3)) ((1 : Int32))
set_option maxHeartbeats 4000000 in
set_option maxRecDepth 100000 in
theorem vX8_isFigure_39 {X : CX} {I' : HI} {r : Int32} {I : HI} {J : HJ} (hX : OKX X cX8_isFigure RX8 1 25 4) (hret : RetZ X cX8_isFigure r I' J) (a0 : Nat) (sx0 : Int32) (hk0 : gK (xG X) a0 = 9)   (hf : X8_isFigure_J39 I a0 sx0 = some (r, I')) : V X I J 39 [some (.ref a0), none, none, none] [.int sx0] := by
  unfold X8_isFigure_J39 at hf
  refine r_istore_n hX dX8_isFigure_39 rfl rfl ?_
  refine r_aload_n hX dX8_isFigure_40 rfl ?_
  refine r_dup hX dX8_isFigure_41 rfl ?_
  refine g_8_3 hX fl_X8_92 hk0 dX8_isFigure_42 ?_
  refine r_iload_n hX dX8_isFigure_45 rfl ?_
  refine r_if_eq (tgt := 53) hX dX8_isFigure_46 (by decide) (fun c_6 => ?_) (fun c_6 => ?_)
  · have hf := hf_t c_6 hf
    refine r_iconst (v := 0) hX dX8_isFigure_53 rfl ?_
    refine V.mask [false, false, false, true] ?_
    exact vX8_isFigure_54 hX hret sx0 a0 ((I a0 3)) ((0 : Int32)) hk0 hf
  · have hf := hf_f c_6 hf
    refine r_iconst (v := 1) hX dX8_isFigure_49 rfl ?_
    refine r_goto (tgt := 54) hX dX8_isFigure_50 (by decide) ?_
    refine V.mask [false, false, false, true] ?_
    exact vX8_isFigure_54 hX hret sx0 a0 ((I a0 3)) ((1 : Int32)) hk0 hf
noncomputable def X8_isFigure_J38 (I : HI) (a0 : Nat) : Option (Int32 × HI) := X8_isFigure_J39 I a0 ((0 : Int32))
set_option maxHeartbeats 4000000 in
set_option maxRecDepth 100000 in
theorem vX8_isFigure_38 {X : CX} {I' : HI} {r : Int32} {I : HI} {J : HJ} (hX : OKX X cX8_isFigure RX8 1 25 4) (hret : RetZ X cX8_isFigure r I' J) (a0 : Nat) (hk0 : gK (xG X) a0 = 9)   (hf : X8_isFigure_J38 I a0 = some (r, I')) : V X I J 38 [some (.ref a0), none, none, none] [] := by
  unfold X8_isFigure_J38 at hf
  refine r_iconst (v := 0) hX dX8_isFigure_38 rfl ?_
  refine V.mask [true, false, false, false] ?_
  exact vX8_isFigure_39 hX hret a0 ((0 : Int32)) hk0 hf
noncomputable def f_X8_isFigure (I : HI) (a0 : Nat) (x1 : Int32) (x2 : Int32) : Option (Int32 × HI) := if (I a0 3) < (I a0 2) then gd (vp_in ((I a0 3)) 100) (bd1 (f_X8_in ((((I ((a0 + 1)) ((I a0 3)).toNatClampNeg) - (48 : Int32))).toInt64) x1.toInt64 x2.toInt64) fun r_3 => if r_3 = 0 then X8_isFigure_J38 I a0 else X8_isFigure_J39 I a0 ((1 : Int32))) else X8_isFigure_J38 I a0
set_option maxHeartbeats 4000000 in
set_option maxRecDepth 100000 in
theorem k_X8_isFigure {G : GX} {l : Launch} {I : HI} {J : HJ} {I' : HI} {r : Int32} (hG : OKG G) {a0 : Nat} {x1 : Int32} {x2 : Int32} (hk0 : gK G a0 = 9) (hf : f_X8_isFigure I a0 x1 x2 = some (r, I')) : Ctr G l yX8_isFigure cX8_isFigure 4 (some .boolean) 1 25 [.ref a0, .int x1, .int x2] I J (some (.int r)) I' J := by
  refine ctr_Zb hG (by decide) [some (.ref a0), some (.int x1), some (.int x2), none] rfl rfl fun X e1 e2 hX hret => ?_
  subst e1; subst e2
  unfold f_X8_isFigure at hf
  refine r_aload_n hX dX8_isFigure_0 rfl ?_
  refine g_8_3 hX fl_X8_92 hk0 dX8_isFigure_1 ?_
  refine r_aload_n hX dX8_isFigure_4 rfl ?_
  refine g_8_2 hX fl_X8_89 hk0 dX8_isFigure_5 ?_
  refine r_icmp_ge (tgt := 38) hX dX8_isFigure_8 (by decide) (fun c_1 => ?_) (fun c_1 => ?_)
  · have hf := hf_t c_1 hf
    refine r_aload_n hX dX8_isFigure_11 rfl ?_
    refine g_8_1 hX fl_X8_7 hk0 dX8_isFigure_12 ?_
    refine r_aload_n hX dX8_isFigure_15 rfl ?_
    refine g_8_3 hX fl_X8_92 hk0 dX8_isFigure_16 ?_
    obtain ⟨g_2, hf⟩ := gd_some hf
    refine r_iald (n := 100) hX rfl ((q_9_1 hX hk0)) g_2 dX8_isFigure_19 ?_
    refine r_bipush (v := 48) hX dX8_isFigure_20 (by decide) ?_
    refine r_isub hX dX8_isFigure_22 ?_
    refine r_i2l hX dX8_isFigure_23 ?_
    refine r_iload_n hX dX8_isFigure_24 rfl ?_
    refine r_i2l hX dX8_isFigure_25 ?_
    refine r_iload_n hX dX8_isFigure_26 rfl ?_
    refine r_i2l hX dX8_isFigure_27 ?_
    obtain ⟨r_3, h_4, hf⟩ := bd1_some hf
    refine r_callS (As := [.long ((((I ((a0 + 1)) ((I a0 3)).toNatClampNeg) - (48 : Int32))).toInt64), .long x1.toInt64, .long x2.toInt64]) hX (k_X8_in (l := xl X) (I := I) (J := J) hX.ok  h_4) pk_X8_in ml_X8_81 rfl rfl rfl (Nat.le_of_ble_eq_true rfl) dX8_isFigure_28 ?_
    refine r_if_eq (tgt := 38) hX dX8_isFigure_31 (by decide) (fun c_5 => ?_) (fun c_5 => ?_)
    · have hf := hf_t c_5 hf
      refine V.mask [true, false, false, false] ?_
      exact vX8_isFigure_38 hX hret a0 hk0 hf
    · have hf := hf_f c_5 hf
      refine r_iconst (v := 1) hX dX8_isFigure_34 rfl ?_
      refine r_goto (tgt := 39) hX dX8_isFigure_35 (by decide) ?_
      refine V.mask [true, false, false, false] ?_
      exact vX8_isFigure_39 hX hret a0 ((1 : Int32)) hk0 hf
  · have hf := hf_f c_1 hf
    refine V.mask [true, false, false, false] ?_
    exact vX8_isFigure_38 hX hret a0 hk0 hf
noncomputable def f_X8_taken (I : HI) (a0 : Nat) (x1 : Int32) : Option (Int32) := gd (vp_in (((I a0 3) - x1)) 100) (some (((I ((a0 + 1)) (((I a0 3) - x1)).toNatClampNeg) - (48 : Int32))))
set_option maxHeartbeats 4000000 in
set_option maxRecDepth 100000 in
theorem k_X8_taken {G : GX} {l : Launch} {I : HI} {J : HJ} {r : Int32} (hG : OKG G) {a0 : Nat} {x1 : Int32} (hk0 : gK G a0 = 9) (hf : f_X8_taken I a0 x1 = some r) : Ctr G l yX8_taken cX8_taken 2 (some .int) 0 0 [.ref a0, .int x1] I J (some (.int r)) I J := by
  refine ctr_I hG (by decide) [some (.ref a0), some (.int x1)] rfl rfl fun X e1 e2 hX hret => ?_
  subst e1; subst e2
  unfold f_X8_taken at hf
  refine r_aload_n hX dX8_taken_0 rfl ?_
  refine g_8_1 hX fl_X8_7 hk0 dX8_taken_1 ?_
  refine r_aload_n hX dX8_taken_4 rfl ?_
  refine g_8_3 hX fl_X8_92 hk0 dX8_taken_5 ?_
  refine r_iload_n hX dX8_taken_8 rfl ?_
  refine r_isub hX dX8_taken_9 ?_
  obtain ⟨g_1, hf⟩ := gd_some hf
  refine r_iald (n := 100) hX rfl ((q_9_1 hX hk0)) g_1 dX8_taken_10 ?_
  refine r_bipush (v := 48) hX dX8_taken_11 (by decide) ?_
  refine r_isub hX dX8_taken_13 ?_
  cases hf
  exact hret _ _ dX8_taken_14
noncomputable def X8_readHead_J71 (I : HI) (a0 : Nat) (sa0 : Nat) (sx1 : Int32) (sx2 : Int32) : Option (Int32 × HI) := bd2 (f_X8_isFigure I sa0 sx1 sx2) fun r_14 I_15 => if r_14 = 0 then some ((0 : Int32), I_15) else bd1 (f_X8_taken I_15 a0 ((2 : Int32))) fun r_18 => bd1 (f_X8_taken I_15 a0 ((1 : Int32))) fun r_20 => lt1 (sI I_15 a0 11 ((((10 : Int32) * r_18) + r_20))) fun I_22 => bd2 (f_X8_isFigure I_22 a0 ((1 : Int32)) ((3 : Int32))) fun r_23 I_24 => if r_23 = 0 then some ((0 : Int32), I_24) else bd1 (f_X8_taken I_24 a0 ((1 : Int32))) fun r_27 => lt1 (sI I_24 a0 12 r_27) fun I_29 => some ((1 : Int32), I_29)
set_option maxHeartbeats 4000000 in
set_option maxRecDepth 100000 in
theorem vX8_readHead_71 {X : CX} {I' : HI} {r : Int32} {I : HI} {J : HJ} (hX : OKX X cX8_readHead RX8 2 48 2) (hret : RetZ X cX8_readHead r I' J) (a0 : Nat) (sa0 : Nat) (sx1 : Int32) (sx2 : Int32) (hk0 : gK (xG X) a0 = 9) (hs0 : gK (xG X) sa0 = 9)   (hf : X8_readHead_J71 I a0 sa0 sx1 sx2 = some (r, I')) : V X I J 71 [some (.ref a0), none] [.int sx2, .int sx1, .ref sa0] := by
  unfold X8_readHead_J71 at hf
  obtain ⟨r_14, I_15, h_16, hf⟩ := bd2_some hf
  refine r_callV (As := [.int sx1, .int sx2]) (ci := 8) hX (k_X8_isFigure (l := xl X) (J := J) hX.ok hs0 h_16) pk_X8_isFigure ml_X8_95 rfl rfl rfl rfl hs0 rfl rfl rfl (Nat.le_of_ble_eq_true rfl) dX8_readHead_71 ?_
  refine r_if_ne (tgt := 79) hX dX8_readHead_74 (by decide) (fun c_17 => ?_) (fun c_17 => ?_)
  · have hf := hf_t c_17 hf
    refine r_iconst (v := 0) hX dX8_readHead_77 rfl ?_
    cases hf
    exact hret _ _ zb_0 dX8_readHead_78
  · have hf := hf_f c_17 hf
    refine r_aload_n hX dX8_readHead_79 rfl ?_
    refine r_bipush (v := 10) hX dX8_readHead_80 (by decide) ?_
    refine r_aload_n hX dX8_readHead_82 rfl ?_
    refine r_iconst (v := 2) hX dX8_readHead_83 rfl ?_
    obtain ⟨r_18, h_19, hf⟩ := bd1_some hf
    refine r_callV (As := [.int ((2 : Int32))]) (ci := 8) hX (k_X8_taken (l := xl X) (J := J) hX.ok hk0 h_19) pk_X8_taken ml_X8_99 rfl rfl rfl rfl hk0 rfl rfl rfl (Nat.le_of_ble_eq_true rfl) dX8_readHead_84 ?_
    refine r_imul hX dX8_readHead_87 ?_
    refine r_aload_n hX dX8_readHead_88 rfl ?_
    refine r_iconst (v := 1) hX dX8_readHead_89 rfl ?_
    obtain ⟨r_20, h_21, hf⟩ := bd1_some hf
    refine r_callV (As := [.int ((1 : Int32))]) (ci := 8) hX (k_X8_taken (l := xl X) (J := J) hX.ok hk0 h_21) pk_X8_taken ml_X8_99 rfl rfl rfl rfl hk0 rfl rfl rfl (Nat.le_of_ble_eq_true rfl) dX8_readHead_90 ?_
    refine r_iadd hX dX8_readHead_93 ?_
    obtain ⟨I_22, eI_22, hf⟩ := lt1_some hf
    refine p_8_11 eI_22 hX fl_X8_103 hk0 dX8_readHead_94 ?_
    refine r_aload_n hX dX8_readHead_97 rfl ?_
    refine r_iconst (v := 1) hX dX8_readHead_98 rfl ?_
    refine r_iconst (v := 3) hX dX8_readHead_99 rfl ?_
    obtain ⟨r_23, I_24, h_25, hf⟩ := bd2_some hf
    refine r_callV (As := [.int ((1 : Int32)), .int ((3 : Int32))]) (ci := 8) hX (k_X8_isFigure (l := xl X) (J := J) hX.ok hk0 h_25) pk_X8_isFigure ml_X8_95 rfl rfl rfl rfl hk0 rfl rfl rfl (Nat.le_of_ble_eq_true rfl) dX8_readHead_100 ?_
    refine r_if_ne (tgt := 108) hX dX8_readHead_103 (by decide) (fun c_26 => ?_) (fun c_26 => ?_)
    · have hf := hf_t c_26 hf
      refine r_iconst (v := 0) hX dX8_readHead_106 rfl ?_
      cases hf
      exact hret _ _ zb_0 dX8_readHead_107
    · have hf := hf_f c_26 hf
      refine r_aload_n hX dX8_readHead_108 rfl ?_
      refine r_aload_n hX dX8_readHead_109 rfl ?_
      refine r_iconst (v := 1) hX dX8_readHead_110 rfl ?_
      obtain ⟨r_27, h_28, hf⟩ := bd1_some hf
      refine r_callV (As := [.int ((1 : Int32))]) (ci := 8) hX (k_X8_taken (l := xl X) (J := J) hX.ok hk0 h_28) pk_X8_taken ml_X8_99 rfl rfl rfl rfl hk0 rfl rfl rfl (Nat.le_of_ble_eq_true rfl) dX8_readHead_111 ?_
      obtain ⟨I_29, eI_29, hf⟩ := lt1_some hf
      refine p_8_12 eI_29 hX fl_X8_106 hk0 dX8_readHead_114 ?_
      refine r_iconst (v := 1) hX dX8_readHead_117 rfl ?_
      cases hf
      exact hret _ _ zb_1 dX8_readHead_118
noncomputable def X8_readHead_J60 (I : HI) (a0 : Nat) (x1 : Int32) (sa0 : Nat) (sx1 : Int32) : Option (Int32 × HI) := if x1 = 0 then X8_readHead_J71 I a0 sa0 sx1 ((6 : Int32)) else X8_readHead_J71 I a0 sa0 sx1 ((9 : Int32))
set_option maxHeartbeats 4000000 in
set_option maxRecDepth 100000 in
theorem vX8_readHead_60 {X : CX} {I' : HI} {r : Int32} {I : HI} {J : HJ} (hX : OKX X cX8_readHead RX8 2 48 2) (hret : RetZ X cX8_readHead r I' J) (a0 : Nat) (x1 : Int32) (sa0 : Nat) (sx1 : Int32) (hk0 : gK (xG X) a0 = 9) (hs0 : gK (xG X) sa0 = 9)   (hf : X8_readHead_J60 I a0 x1 sa0 sx1 = some (r, I')) : V X I J 60 [some (.ref a0), some (.int x1)] [.int sx1, .ref sa0] := by
  unfold X8_readHead_J60 at hf
  refine r_iload_n hX dX8_readHead_60 rfl ?_
  refine r_if_eq (tgt := 69) hX dX8_readHead_61 (by decide) (fun c_13 => ?_) (fun c_13 => ?_)
  · have hf := hf_t c_13 hf
    refine r_bipush (v := 6) hX dX8_readHead_69 (by decide) ?_
    refine V.mask [true, false] ?_
    exact vX8_readHead_71 hX hret a0 sa0 sx1 ((6 : Int32)) hk0 hs0 hf
  · have hf := hf_f c_13 hf
    refine r_bipush (v := 9) hX dX8_readHead_64 (by decide) ?_
    refine r_goto (tgt := 71) hX dX8_readHead_66 (by decide) ?_
    refine V.mask [true, false] ?_
    exact vX8_readHead_71 hX hret a0 sa0 sx1 ((9 : Int32)) hk0 hs0 hf
noncomputable def X8_readHead_J49 (I : HI) (a0 : Nat) (sx0 : Int32) : Option (Int32 × HI) := if sx0 = 0 then X8_readHead_J60 I a0 sx0 a0 ((0 : Int32)) else X8_readHead_J60 I a0 sx0 a0 ((4 : Int32))
set_option maxHeartbeats 4000000 in
set_option maxRecDepth 100000 in
theorem vX8_readHead_49 {X : CX} {I' : HI} {r : Int32} {I : HI} {J : HJ} (hX : OKX X cX8_readHead RX8 2 48 2) (hret : RetZ X cX8_readHead r I' J) (a0 : Nat) (sx0 : Int32) (hk0 : gK (xG X) a0 = 9)   (hf : X8_readHead_J49 I a0 sx0 = some (r, I')) : V X I J 49 [some (.ref a0), none] [.int sx0] := by
  unfold X8_readHead_J49 at hf
  refine r_istore_n hX dX8_readHead_49 rfl rfl ?_
  refine r_aload_n hX dX8_readHead_50 rfl ?_
  refine r_iload_n hX dX8_readHead_51 rfl ?_
  refine r_if_eq (tgt := 59) hX dX8_readHead_52 (by decide) (fun c_12 => ?_) (fun c_12 => ?_)
  · have hf := hf_t c_12 hf
    refine r_iconst (v := 0) hX dX8_readHead_59 rfl ?_
    refine V.mask [true, true] ?_
    exact vX8_readHead_60 hX hret a0 sx0 a0 ((0 : Int32)) hk0 hk0 hf
  · have hf := hf_f c_12 hf
    refine r_iconst (v := 4) hX dX8_readHead_55 rfl ?_
    refine r_goto (tgt := 60) hX dX8_readHead_56 (by decide) ?_
    refine V.mask [true, true] ?_
    exact vX8_readHead_60 hX hret a0 sx0 a0 ((4 : Int32)) hk0 hk0 hf
noncomputable def f_X8_readHead (I : HI) (a0 : Nat) : Option (Int32 × HI) := if (I a0 2) = 0 then some ((0 : Int32), I) else gd (vp_in ((0 : Int32)) 100) (if (I ((a0 + 1)) ((0 : Int32)).toNatClampNeg) = (78 : Int32) then lt1 (sI I a0 3 ((1 : Int32))) fun I_4 => bd2 (f_X8_isFigure I_4 a0 ((0 : Int32)) ((1 : Int32))) fun r_5 I_6 => if r_5 = 0 then some ((0 : Int32), I_6) else bd1 (f_X8_taken I_6 a0 ((1 : Int32))) fun r_9 => if r_9 = 0 then X8_readHead_J49 I_6 a0 ((1 : Int32)) else X8_readHead_J49 I_6 a0 ((0 : Int32)) else some ((0 : Int32), I))
set_option maxHeartbeats 4000000 in
set_option maxRecDepth 100000 in
theorem k_X8_readHead {G : GX} {l : Launch} {I : HI} {J : HJ} {I' : HI} {r : Int32} (hG : OKG G) {a0 : Nat} (hk0 : gK G a0 = 9) (hf : f_X8_readHead I a0 = some (r, I')) : Ctr G l yX8_readHead cX8_readHead 2 (some .boolean) 2 48 [.ref a0] I J (some (.int r)) I' J := by
  refine ctr_Zb hG (by decide) [some (.ref a0), none] rfl rfl fun X e1 e2 hX hret => ?_
  subst e1; subst e2
  unfold f_X8_readHead at hf
  refine r_aload_n hX dX8_readHead_0 rfl ?_
  refine g_8_2 hX fl_X8_89 hk0 dX8_readHead_1 ?_
  refine r_if_eq (tgt := 18) hX dX8_readHead_4 (by decide) (fun c_1 => ?_) (fun c_1 => ?_)
  · have hf := hf_t c_1 hf
    refine r_iconst (v := 0) hX dX8_readHead_18 rfl ?_
    cases hf
    exact hret _ _ zb_0 dX8_readHead_19
  · have hf := hf_f c_1 hf
    refine r_aload_n hX dX8_readHead_7 rfl ?_
    refine g_8_1 hX fl_X8_7 hk0 dX8_readHead_8 ?_
    refine r_iconst (v := 0) hX dX8_readHead_11 rfl ?_
    obtain ⟨g_2, hf⟩ := gd_some hf
    refine r_iald (n := 100) hX rfl ((q_9_1 hX hk0)) g_2 dX8_readHead_12 ?_
    refine r_bipush (v := 78) hX dX8_readHead_13 (by decide) ?_
    refine r_icmp_eq (tgt := 20) hX dX8_readHead_15 (by decide) (fun c_3 => ?_) (fun c_3 => ?_)
    · have hf := hf_t c_3 hf
      refine r_aload_n hX dX8_readHead_20 rfl ?_
      refine r_iconst (v := 1) hX dX8_readHead_21 rfl ?_
      obtain ⟨I_4, eI_4, hf⟩ := lt1_some hf
      refine p_8_3 eI_4 hX fl_X8_92 hk0 dX8_readHead_22 ?_
      refine r_aload_n hX dX8_readHead_25 rfl ?_
      refine r_iconst (v := 0) hX dX8_readHead_26 rfl ?_
      refine r_iconst (v := 1) hX dX8_readHead_27 rfl ?_
      obtain ⟨r_5, I_6, h_7, hf⟩ := bd2_some hf
      refine r_callV (As := [.int ((0 : Int32)), .int ((1 : Int32))]) (ci := 8) hX (k_X8_isFigure (l := xl X) (J := J) hX.ok hk0 h_7) pk_X8_isFigure ml_X8_95 rfl rfl rfl rfl hk0 rfl rfl rfl (Nat.le_of_ble_eq_true rfl) dX8_readHead_28 ?_
      refine r_if_ne (tgt := 36) hX dX8_readHead_31 (by decide) (fun c_8 => ?_) (fun c_8 => ?_)
      · have hf := hf_t c_8 hf
        refine r_iconst (v := 0) hX dX8_readHead_34 rfl ?_
        cases hf
        exact hret _ _ zb_0 dX8_readHead_35
      · have hf := hf_f c_8 hf
        refine r_aload_n hX dX8_readHead_36 rfl ?_
        refine r_iconst (v := 1) hX dX8_readHead_37 rfl ?_
        obtain ⟨r_9, h_10, hf⟩ := bd1_some hf
        refine r_callV (As := [.int ((1 : Int32))]) (ci := 8) hX (k_X8_taken (l := xl X) (J := J) hX.ok hk0 h_10) pk_X8_taken ml_X8_99 rfl rfl rfl rfl hk0 rfl rfl rfl (Nat.le_of_ble_eq_true rfl) dX8_readHead_38 ?_
        refine r_if_ne (tgt := 48) hX dX8_readHead_41 (by decide) (fun c_11 => ?_) (fun c_11 => ?_)
        · have hf := hf_t c_11 hf
          refine r_iconst (v := 1) hX dX8_readHead_44 rfl ?_
          refine r_goto (tgt := 49) hX dX8_readHead_45 (by decide) ?_
          refine V.mask [true, false] ?_
          exact vX8_readHead_49 hX hret a0 ((1 : Int32)) hk0 hf
        · have hf := hf_f c_11 hf
          refine r_iconst (v := 0) hX dX8_readHead_48 rfl ?_
          refine V.mask [true, false] ?_
          exact vX8_readHead_49 hX hret a0 ((0 : Int32)) hk0 hf
    · have hf := hf_f c_3 hf
      refine r_iconst (v := 0) hX dX8_readHead_18 rfl ?_
      cases hf
      exact hret _ _ zb_0 dX8_readHead_19
noncomputable def f_X8_readFamily (I : HI) (a0 : Nat) : Option (Int32 × HI) := if (I a0 13) = (3 : Int32) then some ((0 : Int32), I) else lt1 (sI I a0 3 (((I a0 3) + (1 : Int32)))) fun I_2 => bd2 (f_X8_isFigure I_2 a0 ((1 : Int32)) ((9 : Int32))) fun r_3 I_4 => if r_3 = 0 then some ((0 : Int32), I_4) else bd2 (f_X8_isFigure I_4 a0 ((0 : Int32)) ((9 : Int32))) fun r_7 I_8 => if r_7 = 0 then some ((0 : Int32), I_8) else bd1 (f_X8_taken I_8 a0 ((2 : Int32))) fun r_11 => gd (vp_in ((I_8 a0 13)) 3) (lt1 (sI I_8 ((a0 + 5)) ((I_8 a0 13)).toNatClampNeg r_11) fun I_14 => bd1 (f_X8_taken I_14 a0 ((1 : Int32))) fun r_15 => gd (vp_in ((I_14 a0 13)) 3) (lt1 (sI I_14 ((a0 + 6)) ((I_14 a0 13)).toNatClampNeg r_15) fun I_18 => lt1 (sI I_18 a0 13 (((I_18 a0 13) + (1 : Int32)))) fun I_19 => some ((1 : Int32), I_19)))
set_option maxHeartbeats 4000000 in
set_option maxRecDepth 100000 in
theorem k_X8_readFamily {G : GX} {l : Launch} {I : HI} {J : HJ} {I' : HI} {r : Int32} (hG : OKG G) {a0 : Nat} (hk0 : gK G a0 = 9) (hf : f_X8_readFamily I a0 = some (r, I')) : Ctr G l yX8_readFamily cX8_readFamily 1 (some .boolean) 2 48 [.ref a0] I J (some (.int r)) I' J := by
  refine ctr_Zb hG (by decide) [some (.ref a0)] rfl rfl fun X e1 e2 hX hret => ?_
  subst e1; subst e2
  unfold f_X8_readFamily at hf
  refine r_aload_n hX dX8_readFamily_0 rfl ?_
  refine g_8_13 hX fl_X8_109 hk0 dX8_readFamily_1 ?_
  refine r_iconst (v := 3) hX dX8_readFamily_4 rfl ?_
  refine r_icmp_ne (tgt := 10) hX dX8_readFamily_5 (by decide) (fun c_1 => ?_) (fun c_1 => ?_)
  · have hf := hf_t c_1 hf
    refine r_iconst (v := 0) hX dX8_readFamily_8 rfl ?_
    cases hf
    exact hret _ _ zb_0 dX8_readFamily_9
  · have hf := hf_f c_1 hf
    refine r_aload_n hX dX8_readFamily_10 rfl ?_
    refine r_dup hX dX8_readFamily_11 rfl ?_
    refine g_8_3 hX fl_X8_92 hk0 dX8_readFamily_12 ?_
    refine r_iconst (v := 1) hX dX8_readFamily_15 rfl ?_
    refine r_iadd hX dX8_readFamily_16 ?_
    obtain ⟨I_2, eI_2, hf⟩ := lt1_some hf
    refine p_8_3 eI_2 hX fl_X8_92 hk0 dX8_readFamily_17 ?_
    refine r_aload_n hX dX8_readFamily_20 rfl ?_
    refine r_iconst (v := 1) hX dX8_readFamily_21 rfl ?_
    refine r_bipush (v := 9) hX dX8_readFamily_22 (by decide) ?_
    obtain ⟨r_3, I_4, h_5, hf⟩ := bd2_some hf
    refine r_callV (As := [.int ((1 : Int32)), .int ((9 : Int32))]) (ci := 8) hX (k_X8_isFigure (l := xl X) (J := J) hX.ok hk0 h_5) pk_X8_isFigure ml_X8_95 rfl rfl rfl rfl hk0 rfl rfl rfl (Nat.le_of_ble_eq_true rfl) dX8_readFamily_24 ?_
    refine r_if_eq (tgt := 40) hX dX8_readFamily_27 (by decide) (fun c_6 => ?_) (fun c_6 => ?_)
    · have hf := hf_t c_6 hf
      refine r_iconst (v := 0) hX dX8_readFamily_40 rfl ?_
      cases hf
      exact hret _ _ zb_0 dX8_readFamily_41
    · have hf := hf_f c_6 hf
      refine r_aload_n hX dX8_readFamily_30 rfl ?_
      refine r_iconst (v := 0) hX dX8_readFamily_31 rfl ?_
      refine r_bipush (v := 9) hX dX8_readFamily_32 (by decide) ?_
      obtain ⟨r_7, I_8, h_9, hf⟩ := bd2_some hf
      refine r_callV (As := [.int ((0 : Int32)), .int ((9 : Int32))]) (ci := 8) hX (k_X8_isFigure (l := xl X) (J := J) hX.ok hk0 h_9) pk_X8_isFigure ml_X8_95 rfl rfl rfl rfl hk0 rfl rfl rfl (Nat.le_of_ble_eq_true rfl) dX8_readFamily_34 ?_
      refine r_if_ne (tgt := 42) hX dX8_readFamily_37 (by decide) (fun c_10 => ?_) (fun c_10 => ?_)
      · have hf := hf_t c_10 hf
        refine r_iconst (v := 0) hX dX8_readFamily_40 rfl ?_
        cases hf
        exact hret _ _ zb_0 dX8_readFamily_41
      · have hf := hf_f c_10 hf
        refine r_aload_n hX dX8_readFamily_42 rfl ?_
        refine g_8_14 hX fl_X8_32 hk0 dX8_readFamily_43 ?_
        refine r_aload_n hX dX8_readFamily_46 rfl ?_
        refine g_8_13 hX fl_X8_109 hk0 dX8_readFamily_47 ?_
        refine r_aload_n hX dX8_readFamily_50 rfl ?_
        refine r_iconst (v := 2) hX dX8_readFamily_51 rfl ?_
        obtain ⟨r_11, h_12, hf⟩ := bd1_some hf
        refine r_callV (As := [.int ((2 : Int32))]) (ci := 8) hX (k_X8_taken (l := xl X) (J := J) hX.ok hk0 h_12) pk_X8_taken ml_X8_99 rfl rfl rfl rfl hk0 rfl rfl rfl (Nat.le_of_ble_eq_true rfl) dX8_readFamily_52 ?_
        obtain ⟨g_13, hf⟩ := gd_some hf
        obtain ⟨I_14, eI_14, hf⟩ := lt1_some hf
        refine r_iastE (n := 3) eI_14 hX rfl ((q_9_14 hX hk0)) g_13 dX8_readFamily_55 ?_
        refine r_aload_n hX dX8_readFamily_56 rfl ?_
        refine g_8_15 hX fl_X8_35 hk0 dX8_readFamily_57 ?_
        refine r_aload_n hX dX8_readFamily_60 rfl ?_
        refine g_8_13 hX fl_X8_109 hk0 dX8_readFamily_61 ?_
        refine r_aload_n hX dX8_readFamily_64 rfl ?_
        refine r_iconst (v := 1) hX dX8_readFamily_65 rfl ?_
        obtain ⟨r_15, h_16, hf⟩ := bd1_some hf
        refine r_callV (As := [.int ((1 : Int32))]) (ci := 8) hX (k_X8_taken (l := xl X) (J := J) hX.ok hk0 h_16) pk_X8_taken ml_X8_99 rfl rfl rfl rfl hk0 rfl rfl rfl (Nat.le_of_ble_eq_true rfl) dX8_readFamily_66 ?_
        obtain ⟨g_17, hf⟩ := gd_some hf
        obtain ⟨I_18, eI_18, hf⟩ := lt1_some hf
        refine r_iastE (n := 3) eI_18 hX rfl ((q_9_15 hX hk0)) g_17 dX8_readFamily_69 ?_
        refine r_aload_n hX dX8_readFamily_70 rfl ?_
        refine r_dup hX dX8_readFamily_71 rfl ?_
        refine g_8_13 hX fl_X8_109 hk0 dX8_readFamily_72 ?_
        refine r_iconst (v := 1) hX dX8_readFamily_75 rfl ?_
        refine r_iadd hX dX8_readFamily_76 ?_
        obtain ⟨I_19, eI_19, hf⟩ := lt1_some hf
        refine p_8_13 eI_19 hX fl_X8_109 hk0 dX8_readFamily_77 ?_
        refine r_iconst (v := 1) hX dX8_readFamily_80 rfl ?_
        cases hf
        exact hret _ _ zb_1 dX8_readFamily_81
noncomputable def f_X8_readProxy (I : HI) (a0 : Nat) : Option (Int32 × HI) := if (I a0 16) = (4 : Int32) then some ((0 : Int32), I) else lt1 (sI I a0 3 (((I a0 3) + (1 : Int32)))) fun I_2 => bd2 (f_X8_isFigure I_2 a0 ((1 : Int32)) ((9 : Int32))) fun r_3 I_4 => if r_3 = 0 then some ((0 : Int32), I_4) else bd2 (f_X8_isFigure I_4 a0 ((1 : Int32)) ((9 : Int32))) fun r_7 I_8 => if r_7 = 0 then some ((0 : Int32), I_8) else bd1 (f_X8_taken I_8 a0 ((2 : Int32))) fun r_11 => gd (vp_in ((I_8 a0 16)) 4) (lt1 (sI I_8 ((a0 + 7)) ((I_8 a0 16)).toNatClampNeg r_11) fun I_14 => bd1 (f_X8_taken I_14 a0 ((1 : Int32))) fun r_15 => gd (vp_in ((((29 : Int32) * (I_14 a0 16)) + (28 : Int32))) 121) (lt1 (sI I_14 ((a0 + 8)) ((((29 : Int32) * (I_14 a0 16)) + (28 : Int32))).toNatClampNeg r_15) fun I_18 => lt1 (sI I_18 a0 16 (((I_18 a0 16) + (1 : Int32)))) fun I_19 => some ((1 : Int32), I_19)))
set_option maxHeartbeats 4000000 in
set_option maxRecDepth 100000 in
theorem k_X8_readProxy {G : GX} {l : Launch} {I : HI} {J : HJ} {I' : HI} {r : Int32} (hG : OKG G) {a0 : Nat} (hk0 : gK G a0 = 9) (hf : f_X8_readProxy I a0 = some (r, I')) : Ctr G l yX8_readProxy cX8_readProxy 1 (some .boolean) 2 48 [.ref a0] I J (some (.int r)) I' J := by
  refine ctr_Zb hG (by decide) [some (.ref a0)] rfl rfl fun X e1 e2 hX hret => ?_
  subst e1; subst e2
  unfold f_X8_readProxy at hf
  refine r_aload_n hX dX8_readProxy_0 rfl ?_
  refine g_8_16 hX fl_X8_112 hk0 dX8_readProxy_1 ?_
  refine r_iconst (v := 4) hX dX8_readProxy_4 rfl ?_
  refine r_icmp_ne (tgt := 10) hX dX8_readProxy_5 (by decide) (fun c_1 => ?_) (fun c_1 => ?_)
  · have hf := hf_t c_1 hf
    refine r_iconst (v := 0) hX dX8_readProxy_8 rfl ?_
    cases hf
    exact hret _ _ zb_0 dX8_readProxy_9
  · have hf := hf_f c_1 hf
    refine r_aload_n hX dX8_readProxy_10 rfl ?_
    refine r_dup hX dX8_readProxy_11 rfl ?_
    refine g_8_3 hX fl_X8_92 hk0 dX8_readProxy_12 ?_
    refine r_iconst (v := 1) hX dX8_readProxy_15 rfl ?_
    refine r_iadd hX dX8_readProxy_16 ?_
    obtain ⟨I_2, eI_2, hf⟩ := lt1_some hf
    refine p_8_3 eI_2 hX fl_X8_92 hk0 dX8_readProxy_17 ?_
    refine r_aload_n hX dX8_readProxy_20 rfl ?_
    refine r_iconst (v := 1) hX dX8_readProxy_21 rfl ?_
    refine r_bipush (v := 9) hX dX8_readProxy_22 (by decide) ?_
    obtain ⟨r_3, I_4, h_5, hf⟩ := bd2_some hf
    refine r_callV (As := [.int ((1 : Int32)), .int ((9 : Int32))]) (ci := 8) hX (k_X8_isFigure (l := xl X) (J := J) hX.ok hk0 h_5) pk_X8_isFigure ml_X8_95 rfl rfl rfl rfl hk0 rfl rfl rfl (Nat.le_of_ble_eq_true rfl) dX8_readProxy_24 ?_
    refine r_if_eq (tgt := 40) hX dX8_readProxy_27 (by decide) (fun c_6 => ?_) (fun c_6 => ?_)
    · have hf := hf_t c_6 hf
      refine r_iconst (v := 0) hX dX8_readProxy_40 rfl ?_
      cases hf
      exact hret _ _ zb_0 dX8_readProxy_41
    · have hf := hf_f c_6 hf
      refine r_aload_n hX dX8_readProxy_30 rfl ?_
      refine r_iconst (v := 1) hX dX8_readProxy_31 rfl ?_
      refine r_bipush (v := 9) hX dX8_readProxy_32 (by decide) ?_
      obtain ⟨r_7, I_8, h_9, hf⟩ := bd2_some hf
      refine r_callV (As := [.int ((1 : Int32)), .int ((9 : Int32))]) (ci := 8) hX (k_X8_isFigure (l := xl X) (J := J) hX.ok hk0 h_9) pk_X8_isFigure ml_X8_95 rfl rfl rfl rfl hk0 rfl rfl rfl (Nat.le_of_ble_eq_true rfl) dX8_readProxy_34 ?_
      refine r_if_ne (tgt := 42) hX dX8_readProxy_37 (by decide) (fun c_10 => ?_) (fun c_10 => ?_)
      · have hf := hf_t c_10 hf
        refine r_iconst (v := 0) hX dX8_readProxy_40 rfl ?_
        cases hf
        exact hret _ _ zb_0 dX8_readProxy_41
      · have hf := hf_f c_10 hf
        refine r_aload_n hX dX8_readProxy_42 rfl ?_
        refine g_8_17 hX fl_X8_38 hk0 dX8_readProxy_43 ?_
        refine r_aload_n hX dX8_readProxy_46 rfl ?_
        refine g_8_16 hX fl_X8_112 hk0 dX8_readProxy_47 ?_
        refine r_aload_n hX dX8_readProxy_50 rfl ?_
        refine r_iconst (v := 2) hX dX8_readProxy_51 rfl ?_
        obtain ⟨r_11, h_12, hf⟩ := bd1_some hf
        refine r_callV (As := [.int ((2 : Int32))]) (ci := 8) hX (k_X8_taken (l := xl X) (J := J) hX.ok hk0 h_12) pk_X8_taken ml_X8_99 rfl rfl rfl rfl hk0 rfl rfl rfl (Nat.le_of_ble_eq_true rfl) dX8_readProxy_52 ?_
        obtain ⟨g_13, hf⟩ := gd_some hf
        obtain ⟨I_14, eI_14, hf⟩ := lt1_some hf
        refine r_iastE (n := 4) eI_14 hX rfl ((q_9_17 hX hk0)) g_13 dX8_readProxy_55 ?_
        refine r_aload_n hX dX8_readProxy_56 rfl ?_
        refine g_8_18 hX fl_X8_41 hk0 dX8_readProxy_57 ?_
        refine r_bipush (v := 29) hX dX8_readProxy_60 (by decide) ?_
        refine r_aload_n hX dX8_readProxy_62 rfl ?_
        refine g_8_16 hX fl_X8_112 hk0 dX8_readProxy_63 ?_
        refine r_imul hX dX8_readProxy_66 ?_
        refine r_bipush (v := 28) hX dX8_readProxy_67 (by decide) ?_
        refine r_iadd hX dX8_readProxy_69 ?_
        refine r_aload_n hX dX8_readProxy_70 rfl ?_
        refine r_iconst (v := 1) hX dX8_readProxy_71 rfl ?_
        obtain ⟨r_15, h_16, hf⟩ := bd1_some hf
        refine r_callV (As := [.int ((1 : Int32))]) (ci := 8) hX (k_X8_taken (l := xl X) (J := J) hX.ok hk0 h_16) pk_X8_taken ml_X8_99 rfl rfl rfl rfl hk0 rfl rfl rfl (Nat.le_of_ble_eq_true rfl) dX8_readProxy_72 ?_
        obtain ⟨g_17, hf⟩ := gd_some hf
        obtain ⟨I_18, eI_18, hf⟩ := lt1_some hf
        refine r_iastE (n := 121) eI_18 hX rfl ((q_9_18 hX hk0)) g_17 dX8_readProxy_75 ?_
        refine r_aload_n hX dX8_readProxy_76 rfl ?_
        refine r_dup hX dX8_readProxy_77 rfl ?_
        refine g_8_16 hX fl_X8_112 hk0 dX8_readProxy_78 ?_
        refine r_iconst (v := 1) hX dX8_readProxy_81 rfl ?_
        refine r_iadd hX dX8_readProxy_82 ?_
        obtain ⟨I_19, eI_19, hf⟩ := lt1_some hf
        refine p_8_16 eI_19 hX fl_X8_112 hk0 dX8_readProxy_83 ?_
        refine r_iconst (v := 1) hX dX8_readProxy_86 rfl ?_
        cases hf
        exact hret _ _ zb_1 dX8_readProxy_87
noncomputable def f_X8_hasRoom (I : HI) (a0 : Nat) (x1 : Int32) : Option (Int32) := gd (vp_in ((((29 : Int32) * x1) + (9 : Int32))) 121) (gd (vp_in x1 4) (if (I ((a0 + 8)) ((((29 : Int32) * x1) + (9 : Int32))).toNatClampNeg) < (I ((a0 + 7)) x1.toNatClampNeg) then some ((1 : Int32)) else some ((0 : Int32))))
set_option maxHeartbeats 4000000 in
set_option maxRecDepth 100000 in
theorem k_X8_hasRoom {G : GX} {l : Launch} {I : HI} {J : HJ} {r : Int32} (hG : OKG G) {a0 : Nat} {x1 : Int32} (hk0 : gK G a0 = 9) (hf : f_X8_hasRoom I a0 x1 = some r) : Ctr G l yX8_hasRoom cX8_hasRoom 2 (some .boolean) 0 0 [.ref a0, .int x1] I J (some (.int r)) I J := by
  refine ctr_Zb hG (by decide) [some (.ref a0), some (.int x1)] rfl rfl fun X e1 e2 hX hret => ?_
  subst e1; subst e2
  unfold f_X8_hasRoom at hf
  refine r_aload_n hX dX8_hasRoom_0 rfl ?_
  refine g_8_18 hX fl_X8_41 hk0 dX8_hasRoom_1 ?_
  refine r_bipush (v := 29) hX dX8_hasRoom_4 (by decide) ?_
  refine r_iload_n hX dX8_hasRoom_6 rfl ?_
  refine r_imul hX dX8_hasRoom_7 ?_
  refine r_bipush (v := 9) hX dX8_hasRoom_8 (by decide) ?_
  refine r_iadd hX dX8_hasRoom_10 ?_
  obtain ⟨g_1, hf⟩ := gd_some hf
  refine r_iald (n := 121) hX rfl ((q_9_18 hX hk0)) g_1 dX8_hasRoom_11 ?_
  refine r_aload_n hX dX8_hasRoom_12 rfl ?_
  refine g_8_17 hX fl_X8_38 hk0 dX8_hasRoom_13 ?_
  refine r_iload_n hX dX8_hasRoom_16 rfl ?_
  obtain ⟨g_2, hf⟩ := gd_some hf
  refine r_iald (n := 4) hX rfl ((q_9_17 hX hk0)) g_2 dX8_hasRoom_17 ?_
  refine r_icmp_ge (tgt := 25) hX dX8_hasRoom_18 (by decide) (fun c_3 => ?_) (fun c_3 => ?_)
  · have hf := hf_t c_3 hf
    refine r_iconst (v := 1) hX dX8_hasRoom_21 rfl ?_
    refine r_goto (tgt := 26) hX dX8_hasRoom_22 (by decide) ?_
    cases hf
    exact hret _ _ zb_1 dX8_hasRoom_26
  · have hf := hf_f c_3 hf
    refine r_iconst (v := 0) hX dX8_hasRoom_25 rfl ?_
    cases hf
    exact hret _ _ zb_0 dX8_hasRoom_26
noncomputable def X8_placeOf_J39 (I : HI) (a0 : Nat) (x1 : Int32) (x2 : Int32) (x4 : Int32) (sx0 : Int32) (k6 : Int32 → Int32 → Option (Int32)) : Option (Int32) := lt1 (x4 + (1 : Int32)) fun x_5 => k6 sx0 x_5
set_option maxHeartbeats 4000000 in
set_option maxRecDepth 100000 in
theorem vX8_placeOf_39 {X : CX} {r : Int32} {I : HI} {J : HJ} (hX : OKX X cX8_placeOf RX8 0 0 5) (hret : RetI X cX8_placeOf r I J) (a0 : Nat) (x1 : Int32) (x2 : Int32) (x4 : Int32) (sx0 : Int32) (hk0 : gK (xG X) a0 = 221) (k6 : Int32 → Int32 → Option (Int32)) (hc6 : ∀ (x3 : Int32) (x4 : Int32), k6 x3 x4 = some r → V X I J 6 [some (.ref a0), some (.int x1), some (.int x2), some (.int x3), some (.int x4)] []) (hf : X8_placeOf_J39 I a0 x1 x2 x4 sx0 k6 = some r) : V X I J 39 [some (.ref a0), some (.int x1), some (.int x2), none, some (.int x4)] [.int sx0] := by
  unfold X8_placeOf_J39 at hf
  refine r_istore_n hX dX8_placeOf_39 rfl rfl ?_
  obtain ⟨x_5, ex_5, hf⟩ := lt1_some hf
  refine r_iincE (n' := 1) ex_5 hX dX8_placeOf_40 rfl rfl rfl rfl ?_
  refine r_goto (tgt := 6) hX dX8_placeOf_43 (by decide) ?_
  refine V.mask [true, true, true, true, true] ?_
  exact hc6 sx0 x_5 hf
noncomputable def X8_placeOf_B6 (I : HI) (a0 : Nat) (x1 : Int32) (x2 : Int32) (k6 : Int32 → Int32 → Option (Int32)) (x3 : Int32) (x4 : Int32) : Option (Int32) := gd (vp_in ((((29 : Int32) * x1) + (9 : Int32))) 121) (if x4 < (I a0 ((((29 : Int32) * x1) + (9 : Int32))).toNatClampNeg) then gd (vp_in ((((29 : Int32) * x1) + x4)) 121) (if (I a0 ((((29 : Int32) * x1) + x4)).toNatClampNeg) = x2 then X8_placeOf_J39 I a0 x1 x2 x4 x4 k6 else X8_placeOf_J39 I a0 x1 x2 x4 x3 k6) else some x3)
set_option maxHeartbeats 4000000 in
set_option maxRecDepth 100000 in
theorem vX8_placeOf_6 {X : CX} {r : Int32} {I : HI} {J : HJ} (hX : OKX X cX8_placeOf RX8 0 0 5) (hret : RetI X cX8_placeOf r I J) (a0 : Nat) (x1 : Int32) (x2 : Int32) (hk0 : gK (xG X) a0 = 221)   : ∀ (n : Nat) (x3 : Int32) (x4 : Int32), wl2 (X8_placeOf_B6 I a0 x1 x2) n x3 x4 = some r → V X I J 6 [some (.ref a0), some (.int x1), some (.int x2), some (.int x3), some (.int x4)] [] := by
  refine wl2_V (P := fun (x3 : Int32) (x4 : Int32) => V X I J 6 [some (.ref a0), some (.int x1), some (.int x2), some (.int x3), some (.int x4)] []) ?_
  intro k6 hc6 x3 x4 hf
  unfold X8_placeOf_B6 at hf
  refine r_iload hX dX8_placeOf_6 rfl ?_
  refine r_aload_n hX dX8_placeOf_8 rfl ?_
  refine r_bipush (v := 29) hX dX8_placeOf_9 (by decide) ?_
  refine r_iload_n hX dX8_placeOf_11 rfl ?_
  refine r_imul hX dX8_placeOf_12 ?_
  refine r_bipush (v := 9) hX dX8_placeOf_13 (by decide) ?_
  refine r_iadd hX dX8_placeOf_15 ?_
  obtain ⟨g_1, hf⟩ := gd_some hf
  refine r_iald (n := 121) hX rfl hk0 g_1 dX8_placeOf_16 ?_
  refine r_icmp_ge (tgt := 46) hX dX8_placeOf_17 (by decide) (fun c_2 => ?_) (fun c_2 => ?_)
  · have hf := hf_t c_2 hf
    refine r_aload_n hX dX8_placeOf_20 rfl ?_
    refine r_bipush (v := 29) hX dX8_placeOf_21 (by decide) ?_
    refine r_iload_n hX dX8_placeOf_23 rfl ?_
    refine r_imul hX dX8_placeOf_24 ?_
    refine r_iload hX dX8_placeOf_25 rfl ?_
    refine r_iadd hX dX8_placeOf_27 ?_
    obtain ⟨g_3, hf⟩ := gd_some hf
    refine r_iald (n := 121) hX rfl hk0 g_3 dX8_placeOf_28 ?_
    refine r_iload_n hX dX8_placeOf_29 rfl ?_
    refine r_icmp_ne (tgt := 38) hX dX8_placeOf_30 (by decide) (fun c_4 => ?_) (fun c_4 => ?_)
    · have hf := hf_t c_4 hf
      refine r_iload hX dX8_placeOf_33 rfl ?_
      refine r_goto (tgt := 39) hX dX8_placeOf_35 (by decide) ?_
      refine V.mask [true, true, true, false, true] ?_
      exact vX8_placeOf_39 hX hret a0 x1 x2 x4 x4 hk0 k6 hc6 hf
    · have hf := hf_f c_4 hf
      refine r_iload_n hX dX8_placeOf_38 rfl ?_
      refine V.mask [true, true, true, false, true] ?_
      exact vX8_placeOf_39 hX hret a0 x1 x2 x4 x3 hk0 k6 hc6 hf
  · have hf := hf_f c_2 hf
    refine r_iload_n hX dX8_placeOf_46 rfl ?_
    cases hf
    exact hret _ _ dX8_placeOf_47
noncomputable def f_X8_placeOf (I : HI) (a0 : Nat) (x1 : Int32) (x2 : Int32) : Option (Int32) := wl2 (X8_placeOf_B6 I a0 x1 x2) 5000 ((-9 : Int32)) ((0 : Int32))
set_option maxHeartbeats 4000000 in
set_option maxRecDepth 100000 in
theorem k_X8_placeOf {G : GX} {l : Launch} {I : HI} {J : HJ} {r : Int32} (hG : OKG G) {a0 : Nat} {x1 : Int32} {x2 : Int32} (hk0 : gK G a0 = 221) (hf : f_X8_placeOf I a0 x1 x2 = some r) : Ctr G l yX8_placeOf cX8_placeOf 5 (some .int) 0 0 [.ref a0, .int x1, .int x2] I J (some (.int r)) I J := by
  refine ctr_I hG (by decide) [some (.ref a0), some (.int x1), some (.int x2), none, none] rfl rfl fun X e1 e2 hX hret => ?_
  subst e1; subst e2
  unfold f_X8_placeOf at hf
  refine r_bipush (v := -9) hX dX8_placeOf_0 (by decide) ?_
  refine r_istore_n hX dX8_placeOf_2 rfl rfl ?_
  refine r_iconst (v := 0) hX dX8_placeOf_3 rfl ?_
  refine r_istore hX dX8_placeOf_4 rfl rfl ?_
  refine V.mask [true, true, true, true, true] ?_
  exact vX8_placeOf_6 hX hret a0 x1 x2 hk0 5000 ((-9 : Int32)) ((0 : Int32)) hf
noncomputable def X8_mayCome_J66 (I : HI) (a0 : Nat) (x1 : Int32) (x2 : Int32) (x3 : Int32) (x5 : Int32) (sx0 : Int32) (k6 : Int32 → Int32 → Option (Int32)) : Option (Int32) := lt1 (x5 + (1 : Int32)) fun x_11 => k6 sx0 x_11
set_option maxHeartbeats 4000000 in
set_option maxRecDepth 100000 in
theorem vX8_mayCome_66 {X : CX} {r : Int32} {I : HI} {J : HJ} (hX : OKX X cX8_mayCome RX8 1 24 7) (hret : RetZ X cX8_mayCome r I J) (a0 : Nat) (x1 : Int32) (x2 : Int32) (x3 : Int32) (x5 : Int32) (sx0 : Int32) (hk0 : gK (xG X) a0 = 9) (k6 : Int32 → Int32 → Option (Int32)) (hc6 : ∀ (x4 : Int32) (x5 : Int32), k6 x4 x5 = some r → V X I J 6 [some (.ref a0), some (.int x1), some (.int x2), some (.int x3), some (.int x4), some (.int x5), none] []) (hf : X8_mayCome_J66 I a0 x1 x2 x3 x5 sx0 k6 = some r) : V X I J 66 [some (.ref a0), some (.int x1), some (.int x2), some (.int x3), none, some (.int x5), none] [.int sx0] := by
  unfold X8_mayCome_J66 at hf
  refine r_istore hX dX8_mayCome_66 rfl rfl ?_
  obtain ⟨x_11, ex_11, hf⟩ := lt1_some hf
  refine r_iincE (n' := 1) ex_11 hX dX8_mayCome_68 rfl rfl rfl rfl ?_
  refine r_goto (tgt := 6) hX dX8_mayCome_71 (by decide) ?_
  refine V.mask [true, true, true, true, true, true, false] ?_
  exact hc6 sx0 x_11 hf
noncomputable def X8_mayCome_J61 (I : HI) (a0 : Nat) (x1 : Int32) (x2 : Int32) (x3 : Int32) (x5 : Int32) (k6 : Int32 → Int32 → Option (Int32)) : Option (Int32) := X8_mayCome_J66 I a0 x1 x2 x3 x5 ((1 : Int32)) k6
set_option maxHeartbeats 4000000 in
set_option maxRecDepth 100000 in
theorem vX8_mayCome_61 {X : CX} {r : Int32} {I : HI} {J : HJ} (hX : OKX X cX8_mayCome RX8 1 24 7) (hret : RetZ X cX8_mayCome r I J) (a0 : Nat) (x1 : Int32) (x2 : Int32) (x3 : Int32) (x5 : Int32) (hk0 : gK (xG X) a0 = 9) (k6 : Int32 → Int32 → Option (Int32)) (hc6 : ∀ (x4 : Int32) (x5 : Int32), k6 x4 x5 = some r → V X I J 6 [some (.ref a0), some (.int x1), some (.int x2), some (.int x3), some (.int x4), some (.int x5), none] []) (hf : X8_mayCome_J61 I a0 x1 x2 x3 x5 k6 = some r) : V X I J 61 [some (.ref a0), some (.int x1), some (.int x2), some (.int x3), none, some (.int x5), none] [] := by
  unfold X8_mayCome_J61 at hf
  refine r_iconst (v := 1) hX dX8_mayCome_61 rfl ?_
  refine r_goto (tgt := 66) hX dX8_mayCome_62 (by decide) ?_
  refine V.mask [true, true, true, true, false, true, false] ?_
  exact vX8_mayCome_66 hX hret a0 x1 x2 x3 x5 ((1 : Int32)) hk0 k6 hc6 hf
noncomputable def X8_mayCome_J65 (I : HI) (a0 : Nat) (x1 : Int32) (x2 : Int32) (x3 : Int32) (x5 : Int32) (k6 : Int32 → Int32 → Option (Int32)) : Option (Int32) := X8_mayCome_J66 I a0 x1 x2 x3 x5 ((0 : Int32)) k6
set_option maxHeartbeats 4000000 in
set_option maxRecDepth 100000 in
theorem vX8_mayCome_65 {X : CX} {r : Int32} {I : HI} {J : HJ} (hX : OKX X cX8_mayCome RX8 1 24 7) (hret : RetZ X cX8_mayCome r I J) (a0 : Nat) (x1 : Int32) (x2 : Int32) (x3 : Int32) (x5 : Int32) (hk0 : gK (xG X) a0 = 9) (k6 : Int32 → Int32 → Option (Int32)) (hc6 : ∀ (x4 : Int32) (x5 : Int32), k6 x4 x5 = some r → V X I J 6 [some (.ref a0), some (.int x1), some (.int x2), some (.int x3), some (.int x4), some (.int x5), none] []) (hf : X8_mayCome_J65 I a0 x1 x2 x3 x5 k6 = some r) : V X I J 65 [some (.ref a0), some (.int x1), some (.int x2), some (.int x3), none, some (.int x5), none] [] := by
  unfold X8_mayCome_J65 at hf
  refine r_iconst (v := 0) hX dX8_mayCome_65 rfl ?_
  refine V.mask [true, true, true, true, false, true, false] ?_
  exact vX8_mayCome_66 hX hret a0 x1 x2 x3 x5 ((0 : Int32)) hk0 k6 hc6 hf
noncomputable def X8_mayCome_J39 (I : HI) (a0 : Nat) (x1 : Int32) (x2 : Int32) (x3 : Int32) (x5 : Int32) (x6 : Int32) (k6 : Int32 → Int32 → Option (Int32)) : Option (Int32) := if x6 < (32 : Int32) then bd1 (f_X8_placeOf I ((a0 + 8)) x1 x6) fun r_8 => if r_8 = (-9 : Int32) then X8_mayCome_J61 I a0 x1 x2 x3 x5 k6 else X8_mayCome_J65 I a0 x1 x2 x3 x5 k6 else X8_mayCome_J65 I a0 x1 x2 x3 x5 k6
set_option maxHeartbeats 4000000 in
set_option maxRecDepth 100000 in
theorem vX8_mayCome_39 {X : CX} {r : Int32} {I : HI} {J : HJ} (hX : OKX X cX8_mayCome RX8 1 24 7) (hret : RetZ X cX8_mayCome r I J) (a0 : Nat) (x1 : Int32) (x2 : Int32) (x3 : Int32) (x5 : Int32) (x6 : Int32) (hk0 : gK (xG X) a0 = 9) (k6 : Int32 → Int32 → Option (Int32)) (hc6 : ∀ (x4 : Int32) (x5 : Int32), k6 x4 x5 = some r → V X I J 6 [some (.ref a0), some (.int x1), some (.int x2), some (.int x3), some (.int x4), some (.int x5), none] []) (hf : X8_mayCome_J39 I a0 x1 x2 x3 x5 x6 k6 = some r) : V X I J 39 [some (.ref a0), some (.int x1), some (.int x2), some (.int x3), none, some (.int x5), some (.int x6)] [] := by
  unfold X8_mayCome_J39 at hf
  refine r_iload hX dX8_mayCome_39 rfl ?_
  refine r_bipush (v := 32) hX dX8_mayCome_41 (by decide) ?_
  refine r_icmp_ge (tgt := 65) hX dX8_mayCome_43 (by decide) (fun c_7 => ?_) (fun c_7 => ?_)
  · have hf := hf_t c_7 hf
    refine r_aload_n hX dX8_mayCome_46 rfl ?_
    refine g_8_18 hX fl_X8_41 hk0 dX8_mayCome_47 ?_
    refine r_iload_n hX dX8_mayCome_50 rfl ?_
    refine r_iload hX dX8_mayCome_51 rfl ?_
    obtain ⟨r_8, h_9, hf⟩ := bd1_some hf
    refine r_callS (As := [.ref ((a0 + 8)), .int x1, .int x6]) hX (k_X8_placeOf (l := xl X) (J := J) hX.ok ((q_9_18 hX hk0)) h_9) pk_X8_placeOf ml_X8_115 rfl rfl rfl (Nat.le_of_ble_eq_true rfl) dX8_mayCome_53 ?_
    refine r_bipush (v := -9) hX dX8_mayCome_56 (by decide) ?_
    refine r_icmp_ne (tgt := 65) hX dX8_mayCome_58 (by decide) (fun c_10 => ?_) (fun c_10 => ?_)
    · have hf := hf_t c_10 hf
      refine V.mask [true, true, true, true, false, true, false] ?_
      exact vX8_mayCome_61 hX hret a0 x1 x2 x3 x5 hk0 k6 hc6 hf
    · have hf := hf_f c_10 hf
      refine V.mask [true, true, true, true, false, true, false] ?_
      exact vX8_mayCome_65 hX hret a0 x1 x2 x3 x5 hk0 k6 hc6 hf
  · have hf := hf_f c_7 hf
    refine V.mask [true, true, true, true, false, true, false] ?_
    exact vX8_mayCome_65 hX hret a0 x1 x2 x3 x5 hk0 k6 hc6 hf
noncomputable def X8_mayCome_B6 (I : HI) (a0 : Nat) (x1 : Int32) (x2 : Int32) (x3 : Int32) (k6 : Int32 → Int32 → Option (Int32)) (x4 : Int32) (x5 : Int32) : Option (Int32) := if x5 < (10 : Int32) then lt1 ((((10 : Int32) * x2) + x5)) fun x_2 => if x4 = 0 then if x3 = (-9 : Int32) then X8_mayCome_J39 I a0 x1 x2 x3 x5 x_2 k6 else if x3 = x5 then X8_mayCome_J39 I a0 x1 x2 x3 x5 x_2 k6 else X8_mayCome_J65 I a0 x1 x2 x3 x5 k6 else X8_mayCome_J61 I a0 x1 x2 x3 x5 k6 else gd (zb x4) (some x4)
set_option maxHeartbeats 4000000 in
set_option maxRecDepth 100000 in
theorem vX8_mayCome_6 {X : CX} {r : Int32} {I : HI} {J : HJ} (hX : OKX X cX8_mayCome RX8 1 24 7) (hret : RetZ X cX8_mayCome r I J) (a0 : Nat) (x1 : Int32) (x2 : Int32) (x3 : Int32) (hk0 : gK (xG X) a0 = 9)   : ∀ (n : Nat) (x4 : Int32) (x5 : Int32), wl2 (X8_mayCome_B6 I a0 x1 x2 x3) n x4 x5 = some r → V X I J 6 [some (.ref a0), some (.int x1), some (.int x2), some (.int x3), some (.int x4), some (.int x5), none] [] := by
  refine wl2_V (P := fun (x4 : Int32) (x5 : Int32) => V X I J 6 [some (.ref a0), some (.int x1), some (.int x2), some (.int x3), some (.int x4), some (.int x5), none] []) ?_
  intro k6 hc6 x4 x5 hf
  unfold X8_mayCome_B6 at hf
  refine r_iload hX dX8_mayCome_6 rfl ?_
  refine r_bipush (v := 10) hX dX8_mayCome_8 (by decide) ?_
  refine r_icmp_ge (tgt := 74) hX dX8_mayCome_10 (by decide) (fun c_1 => ?_) (fun c_1 => ?_)
  · have hf := hf_t c_1 hf
    refine r_bipush (v := 10) hX dX8_mayCome_13 (by decide) ?_
    refine r_iload_n hX dX8_mayCome_15 rfl ?_
    refine r_imul hX dX8_mayCome_16 ?_
    refine r_iload hX dX8_mayCome_17 rfl ?_
    refine r_iadd hX dX8_mayCome_19 ?_
    obtain ⟨x_2, ex_2, hf⟩ := lt1_some hf
    refine V.topi ex_2 ?_
    refine r_istore hX dX8_mayCome_20 rfl rfl ?_
    refine r_iload hX dX8_mayCome_22 rfl ?_
    refine r_if_ne (tgt := 61) hX dX8_mayCome_24 (by decide) (fun c_3 => ?_) (fun c_3 => ?_)
    · have hf := hf_t c_3 hf
      refine r_iload_n hX dX8_mayCome_27 rfl ?_
      refine r_bipush (v := -9) hX dX8_mayCome_28 (by decide) ?_
      refine r_icmp_eq (tgt := 39) hX dX8_mayCome_30 (by decide) (fun c_4 => ?_) (fun c_4 => ?_)
      · have hf := hf_t c_4 hf
        refine V.mask [true, true, true, true, false, true, true] ?_
        exact vX8_mayCome_39 hX hret a0 x1 x2 x3 x5 x_2 hk0 k6 hc6 hf
      · have hf := hf_f c_4 hf
        refine r_iload_n hX dX8_mayCome_33 rfl ?_
        refine r_iload hX dX8_mayCome_34 rfl ?_
        refine r_icmp_ne (tgt := 65) hX dX8_mayCome_36 (by decide) (fun c_5 => ?_) (fun c_5 => ?_)
        · have hf := hf_t c_5 hf
          refine V.mask [true, true, true, true, false, true, true] ?_
          exact vX8_mayCome_39 hX hret a0 x1 x2 x3 x5 x_2 hk0 k6 hc6 hf
        · have hf := hf_f c_5 hf
          refine V.mask [true, true, true, true, false, true, false] ?_
          exact vX8_mayCome_65 hX hret a0 x1 x2 x3 x5 hk0 k6 hc6 hf
    · have hf := hf_f c_3 hf
      refine V.mask [true, true, true, true, false, true, false] ?_
      exact vX8_mayCome_61 hX hret a0 x1 x2 x3 x5 hk0 k6 hc6 hf
  · have hf := hf_f c_1 hf
    refine r_iload hX dX8_mayCome_74 rfl ?_
    obtain ⟨g_6, hf⟩ := gd_some hf
    cases hf
    exact hret _ _ g_6 dX8_mayCome_76
noncomputable def f_X8_mayCome (I : HI) (a0 : Nat) (x1 : Int32) (x2 : Int32) (x3 : Int32) : Option (Int32) := wl2 (X8_mayCome_B6 I a0 x1 x2 x3) 5000 ((0 : Int32)) ((0 : Int32))
set_option maxHeartbeats 4000000 in
set_option maxRecDepth 100000 in
theorem k_X8_mayCome {G : GX} {l : Launch} {I : HI} {J : HJ} {r : Int32} (hG : OKG G) {a0 : Nat} {x1 : Int32} {x2 : Int32} {x3 : Int32} (hk0 : gK G a0 = 9) (hf : f_X8_mayCome I a0 x1 x2 x3 = some r) : Ctr G l yX8_mayCome cX8_mayCome 7 (some .boolean) 1 24 [.ref a0, .int x1, .int x2, .int x3] I J (some (.int r)) I J := by
  refine ctr_Zb hG (by decide) [some (.ref a0), some (.int x1), some (.int x2), some (.int x3), none, none, none] rfl rfl fun X e1 e2 hX hret => ?_
  subst e1; subst e2
  unfold f_X8_mayCome at hf
  refine r_iconst (v := 0) hX dX8_mayCome_0 rfl ?_
  refine r_istore hX dX8_mayCome_1 rfl rfl ?_
  refine r_iconst (v := 0) hX dX8_mayCome_3 rfl ?_
  refine r_istore hX dX8_mayCome_4 rfl rfl ?_
  refine V.mask [true, true, true, true, true, true, false] ?_
  exact vX8_mayCome_6 hX hret a0 x1 x2 x3 hk0 5000 ((0 : Int32)) ((0 : Int32)) hf

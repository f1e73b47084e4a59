noncomputable def f_X6_readPart (I : HI) (a0 : Nat) : Option (Int32 × HI) := bd1 (f_X6_letter I a0) fun r_1 => if r_1 = 104 then if (I (((a0 + 1) + 1)) 2) < (3 : Int32) then bd2 (f_X6_readFamily I a0) fun r_5 I_6 => if r_5 = 0 then some ((0 : Int32), I_6) else some ((1 : Int32), I_6) else some ((0 : Int32), I) else if r_1 = 112 then if (I ((a0 + 1)) 2) < (4 : Int32) then bd2 (f_X6_readProxy I a0) fun r_11 I_12 => if r_11 = 0 then some ((0 : Int32), I_12) else some ((1 : Int32), I_12) else some ((0 : Int32), I) else if r_1 = 115 then bd1 (f_X1_anyRoom I ((a0 + 1))) fun r_16 => if r_16 = 0 then some ((0 : Int32), I) else bd2 (f_X6_readShelved I a0) fun r_19 I_20 => if r_19 = 0 then some ((0 : Int32), I_20) else some ((1 : Int32), I_20) else some ((0 : Int32), I)
set_option maxHeartbeats 4000000 in
set_option maxRecDepth 100000 in
theorem k_X6_readPart {G : GX} {l : Launch} {I : HI} {J : HJ} {I' : HI} {r : Int32} (hG : OKG G) {a0 : Nat} (hk0 : gK G a0 = 7) (hf : f_X6_readPart I a0 = some (r, I')) : Ctr G l yX6_readPart cX6_readPart 1 (some .boolean) 4 88 [.ref a0] I J (some (.int r)) I' J := by
  refine ctr_Zb hG (by decide) [some (.ref a0)] rfl rfl fun X e1 e2 hX hret => ?_
  subst e1; subst e2
  unfold f_X6_readPart at hf
  refine r_aload_n hX dX6_readPart_0 rfl ?_
  obtain ⟨r_1, h_2, hf⟩ := bd1_some hf
  refine r_callV (As := []) (ci := 6) hX (k_X6_letter (l := xl X) (J := J) hX.ok hk0 h_2) pk_X6_letter ml_X6_42 rfl rfl rfl rfl hk0 rfl rfl rfl (Nat.le_of_ble_eq_true rfl) dX6_readPart_1 ?_
  by_cases c_3 : r_1 = 104
  · have hf := hf_t c_3 hf
    refine r_lswV (off := 36) (tgt := 40) hX 104 dX6_readPart_4 c_3 (by decide) (by decide) (by decide) ?_
    refine r_aload_n hX dX6_readPart_40 rfl ?_
    refine g_6_1 hX fl_X6_18 hk0 dX6_readPart_41 ?_
    refine g_1_0 hX fl_X6_58 ((q_7_1 hX hk0)) dX6_readPart_44 ?_
    refine g_0_2 hX fl_X6_62 ((q_2_0 hX ((q_7_1 hX hk0)))) dX6_readPart_47 ?_
    refine r_iconst (v := 3) hX dX6_readPart_50 rfl ?_
    refine r_icmp_ge (tgt := 65) hX dX6_readPart_51 (by decide) (fun c_4 => ?_) (fun c_4 => ?_)
    · have hf := hf_t c_4 hf
      refine r_aload_n hX dX6_readPart_54 rfl ?_
      obtain ⟨r_5, I_6, h_7, hf⟩ := bd2_some hf
      refine r_callV (As := []) (ci := 6) hX (k_X6_readFamily (l := xl X) (J := J) hX.ok hk0 h_7) pk_X6_readFamily ml_X6_67 rfl rfl rfl rfl hk0 rfl rfl rfl (Nat.le_of_ble_eq_true rfl) dX6_readPart_55 ?_
      refine r_if_eq (tgt := 65) hX dX6_readPart_58 (by decide) (fun c_8 => ?_) (fun c_8 => ?_)
      · have hf := hf_t c_8 hf
        refine r_iconst (v := 0) hX dX6_readPart_65 rfl ?_
        cases hf
        exact hret _ _ zb_0 dX6_readPart_66
      · have hf := hf_f c_8 hf
        refine r_iconst (v := 1) hX dX6_readPart_61 rfl ?_
        refine r_goto (tgt := 66) hX dX6_readPart_62 (by decide) ?_
        cases hf
        exact hret _ _ zb_1 dX6_readPart_66
    · have hf := hf_f c_4 hf
      refine r_iconst (v := 0) hX dX6_readPart_65 rfl ?_
      cases hf
      exact hret _ _ zb_0 dX6_readPart_66
  have hf := hf_f c_3 hf
  by_cases c_9 : r_1 = 112
  · have hf := hf_t c_9 hf
    refine r_lswV (off := 63) (tgt := 67) hX 112 dX6_readPart_4 c_9 (by decide) (by decide) (by decide) ?_
    refine r_aload_n hX dX6_readPart_67 rfl ?_
    refine g_6_1 hX fl_X6_18 hk0 dX6_readPart_68 ?_
    refine g_1_2 hX fl_X6_70 ((q_7_1 hX hk0)) dX6_readPart_71 ?_
    refine r_iconst (v := 4) hX dX6_readPart_74 rfl ?_
    refine r_icmp_ge (tgt := 89) hX dX6_readPart_75 (by decide) (fun c_10 => ?_) (fun c_10 => ?_)
    · have hf := hf_t c_10 hf
      refine r_aload_n hX dX6_readPart_78 rfl ?_
      obtain ⟨r_11, I_12, h_13, hf⟩ := bd2_some hf
      refine r_callV (As := []) (ci := 6) hX (k_X6_readProxy (l := xl X) (J := J) hX.ok hk0 h_13) pk_X6_readProxy ml_X6_73 rfl rfl rfl rfl hk0 rfl rfl rfl (Nat.le_of_ble_eq_true rfl) dX6_readPart_79 ?_
      refine r_if_eq (tgt := 89) hX dX6_readPart_82 (by decide) (fun c_14 => ?_) (fun c_14 => ?_)
      · have hf := hf_t c_14 hf
        refine r_iconst (v := 0) hX dX6_readPart_89 rfl ?_
        cases hf
        exact hret _ _ zb_0 dX6_readPart_90
      · have hf := hf_f c_14 hf
        refine r_iconst (v := 1) hX dX6_readPart_85 rfl ?_
        refine r_goto (tgt := 90) hX dX6_readPart_86 (by decide) ?_
        cases hf
        exact hret _ _ zb_1 dX6_readPart_90
    · have hf := hf_f c_10 hf
      refine r_iconst (v := 0) hX dX6_readPart_89 rfl ?_
      cases hf
      exact hret _ _ zb_0 dX6_readPart_90
  have hf := hf_f c_9 hf
  by_cases c_15 : r_1 = 115
  · have hf := hf_t c_15 hf
    refine r_lswV (off := 87) (tgt := 91) hX 115 dX6_readPart_4 c_15 (by decide) (by decide) (by decide) ?_
    refine r_aload_n hX dX6_readPart_91 rfl ?_
    refine g_6_1 hX fl_X6_18 hk0 dX6_readPart_92 ?_
    obtain ⟨r_16, h_17, hf⟩ := bd1_some hf
    refine r_callV (As := []) (ci := 1) hX (k_X1_anyRoom (l := xl X) (J := J) hX.ok ((q_7_1 hX hk0)) h_17) pk_X1_anyRoom ml_X6_76 rfl rfl rfl rfl ((q_7_1 hX hk0)) rfl rfl rfl (Nat.le_of_ble_eq_true rfl) dX6_readPart_95 ?_
    refine r_if_eq (tgt := 112) hX dX6_readPart_98 (by decide) (fun c_18 => ?_) (fun c_18 => ?_)
    · have hf := hf_t c_18 hf
      refine r_iconst (v := 0) hX dX6_readPart_112 rfl ?_
      cases hf
      exact hret _ _ zb_0 dX6_readPart_113
    · have hf := hf_f c_18 hf
      refine r_aload_n hX dX6_readPart_101 rfl ?_
      obtain ⟨r_19, I_20, h_21, hf⟩ := bd2_some hf
      refine r_callV (As := []) (ci := 6) hX (k_X6_readShelved (l := xl X) (J := J) hX.ok hk0 h_21) pk_X6_readShelved ml_X6_79 rfl rfl rfl rfl hk0 rfl rfl rfl (Nat.le_of_ble_eq_true rfl) dX6_readPart_102 ?_
      refine r_if_eq (tgt := 112) hX dX6_readPart_105 (by decide) (fun c_22 => ?_) (fun c_22 => ?_)
      · have hf := hf_t c_22 hf
        refine r_iconst (v := 0) hX dX6_readPart_112 rfl ?_
        cases hf
        exact hret _ _ zb_0 dX6_readPart_113
      · have hf := hf_f c_22 hf
        refine r_iconst (v := 1) hX dX6_readPart_108 rfl ?_
        refine r_goto (tgt := 113) hX dX6_readPart_109 (by decide) ?_
        cases hf
        exact hret _ _ zb_1 dX6_readPart_113
  have hf := hf_f c_15 hf
  refine r_lswD (tgt := 114) hX dX6_readPart_4 [104, 112, 115] (by decide) (by decide) (List.forall_mem_cons.mpr ⟨c_3, List.forall_mem_cons.mpr ⟨c_9, List.forall_mem_cons.mpr ⟨c_15, (fun _ h => absurd h List.not_mem_nil)⟩⟩⟩) (by decide) ?_
  refine r_iconst (v := 0) hX dX6_readPart_114 rfl ?_
  cases hf
  exact hret _ _ zb_0 dX6_readPart_115
noncomputable def X6_read_J54 (I : HI) (a0 : Nat) : Option (Int32 × HI) := bd1 (f_X1_complete I ((a0 + 1))) fun I_13 => some ((-9 : Int32), I_13)
set_option maxHeartbeats 4000000 in
set_option maxRecDepth 100000 in
theorem vX6_read_54 {X : CX} {I' : HI} {r : Int32} {I : HI} {J : HJ} (hX : OKX X cX6_read RX6 5 112 2) (hret : RetI X cX6_read r I' J) (a0 : Nat) (hk0 : gK (xG X) a0 = 7)   (hf : X6_read_J54 I a0 = some (r, I')) : V X I J 54 [some (.ref a0), none] [] := by
  unfold X6_read_J54 at hf
  refine r_aload_n hX dX6_read_54 rfl ?_
  refine g_6_1 hX fl_X6_18 hk0 dX6_read_55 ?_
  obtain ⟨I_13, h_14, hf⟩ := bd1_some hf
  refine r_callV (As := []) (ci := 1) hX (k_X1_complete (l := xl X) (J := J) hX.ok ((q_7_1 hX hk0)) h_14) pk_X1_complete ml_X6_39 rfl rfl rfl rfl ((q_7_1 hX hk0)) rfl rfl rfl (Nat.le_of_ble_eq_true rfl) dX6_read_58 ?_
  refine r_bipush (v := -9) hX dX6_read_61 (by decide) ?_
  cases hf
  exact hret _ _ dX6_read_63
noncomputable def X6_read_B19 (a0 : Nat) (k19 : HI → Int32 → Option (Int32 × HI)) (I : HI) (x1 : Int32) : Option (Int32 × HI) := if x1 < (100 : Int32) then if (I a0 3) < (I a0 0) then bd2 (f_X6_readPart I a0) fun r_8 I_9 => if r_8 = 0 then some ((I_9 a0 3), I_9) else lt1 (x1 + (1 : Int32)) fun x_12 => k19 I_9 x_12 else X6_read_J54 I a0 else X6_read_J54 I a0
set_option maxHeartbeats 4000000 in
set_option maxRecDepth 100000 in
theorem vX6_read_19 {X : CX} {I' : HI} {r : Int32} {J : HJ} (hX : OKX X cX6_read RX6 5 112 2) (hret : RetI X cX6_read r I' J) (a0 : Nat) (hk0 : gK (xG X) a0 = 7)   : ∀ (n : Nat) (I : HI) (x1 : Int32), wl2 (X6_read_B19 a0) n I x1 = some (r, I') → V X I J 19 [some (.ref a0), some (.int x1)] [] := by
  refine wl2_V (P := fun (I : HI) (x1 : Int32) => V X I J 19 [some (.ref a0), some (.int x1)] []) ?_
  intro k19 hc19 I x1 hf
  unfold X6_read_B19 at hf
  refine r_iload_n hX dX6_read_19 rfl ?_
  refine r_bipush (v := 100) hX dX6_read_20 (by decide) ?_
  refine r_icmp_ge (tgt := 54) hX dX6_read_22 (by decide) (fun c_6 => ?_) (fun c_6 => ?_)
  · have hf := hf_t c_6 hf
    refine r_aload_n hX dX6_read_25 rfl ?_
    refine g_6_3 hX fl_X6_26 hk0 dX6_read_26 ?_
    refine r_aload_n hX dX6_read_29 rfl ?_
    refine g_6_0 hX fl_X6_9 hk0 dX6_read_30 ?_
    refine r_icmp_ge (tgt := 54) hX dX6_read_33 (by decide) (fun c_7 => ?_) (fun c_7 => ?_)
    · have hf := hf_t c_7 hf
      refine r_aload_n hX dX6_read_36 rfl ?_
      obtain ⟨r_8, I_9, h_10, hf⟩ := bd2_some hf
      refine r_callV (As := []) (ci := 6) hX (k_X6_readPart (l := xl X) (J := J) hX.ok hk0 h_10) pk_X6_readPart ml_X6_36 rfl rfl rfl rfl hk0 rfl rfl rfl (Nat.le_of_ble_eq_true rfl) dX6_read_37 ?_
      refine r_if_ne (tgt := 48) hX dX6_read_40 (by decide) (fun c_11 => ?_) (fun c_11 => ?_)
      · have hf := hf_t c_11 hf
        refine r_aload_n hX dX6_read_43 rfl ?_
        refine g_6_3 hX fl_X6_26 hk0 dX6_read_44 ?_
        cases hf
        exact hret _ _ dX6_read_47
      · have hf := hf_f c_11 hf
        obtain ⟨x_12, ex_12, hf⟩ := lt1_some hf
        refine r_iincE (n' := 1) ex_12 hX dX6_read_48 rfl rfl rfl rfl ?_
        refine r_goto (tgt := 19) hX dX6_read_51 (by decide) ?_
        refine V.mask [true, true] ?_
        exact hc19 I_9 x_12 hf
    · have hf := hf_f c_7 hf
      refine V.mask [true, false] ?_
      exact vX6_read_54 hX hret a0 hk0 hf
  · have hf := hf_f c_6 hf
    refine V.mask [true, false] ?_
    exact vX6_read_54 hX hret a0 hk0 hf
noncomputable def f_X6_read (I : HI) (a0 : Nat) : Option (Int32 × HI) := lt1 (sI I a0 3 ((0 : Int32))) fun I_1 => bd2 (f_X6_readHead I_1 a0) fun r_2 I_3 => if r_2 = 0 then some ((I_3 a0 3), I_3) else wl2 (X6_read_B19 a0) 5000 I_3 ((0 : Int32))
set_option maxHeartbeats 4000000 in
set_option maxRecDepth 100000 in
theorem k_X6_read {G : GX} {l : Launch} {I : HI} {J : HJ} {I' : HI} {r : Int32} (hG : OKG G) {a0 : Nat} (hk0 : gK G a0 = 7) (hf : f_X6_read I a0 = some (r, I')) : Ctr G l yX6_read cX6_read 2 (some .int) 5 112 [.ref a0] I J (some (.int r)) I' J := by
  refine ctr_I hG (by decide) [some (.ref a0), none] rfl rfl fun X e1 e2 hX hret => ?_
  subst e1; subst e2
  unfold f_X6_read at hf
  refine r_aload_n hX dX6_read_0 rfl ?_
  refine r_iconst (v := 0) hX dX6_read_1 rfl ?_
  obtain ⟨I_1, eI_1, hf⟩ := lt1_some hf
  refine p_6_3 eI_1 hX fl_X6_26 hk0 dX6_read_2 ?_
  refine r_aload_n hX dX6_read_5 rfl ?_
  obtain ⟨r_2, I_3, h_4, hf⟩ := bd2_some hf
  refine r_callV (As := []) (ci := 6) hX (k_X6_readHead (l := xl X) (J := J) hX.ok hk0 h_4) pk_X6_readHead ml_X6_32 rfl rfl rfl rfl hk0 rfl rfl rfl (Nat.le_of_ble_eq_true rfl) dX6_read_6 ?_
  refine r_if_ne (tgt := 17) hX dX6_read_9 (by decide) (fun c_5 => ?_) (fun c_5 => ?_)
  · have hf := hf_t c_5 hf
    refine r_aload_n hX dX6_read_12 rfl ?_
    refine g_6_3 hX fl_X6_26 hk0 dX6_read_13 ?_
    cases hf
    exact hret _ _ dX6_read_16
  · have hf := hf_f c_5 hf
    refine r_iconst (v := 0) hX dX6_read_17 rfl ?_
    refine r_istore_n hX dX6_read_18 rfl rfl ?_
    refine V.mask [true, true] ?_
    exact vX6_read_19 hX hret a0 hk0 5000 I_3 ((0 : Int32)) hf
noncomputable def f_X7_write (I : HI) (a0 : Nat) (x1 : Int32) : Option (Int32 × HI) := if x1 < 0 then some ((-2 : Int32), I) else if (255 : Int32) < x1 then some ((-2 : Int32), I) else bd2 (f_X6_append I ((a0 + 1)) x1) fun r_3 I_4 => if r_3 = 0 then some ((-4 : Int32), I_4) else some ((I_4 ((a0 + 1)) 0), I_4)
set_option maxHeartbeats 4000000 in
set_option maxRecDepth 100000 in
theorem k_X7_write {G : GX} {l : Launch} {I : HI} {J : HJ} {I' : HI} {r : Int32} (hG : OKG G) {a0 : Nat} {x1 : Int32} (hk0 : gK G a0 = 8) (hf : f_X7_write I a0 x1 = some (r, I')) : Ctr G l yX7_write cX7_write 2 (some .int) 1 21 [.ref a0, .int x1] I J (some (.int r)) I' J := by
  refine ctr_I hG (by decide) [some (.ref a0), some (.int x1)] rfl rfl fun X e1 e2 hX hret => ?_
  subst e1; subst e2
  unfold f_X7_write at hf
  refine r_iload_n hX dX7_write_0 rfl ?_
  refine r_if_lt (tgt := 11) hX dX7_write_1 (by decide) (fun c_1 => ?_) (fun c_1 => ?_)
  · have hf := hf_t c_1 hf
    refine r_bipush (v := -2) hX dX7_write_11 (by decide) ?_
    cases hf
    exact hret _ _ dX7_write_13
  · have hf := hf_f c_1 hf
    refine r_iload_n hX dX7_write_4 rfl ?_
    refine r_sipush (v := 255) hX dX7_write_5 (by decide) ?_
    refine r_icmp_le (tgt := 14) hX dX7_write_8 (by decide) (fun c_2 => ?_) (fun c_2 => ?_)
    · have hf := hf_t c_2 hf
      refine r_bipush (v := -2) hX dX7_write_11 (by decide) ?_
      cases hf
      exact hret _ _ dX7_write_13
    · have hf := hf_f c_2 hf
      refine r_aload_n hX dX7_write_14 rfl ?_
      refine g_7_0 hX fl_X7_10 hk0 dX7_write_15 ?_
      refine r_iload_n hX dX7_write_18 rfl ?_
      obtain ⟨r_3, I_4, h_5, hf⟩ := bd2_some hf
      refine r_callV (As := [.int x1]) (ci := 6) hX (k_X6_append (l := xl X) (J := J) hX.ok ((q_8_0 hX hk0)) h_5) pk_X6_append ml_X7_69 rfl rfl rfl rfl ((q_8_0 hX hk0)) rfl rfl rfl (Nat.le_of_ble_eq_true rfl) dX7_write_19 ?_
      refine r_if_eq (tgt := 35) hX dX7_write_22 (by decide) (fun c_6 => ?_) (fun c_6 => ?_)
      · have hf := hf_t c_6 hf
        refine r_bipush (v := -4) hX dX7_write_35 (by decide) ?_
        cases hf
        exact hret _ _ dX7_write_37
      · have hf := hf_f c_6 hf
        refine r_aload_n hX dX7_write_25 rfl ?_
        refine g_7_0 hX fl_X7_10 hk0 dX7_write_26 ?_
        refine g_6_0 hX fl_X7_73 ((q_8_0 hX hk0)) dX7_write_29 ?_
        refine r_goto (tgt := 37) hX dX7_write_32 (by decide) ?_
        cases hf
        exact hret _ _ dX7_write_37
noncomputable def f_X7_wipe (I : HI) (a0 : Nat) : Option (Int32 × HI) := lt1 ((I ((a0 + 1)) 0)) fun x_1 => lt1 (sI I ((a0 + 1)) 0 ((0 : Int32))) fun I_2 => some (x_1, I_2)
set_option maxHeartbeats 4000000 in
set_option maxRecDepth 100000 in
theorem k_X7_wipe {G : GX} {l : Launch} {I : HI} {J : HJ} {I' : HI} {r : Int32} (hG : OKG G) {a0 : Nat} (hk0 : gK G a0 = 8) (hf : f_X7_wipe I a0 = some (r, I')) : Ctr G l yX7_wipe cX7_wipe 2 (some .int) 0 0 [.ref a0] I J (some (.int r)) I' J := by
  refine ctr_I hG (by decide) [some (.ref a0), none] rfl rfl fun X e1 e2 hX hret => ?_
  subst e1; subst e2
  unfold f_X7_wipe at hf
  refine r_aload_n hX dX7_wipe_0 rfl ?_
  refine g_7_0 hX fl_X7_10 hk0 dX7_wipe_1 ?_
  refine g_6_0 hX fl_X7_73 ((q_8_0 hX hk0)) dX7_wipe_4 ?_
  obtain ⟨x_1, ex_1, hf⟩ := lt1_some hf
  refine V.topi ex_1 ?_
  refine r_istore_n hX dX7_wipe_7 rfl rfl ?_
  refine r_aload_n hX dX7_wipe_8 rfl ?_
  refine g_7_0 hX fl_X7_10 hk0 dX7_wipe_9 ?_
  refine r_iconst (v := 0) hX dX7_wipe_12 rfl ?_
  obtain ⟨I_2, eI_2, hf⟩ := lt1_some hf
  refine p_6_0 eI_2 hX fl_X7_73 ((q_8_0 hX hk0)) dX7_wipe_13 ?_
  refine r_iload_n hX dX7_wipe_16 rfl ?_
  cases hf
  exact hret _ _ dX7_wipe_17
noncomputable def f_X7_fault (I : HI) (a0 : Nat) : Option (Int32 × HI) := bd2 (f_X6_read I ((a0 + 1))) fun r_1 I_2 => some (r_1, I_2)
set_option maxHeartbeats 4000000 in
set_option maxRecDepth 100000 in
theorem k_X7_fault {G : GX} {l : Launch} {I : HI} {J : HJ} {I' : HI} {r : Int32} (hG : OKG G) {a0 : Nat} (hk0 : gK G a0 = 8) (hf : f_X7_fault I a0 = some (r, I')) : Ctr G l yX7_fault cX7_fault 1 (some .int) 6 133 [.ref a0] I J (some (.int r)) I' J := by
  refine ctr_I hG (by decide) [some (.ref a0)] rfl rfl fun X e1 e2 hX hret => ?_
  subst e1; subst e2
  unfold f_X7_fault at hf
  refine r_aload_n hX dX7_fault_0 rfl ?_
  refine g_7_0 hX fl_X7_10 hk0 dX7_fault_1 ?_
  obtain ⟨r_1, I_2, h_3, hf⟩ := bd2_some hf
  refine r_callV (As := []) (ci := 6) hX (k_X6_read (l := xl X) (J := J) hX.ok ((q_8_0 hX hk0)) h_3) pk_X6_read ml_X7_77 rfl rfl rfl rfl ((q_8_0 hX hk0)) rfl rfl rfl (Nat.le_of_ble_eq_true rfl) dX7_fault_4 ?_
  cases hf
  exact hret _ _ dX7_fault_7
noncomputable def X7_net_B38 (a0 : Nat) (k38 : HI → Int32 → Option (Int32 × HI)) (I : HI) (x1 : Int32) : Option (Int32 × HI) := if x1 < (2 : Int32) then gd (vp_in x1 2) (lt1 (sI I ((a0 + 295)) x1.toNatClampNeg ((0 : Int32))) fun I_11 => lt1 (x1 + (1 : Int32)) fun x_12 => k38 I_11 x_12) else some ((I ((a0 + 20)) 2), I)
set_option maxHeartbeats 4000000 in
set_option maxRecDepth 100000 in
theorem vX7_net_38 {X : CX} {I' : HI} {r : Int32} {J : HJ} (hX : OKX X cX7_net RX7 6 133 2) (hret : RetI X cX7_net r I' J) (a0 : Nat) (hk0 : gK (xG X) a0 = 8)   : ∀ (n : Nat) (I : HI) (x1 : Int32), wl2 (X7_net_B38 a0) n I x1 = some (r, I') → V X I J 38 [some (.ref a0), some (.int x1)] [] := by
  refine wl2_V (P := fun (I : HI) (x1 : Int32) => V X I J 38 [some (.ref a0), some (.int x1)] []) ?_
  intro k38 hc38 I x1 hf
  unfold X7_net_B38 at hf
  refine r_iload_n hX dX7_net_38 rfl ?_
  refine r_aload_n hX dX7_net_39 rfl ?_
  refine g_7_5 hX fl_X7_37 hk0 dX7_net_40 ?_
  refine r_zlen (n := 2) (v := 2) hX rfl rfl ((q_8_5 hX hk0)) (by decide) dX7_net_43 ?_
  refine r_icmp_ge (tgt := 60) hX dX7_net_44 (by decide) (fun c_9 => ?_) (fun c_9 => ?_)
  · have hf := hf_t c_9 hf
    refine r_aload_n hX dX7_net_47 rfl ?_
    refine g_7_5 hX fl_X7_37 hk0 dX7_net_48 ?_
    refine r_iload_n hX dX7_net_51 rfl ?_
    refine r_iconst (v := 0) hX dX7_net_52 rfl ?_
    obtain ⟨g_10, hf⟩ := gd_some hf
    obtain ⟨I_11, eI_11, hf⟩ := lt1_some hf
    refine r_zastE (n := 2) eI_11 hX rfl rfl ((q_8_5 hX hk0)) g_10 zb_0 dX7_net_53 ?_
    obtain ⟨x_12, ex_12, hf⟩ := lt1_some hf
    refine r_iincE (n' := 1) ex_12 hX dX7_net_54 rfl rfl rfl rfl ?_
    refine r_goto (tgt := 38) hX dX7_net_57 (by decide) ?_
    refine V.mask [true, true] ?_
    exact hc38 I_11 x_12 hf
  · have hf := hf_f c_9 hf
    refine r_aload_n hX dX7_net_60 rfl ?_
    refine g_7_1 hX fl_X7_19 hk0 dX7_net_61 ?_
    refine g_1_2 hX fl_X7_91 ((q_8_1 hX hk0)) dX7_net_64 ?_
    cases hf
    exact hret _ _ dX7_net_67
noncomputable def f_X7_net (I : HI) (a0 : Nat) : Option (Int32 × HI) := bd2 (f_X6_read I ((a0 + 1))) fun r_1 I_2 => if r_1 = (-9 : Int32) then bd1 (f_X1_take I_2 ((a0 + 20)) (((a0 + 1) + 1))) fun I_5 => bd1 (f_X3_forget I_5 ((a0 + 54))) fun I_7 => wl2 (X7_net_B38 a0) 5000 I_7 ((0 : Int32)) else some ((-3 : Int32), I_2)
set_option maxHeartbeats 4000000 in
set_option maxRecDepth 100000 in
theorem k_X7_net {G : GX} {l : Launch} {I : HI} {J : HJ} {I' : HI} {r : Int32} (hG : OKG G) {a0 : Nat} (hk0 : gK G a0 = 8) (hf : f_X7_net I a0 = some (r, I')) : Ctr G l yX7_net cX7_net 2 (some .int) 6 133 [.ref a0] I J (some (.int r)) I' J := by
  refine ctr_I hG (by decide) [some (.ref a0), none] rfl rfl fun X e1 e2 hX hret => ?_
  subst e1; subst e2
  unfold f_X7_net at hf
  refine r_aload_n hX dX7_net_0 rfl ?_
  refine g_7_0 hX fl_X7_10 hk0 dX7_net_1 ?_
  obtain ⟨r_1, I_2, h_3, hf⟩ := bd2_some hf
  refine r_callV (As := []) (ci := 6) hX (k_X6_read (l := xl X) (J := J) hX.ok ((q_8_0 hX hk0)) h_3) pk_X6_read ml_X7_77 rfl rfl rfl rfl ((q_8_0 hX hk0)) rfl rfl rfl (Nat.le_of_ble_eq_true rfl) dX7_net_4 ?_
  refine r_bipush (v := -9) hX dX7_net_7 (by decide) ?_
  refine r_icmp_eq (tgt := 15) hX dX7_net_9 (by decide) (fun c_4 => ?_) (fun c_4 => ?_)
  · have hf := hf_t c_4 hf
    refine r_aload_n hX dX7_net_15 rfl ?_
    refine g_7_1 hX fl_X7_19 hk0 dX7_net_16 ?_
    refine r_aload_n hX dX7_net_19 rfl ?_
    refine g_7_0 hX fl_X7_10 hk0 dX7_net_20 ?_
    refine g_6_1 hX fl_X7_81 ((q_8_0 hX hk0)) dX7_net_23 ?_
    obtain ⟨I_5, h_6, hf⟩ := bd1_some hf
    refine r_callV (As := [.ref (((a0 + 1) + 1))]) (ci := 1) hX (k_X1_take (l := xl X) (J := J) hX.ok ((q_8_1 hX hk0)) ((q_7_1 hX ((q_8_0 hX hk0)))) h_6) pk_X1_take ml_X7_84 rfl rfl rfl rfl ((q_8_1 hX hk0)) rfl rfl rfl (Nat.le_of_ble_eq_true rfl) dX7_net_26 ?_
    refine r_aload_n hX dX7_net_29 rfl ?_
    refine g_7_3 hX fl_X7_29 hk0 dX7_net_30 ?_
    obtain ⟨I_7, h_8, hf⟩ := bd1_some hf
    refine r_callV (As := []) (ci := 3) hX (k_X3_forget (l := xl X) (J := J) hX.ok ((q_8_3 hX hk0)) h_8) pk_X3_forget ml_X7_88 rfl rfl rfl rfl ((q_8_3 hX hk0)) rfl rfl rfl (Nat.le_of_ble_eq_true rfl) dX7_net_33 ?_
    refine r_iconst (v := 0) hX dX7_net_36 rfl ?_
    refine r_istore_n hX dX7_net_37 rfl rfl ?_
    refine V.mask [true, true] ?_
    exact vX7_net_38 hX hret a0 hk0 5000 I_7 ((0 : Int32)) hf
  · have hf := hf_f c_4 hf
    refine r_bipush (v := -3) hX dX7_net_12 (by decide) ?_
    cases hf
    exact hret _ _ dX7_net_14
noncomputable def f_X7_proxy (I : HI) (a0 : Nat) (x1 : Int32) (x2 : Int32) : Option (Int32) := bd1 (f_X1_proxyAt I ((a0 + 20)) x1) fun r_1 => mN r_1 (some ((-1 : Int32))) (fun a_3 => if x2 = 0 then some ((I a_3 0)) else if x2 = 1 then some ((I a_3 1)) else if x2 = 2 then some ((I a_3 2)) else if x2 = 3 then some ((I a_3 3)) else if x2 = 4 then some ((I a_3 4)) else if x2 = 5 then bd1 (f_X1_claimed I ((a0 + 20)) a_3) fun r_11 => bd1 (f_X4_shelfSet I a_3) fun r_13 => bd1 (f_J6_bitCount_0f7a4 ((r_11 &&& (r_13 ^^^ (-1 : Int32))))) fun r_15 => some r_15 else if x2 = 6 then bd1 (f_X4_shelfSet I a_3) fun r_18 => bd1 (f_X1_claimed I ((a0 + 20)) a_3) fun r_20 => bd1 (f_J6_bitCount_0f7a4 ((r_18 &&& (r_20 ^^^ (-1 : Int32))))) fun r_22 => some r_22 else if x2 = 7 then bd1 (f_X4_shelfSet I a_3) fun r_25 => some r_25 else some ((-2 : Int32)))
set_option maxHeartbeats 4000000 in
set_option maxRecDepth 100000 in
theorem k_X7_proxy {G : GX} {l : Launch} {I : HI} {J : HJ} {r : Int32} (hG : OKG G) {a0 : Nat} {x1 : Int32} {x2 : Int32} (hk0 : gK G a0 = 8) (hf : f_X7_proxy I a0 x1 x2 = some r) : Ctr G l yX7_proxy cX7_proxy 4 (some .int) 4 92 [.ref a0, .int x1, .int x2] I J (some (.int r)) I J := by
  refine ctr_I hG (by decide) [some (.ref a0), some (.int x1), some (.int x2), none] rfl rfl fun X e1 e2 hX hret => ?_
  subst e1; subst e2
  unfold f_X7_proxy at hf
  refine r_aload_n hX dX7_proxy_0 rfl ?_
  refine g_7_1 hX fl_X7_19 hk0 dX7_proxy_1 ?_
  refine r_iload_n hX dX7_proxy_4 rfl ?_
  obtain ⟨r_1, h_2, hf⟩ := bd1_some hf
  refine r_callV (As := [.int x1]) (ci := 1) hX (k_X1_proxyAt (l := xl X) (J := J) hX.ok ((q_8_1 hX hk0)) h_2) pk_X1_proxyAt ml_X7_94 rfl rfl rfl rfl ((q_8_1 hX hk0)) rfl rfl rfl (Nat.le_of_ble_eq_true rfl) dX7_proxy_5 ?_
  cases r_1 with
  | none =>
    have hf := mN_n hf
    refine r_astore_nN hX dX7_proxy_8 rfl rfl ?_
    refine r_aload_nN hX dX7_proxy_9 rfl ?_
    refine r_ifnonnull_n hX dX7_proxy_10 ?_
    refine r_iconst (v := -1) hX dX7_proxy_13 rfl ?_
    cases hf
    exact hret _ _ dX7_proxy_14
  | some a_3 =>
    have hf := mN_s hf
    have hk_4 := kt_X1_proxyAt hX.ok ((q_8_1 hX hk0)) h_2
    refine r_astore_n hX dX7_proxy_8 rfl rfl ?_
    refine r_aload_n hX dX7_proxy_9 rfl ?_
    refine r_ifnonnull_r (tgt := 15) hX dX7_proxy_10 (by decide) ?_
    refine r_iload_n hX dX7_proxy_15 rfl ?_
    by_cases c_5 : x2 = 0
    · have hf := hf_t c_5 hf
      refine r_tsw (off := 48) (tgt := 64) hX 0 dX7_proxy_16 c_5 (by decide) (by decide) (by decide) (by decide) ?_
      refine r_aload_n hX dX7_proxy_64 rfl ?_
      refine g_4_0 hX fl_X7_98 hk_4 dX7_proxy_65 ?_
      cases hf
      exact hret _ _ dX7_proxy_68
    have hf := hf_f c_5 hf
    by_cases c_6 : x2 = 1
    · have hf := hf_t c_6 hf
      refine r_tsw (off := 53) (tgt := 69) hX 1 dX7_proxy_16 c_6 (by decide) (by decide) (by decide) (by decide) ?_
      refine r_aload_n hX dX7_proxy_69 rfl ?_
      refine g_4_1 hX fl_X7_103 hk_4 dX7_proxy_70 ?_
      cases hf
      exact hret _ _ dX7_proxy_73
    have hf := hf_f c_6 hf
    by_cases c_7 : x2 = 2
    · have hf := hf_t c_7 hf
      refine r_tsw (off := 58) (tgt := 74) hX 2 dX7_proxy_16 c_7 (by decide) (by decide) (by decide) (by decide) ?_
      refine r_aload_n hX dX7_proxy_74 rfl ?_
      refine g_4_2 hX fl_X7_106 hk_4 dX7_proxy_75 ?_
      cases hf
      exact hret _ _ dX7_proxy_78
    have hf := hf_f c_7 hf
    by_cases c_8 : x2 = 3
    · have hf := hf_t c_8 hf
      refine r_tsw (off := 63) (tgt := 79) hX 3 dX7_proxy_16 c_8 (by decide) (by decide) (by decide) (by decide) ?_
      refine r_aload_n hX dX7_proxy_79 rfl ?_
      refine g_4_3 hX fl_X7_109 hk_4 dX7_proxy_80 ?_
      cases hf
      exact hret _ _ dX7_proxy_83
    have hf := hf_f c_8 hf
    by_cases c_9 : x2 = 4
    · have hf := hf_t c_9 hf
      refine r_tsw (off := 68) (tgt := 84) hX 4 dX7_proxy_16 c_9 (by decide) (by decide) (by decide) (by decide) ?_
      refine r_aload_n hX dX7_proxy_84 rfl ?_
      refine g_4_4 hX fl_X7_112 hk_4 dX7_proxy_85 ?_
      cases hf
      exact hret _ _ dX7_proxy_88
    have hf := hf_f c_9 hf
    by_cases c_10 : x2 = 5
    · have hf := hf_t c_10 hf
      refine r_tsw (off := 73) (tgt := 89) hX 5 dX7_proxy_16 c_10 (by decide) (by decide) (by decide) (by decide) ?_
      refine r_aload_n hX dX7_proxy_89 rfl ?_
      refine g_7_1 hX fl_X7_19 hk0 dX7_proxy_90 ?_
      refine r_aload_n hX dX7_proxy_93 rfl ?_
      obtain ⟨r_11, h_12, hf⟩ := bd1_some hf
      refine r_callV (As := [.ref a_3]) (ci := 1) hX (k_X1_claimed (l := xl X) (J := J) hX.ok ((q_8_1 hX hk0)) hk_4 h_12) pk_X1_claimed ml_X7_115 rfl rfl rfl rfl ((q_8_1 hX hk0)) rfl rfl rfl (Nat.le_of_ble_eq_true rfl) dX7_proxy_94 ?_
      refine r_aload_n hX dX7_proxy_97 rfl ?_
      obtain ⟨r_13, h_14, hf⟩ := bd1_some hf
      refine r_callV (As := []) (ci := 4) hX (k_X4_shelfSet (l := xl X) (J := J) hX.ok hk_4 h_14) pk_X4_shelfSet ml_X7_119 rfl rfl rfl rfl hk_4 rfl rfl rfl (Nat.le_of_ble_eq_true rfl) dX7_proxy_98 ?_
      refine r_iconst (v := -1) hX dX7_proxy_101 rfl ?_
      refine r_ixor hX dX7_proxy_102 ?_
      refine r_iand hX dX7_proxy_103 ?_
      obtain ⟨r_15, h_16, hf⟩ := bd1_some hf
      refine r_callS (As := [.int ((r_11 &&& (r_13 ^^^ (-1 : Int32))))]) hX (k_J6_bitCount_0f7a4 (l := xl X) (I := I) (J := J) hX.ok  h_16) pk_J6_bitCount_0f7a4 ml_X7_122 rfl rfl rfl (Nat.le_of_ble_eq_true rfl) dX7_proxy_104 ?_
      cases hf
      exact hret _ _ dX7_proxy_107
    have hf := hf_f c_10 hf
    by_cases c_17 : x2 = 6
    · have hf := hf_t c_17 hf
      refine r_tsw (off := 92) (tgt := 108) hX 6 dX7_proxy_16 c_17 (by decide) (by decide) (by decide) (by decide) ?_
      refine r_aload_n hX dX7_proxy_108 rfl ?_
      obtain ⟨r_18, h_19, hf⟩ := bd1_some hf
      refine r_callV (As := []) (ci := 4) hX (k_X4_shelfSet (l := xl X) (J := J) hX.ok hk_4 h_19) pk_X4_shelfSet ml_X7_119 rfl rfl rfl rfl hk_4 rfl rfl rfl (Nat.le_of_ble_eq_true rfl) dX7_proxy_109 ?_
      refine r_aload_n hX dX7_proxy_112 rfl ?_
      refine g_7_1 hX fl_X7_19 hk0 dX7_proxy_113 ?_
      refine r_aload_n hX dX7_proxy_116 rfl ?_
      obtain ⟨r_20, h_21, hf⟩ := bd1_some hf
      refine r_callV (As := [.ref a_3]) (ci := 1) hX (k_X1_claimed (l := xl X) (J := J) hX.ok ((q_8_1 hX hk0)) hk_4 h_21) pk_X1_claimed ml_X7_115 rfl rfl rfl rfl ((q_8_1 hX hk0)) rfl rfl rfl (Nat.le_of_ble_eq_true rfl) dX7_proxy_117 ?_
      refine r_iconst (v := -1) hX dX7_proxy_120 rfl ?_
      refine r_ixor hX dX7_proxy_121 ?_
      refine r_iand hX dX7_proxy_122 ?_
      obtain ⟨r_22, h_23, hf⟩ := bd1_some hf
      refine r_callS (As := [.int ((r_18 &&& (r_20 ^^^ (-1 : Int32))))]) hX (k_J6_bitCount_0f7a4 (l := xl X) (I := I) (J := J) hX.ok  h_23) pk_J6_bitCount_0f7a4 ml_X7_122 rfl rfl rfl (Nat.le_of_ble_eq_true rfl) dX7_proxy_123 ?_
      cases hf
      exact hret _ _ dX7_proxy_126
    have hf := hf_f c_17 hf
    by_cases c_24 : x2 = 7
    · have hf := hf_t c_24 hf
      refine r_tsw (off := 111) (tgt := 127) hX 7 dX7_proxy_16 c_24 (by decide) (by decide) (by decide) (by decide) ?_
      refine r_aload_n hX dX7_proxy_127 rfl ?_
      obtain ⟨r_25, h_26, hf⟩ := bd1_some hf
      refine r_callV (As := []) (ci := 4) hX (k_X4_shelfSet (l := xl X) (J := J) hX.ok hk_4 h_26) pk_X4_shelfSet ml_X7_119 rfl rfl rfl rfl hk_4 rfl rfl rfl (Nat.le_of_ble_eq_true rfl) dX7_proxy_128 ?_
      cases hf
      exact hret _ _ dX7_proxy_131
    have hf := hf_f c_24 hf
    refine r_tswD (tgt := 132) hX dX7_proxy_16 [0, 1, 2, 3, 4, 5, 6, 7] (by decide) (List.forall_mem_cons.mpr ⟨c_5, List.forall_mem_cons.mpr ⟨c_6, List.forall_mem_cons.mpr ⟨c_7, List.forall_mem_cons.mpr ⟨c_8, List.forall_mem_cons.mpr ⟨c_9, List.forall_mem_cons.mpr ⟨c_10, List.forall_mem_cons.mpr ⟨c_17, List.forall_mem_cons.mpr ⟨c_24, (fun _ h => absurd h List.not_mem_nil)⟩⟩⟩⟩⟩⟩⟩⟩) (by decide) ?_
    refine r_bipush (v := -2) hX dX7_proxy_132 (by decide) ?_
    cases hf
    exact hret _ _ dX7_proxy_134
noncomputable def f_X7_page (I : HI) (a0 : Nat) (x1 : Int32) (x2 : Int32) : Option (Int32) := bd1 (f_X1_proxyAt I ((a0 + 20)) x1) fun r_1 => mN r_1 (some ((-1 : Int32))) (fun a_3 => if x2 < 0 then some ((-2 : Int32)) else if x2 < (9 : Int32) then bd1 (f_X4_pageAt I a_3 x2) fun r_7 => some r_7 else some ((-2 : Int32)))
set_option maxHeartbeats 4000000 in
set_option maxRecDepth 100000 in
theorem k_X7_page {G : GX} {l : Launch} {I : HI} {J : HJ} {r : Int32} (hG : OKG G) {a0 : Nat} {x1 : Int32} {x2 : Int32} (hk0 : gK G a0 = 8) (hf : f_X7_page I a0 x1 x2 = some r) : Ctr G l yX7_page cX7_page 4 (some .int) 1 21 [.ref a0, .int x1, .int x2] I J (some (.int r)) I J := by
  refine ctr_I hG (by decide) [some (.ref a0), some (.int x1), some (.int x2), none] rfl rfl fun X e1 e2 hX hret => ?_
  subst e1; subst e2
  unfold f_X7_page at hf
  refine r_aload_n hX dX7_page_0 rfl ?_
  refine g_7_1 hX fl_X7_19 hk0 dX7_page_1 ?_
  refine r_iload_n hX dX7_page_4 rfl ?_
  obtain ⟨r_1, h_2, hf⟩ := bd1_some hf
  refine r_callV (As := [.int x1]) (ci := 1) hX (k_X1_proxyAt (l := xl X) (J := J) hX.ok ((q_8_1 hX hk0)) h_2) pk_X1_proxyAt ml_X7_94 rfl rfl rfl rfl ((q_8_1 hX hk0)) rfl rfl rfl (Nat.le_of_ble_eq_true rfl) dX7_page_5 ?_
  cases r_1 with
  | none =>
    have hf := mN_n hf
    refine r_astore_nN hX dX7_page_8 rfl rfl ?_
    refine r_aload_nN hX dX7_page_9 rfl ?_
    refine r_ifnonnull_n hX dX7_page_10 ?_
    refine r_iconst (v := -1) hX dX7_page_13 rfl ?_
    cases hf
    exact hret _ _ dX7_page_14
  | some a_3 =>
    have hf := mN_s hf
    have hk_4 := kt_X1_proxyAt hX.ok ((q_8_1 hX hk0)) h_2
    refine r_astore_n hX dX7_page_8 rfl rfl ?_
    refine r_aload_n hX dX7_page_9 rfl ?_
    refine r_ifnonnull_r (tgt := 15) hX dX7_page_10 (by decide) ?_
    refine r_iload_n hX dX7_page_15 rfl ?_
    refine r_if_lt (tgt := 25) hX dX7_page_16 (by decide) (fun c_5 => ?_) (fun c_5 => ?_)
    · have hf := hf_t c_5 hf
      refine r_bipush (v := -2) hX dX7_page_25 (by decide) ?_
      cases hf
      exact hret _ _ dX7_page_27
    · have hf := hf_f c_5 hf
      refine r_iload_n hX dX7_page_19 rfl ?_
      refine r_bipush (v := 9) hX dX7_page_20 (by decide) ?_
      refine r_icmp_lt (tgt := 28) hX dX7_page_22 (by decide) (fun c_6 => ?_) (fun c_6 => ?_)
      · have hf := hf_t c_6 hf
        refine r_aload_n hX dX7_page_28 rfl ?_
        refine r_iload_n hX dX7_page_29 rfl ?_
        obtain ⟨r_7, h_8, hf⟩ := bd1_some hf
        refine r_callV (As := [.int x2]) (ci := 4) hX (k_X4_pageAt (l := xl X) (J := J) hX.ok hk_4 h_8) pk_X4_pageAt ml_X7_128 rfl rfl rfl rfl hk_4 rfl rfl rfl (Nat.le_of_ble_eq_true rfl) dX7_page_30 ?_
        cases hf
        exact hret _ _ dX7_page_33
      · have hf := hf_f c_6 hf
        refine r_bipush (v := -2) hX dX7_page_25 (by decide) ?_
        cases hf
        exact hret _ _ dX7_page_27
noncomputable def f_X7_counter (I : HI) (a0 : Nat) (x1 : Int32) (x2 : Int32) : Option (Int32) := bd1 (f_X1_proxyAt I ((a0 + 20)) x1) fun r_1 => mN r_1 (some ((-1 : Int32))) (fun a_3 => if x2 < 0 then some ((-1 : Int32)) else if x2 < (I (((a0 + 20) + 1)) 0) then if x2 < (16 : Int32) then gd (vp_in x2 16) (some ((I ((a_3 + 2)) x2.toNatClampNeg))) else some ((-1 : Int32)) else some ((-1 : Int32)))
set_option maxHeartbeats 4000000 in
set_option maxRecDepth 100000 in
theorem k_X7_counter {G : GX} {l : Launch} {I : HI} {J : HJ} {r : Int32} (hG : OKG G) {a0 : Nat} {x1 : Int32} {x2 : Int32} (hk0 : gK G a0 = 8) (hf : f_X7_counter I a0 x1 x2 = some r) : Ctr G l yX7_counter cX7_counter 4 (some .int) 1 21 [.ref a0, .int x1, .int x2] I J (some (.int r)) I J := by
  refine ctr_I hG (by decide) [some (.ref a0), some (.int x1), some (.int x2), none] rfl rfl fun X e1 e2 hX hret => ?_
  subst e1; subst e2
  unfold f_X7_counter at hf
  refine r_aload_n hX dX7_counter_0 rfl ?_
  refine g_7_1 hX fl_X7_19 hk0 dX7_counter_1 ?_
  refine r_iload_n hX dX7_counter_4 rfl ?_
  obtain ⟨r_1, h_2, hf⟩ := bd1_some hf
  refine r_callV (As := [.int x1]) (ci := 1) hX (k_X1_proxyAt (l := xl X) (J := J) hX.ok ((q_8_1 hX hk0)) h_2) pk_X1_proxyAt ml_X7_94 rfl rfl rfl rfl ((q_8_1 hX hk0)) rfl rfl rfl (Nat.le_of_ble_eq_true rfl) dX7_counter_5 ?_
  cases r_1 with
  | none =>
    have hf := mN_n hf
    refine r_astore_nN hX dX7_counter_8 rfl rfl ?_
    refine r_aload_nN hX dX7_counter_9 rfl ?_
    refine r_ifnull_n (tgt := 40) hX dX7_counter_10 (by decide) ?_
    refine r_iconst (v := -1) hX dX7_counter_40 rfl ?_
    cases hf
    exact hret _ _ dX7_counter_41
  | some a_3 =>
    have hf := mN_s hf
    have hk_4 := kt_X1_proxyAt hX.ok ((q_8_1 hX hk0)) h_2
    refine r_astore_n hX dX7_counter_8 rfl rfl ?_
    refine r_aload_n hX dX7_counter_9 rfl ?_
    refine r_ifnull_r hX dX7_counter_10 ?_
    refine r_iload_n hX dX7_counter_13 rfl ?_
    refine r_if_lt (tgt := 40) hX dX7_counter_14 (by decide) (fun c_5 => ?_) (fun c_5 => ?_)
    · have hf := hf_t c_5 hf
      refine r_iconst (v := -1) hX dX7_counter_40 rfl ?_
      cases hf
      exact hret _ _ dX7_counter_41
    · have hf := hf_f c_5 hf
      refine r_iload_n hX dX7_counter_17 rfl ?_
      refine r_aload_n hX dX7_counter_18 rfl ?_
      refine g_7_1 hX fl_X7_19 hk0 dX7_counter_19 ?_
      refine g_1_0 hX fl_X7_131 ((q_8_1 hX hk0)) dX7_counter_22 ?_
      refine g_0_0 hX fl_X7_135 ((q_2_0 hX ((q_8_1 hX hk0)))) dX7_counter_25 ?_
      refine r_icmp_ge (tgt := 40) hX dX7_counter_28 (by decide) (fun c_6 => ?_) (fun c_6 => ?_)
      · have hf := hf_t c_6 hf
        refine r_iload_n hX dX7_counter_31 rfl ?_
        refine r_aload_n hX dX7_counter_32 rfl ?_
        refine g_4_6 hX fl_X7_140 hk_4 dX7_counter_33 ?_
        refine r_alen (n := 16) (v := 16) hX rfl ((q_5_6 hX hk_4)) (by decide) dX7_counter_36 ?_
        refine r_icmp_lt (tgt := 42) hX dX7_counter_37 (by decide) (fun c_7 => ?_) (fun c_7 => ?_)
        · have hf := hf_t c_7 hf
          refine r_aload_n hX dX7_counter_42 rfl ?_
          refine g_4_6 hX fl_X7_140 hk_4 dX7_counter_43 ?_
          refine r_iload_n hX dX7_counter_46 rfl ?_
          obtain ⟨g_8, hf⟩ := gd_some hf
          refine r_iald (n := 16) hX rfl ((q_5_6 hX hk_4)) g_8 dX7_counter_47 ?_
          cases hf
          exact hret _ _ dX7_counter_48
        · have hf := hf_f c_7 hf
          refine r_iconst (v := -1) hX dX7_counter_40 rfl ?_
          cases hf
          exact hret _ _ dX7_counter_41
      · have hf := hf_f c_6 hf
        refine r_iconst (v := -1) hX dX7_counter_40 rfl ?_
        cases hf
        exact hret _ _ dX7_counter_41
noncomputable def f_X7_hash (I : HI) (a0 : Nat) (x1 : Int32) (x2 : Int32) (x3 : Int32) : Option (Int32) := bd1 (f_X0_isFamily I (((a0 + 20) + 1)) x1) fun r_1 => if r_1 = 0 then some ((-1 : Int32)) else bd1 (f_X7_isPage x2) fun r_4 => if r_4 = 0 then some ((-1 : Int32)) else if x3 < 0 then some ((-2 : Int32)) else if x3 < (I (((a0 + 20) + 1)) 1) then bd1 (f_X0_cell I (((a0 + 20) + 1)) x1 x2 x3) fun r_9 => some r_9 else some ((-2 : Int32))
set_option maxHeartbeats 4000000 in
set_option maxRecDepth 100000 in
theorem k_X7_hash {G : GX} {l : Launch} {I : HI} {J : HJ} {r : Int32} (hG : OKG G) {a0 : Nat} {x1 : Int32} {x2 : Int32} {x3 : Int32} (hk0 : gK G a0 = 8) (hf : f_X7_hash I a0 x1 x2 x3 = some r) : Ctr G l yX7_hash cX7_hash 4 (some .int) 1 23 [.ref a0, .int x1, .int x2, .int x3] I J (some (.int r)) I J := by
  refine ctr_I hG (by decide) [some (.ref a0), some (.int x1), some (.int x2), some (.int x3)] rfl rfl fun X e1 e2 hX hret => ?_
  subst e1; subst e2
  unfold f_X7_hash at hf
  refine r_aload_n hX dX7_hash_0 rfl ?_
  refine g_7_1 hX fl_X7_19 hk0 dX7_hash_1 ?_
  refine g_1_0 hX fl_X7_131 ((q_8_1 hX hk0)) dX7_hash_4 ?_
  refine r_iload_n hX dX7_hash_7 rfl ?_
  obtain ⟨r_1, h_2, hf⟩ := bd1_some hf
  refine r_callV (As := [.int x1]) (ci := 0) hX (k_X0_isFamily (l := xl X) (J := J) hX.ok ((q_2_0 hX ((q_8_1 hX hk0)))) h_2) pk_X0_isFamily ml_X7_144 rfl rfl rfl rfl ((q_2_0 hX ((q_8_1 hX hk0)))) rfl rfl rfl (Nat.le_of_ble_eq_true rfl) dX7_hash_8 ?_
  refine r_if_eq (tgt := 21) hX dX7_hash_11 (by decide) (fun c_3 => ?_) (fun c_3 => ?_)
  · have hf := hf_t c_3 hf
    refine r_iconst (v := -1) hX dX7_hash_21 rfl ?_
    cases hf
    exact hret _ _ dX7_hash_22
  · have hf := hf_f c_3 hf
    refine r_iload_n hX dX7_hash_14 rfl ?_
    obtain ⟨r_4, h_5, hf⟩ := bd1_some hf
    refine r_callS (As := [.int x2]) hX (k_X7_isPage (l := xl X) (I := I) (J := J) hX.ok  h_5) pk_X7_isPage ml_X7_147 rfl rfl rfl (Nat.le_of_ble_eq_true rfl) dX7_hash_15 ?_
    refine r_if_ne (tgt := 23) hX dX7_hash_18 (by decide) (fun c_6 => ?_) (fun c_6 => ?_)
    · have hf := hf_t c_6 hf
      refine r_iconst (v := -1) hX dX7_hash_21 rfl ?_
      cases hf
      exact hret _ _ dX7_hash_22
    · have hf := hf_f c_6 hf
      refine r_iload_n hX dX7_hash_23 rfl ?_
      refine r_if_lt (tgt := 41) hX dX7_hash_24 (by decide) (fun c_7 => ?_) (fun c_7 => ?_)
      · have hf := hf_t c_7 hf
        refine r_bipush (v := -2) hX dX7_hash_41 (by decide) ?_
        cases hf
        exact hret _ _ dX7_hash_43
      · have hf := hf_f c_7 hf
        refine r_iload_n hX dX7_hash_27 rfl ?_
        refine r_aload_n hX dX7_hash_28 rfl ?_
        refine g_7_1 hX fl_X7_19 hk0 dX7_hash_29 ?_
        refine g_1_0 hX fl_X7_131 ((q_8_1 hX hk0)) dX7_hash_32 ?_
        refine g_0_1 hX fl_X7_150 ((q_2_0 hX ((q_8_1 hX hk0)))) dX7_hash_35 ?_
        refine r_icmp_lt (tgt := 44) hX dX7_hash_38 (by decide) (fun c_8 => ?_) (fun c_8 => ?_)
        · have hf := hf_t c_8 hf
          refine r_aload_n hX dX7_hash_44 rfl ?_
          refine g_7_1 hX fl_X7_19 hk0 dX7_hash_45 ?_
          refine g_1_0 hX fl_X7_131 ((q_8_1 hX hk0)) dX7_hash_48 ?_
          refine r_iload_n hX dX7_hash_51 rfl ?_
          refine r_iload_n hX dX7_hash_52 rfl ?_
          refine r_iload_n hX dX7_hash_53 rfl ?_
          obtain ⟨r_9, h_10, hf⟩ := bd1_some hf
          refine r_callV (As := [.int x1, .int x2, .int x3]) (ci := 0) hX (k_X0_cell (l := xl X) (J := J) hX.ok ((q_2_0 hX ((q_8_1 hX hk0)))) h_10) pk_X0_cell ml_X7_153 rfl rfl rfl rfl ((q_2_0 hX ((q_8_1 hX hk0)))) rfl rfl rfl (Nat.le_of_ble_eq_true rfl) dX7_hash_54 ?_
          cases hf
          exact hret _ _ dX7_hash_57
        · have hf := hf_f c_8 hf
          refine r_bipush (v := -2) hX dX7_hash_41 (by decide) ?_
          cases hf
          exact hret _ _ dX7_hash_43
noncomputable def X7_says_J39 (I : HI) (x2 : Int32) (sa0 : Nat) (sa1 : Nat) (sx2 : Int32) : Option (Int32) := bd1 (f_X1_isSo I sa0 sa1 sx2 x2) fun r_9 => if r_9 = 0 then some ((0 : Int32)) else some ((1 : Int32))
set_option maxHeartbeats 4000000 in
set_option maxRecDepth 100000 in
theorem vX7_says_39 {X : CX} {r : Int32} {I : HI} {J : HJ} (hX : OKX X cX7_says RX7 3 71 5) (hret : RetI X cX7_says r I J) (x2 : Int32) (sa0 : Nat) (sa1 : Nat) (sx2 : Int32) (hs0 : gK (xG X) sa0 = 2) (hs1 : gK (xG X) sa1 = 5)   (hf : X7_says_J39 I x2 sa0 sa1 sx2 = some r) : V X I J 39 [none, none, some (.int x2), none, none] [.int sx2, .ref sa1, .ref sa0] := by
  unfold X7_says_J39 at hf
  refine r_iload_n hX dX7_says_39 rfl ?_
  obtain ⟨r_9, h_10, hf⟩ := bd1_some hf
  refine r_callV (As := [.ref sa1, .int sx2, .int x2]) (ci := 1) hX (k_X1_isSo (l := xl X) (J := J) hX.ok hs0 hs1 h_10) pk_X1_isSo ml_X7_157 rfl rfl rfl rfl hs0 rfl rfl rfl (Nat.le_of_ble_eq_true rfl) dX7_says_40 ?_
  refine r_if_eq (tgt := 50) hX dX7_says_43 (by decide) (fun c_11 => ?_) (fun c_11 => ?_)
  · have hf := hf_t c_11 hf
    refine r_iconst (v := 0) hX dX7_says_50 rfl ?_
    cases hf
    exact hret _ _ dX7_says_51
  · have hf := hf_f c_11 hf
    refine r_iconst (v := 1) hX dX7_says_46 rfl ?_
    refine r_goto (tgt := 51) hX dX7_says_47 (by decide) ?_
    cases hf
    exact hret _ _ dX7_says_51
noncomputable def f_X7_says (I : HI) (a0 : Nat) (x1 : Int32) (x2 : Int32) (x3 : Int32) : Option (Int32) := bd1 (f_X1_proxyAt I ((a0 + 20)) x1) fun r_1 => mN r_1 (some ((-1 : Int32))) (fun a_3 => bd1 (f_X7_isPage x2) fun r_5 => if r_5 = 0 then some ((-1 : Int32)) else if x3 = 0 then X7_says_J39 I x2 ((a0 + 20)) a_3 ((1 : Int32)) else X7_says_J39 I x2 ((a0 + 20)) a_3 ((2 : Int32)))
set_option maxHeartbeats 4000000 in
set_option maxRecDepth 100000 in
theorem k_X7_says {G : GX} {l : Launch} {I : HI} {J : HJ} {r : Int32} (hG : OKG G) {a0 : Nat} {x1 : Int32} {x2 : Int32} {x3 : Int32} (hk0 : gK G a0 = 8) (hf : f_X7_says I a0 x1 x2 x3 = some r) : Ctr G l yX7_says cX7_says 5 (some .int) 3 71 [.ref a0, .int x1, .int x2, .int x3] I J (some (.int r)) I J := by
  refine ctr_I hG (by decide) [some (.ref a0), some (.int x1), some (.int x2), some (.int x3), none] rfl rfl fun X e1 e2 hX hret => ?_
  subst e1; subst e2
  unfold f_X7_says at hf
  refine r_aload_n hX dX7_says_0 rfl ?_
  refine g_7_1 hX fl_X7_19 hk0 dX7_says_1 ?_
  refine r_iload_n hX dX7_says_4 rfl ?_
  obtain ⟨r_1, h_2, hf⟩ := bd1_some hf
  refine r_callV (As := [.int x1]) (ci := 1) hX (k_X1_proxyAt (l := xl X) (J := J) hX.ok ((q_8_1 hX hk0)) h_2) pk_X1_proxyAt ml_X7_94 rfl rfl rfl rfl ((q_8_1 hX hk0)) rfl rfl rfl (Nat.le_of_ble_eq_true rfl) dX7_says_5 ?_
  cases r_1 with
  | none =>
    have hf := mN_n hf
    refine r_astoreN hX dX7_says_8 rfl rfl ?_
    refine r_aloadN hX dX7_says_10 rfl ?_
    refine r_ifnull_n (tgt := 22) hX dX7_says_12 (by decide) ?_
    refine r_iconst (v := -1) hX dX7_says_22 rfl ?_
    cases hf
    exact hret _ _ dX7_says_23
  | some a_3 =>
    have hf := mN_s hf
    have hk_4 := kt_X1_proxyAt hX.ok ((q_8_1 hX hk0)) h_2
    refine r_astore hX dX7_says_8 rfl rfl ?_
    refine r_aload hX dX7_says_10 rfl ?_
    refine r_ifnull_r hX dX7_says_12 ?_
    refine r_iload_n hX dX7_says_15 rfl ?_
    obtain ⟨r_5, h_6, hf⟩ := bd1_some hf
    refine r_callS (As := [.int x2]) hX (k_X7_isPage (l := xl X) (I := I) (J := J) hX.ok  h_6) pk_X7_isPage ml_X7_147 rfl rfl rfl (Nat.le_of_ble_eq_true rfl) dX7_says_16 ?_
    refine r_if_ne (tgt := 24) hX dX7_says_19 (by decide) (fun c_7 => ?_) (fun c_7 => ?_)
    · have hf := hf_t c_7 hf
      refine r_iconst (v := -1) hX dX7_says_22 rfl ?_
      cases hf
      exact hret _ _ dX7_says_23
    · have hf := hf_f c_7 hf
      refine r_aload_n hX dX7_says_24 rfl ?_
      refine g_7_1 hX fl_X7_19 hk0 dX7_says_25 ?_
      refine r_aload hX dX7_says_28 rfl ?_
      refine r_iload_n hX dX7_says_30 rfl ?_
      refine r_if_eq (tgt := 38) hX dX7_says_31 (by decide) (fun c_8 => ?_) (fun c_8 => ?_)
      · have hf := hf_t c_8 hf
        refine r_iconst (v := 1) hX dX7_says_38 rfl ?_
        refine V.mask [false, false, true, false, false] ?_
        exact vX7_says_39 hX hret x2 ((a0 + 20)) a_3 ((1 : Int32)) (q_8_1 hX hk0) hk_4 hf
      · have hf := hf_f c_8 hf
        refine r_iconst (v := 2) hX dX7_says_34 rfl ?_
        refine r_goto (tgt := 39) hX dX7_says_35 (by decide) ?_
        refine V.mask [false, false, true, false, false] ?_
        exact vX7_says_39 hX hret x2 ((a0 + 20)) a_3 ((2 : Int32)) (q_8_1 hX hk0) hk_4 hf
noncomputable def f_X7_ask (I : HI) (a0 : Nat) (x1 : Int32) (x2 : Int32) : Option (Int32 × HI) := bd1 (f_X1_proxyAt I ((a0 + 20)) x1) fun r_1 => mN r_1 (some ((-1 : Int32), I)) (fun a_3 => bd1 (f_X7_isPage x2) fun r_5 => if r_5 = 0 then some ((-1 : Int32), I) else bd1 (f_X3_record I ((a0 + 54)) ((a0 + 20))) fun I_8 => bd2 (f_X1_request I_8 ((a0 + 20)) x1 x2) fun r_10 I_11 => some (r_10, I_11))
set_option maxHeartbeats 4000000 in
set_option maxRecDepth 100000 in
theorem k_X7_ask {G : GX} {l : Launch} {I : HI} {J : HJ} {I' : HI} {r : Int32} (hG : OKG G) {a0 : Nat} {x1 : Int32} {x2 : Int32} (hk0 : gK G a0 = 8) (hf : f_X7_ask I a0 x1 x2 = some (r, I')) : Ctr G l yX7_ask cX7_ask 3 (some .int) 4 95 [.ref a0, .int x1, .int x2] I J (some (.int r)) I' J := by
  refine ctr_I hG (by decide) [some (.ref a0), some (.int x1), some (.int x2)] rfl rfl fun X e1 e2 hX hret => ?_
  subst e1; subst e2
  unfold f_X7_ask at hf
  refine r_aload_n hX dX7_ask_0 rfl ?_
  refine g_7_1 hX fl_X7_19 hk0 dX7_ask_1 ?_
  refine r_iload_n hX dX7_ask_4 rfl ?_
  obtain ⟨r_1, h_2, hf⟩ := bd1_some hf
  refine r_callV (As := [.int x1]) (ci := 1) hX (k_X1_proxyAt (l := xl X) (J := J) hX.ok ((q_8_1 hX hk0)) h_2) pk_X1_proxyAt ml_X7_94 rfl rfl rfl rfl ((q_8_1 hX hk0)) rfl rfl rfl (Nat.le_of_ble_eq_true rfl) dX7_ask_5 ?_
  cases r_1 with
  | none =>
    have hf := mN_n hf
    refine r_ifnull_n (tgt := 18) hX dX7_ask_8 (by decide) ?_
    refine r_iconst (v := -1) hX dX7_ask_18 rfl ?_
    cases hf
    exact hret _ _ dX7_ask_19
  | some a_3 =>
    have hf := mN_s hf
    have hk_4 := kt_X1_proxyAt hX.ok ((q_8_1 hX hk0)) h_2
    refine r_ifnull_r hX dX7_ask_8 ?_
    refine r_iload_n hX dX7_ask_11 rfl ?_
    obtain ⟨r_5, h_6, hf⟩ := bd1_some hf
    refine r_callS (As := [.int x2]) hX (k_X7_isPage (l := xl X) (I := I) (J := J) hX.ok  h_6) pk_X7_isPage ml_X7_147 rfl rfl rfl (Nat.le_of_ble_eq_true rfl) dX7_ask_12 ?_
    refine r_if_ne (tgt := 20) hX dX7_ask_15 (by decide) (fun c_7 => ?_) (fun c_7 => ?_)
    · have hf := hf_t c_7 hf
      refine r_iconst (v := -1) hX dX7_ask_18 rfl ?_
      cases hf
      exact hret _ _ dX7_ask_19
    · have hf := hf_f c_7 hf
      refine r_aload_n hX dX7_ask_20 rfl ?_
      refine g_7_3 hX fl_X7_29 hk0 dX7_ask_21 ?_
      refine r_aload_n hX dX7_ask_24 rfl ?_
      refine g_7_1 hX fl_X7_19 hk0 dX7_ask_25 ?_
      obtain ⟨I_8, h_9, hf⟩ := bd1_some hf
      refine r_callV (As := [.ref ((a0 + 20))]) (ci := 3) hX (k_X3_record (l := xl X) (J := J) hX.ok ((q_8_3 hX hk0)) ((q_8_1 hX hk0)) h_9) pk_X3_record ml_X7_161 rfl rfl rfl rfl ((q_8_3 hX hk0)) rfl rfl rfl (Nat.le_of_ble_eq_true rfl) dX7_ask_28 ?_
      refine r_aload_n hX dX7_ask_31 rfl ?_
      refine g_7_1 hX fl_X7_19 hk0 dX7_ask_32 ?_
      refine r_iload_n hX dX7_ask_35 rfl ?_
      refine r_iload_n hX dX7_ask_36 rfl ?_
      obtain ⟨r_10, I_11, h_12, hf⟩ := bd2_some hf
      refine r_callV (As := [.int x1, .int x2]) (ci := 1) hX (k_X1_request (l := xl X) (J := J) hX.ok ((q_8_1 hX hk0)) h_12) pk_X1_request ml_X7_164 rfl rfl rfl rfl ((q_8_1 hX hk0)) rfl rfl rfl (Nat.le_of_ble_eq_true rfl) dX7_ask_37 ?_
      cases hf
      exact hret _ _ dX7_ask_40
noncomputable def f_X7_drop (I : HI) (a0 : Nat) (x1 : Int32) (x2 : Int32) : Option (Int32 × HI) := bd1 (f_X1_proxyAt I ((a0 + 20)) x1) fun r_1 => mN r_1 (some ((-1 : Int32), I)) (fun a_3 => bd1 (f_X7_isPage x2) fun r_5 => if r_5 = 0 then some ((-1 : Int32), I) else bd1 (f_X4_has I a_3 x2) fun r_8 => if r_8 = 0 then some ((-3 : Int32), I) else bd1 (f_X3_record I ((a0 + 54)) ((a0 + 20))) fun I_11 => bd2 (f_X1_discard I_11 ((a0 + 20)) a_3 x2) fun r_13 I_14 => some ((I_14 a_3 2), I_14))
set_option maxHeartbeats 4000000 in
set_option maxRecDepth 100000 in
theorem k_X7_drop {G : GX} {l : Launch} {I : HI} {J : HJ} {I' : HI} {r : Int32} (hG : OKG G) {a0 : Nat} {x1 : Int32} {x2 : Int32} (hk0 : gK G a0 = 8) (hf : f_X7_drop I a0 x1 x2 = some (r, I')) : Ctr G l yX7_drop cX7_drop 4 (some .int) 4 91 [.ref a0, .int x1, .int x2] I J (some (.int r)) I' J := by
  refine ctr_I hG (by decide) [some (.ref a0), some (.int x1), some (.int x2), none] rfl rfl fun X e1 e2 hX hret => ?_
  subst e1; subst e2
  unfold f_X7_drop at hf
  refine r_aload_n hX dX7_drop_0 rfl ?_
  refine g_7_1 hX fl_X7_19 hk0 dX7_drop_1 ?_
  refine r_iload_n hX dX7_drop_4 rfl ?_
  obtain ⟨r_1, h_2, hf⟩ := bd1_some hf
  refine r_callV (As := [.int x1]) (ci := 1) hX (k_X1_proxyAt (l := xl X) (J := J) hX.ok ((q_8_1 hX hk0)) h_2) pk_X1_proxyAt ml_X7_94 rfl rfl rfl rfl ((q_8_1 hX hk0)) rfl rfl rfl (Nat.le_of_ble_eq_true rfl) dX7_drop_5 ?_
  cases r_1 with
  | none =>
    have hf := mN_n hf
    refine r_astore_nN hX dX7_drop_8 rfl rfl ?_
    refine r_aload_nN hX dX7_drop_9 rfl ?_
    refine r_ifnull_n (tgt := 20) hX dX7_drop_10 (by decide) ?_
    refine r_iconst (v := -1) hX dX7_drop_20 rfl ?_
    cases hf
    exact hret _ _ dX7_drop_21
  | some a_3 =>
    have hf := mN_s hf
    have hk_4 := kt_X1_proxyAt hX.ok ((q_8_1 hX hk0)) h_2
    refine r_astore_n hX dX7_drop_8 rfl rfl ?_
    refine r_aload_n hX dX7_drop_9 rfl ?_
    refine r_ifnull_r hX dX7_drop_10 ?_
    refine r_iload_n hX dX7_drop_13 rfl ?_
    obtain ⟨r_5, h_6, hf⟩ := bd1_some hf
    refine r_callS (As := [.int x2]) hX (k_X7_isPage (l := xl X) (I := I) (J := J) hX.ok  h_6) pk_X7_isPage ml_X7_147 rfl rfl rfl (Nat.le_of_ble_eq_true rfl) dX7_drop_14 ?_
    refine r_if_ne (tgt := 22) hX dX7_drop_17 (by decide) (fun c_7 => ?_) (fun c_7 => ?_)
    · have hf := hf_t c_7 hf
      refine r_iconst (v := -1) hX dX7_drop_20 rfl ?_
      cases hf
      exact hret _ _ dX7_drop_21
    · have hf := hf_f c_7 hf
      refine r_aload_n hX dX7_drop_22 rfl ?_
      refine r_iload_n hX dX7_drop_23 rfl ?_
      obtain ⟨r_8, h_9, hf⟩ := bd1_some hf
      refine r_callV (As := [.int x2]) (ci := 4) hX (k_X4_has (l := xl X) (J := J) hX.ok hk_4 h_9) pk_X4_has ml_X7_168 rfl rfl rfl rfl hk_4 rfl rfl rfl (Nat.le_of_ble_eq_true rfl) dX7_drop_24 ?_
      refine r_if_ne (tgt := 33) hX dX7_drop_27 (by decide) (fun c_10 => ?_) (fun c_10 => ?_)
      · have hf := hf_t c_10 hf
        refine r_bipush (v := -3) hX dX7_drop_30 (by decide) ?_
        cases hf
        exact hret _ _ dX7_drop_32
      · have hf := hf_f c_10 hf
        refine r_aload_n hX dX7_drop_33 rfl ?_
        refine g_7_3 hX fl_X7_29 hk0 dX7_drop_34 ?_
        refine r_aload_n hX dX7_drop_37 rfl ?_
        refine g_7_1 hX fl_X7_19 hk0 dX7_drop_38 ?_
        obtain ⟨I_11, h_12, hf⟩ := bd1_some hf
        refine r_callV (As := [.ref ((a0 + 20))]) (ci := 3) hX (k_X3_record (l := xl X) (J := J) hX.ok ((q_8_3 hX hk0)) ((q_8_1 hX hk0)) h_12) pk_X3_record ml_X7_161 rfl rfl rfl rfl ((q_8_3 hX hk0)) rfl rfl rfl (Nat.le_of_ble_eq_true rfl) dX7_drop_41 ?_
        refine r_aload_n hX dX7_drop_44 rfl ?_
        refine g_7_1 hX fl_X7_19 hk0 dX7_drop_45 ?_
        refine r_aload_n hX dX7_drop_48 rfl ?_
        refine r_iload_n hX dX7_drop_49 rfl ?_
        obtain ⟨r_13, I_14, h_15, hf⟩ := bd2_some hf
        refine r_callV (As := [.ref a_3, .int x2]) (ci := 1) hX (k_X1_discard (l := xl X) (J := J) hX.ok ((q_8_1 hX hk0)) hk_4 h_15) pk_X1_discard ml_X7_171 rfl rfl rfl rfl ((q_8_1 hX hk0)) rfl rfl rfl (Nat.le_of_ble_eq_true rfl) dX7_drop_50 ?_
        refine r_pop hX dX7_drop_53 rfl ?_
        refine r_aload_n hX dX7_drop_54 rfl ?_
        refine g_4_2 hX fl_X7_106 hk_4 dX7_drop_55 ?_
        cases hf
        exact hret _ _ dX7_drop_58
noncomputable def f_X7_send (I : HI) (a0 : Nat) (x1 : Int32) : Option (Int32 × HI) := bd1 (f_X1_proxyAt I ((a0 + 20)) x1) fun r_1 => mN r_1 (some ((-1 : Int32), I)) (fun a_3 => bd1 (f_X3_record I ((a0 + 54)) ((a0 + 20))) fun I_5 => bd2 (f_X1_spread I_5 ((a0 + 20)) a_3) fun r_7 I_8 => some ((I_8 a_3 4), I_8))
set_option maxHeartbeats 4000000 in
set_option maxRecDepth 100000 in
theorem k_X7_send {G : GX} {l : Launch} {I : HI} {J : HJ} {I' : HI} {r : Int32} (hG : OKG G) {a0 : Nat} {x1 : Int32} (hk0 : gK G a0 = 8) (hf : f_X7_send I a0 x1 = some (r, I')) : Ctr G l yX7_send cX7_send 3 (some .int) 4 87 [.ref a0, .int x1] I J (some (.int r)) I' J := by
  refine ctr_I hG (by decide) [some (.ref a0), some (.int x1), none] rfl rfl fun X e1 e2 hX hret => ?_
  subst e1; subst e2
  unfold f_X7_send at hf
  refine r_aload_n hX dX7_send_0 rfl ?_
  refine g_7_1 hX fl_X7_19 hk0 dX7_send_1 ?_
  refine r_iload_n hX dX7_send_4 rfl ?_
  obtain ⟨r_1, h_2, hf⟩ := bd1_some hf
  refine r_callV (As := [.int x1]) (ci := 1) hX (k_X1_proxyAt (l := xl X) (J := J) hX.ok ((q_8_1 hX hk0)) h_2) pk_X1_proxyAt ml_X7_94 rfl rfl rfl rfl ((q_8_1 hX hk0)) rfl rfl rfl (Nat.le_of_ble_eq_true rfl) dX7_send_5 ?_
  cases r_1 with
  | none =>
    have hf := mN_n hf
    refine r_astore_nN hX dX7_send_8 rfl rfl ?_
    refine r_aload_nN hX dX7_send_9 rfl ?_
    refine r_ifnonnull_n hX dX7_send_10 ?_
    refine r_iconst (v := -1) hX dX7_send_13 rfl ?_
    cases hf
    exact hret _ _ dX7_send_14
  | some a_3 =>
    have hf := mN_s hf
    have hk_4 := kt_X1_proxyAt hX.ok ((q_8_1 hX hk0)) h_2
    refine r_astore_n hX dX7_send_8 rfl rfl ?_
    refine r_aload_n hX dX7_send_9 rfl ?_
    refine r_ifnonnull_r (tgt := 15) hX dX7_send_10 (by decide) ?_
    refine r_aload_n hX dX7_send_15 rfl ?_
    refine g_7_3 hX fl_X7_29 hk0 dX7_send_16 ?_
    refine r_aload_n hX dX7_send_19 rfl ?_
    refine g_7_1 hX fl_X7_19 hk0 dX7_send_20 ?_
    obtain ⟨I_5, h_6, hf⟩ := bd1_some hf
    refine r_callV (As := [.ref ((a0 + 20))]) (ci := 3) hX (k_X3_record (l := xl X) (J := J) hX.ok ((q_8_3 hX hk0)) ((q_8_1 hX hk0)) h_6) pk_X3_record ml_X7_161 rfl rfl rfl rfl ((q_8_3 hX hk0)) rfl rfl rfl (Nat.le_of_ble_eq_true rfl) dX7_send_23 ?_
    refine r_aload_n hX dX7_send_26 rfl ?_
    refine g_7_1 hX fl_X7_19 hk0 dX7_send_27 ?_
    refine r_aload_n hX dX7_send_30 rfl ?_
    obtain ⟨r_7, I_8, h_9, hf⟩ := bd2_some hf
    refine r_callV (As := [.ref a_3]) (ci := 1) hX (k_X1_spread (l := xl X) (J := J) hX.ok ((q_8_1 hX hk0)) hk_4 h_9) pk_X1_spread ml_X7_175 rfl rfl rfl rfl ((q_8_1 hX hk0)) rfl rfl rfl (Nat.le_of_ble_eq_true rfl) dX7_send_31 ?_
    refine r_pop hX dX7_send_34 rfl ?_
    refine r_aload_n hX dX7_send_35 rfl ?_
    refine g_4_4 hX fl_X7_112 hk_4 dX7_send_36 ?_
    cases hf
    exact hret _ _ dX7_send_39
noncomputable def f_X7_threshold (I : HI) (a0 : Nat) (x1 : Int32) (x2 : Int32) : Option (Int32 × HI) := bd1 (f_X1_proxyAt I ((a0 + 20)) x1) fun r_1 => mN r_1 (some ((-1 : Int32), I)) (fun a_3 => if x2 < (1 : Int32) then some ((-2 : Int32), I) else if (9 : Int32) < x2 then some ((-2 : Int32), I) else lt1 ((I a_3 1)) fun x_7 => bd1 (f_X3_record I ((a0 + 54)) ((a0 + 20))) fun I_8 => lt1 (sI I_8 a_3 1 x2) fun I_10 => bd1 (f_X1_spreadDue I_10 ((a0 + 20))) fun I_11 => some (x_7, I_11))
set_option maxHeartbeats 4000000 in
set_option maxRecDepth 100000 in
theorem k_X7_threshold {G : GX} {l : Launch} {I : HI} {J : HJ} {I' : HI} {r : Int32} (hG : OKG G) {a0 : Nat} {x1 : Int32} {x2 : Int32} (hk0 : gK G a0 = 8) (hf : f_X7_threshold I a0 x1 x2 = some (r, I')) : Ctr G l yX7_threshold cX7_threshold 5 (some .int) 4 87 [.ref a0, .int x1, .int x2] I J (some (.int r)) I' J := by
  refine ctr_I hG (by decide) [some (.ref a0), some (.int x1), some (.int x2), none, none] rfl rfl fun X e1 e2 hX hret => ?_
  subst e1; subst e2
  unfold f_X7_threshold at hf
  refine r_aload_n hX dX7_threshold_0 rfl ?_
  refine g_7_1 hX fl_X7_19 hk0 dX7_threshold_1 ?_
  refine r_iload_n hX dX7_threshold_4 rfl ?_
  obtain ⟨r_1, h_2, hf⟩ := bd1_some hf
  refine r_callV (As := [.int x1]) (ci := 1) hX (k_X1_proxyAt (l := xl X) (J := J) hX.ok ((q_8_1 hX hk0)) h_2) pk_X1_proxyAt ml_X7_94 rfl rfl rfl rfl ((q_8_1 hX hk0)) rfl rfl rfl (Nat.le_of_ble_eq_true rfl) dX7_threshold_5 ?_
  cases r_1 with
  | none =>
    have hf := mN_n hf
    refine r_astore_nN hX dX7_threshold_8 rfl rfl ?_
    refine r_aload_nN hX dX7_threshold_9 rfl ?_
    refine r_ifnonnull_n hX dX7_threshold_10 ?_
    refine r_iconst (v := -1) hX dX7_threshold_13 rfl ?_
    cases hf
    exact hret _ _ dX7_threshold_14
  | some a_3 =>
    have hf := mN_s hf
    have hk_4 := kt_X1_proxyAt hX.ok ((q_8_1 hX hk0)) h_2
    refine r_astore_n hX dX7_threshold_8 rfl rfl ?_
    refine r_aload_n hX dX7_threshold_9 rfl ?_
    refine r_ifnonnull_r (tgt := 15) hX dX7_threshold_10 (by decide) ?_
    refine r_iload_n hX dX7_threshold_15 rfl ?_
    refine r_iconst (v := 1) hX dX7_threshold_16 rfl ?_
    refine r_icmp_lt (tgt := 26) hX dX7_threshold_17 (by decide) (fun c_5 => ?_) (fun c_5 => ?_)
    · have hf := hf_t c_5 hf
      refine r_bipush (v := -2) hX dX7_threshold_26 (by decide) ?_
      cases hf
      exact hret _ _ dX7_threshold_28
    · have hf := hf_f c_5 hf
      refine r_iload_n hX dX7_threshold_20 rfl ?_
      refine r_bipush (v := 9) hX dX7_threshold_21 (by decide) ?_
      refine r_icmp_le (tgt := 29) hX dX7_threshold_23 (by decide) (fun c_6 => ?_) (fun c_6 => ?_)
      · have hf := hf_t c_6 hf
        refine r_bipush (v := -2) hX dX7_threshold_26 (by decide) ?_
        cases hf
        exact hret _ _ dX7_threshold_28
      · have hf := hf_f c_6 hf
        refine r_aload_n hX dX7_threshold_29 rfl ?_
        refine g_4_1 hX fl_X7_103 hk_4 dX7_threshold_30 ?_
        obtain ⟨x_7, ex_7, hf⟩ := lt1_some hf
        refine V.topi ex_7 ?_
        refine r_istore hX dX7_threshold_33 rfl rfl ?_
        refine r_aload_n hX dX7_threshold_35 rfl ?_
        refine g_7_3 hX fl_X7_29 hk0 dX7_threshold_36 ?_
        refine r_aload_n hX dX7_threshold_39 rfl ?_
        refine g_7_1 hX fl_X7_19 hk0 dX7_threshold_40 ?_
        obtain ⟨I_8, h_9, hf⟩ := bd1_some hf
        refine r_callV (As := [.ref ((a0 + 20))]) (ci := 3) hX (k_X3_record (l := xl X) (J := J) hX.ok ((q_8_3 hX hk0)) ((q_8_1 hX hk0)) h_9) pk_X3_record ml_X7_161 rfl rfl rfl rfl ((q_8_3 hX hk0)) rfl rfl rfl (Nat.le_of_ble_eq_true rfl) dX7_threshold_43 ?_
        refine r_aload_n hX dX7_threshold_46 rfl ?_
        refine r_iload_n hX dX7_threshold_47 rfl ?_
        obtain ⟨I_10, eI_10, hf⟩ := lt1_some hf
        refine p_4_1 eI_10 hX fl_X7_103 hk_4 dX7_threshold_48 ?_
        refine r_aload_n hX dX7_threshold_51 rfl ?_
        refine g_7_1 hX fl_X7_19 hk0 dX7_threshold_52 ?_
        obtain ⟨I_11, h_12, hf⟩ := bd1_some hf
        refine r_callV (As := []) (ci := 1) hX (k_X1_spreadDue (l := xl X) (J := J) hX.ok ((q_8_1 hX hk0)) h_12) pk_X1_spreadDue ml_X7_179 rfl rfl rfl rfl ((q_8_1 hX hk0)) rfl rfl rfl (Nat.le_of_ble_eq_true rfl) dX7_threshold_55 ?_
        refine r_iload hX dX7_threshold_58 rfl ?_
        cases hf
        exact hret _ _ dX7_threshold_60
noncomputable def f_X7_use (I : HI) (a0 : Nat) (x1 : Int32) : Option (Int32 × HI) := bd1 (f_X0_isFamily I (((a0 + 20) + 1)) x1) fun r_1 => if r_1 = 0 then some ((-1 : Int32), I) else lt1 ((I (((a0 + 20) + 1)) 3)) fun x_4 => bd1 (f_X3_record I ((a0 + 54)) ((a0 + 20))) fun I_5 => bd2 (f_X1_adopt I_5 ((a0 + 20)) x1) fun r_7 I_8 => some (x_4, I_8)
set_option maxHeartbeats 4000000 in
set_option maxRecDepth 100000 in
theorem k_X7_use {G : GX} {l : Launch} {I : HI} {J : HJ} {I' : HI} {r : Int32} (hG : OKG G) {a0 : Nat} {x1 : Int32} (hk0 : gK G a0 = 8) (hf : f_X7_use I a0 x1 = some (r, I')) : Ctr G l yX7_use cX7_use 3 (some .int) 4 92 [.ref a0, .int x1] I J (some (.int r)) I' J := by
  refine ctr_I hG (by decide) [some (.ref a0), some (.int x1), none] rfl rfl fun X e1 e2 hX hret => ?_
  subst e1; subst e2
  unfold f_X7_use at hf
  refine r_aload_n hX dX7_use_0 rfl ?_
  refine g_7_1 hX fl_X7_19 hk0 dX7_use_1 ?_
  refine g_1_0 hX fl_X7_131 ((q_8_1 hX hk0)) dX7_use_4 ?_
  refine r_iload_n hX dX7_use_7 rfl ?_
  obtain ⟨r_1, h_2, hf⟩ := bd1_some hf
  refine r_callV (As := [.int x1]) (ci := 0) hX (k_X0_isFamily (l := xl X) (J := J) hX.ok ((q_2_0 hX ((q_8_1 hX hk0)))) h_2) pk_X0_isFamily ml_X7_144 rfl rfl rfl rfl ((q_2_0 hX ((q_8_1 hX hk0)))) rfl rfl rfl (Nat.le_of_ble_eq_true rfl) dX7_use_8 ?_
  refine r_if_ne (tgt := 16) hX dX7_use_11 (by decide) (fun c_3 => ?_) (fun c_3 => ?_)
  · have hf := hf_t c_3 hf
    refine r_iconst (v := -1) hX dX7_use_14 rfl ?_
    cases hf
    exact hret _ _ dX7_use_15
  · have hf := hf_f c_3 hf
    refine r_aload_n hX dX7_use_16 rfl ?_
    refine g_7_1 hX fl_X7_19 hk0 dX7_use_17 ?_
    refine g_1_0 hX fl_X7_131 ((q_8_1 hX hk0)) dX7_use_20 ?_
    refine g_0_3 hX fl_X7_182 ((q_2_0 hX ((q_8_1 hX hk0)))) dX7_use_23 ?_
    obtain ⟨x_4, ex_4, hf⟩ := lt1_some hf
    refine V.topi ex_4 ?_
    refine r_istore_n hX dX7_use_26 rfl rfl ?_
    refine r_aload_n hX dX7_use_27 rfl ?_
    refine g_7_3 hX fl_X7_29 hk0 dX7_use_28 ?_
    refine r_aload_n hX dX7_use_31 rfl ?_
    refine g_7_1 hX fl_X7_19 hk0 dX7_use_32 ?_
    obtain ⟨I_5, h_6, hf⟩ := bd1_some hf
    refine r_callV (As := [.ref ((a0 + 20))]) (ci := 3) hX (k_X3_record (l := xl X) (J := J) hX.ok ((q_8_3 hX hk0)) ((q_8_1 hX hk0)) h_6) pk_X3_record ml_X7_161 rfl rfl rfl rfl ((q_8_3 hX hk0)) rfl rfl rfl (Nat.le_of_ble_eq_true rfl) dX7_use_35 ?_
    refine r_aload_n hX dX7_use_38 rfl ?_
    refine g_7_1 hX fl_X7_19 hk0 dX7_use_39 ?_
    refine r_iload_n hX dX7_use_42 rfl ?_
    obtain ⟨r_7, I_8, h_9, hf⟩ := bd2_some hf
    refine r_callV (As := [.int x1]) (ci := 1) hX (k_X1_adopt (l := xl X) (J := J) hX.ok ((q_8_1 hX hk0)) h_9) pk_X1_adopt ml_X7_185 rfl rfl rfl rfl ((q_8_1 hX hk0)) rfl rfl rfl (Nat.le_of_ble_eq_true rfl) dX7_use_43 ?_
    refine r_pop hX dX7_use_46 rfl ?_
    refine r_iload_n hX dX7_use_47 rfl ?_
    cases hf
    exact hret _ _ dX7_use_48
noncomputable def f_X7_undo (I : HI) (a0 : Nat) : Option (Int32 × HI) := bd2 (f_X3_restore I ((a0 + 54)) ((a0 + 20))) fun r_1 I_2 => if r_1 = 0 then some ((-3 : Int32), I_2) else some ((I_2 ((a0 + 54)) 2), I_2)
set_option maxHeartbeats 4000000 in
set_option maxRecDepth 100000 in
theorem k_X7_undo {G : GX} {l : Launch} {I : HI} {J : HJ} {I' : HI} {r : Int32} (hG : OKG G) {a0 : Nat} (hk0 : gK G a0 = 8) (hf : f_X7_undo I a0 = some (r, I')) : Ctr G l yX7_undo cX7_undo 1 (some .int) 4 88 [.ref a0] I J (some (.int r)) I' J := by
  refine ctr_I hG (by decide) [some (.ref a0)] rfl rfl fun X e1 e2 hX hret => ?_
  subst e1; subst e2
  unfold f_X7_undo at hf
  refine r_aload_n hX dX7_undo_0 rfl ?_
  refine g_7_3 hX fl_X7_29 hk0 dX7_undo_1 ?_
  refine r_aload_n hX dX7_undo_4 rfl ?_
  refine g_7_1 hX fl_X7_19 hk0 dX7_undo_5 ?_
  obtain ⟨r_1, I_2, h_3, hf⟩ := bd2_some hf
  refine r_callV (As := [.ref ((a0 + 20))]) (ci := 3) hX (k_X3_restore (l := xl X) (J := J) hX.ok ((q_8_3 hX hk0)) ((q_8_1 hX hk0)) h_3) pk_X3_restore ml_X7_188 rfl rfl rfl rfl ((q_8_3 hX hk0)) rfl rfl rfl (Nat.le_of_ble_eq_true rfl) dX7_undo_8 ?_
  refine r_if_ne (tgt := 17) hX dX7_undo_11 (by decide) (fun c_4 => ?_) (fun c_4 => ?_)
  · have hf := hf_t c_4 hf
    refine r_bipush (v := -3) hX dX7_undo_14 (by decide) ?_
    cases hf
    exact hret _ _ dX7_undo_16
  · have hf := hf_f c_4 hf
    refine r_aload_n hX dX7_undo_17 rfl ?_
    refine g_7_3 hX fl_X7_29 hk0 dX7_undo_18 ?_
    refine g_3_2 hX fl_X7_192 ((q_8_3 hX hk0)) dX7_undo_21 ?_
    cases hf
    exact hret _ _ dX7_undo_24
noncomputable def X7_floatBits_J34 (z1 : UInt32) (x2 : Int32) : Option (Int32) := gd (vf_n32 (FP.fsub z1 FP.fconst1)) (gd (vf_n32 (FP.fmul ((FP.fsub z1 FP.fconst1)) ((1258291200 : UInt32)))) (some (((x2 <<< ((23 : Int32) &&& 31)) + (FP.f2i ((FP.fmul ((FP.fsub z1 FP.fconst1)) ((1258291200 : UInt32)))))))))
set_option maxHeartbeats 4000000 in
set_option maxRecDepth 100000 in
theorem vX7_floatBits_34 {X : CX} {r : Int32} {I : HI} {J : HJ} (hX : OKX X cX7_floatBits RX7 0 0 3) (hret : RetI X cX7_floatBits r I J) (z1 : UInt32) (x2 : Int32)    (hf : X7_floatBits_J34 z1 x2 = some r) : V X I J 34 [none, some (.float z1), some (.int x2)] [] := by
  unfold X7_floatBits_J34 at hf
  refine r_iload_n hX dX7_floatBits_34 rfl ?_
  refine r_bipush (v := 23) hX dX7_floatBits_35 (by decide) ?_
  refine r_ishl hX dX7_floatBits_37 ?_
  refine r_fload_n hX dX7_floatBits_38 rfl ?_
  refine r_fconst1 hX dX7_floatBits_39 ?_
  obtain ⟨g_7, hf⟩ := gd_some hf
  refine r_fsub hX dX7_floatBits_40 g_7 ?_
  refine r_ldcwf hX dX7_floatBits_41 cn_X7_274 ?_
  obtain ⟨g_8, hf⟩ := gd_some hf
  refine r_fmul hX dX7_floatBits_44 g_8 ?_
  refine r_f2i hX dX7_floatBits_45 ?_
  refine r_iadd hX dX7_floatBits_46 ?_
  cases hf
  exact hret _ _ dX7_floatBits_47
noncomputable def X7_floatBits_B13  (k13 : UInt32 → Int32 → Option (Int32)) (z1 : UInt32) (x2 : Int32) : Option (Int32) := if (Op.cmpValue (FP.fcmp z1 FP.fconst1) .g) < 0 then if (1 : Int32) < x2 then gd (vf_n32 (FP.fmul z1 FP.fconst2)) (lt1 ((FP.fmul z1 FP.fconst2)) fun z_5 => lt1 (x2 + (-1 : Int32)) fun x_6 => k13 z_5 x_6) else X7_floatBits_J34 z1 x2 else X7_floatBits_J34 z1 x2
set_option maxHeartbeats 4000000 in
set_option maxRecDepth 100000 in
theorem vX7_floatBits_13 {X : CX} {r : Int32} {I : HI} {J : HJ} (hX : OKX X cX7_floatBits RX7 0 0 3) (hret : RetI X cX7_floatBits r I J)     : ∀ (n : Nat) (z1 : UInt32) (x2 : Int32), wl2 (X7_floatBits_B13) n z1 x2 = some r → V X I J 13 [none, some (.float z1), some (.int x2)] [] := by
  refine wl2_V (P := fun (z1 : UInt32) (x2 : Int32) => V X I J 13 [none, some (.float z1), some (.int x2)] []) ?_
  intro k13 hc13 z1 x2 hf
  unfold X7_floatBits_B13 at hf
  refine r_fload_n hX dX7_floatBits_13 rfl ?_
  refine r_fconst1 hX dX7_floatBits_14 ?_
  refine r_fcmp hX dX7_floatBits_15 ?_
  refine r_if_ge (tgt := 34) hX dX7_floatBits_16 (by decide) (fun c_2 => ?_) (fun c_2 => ?_)
  · have hf := hf_t c_2 hf
    refine r_iload_n hX dX7_floatBits_19 rfl ?_
    refine r_iconst (v := 1) hX dX7_floatBits_20 rfl ?_
    refine r_icmp_le (tgt := 34) hX dX7_floatBits_21 (by decide) (fun c_3 => ?_) (fun c_3 => ?_)
    · have hf := hf_t c_3 hf
      refine r_fload_n hX dX7_floatBits_24 rfl ?_
      refine r_fconst2 hX dX7_floatBits_25 ?_
      obtain ⟨g_4, hf⟩ := gd_some hf
      refine r_fmul hX dX7_floatBits_26 g_4 ?_
      obtain ⟨z_5, ez_5, hf⟩ := lt1_some hf
      refine V.topf ez_5 ?_
      refine r_fstore_n hX dX7_floatBits_27 rfl rfl ?_
      obtain ⟨x_6, ex_6, hf⟩ := lt1_some hf
      refine r_iincE (n' := -1) ex_6 hX dX7_floatBits_28 rfl rfl rfl rfl ?_
      refine r_goto (tgt := 13) hX dX7_floatBits_31 (by decide) ?_
      refine V.mask [false, true, true] ?_
      exact hc13 z_5 x_6 hf
    · have hf := hf_f c_3 hf
      refine V.mask [false, true, true] ?_
      exact vX7_floatBits_34 hX hret z1 x2 hf
  · have hf := hf_f c_2 hf
    refine V.mask [false, true, true] ?_
    exact vX7_floatBits_34 hX hret z1 x2 hf
noncomputable def f_X7_floatBits (z0 : UInt32) : Option (Int32) := if 0 < (Op.cmpValue (FP.fcmp z0 FP.fconst0) .g) then wl2 (X7_floatBits_B13 ) 5000 z0 ((127 : Int32)) else some ((0 : Int32))
set_option maxHeartbeats 4000000 in
set_option maxRecDepth 100000 in
theorem k_X7_floatBits {G : GX} {l : Launch} {I : HI} {J : HJ} {r : Int32} (hG : OKG G) {z0 : UInt32}  (hf : f_X7_floatBits z0 = some r) : Ctr G l yX7_floatBits cX7_floatBits 3 (some .int) 0 0 [.float z0] I J (some (.int r)) I J := by
  refine ctr_I hG (by decide) [some (.float z0), none, none] rfl rfl fun X e1 e2 hX hret => ?_
  subst e1; subst e2
  unfold f_X7_floatBits at hf
  refine r_fload_n hX dX7_floatBits_0 rfl ?_
  refine r_fconst0 hX dX7_floatBits_1 ?_
  refine r_fcmp hX dX7_floatBits_2 ?_
  refine r_if_gt (tgt := 8) hX dX7_floatBits_3 (by decide) (fun c_1 => ?_) (fun c_1 => ?_)
  · have hf := hf_t c_1 hf
    refine r_fload_n hX dX7_floatBits_8 rfl ?_
    refine r_fstore_n hX dX7_floatBits_9 rfl rfl ?_
    refine r_bipush (v := 127) hX dX7_floatBits_10 (by decide) ?_
    refine r_istore_n hX dX7_floatBits_12 rfl rfl ?_
    refine V.mask [false, true, true] ?_
    exact vX7_floatBits_13 hX hret  5000 z0 ((127 : Int32)) hf
  · have hf := hf_f c_1 hf
    refine r_iconst (v := 0) hX dX7_floatBits_6 rfl ?_
    cases hf
    exact hret _ _ dX7_floatBits_7
noncomputable def X7_weight_B55 (I : HI) (a0 : Nat) (z3 : UInt32) (k55 : UInt32 → Int32 → Option (Int32)) (z4 : UInt32) (x5 : Int32) : Option (Int32) := if x5 < (I (((a0 + 20) + 1)) 1) then gd (vf_n32 (FP.fmul z4 z3)) (lt1 ((FP.fmul z4 z3)) fun z_14 => lt1 (x5 + (1 : Int32)) fun x_15 => k55 z_14 x_15) else bd1 (f_X7_floatBits z4) fun r_16 => some r_16
set_option maxHeartbeats 4000000 in
set_option maxRecDepth 100000 in
theorem vX7_weight_55 {X : CX} {r : Int32} {I : HI} {J : HJ} (hX : OKX X cX7_weight RX7 1 22 6) (hret : RetI X cX7_weight r I J) (a0 : Nat) (z3 : UInt32) (hk0 : gK (xG X) a0 = 8)   : ∀ (n : Nat) (z4 : UInt32) (x5 : Int32), wl2 (X7_weight_B55 I a0 z3) n z4 x5 = some r → V X I J 55 [some (.ref a0), none, none, some (.float z3), some (.float z4), some (.int x5)] [] := by
  refine wl2_V (P := fun (z4 : UInt32) (x5 : Int32) => V X I J 55 [some (.ref a0), none, none, some (.float z3), some (.float z4), some (.int x5)] []) ?_
  intro k55 hc55 z4 x5 hf
  unfold X7_weight_B55 at hf
  refine r_iload hX dX7_weight_55 rfl ?_
  refine r_aload_n hX dX7_weight_57 rfl ?_
  refine g_7_1 hX fl_X7_19 hk0 dX7_weight_58 ?_
  refine g_1_0 hX fl_X7_131 ((q_8_1 hX hk0)) dX7_weight_61 ?_
  refine g_0_1 hX fl_X7_150 ((q_2_0 hX ((q_8_1 hX hk0)))) dX7_weight_64 ?_
  refine r_icmp_ge (tgt := 82) hX dX7_weight_67 (by decide) (fun c_12 => ?_) (fun c_12 => ?_)
  · have hf := hf_t c_12 hf
    refine r_fload hX dX7_weight_70 rfl ?_
    refine r_fload_n hX dX7_weight_72 rfl ?_
    obtain ⟨g_13, hf⟩ := gd_some hf
    refine r_fmul hX dX7_weight_73 g_13 ?_
    obtain ⟨z_14, ez_14, hf⟩ := lt1_some hf
    refine V.topf ez_14 ?_
    refine r_fstore hX dX7_weight_74 rfl rfl ?_
    obtain ⟨x_15, ex_15, hf⟩ := lt1_some hf
    refine r_iincE (n' := 1) ex_15 hX dX7_weight_76 rfl rfl rfl rfl ?_
    refine r_goto (tgt := 55) hX dX7_weight_79 (by decide) ?_
    refine V.mask [true, false, false, true, true, true] ?_
    exact hc55 z_14 x_15 hf
  · have hf := hf_f c_12 hf
    refine r_fload hX dX7_weight_82 rfl ?_
    obtain ⟨r_16, h_17, hf⟩ := bd1_some hf
    refine r_callS (As := [.float z4]) hX (k_X7_floatBits (l := xl X) (I := I) (J := J) hX.ok  h_17) pk_X7_floatBits ml_X7_196 rfl rfl rfl (Nat.le_of_ble_eq_true rfl) dX7_weight_84 ?_
    cases hf
    exact hret _ _ dX7_weight_87
noncomputable def f_X7_weight (I : HI) (a0 : Nat) (x1 : Int32) : Option (Int32) := bd1 (f_X1_proxyAt I ((a0 + 20)) x1) fun r_1 => mN r_1 (some ((-1 : Int32))) (fun a_3 => if 0 < (I (((a0 + 20) + 1)) 0) then bd1 (f_X4_filterSet I a_3) fun r_6 => bd1 (f_J6_bitCount_0f7a4 r_6) fun r_8 => gd (vf_n32 (FP.fdiv ((FP.i2f r_8)) ((FP.i2f ((I (((a0 + 20) + 1)) 0)))))) (lt1 ((FP.fdiv ((FP.i2f r_8)) ((FP.i2f ((I (((a0 + 20) + 1)) 0)))))) fun z_11 => wl2 (X7_weight_B55 I a0 z_11) 5000 z_11 ((1 : Int32))) else some ((-1 : Int32)))
set_option maxHeartbeats 4000000 in
set_option maxRecDepth 100000 in
theorem k_X7_weight {G : GX} {l : Launch} {I : HI} {J : HJ} {r : Int32} (hG : OKG G) {a0 : Nat} {x1 : Int32} (hk0 : gK G a0 = 8) (hf : f_X7_weight I a0 x1 = some r) : Ctr G l yX7_weight cX7_weight 6 (some .int) 1 22 [.ref a0, .int x1] I J (some (.int r)) I J := by
  refine ctr_I hG (by decide) [some (.ref a0), some (.int x1), none, none, none, none] rfl rfl fun X e1 e2 hX hret => ?_
  subst e1; subst e2
  unfold f_X7_weight at hf
  refine r_aload_n hX dX7_weight_0 rfl ?_
  refine g_7_1 hX fl_X7_19 hk0 dX7_weight_1 ?_
  refine r_iload_n hX dX7_weight_4 rfl ?_
  obtain ⟨r_1, h_2, hf⟩ := bd1_some hf
  refine r_callV (As := [.int x1]) (ci := 1) hX (k_X1_proxyAt (l := xl X) (J := J) hX.ok ((q_8_1 hX hk0)) h_2) pk_X1_proxyAt ml_X7_94 rfl rfl rfl rfl ((q_8_1 hX hk0)) rfl rfl rfl (Nat.le_of_ble_eq_true rfl) dX7_weight_5 ?_
  cases r_1 with
  | none =>
    have hf := mN_n hf
    refine r_astore_nN hX dX7_weight_8 rfl rfl ?_
    refine r_aload_nN hX dX7_weight_9 rfl ?_
    refine r_ifnull_n (tgt := 26) hX dX7_weight_10 (by decide) ?_
    refine r_iconst (v := -1) hX dX7_weight_26 rfl ?_
    cases hf
    exact hret _ _ dX7_weight_27
  | some a_3 =>
    have hf := mN_s hf
    have hk_4 := kt_X1_proxyAt hX.ok ((q_8_1 hX hk0)) h_2
    refine r_astore_n hX dX7_weight_8 rfl rfl ?_
    refine r_aload_n hX dX7_weight_9 rfl ?_
    refine r_ifnull_r hX dX7_weight_10 ?_
    refine r_aload_n hX dX7_weight_13 rfl ?_
    refine g_7_1 hX fl_X7_19 hk0 dX7_weight_14 ?_
    refine g_1_0 hX fl_X7_131 ((q_8_1 hX hk0)) dX7_weight_17 ?_
    refine g_0_0 hX fl_X7_135 ((q_2_0 hX ((q_8_1 hX hk0)))) dX7_weight_20 ?_
    refine r_if_gt (tgt := 28) hX dX7_weight_23 (by decide) (fun c_5 => ?_) (fun c_5 => ?_)
    · have hf := hf_t c_5 hf
      refine r_aload_n hX dX7_weight_28 rfl ?_
      obtain ⟨r_6, h_7, hf⟩ := bd1_some hf
      refine r_callV (As := []) (ci := 4) hX (k_X4_filterSet (l := xl X) (J := J) hX.ok hk_4 h_7) pk_X4_filterSet ml_X7_193 rfl rfl rfl rfl hk_4 rfl rfl rfl (Nat.le_of_ble_eq_true rfl) dX7_weight_29 ?_
      obtain ⟨r_8, h_9, hf⟩ := bd1_some hf
      refine r_callS (As := [.int r_6]) hX (k_J6_bitCount_0f7a4 (l := xl X) (I := I) (J := J) hX.ok  h_9) pk_J6_bitCount_0f7a4 ml_X7_122 rfl rfl rfl (Nat.le_of_ble_eq_true rfl) dX7_weight_32 ?_
      refine r_i2f hX dX7_weight_35 ?_
      refine r_aload_n hX dX7_weight_36 rfl ?_
      refine g_7_1 hX fl_X7_19 hk0 dX7_weight_37 ?_
      refine g_1_0 hX fl_X7_131 ((q_8_1 hX hk0)) dX7_weight_40 ?_
      refine g_0_0 hX fl_X7_135 ((q_2_0 hX ((q_8_1 hX hk0)))) dX7_weight_43 ?_
      refine r_i2f hX dX7_weight_46 ?_
      obtain ⟨g_10, hf⟩ := gd_some hf
      refine r_fdiv hX dX7_weight_47 g_10 ?_
      obtain ⟨z_11, ez_11, hf⟩ := lt1_some hf
      refine V.topf ez_11 ?_
      refine r_fstore_n hX dX7_weight_48 rfl rfl ?_
      refine r_fload_n hX dX7_weight_49 rfl ?_
      refine r_fstore hX dX7_weight_50 rfl rfl ?_
      refine r_iconst (v := 1) hX dX7_weight_52 rfl ?_
      refine r_istore hX dX7_weight_53 rfl rfl ?_
      refine V.mask [true, false, false, true, true, true] ?_
      exact vX7_weight_55 hX hret a0 z_11 hk0 5000 z_11 ((1 : Int32)) hf
    · have hf := hf_f c_5 hf
      refine r_iconst (v := -1) hX dX7_weight_26 rfl ?_
      cases hf
      exact hret _ _ dX7_weight_27
noncomputable def X7_best_J79 (I : HI) (a0 : Nat) (x2 : Int32) (a3 : Nat) (x4 : Int32) (x5 : Int32) (x6 : Int32) (k37 : Int32 → Int32 → Int32 → Option (Int32)) : Option (Int32) := lt1 (x6 + (1 : Int32)) fun x_12 => k37 x4 x5 x_12
set_option maxHeartbeats 4000000 in
set_option maxRecDepth 100000 in
theorem vX7_best_79 {X : CX} {r : Int32} {I : HI} {J : HJ} (hX : OKX X cX7_best RX7 4 95 8) (hret : RetI X cX7_best r I J) (a0 : Nat) (x2 : Int32) (a3 : Nat) (x4 : Int32) (x5 : Int32) (x6 : Int32) (hk0 : gK (xG X) a0 = 8) (hk3 : gK (xG X) a3 = 5) (k37 : Int32 → Int32 → Int32 → Option (Int32)) (hc37 : ∀ (x4 : Int32) (x5 : Int32) (x6 : Int32), k37 x4 x5 x6 = some r → V X I J 37 [some (.ref a0), none, some (.int x2), some (.ref a3), some (.int x4), some (.int x5), some (.int x6), none] []) (hf : X7_best_J79 I a0 x2 a3 x4 x5 x6 k37 = some r) : V X I J 79 [some (.ref a0), none, some (.int x2), some (.ref a3), some (.int x4), some (.int x5), some (.int x6), none] [] := by
  unfold X7_best_J79 at hf
  obtain ⟨x_12, ex_12, hf⟩ := lt1_some hf
  refine r_iincE (n' := 1) ex_12 hX dX7_best_79 rfl rfl rfl rfl ?_
  refine r_goto (tgt := 37) hX dX7_best_82 (by decide) ?_
  refine V.mask [true, false, true, true, true, true, true, false] ?_
  exact hc37 x4 x5 x_12 hf
noncomputable def X7_best_B37 (I : HI) (a0 : Nat) (x2 : Int32) (a3 : Nat) (k37 : Int32 → Int32 → Int32 → Option (Int32)) (x4 : Int32) (x5 : Int32) (x6 : Int32) : Option (Int32) := if x6 < (I (((a0 + 20) + 1)) 2) then bd1 (f_X1_wrongPages I ((a0 + 20)) a3 x6) fun r_8 => if r_8 < x5 then X7_best_J79 I a0 x2 a3 x6 r_8 x6 k37 else X7_best_J79 I a0 x2 a3 x4 x5 x6 k37 else if x2 = 0 then some x4 else some x5
set_option maxHeartbeats 4000000 in
set_option maxRecDepth 100000 in
theorem vX7_best_37 {X : CX} {r : Int32} {I : HI} {J : HJ} (hX : OKX X cX7_best RX7 4 95 8) (hret : RetI X cX7_best r I J) (a0 : Nat) (x2 : Int32) (a3 : Nat) (hk0 : gK (xG X) a0 = 8) (hk3 : gK (xG X) a3 = 5)   : ∀ (n : Nat) (x4 : Int32) (x5 : Int32) (x6 : Int32), wl3 (X7_best_B37 I a0 x2 a3) n x4 x5 x6 = some r → V X I J 37 [some (.ref a0), none, some (.int x2), some (.ref a3), some (.int x4), some (.int x5), some (.int x6), none] [] := by
  refine wl3_V (P := fun (x4 : Int32) (x5 : Int32) (x6 : Int32) => V X I J 37 [some (.ref a0), none, some (.int x2), some (.ref a3), some (.int x4), some (.int x5), some (.int x6), none] []) ?_
  intro k37 hc37 x4 x5 x6 hf
  unfold X7_best_B37 at hf
  refine r_iload hX dX7_best_37 rfl ?_
  refine r_aload_n hX dX7_best_39 rfl ?_
  refine g_7_1 hX fl_X7_19 hk0 dX7_best_40 ?_
  refine g_1_0 hX fl_X7_131 ((q_8_1 hX hk0)) dX7_best_43 ?_
  refine g_0_2 hX fl_X7_200 ((q_2_0 hX ((q_8_1 hX hk0)))) dX7_best_46 ?_
  refine r_icmp_ge (tgt := 85) hX dX7_best_49 (by decide) (fun c_7 => ?_) (fun c_7 => ?_)
  · have hf := hf_t c_7 hf
    refine r_aload_n hX dX7_best_52 rfl ?_
    refine g_7_1 hX fl_X7_19 hk0 dX7_best_53 ?_
    refine r_aload_n hX dX7_best_56 rfl ?_
    refine r_iload hX dX7_best_57 rfl ?_
    obtain ⟨r_8, h_9, hf⟩ := bd1_some hf
    refine r_callV (As := [.ref a3, .int x6]) (ci := 1) hX (k_X1_wrongPages (l := xl X) (J := J) hX.ok ((q_8_1 hX hk0)) hk3 h_9) pk_X1_wrongPages ml_X7_203 rfl rfl rfl rfl ((q_8_1 hX hk0)) rfl rfl rfl (Nat.le_of_ble_eq_true rfl) dX7_best_59 ?_
    refine r_istore hX dX7_best_62 rfl rfl ?_
    refine r_iload hX dX7_best_64 rfl ?_
    refine r_iload hX dX7_best_66 rfl ?_
    refine r_icmp_ge (tgt := 79) hX dX7_best_68 (by decide) (fun c_10 => ?_) (fun c_10 => ?_)
    · have hf := hf_t c_10 hf
      refine r_iload hX dX7_best_71 rfl ?_
      refine r_istore hX dX7_best_73 rfl rfl ?_
      refine r_iload hX dX7_best_75 rfl ?_
      refine r_istore hX dX7_best_77 rfl rfl ?_
      refine V.mask [true, false, true, true, true, true, true, false] ?_
      exact vX7_best_79 hX hret a0 x2 a3 x6 r_8 x6 hk0 hk3 k37 hc37 hf
    · have hf := hf_f c_10 hf
      refine V.mask [true, false, true, true, true, true, true, false] ?_
      exact vX7_best_79 hX hret a0 x2 a3 x4 x5 x6 hk0 hk3 k37 hc37 hf
  · have hf := hf_f c_7 hf
    refine r_iload_n hX dX7_best_85 rfl ?_
    refine r_if_ne (tgt := 94) hX dX7_best_86 (by decide) (fun c_11 => ?_) (fun c_11 => ?_)
    · have hf := hf_t c_11 hf
      refine r_iload hX dX7_best_89 rfl ?_
      refine r_goto (tgt := 96) hX dX7_best_91 (by decide) ?_
      cases hf
      exact hret _ _ dX7_best_96
    · have hf := hf_f c_11 hf
      refine r_iload hX dX7_best_94 rfl ?_
      cases hf
      exact hret _ _ dX7_best_96
noncomputable def X7_best_J27 (I : HI) (a0 : Nat) (x2 : Int32) (a3 : Nat) : Option (Int32) := wl3 (X7_best_B37 I a0 x2 a3) 5000 ((0 : Int32)) ((33 : Int32)) ((0 : Int32))
set_option maxHeartbeats 4000000 in
set_option maxRecDepth 100000 in
theorem vX7_best_27 {X : CX} {r : Int32} {I : HI} {J : HJ} (hX : OKX X cX7_best RX7 4 95 8) (hret : RetI X cX7_best r I J) (a0 : Nat) (x2 : Int32) (a3 : Nat) (hk0 : gK (xG X) a0 = 8) (hk3 : gK (xG X) a3 = 5)   (hf : X7_best_J27 I a0 x2 a3 = some r) : V X I J 27 [some (.ref a0), none, some (.int x2), some (.ref a3), none, none, none, none] [] := by
  unfold X7_best_J27 at hf
  refine r_iconst (v := 0) hX dX7_best_27 rfl ?_
  refine r_istore hX dX7_best_28 rfl rfl ?_
  refine r_bipush (v := 33) hX dX7_best_30 (by decide) ?_
  refine r_istore hX dX7_best_32 rfl rfl ?_
  refine r_iconst (v := 0) hX dX7_best_34 rfl ?_
  refine r_istore hX dX7_best_35 rfl rfl ?_
  refine V.mask [true, false, true, true, true, true, true, false] ?_
  exact vX7_best_37 hX hret a0 x2 a3 hk0 hk3 5000 ((0 : Int32)) ((33 : Int32)) ((0 : Int32)) hf
noncomputable def f_X7_best (I : HI) (a0 : Nat) (x1 : Int32) (x2 : Int32) : Option (Int32) := bd1 (f_X1_proxyAt I ((a0 + 20)) x1) fun r_1 => mN r_1 (some ((-1 : Int32))) (fun a_3 => if x2 = 0 then X7_best_J27 I a0 x2 a_3 else if x2 = (1 : Int32) then X7_best_J27 I a0 x2 a_3 else some ((-2 : Int32)))
set_option maxHeartbeats 4000000 in
set_option maxRecDepth 100000 in
theorem k_X7_best {G : GX} {l : Launch} {I : HI} {J : HJ} {r : Int32} (hG : OKG G) {a0 : Nat} {x1 : Int32} {x2 : Int32} (hk0 : gK G a0 = 8) (hf : f_X7_best I a0 x1 x2 = some r) : Ctr G l yX7_best cX7_best 8 (some .int) 4 95 [.ref a0, .int x1, .int x2] I J (some (.int r)) I J := by
  refine ctr_I hG (by decide) [some (.ref a0), some (.int x1), some (.int x2), none, none, none, none, none] rfl rfl fun X e1 e2 hX hret => ?_
  subst e1; subst e2
  unfold f_X7_best at hf
  refine r_aload_n hX dX7_best_0 rfl ?_
  refine g_7_1 hX fl_X7_19 hk0 dX7_best_1 ?_
  refine r_iload_n hX dX7_best_4 rfl ?_
  obtain ⟨r_1, h_2, hf⟩ := bd1_some hf
  refine r_callV (As := [.int x1]) (ci := 1) hX (k_X1_proxyAt (l := xl X) (J := J) hX.ok ((q_8_1 hX hk0)) h_2) pk_X1_proxyAt ml_X7_94 rfl rfl rfl rfl ((q_8_1 hX hk0)) rfl rfl rfl (Nat.le_of_ble_eq_true rfl) dX7_best_5 ?_
  cases r_1 with
  | none =>
    have hf := mN_n hf
    refine r_astore_nN hX dX7_best_8 rfl rfl ?_
    refine r_aload_nN hX dX7_best_9 rfl ?_
    refine r_ifnonnull_n hX dX7_best_10 ?_
    refine r_iconst (v := -1) hX dX7_best_13 rfl ?_
    cases hf
    exact hret _ _ dX7_best_14
  | some a_3 =>
    have hf := mN_s hf
    have hk_4 := kt_X1_proxyAt hX.ok ((q_8_1 hX hk0)) h_2
    refine r_astore_n hX dX7_best_8 rfl rfl ?_
    refine r_aload_n hX dX7_best_9 rfl ?_
    refine r_ifnonnull_r (tgt := 15) hX dX7_best_10 (by decide) ?_
    refine r_iload_n hX dX7_best_15 rfl ?_
    refine r_if_eq (tgt := 27) hX dX7_best_16 (by decide) (fun c_5 => ?_) (fun c_5 => ?_)
    · have hf := hf_t c_5 hf
      refine V.mask [true, false, true, true, false, false, false, false] ?_
      exact vX7_best_27 hX hret a0 x2 a_3 hk0 hk_4 hf
    · have hf := hf_f c_5 hf
      refine r_iload_n hX dX7_best_19 rfl ?_
      refine r_iconst (v := 1) hX dX7_best_20 rfl ?_
      refine r_icmp_eq (tgt := 27) hX dX7_best_21 (by decide) (fun c_6 => ?_) (fun c_6 => ?_)
      · have hf := hf_t c_6 hf
        refine V.mask [true, false, true, true, false, false, false, false] ?_
        exact vX7_best_27 hX hret a0 x2 a_3 hk0 hk_4 hf
      · have hf := hf_f c_6 hf
        refine r_bipush (v := -2) hX dX7_best_24 (by decide) ?_
        cases hf
        exact hret _ _ dX7_best_26
noncomputable def X7_powerOfTen_B4 (x0 : Int32) (k4 : Int64 → Int32 → Option (Int64)) (y1 : Int64) (x3 : Int32) : Option (Int64) := if x3 < x0 then if x3 < (18 : Int32) then lt1 ((y1 * (10 : Int64))) fun y_3 => lt1 (x3 + (1 : Int32)) fun x_4 => k4 y_3 x_4 else some y1 else some y1
set_option maxHeartbeats 4000000 in
set_option maxRecDepth 100000 in
theorem vX7_powerOfTen_4 {X : CX} {r : Int64} {I : HI} {J : HJ} (hX : OKX X cX7_powerOfTen RX7 0 0 4) (hret : RetL X cX7_powerOfTen r I J) (x0 : Int32)    : ∀ (n : Nat) (y1 : Int64) (x3 : Int32), wl2 (X7_powerOfTen_B4 x0) n y1 x3 = some r → V X I J 4 [some (.int x0), some (.long y1), none, some (.int x3)] [] := by
  refine wl2_V (P := fun (y1 : Int64) (x3 : Int32) => V X I J 4 [some (.int x0), some (.long y1), none, some (.int x3)] []) ?_
  intro k4 hc4 y1 x3 hf
  unfold X7_powerOfTen_B4 at hf
  refine r_iload_n hX dX7_powerOfTen_4 rfl ?_
  refine r_iload_n hX dX7_powerOfTen_5 rfl ?_
  refine r_icmp_ge (tgt := 27) hX dX7_powerOfTen_6 (by decide) (fun c_1 => ?_) (fun c_1 => ?_)
  · have hf := hf_t c_1 hf
    refine r_iload_n hX dX7_powerOfTen_9 rfl ?_
    refine r_bipush (v := 18) hX dX7_powerOfTen_10 (by decide) ?_
    refine r_icmp_ge (tgt := 27) hX dX7_powerOfTen_12 (by decide) (fun c_2 => ?_) (fun c_2 => ?_)
    · have hf := hf_t c_2 hf
      refine r_lload_n hX dX7_powerOfTen_15 rfl ?_
      refine r_ldc2 hX dX7_powerOfTen_16 cn_X7_272 ?_
      refine r_lmul hX dX7_powerOfTen_19 ?_
      obtain ⟨y_3, ey_3, hf⟩ := lt1_some hf
      refine V.topl ey_3 ?_
      refine r_lstore_n hX dX7_powerOfTen_20 rfl rfl ?_
      obtain ⟨x_4, ex_4, hf⟩ := lt1_some hf
      refine r_iincE (n' := 1) ex_4 hX dX7_powerOfTen_21 rfl rfl rfl rfl ?_
      refine r_goto (tgt := 4) hX dX7_powerOfTen_24 (by decide) ?_
      refine V.mask [true, true, false, true] ?_
      exact hc4 y_3 x_4 hf
    · have hf := hf_f c_2 hf
      refine r_lload_n hX dX7_powerOfTen_27 rfl ?_
      cases hf
      exact hret _ _ dX7_powerOfTen_28
  · have hf := hf_f c_1 hf
    refine r_lload_n hX dX7_powerOfTen_27 rfl ?_
    cases hf
    exact hret _ _ dX7_powerOfTen_28
noncomputable def f_X7_powerOfTen (x0 : Int32) : Option (Int64) := wl2 (X7_powerOfTen_B4 x0) 5000 ((1 : Int64)) ((0 : Int32))
set_option maxHeartbeats 4000000 in
set_option maxRecDepth 100000 in
theorem k_X7_powerOfTen {G : GX} {l : Launch} {I : HI} {J : HJ} {r : Int64} (hG : OKG G) {x0 : Int32}  (hf : f_X7_powerOfTen x0 = some r) : Ctr G l yX7_powerOfTen cX7_powerOfTen 4 (some .long) 0 0 [.int x0] I J (some (.long r)) I J := by
  refine ctr_L hG (by decide) [some (.int x0), none, none, none] rfl rfl fun X e1 e2 hX hret => ?_
  subst e1; subst e2
  unfold f_X7_powerOfTen at hf
  refine r_lconst (v := 1) hX dX7_powerOfTen_0 rfl ?_
  refine r_lstore_n hX dX7_powerOfTen_1 rfl rfl ?_
  refine r_iconst (v := 0) hX dX7_powerOfTen_2 rfl ?_
  refine r_istore_n hX dX7_powerOfTen_3 rfl rfl ?_
  refine V.mask [true, true, false, true] ?_
  exact vX7_powerOfTen_4 hX hret x0 5000 ((1 : Int64)) ((0 : Int32)) hf
noncomputable def X7_plan_J126 (I : HI) (a0 : Nat) : Option (Int32 × HI) := bd1 (f_X1_cost I ((a0 + 37))) fun r_27 => bd1 (f_X1_cost I ((a0 + 20))) fun r_29 => some ((r_27 - r_29), I)
set_option maxHeartbeats 4000000 in
set_option maxRecDepth 100000 in
theorem vX7_plan_126 {X : CX} {I' : HI} {r : Int32} {I : HI} {J : HJ} (hX : OKX X cX7_plan RX7 4 95 8) (hret : RetI X cX7_plan r I' J) (a0 : Nat) (hk0 : gK (xG X) a0 = 8)   (hf : X7_plan_J126 I a0 = some (r, I')) : V X I J 126 [some (.ref a0), none, none, none, none, none, none, none] [] := by
  unfold X7_plan_J126 at hf
  refine r_aload_n hX dX7_plan_126 rfl ?_
  refine g_7_2 hX fl_X7_23 hk0 dX7_plan_127 ?_
  obtain ⟨r_27, h_28, hf⟩ := bd1_some hf
  refine r_callV (As := []) (ci := 1) hX (k_X1_cost (l := xl X) (J := J) hX.ok ((q_8_2 hX hk0)) h_28) pk_X1_cost ml_X7_213 rfl rfl rfl rfl ((q_8_2 hX hk0)) rfl rfl rfl (Nat.le_of_ble_eq_true rfl) dX7_plan_130 ?_
  refine r_aload_n hX dX7_plan_133 rfl ?_
  refine g_7_1 hX fl_X7_19 hk0 dX7_plan_134 ?_
  obtain ⟨r_29, h_30, hf⟩ := bd1_some hf
  refine r_callV (As := []) (ci := 1) hX (k_X1_cost (l := xl X) (J := J) hX.ok ((q_8_1 hX hk0)) h_30) pk_X1_cost ml_X7_213 rfl rfl rfl rfl ((q_8_1 hX hk0)) rfl rfl rfl (Nat.le_of_ble_eq_true rfl) dX7_plan_137 ?_
  refine r_isub hX dX7_plan_140 ?_
  cases hf
  exact hret _ _ dX7_plan_141
noncomputable def X7_plan_B66 (a0 : Nat) (x1 : Int32) (x2 : Int32) (x3 : Int32) (k66 : HI → Int64 → Int32 → Option (Int32 × HI)) (I : HI) (y4 : Int64) (x6 : Int32) : Option (Int32 × HI) := if x6 < x2 then if 0 < (lg_cmp y4 ((0 : Int64))) then gd (¬ y4 = 0) (lt1 (((jreml ((x3.toInt64 / y4)) ((100 : Int64)))).toInt32) fun x_18 => bd1 (f_X7_isPage x_18) fun r_19 => if r_19 = 0 then some ((-1 : Int32), I) else bd2 (f_X1_request I ((a0 + 37)) x1 x_18) fun r_22 I_23 => lt1 ((y4 / (100 : Int64))) fun y_25 => lt1 (x6 + (1 : Int32)) fun x_26 => k66 I_23 y_25 x_26) else X7_plan_J126 I a0 else X7_plan_J126 I a0
set_option maxHeartbeats 4000000 in
set_option maxRecDepth 100000 in
theorem vX7_plan_66 {X : CX} {I' : HI} {r : Int32} {J : HJ} (hX : OKX X cX7_plan RX7 4 95 8) (hret : RetI X cX7_plan r I' J) (a0 : Nat) (x1 : Int32) (x2 : Int32) (x3 : Int32) (hk0 : gK (xG X) a0 = 8)   : ∀ (n : Nat) (I : HI) (y4 : Int64) (x6 : Int32), wl3 (X7_plan_B66 a0 x1 x2 x3) n I y4 x6 = some (r, I') → V X I J 66 [some (.ref a0), some (.int x1), some (.int x2), some (.int x3), some (.long y4), none, some (.int x6), none] [] := by
  refine wl3_V (P := fun (I : HI) (y4 : Int64) (x6 : Int32) => V X I J 66 [some (.ref a0), some (.int x1), some (.int x2), some (.int x3), some (.long y4), none, some (.int x6), none] []) ?_
  intro k66 hc66 I y4 x6 hf
  unfold X7_plan_B66 at hf
  refine r_iload hX dX7_plan_66 rfl ?_
  refine r_iload_n hX dX7_plan_68 rfl ?_
  refine r_icmp_ge (tgt := 126) hX dX7_plan_69 (by decide) (fun c_15 => ?_) (fun c_15 => ?_)
  · have hf := hf_t c_15 hf
    refine r_lload hX dX7_plan_72 rfl ?_
    refine r_lconst (v := 0) hX dX7_plan_74 rfl ?_
    refine r_lcmp hX dX7_plan_75 ?_
    refine r_if_le (tgt := 126) hX dX7_plan_76 (by decide) (fun c_16 => ?_) (fun c_16 => ?_)
    · have hf := hf_t c_16 hf
      refine r_iload_n hX dX7_plan_79 rfl ?_
      refine r_i2l hX dX7_plan_80 ?_
      refine r_lload hX dX7_plan_81 rfl ?_
      obtain ⟨g_17, hf⟩ := gd_some hf
      refine r_ldiv hX dX7_plan_83 g_17 ?_
      refine r_ldc2 hX dX7_plan_84 cn_X7_211 ?_
      refine r_lrem hX dX7_plan_87 (by decide) ?_
      refine r_l2i hX dX7_plan_88 ?_
      obtain ⟨x_18, ex_18, hf⟩ := lt1_some hf
      refine V.topi ex_18 ?_
      refine r_istore hX dX7_plan_89 rfl rfl ?_
      refine r_iload hX dX7_plan_91 rfl ?_
      obtain ⟨r_19, h_20, hf⟩ := bd1_some hf
      refine r_callS (As := [.int x_18]) hX (k_X7_isPage (l := xl X) (I := I) (J := J) hX.ok  h_20) pk_X7_isPage ml_X7_147 rfl rfl rfl (Nat.le_of_ble_eq_true rfl) dX7_plan_93 ?_
      refine r_if_ne (tgt := 101) hX dX7_plan_96 (by decide) (fun c_21 => ?_) (fun c_21 => ?_)
      · have hf := hf_t c_21 hf
        refine r_iconst (v := -1) hX dX7_plan_99 rfl ?_
        cases hf
        exact hret _ _ dX7_plan_100
      · have hf := hf_f c_21 hf
        refine r_aload_n hX dX7_plan_101 rfl ?_
        refine g_7_2 hX fl_X7_23 hk0 dX7_plan_102 ?_
        refine r_iload_n hX dX7_plan_105 rfl ?_
        refine r_iload hX dX7_plan_106 rfl ?_
        obtain ⟨r_22, I_23, h_24, hf⟩ := bd2_some hf
        refine r_callV (As := [.int x1, .int x_18]) (ci := 1) hX (k_X1_request (l := xl X) (J := J) hX.ok ((q_8_2 hX hk0)) h_24) pk_X1_request ml_X7_164 rfl rfl rfl rfl ((q_8_2 hX hk0)) rfl rfl rfl (Nat.le_of_ble_eq_true rfl) dX7_plan_108 ?_
        refine r_pop hX dX7_plan_111 rfl ?_
        refine r_lload hX dX7_plan_112 rfl ?_
        refine r_ldc2 hX dX7_plan_114 cn_X7_211 ?_
        refine r_ldiv hX dX7_plan_117 (by decide) ?_
        obtain ⟨y_25, ey_25, hf⟩ := lt1_some hf
        refine V.topl ey_25 ?_
        refine r_lstore hX dX7_plan_118 rfl rfl ?_
        obtain ⟨x_26, ex_26, hf⟩ := lt1_some hf
        refine r_iincE (n' := 1) ex_26 hX dX7_plan_120 rfl rfl rfl rfl ?_
        refine r_goto (tgt := 66) hX dX7_plan_123 (by decide) ?_
        refine V.mask [true, true, true, true, true, false, true, false] ?_
        exact hc66 I_23 y_25 x_26 hf
    · have hf := hf_f c_16 hf
      refine V.mask [true, false, false, false, false, false, false, false] ?_
      exact vX7_plan_126 hX hret a0 hk0 hf
  · have hf := hf_f c_15 hf
    refine V.mask [true, false, false, false, false, false, false, false] ?_
    exact vX7_plan_126 hX hret a0 hk0 hf
noncomputable def f_X7_plan (I : HI) (a0 : Nat) (x1 : Int32) (x2 : Int32) (x3 : Int32) : Option (Int32 × HI) := bd1 (f_X1_proxyAt I ((a0 + 20)) x1) fun r_1 => mN r_1 (some ((-1 : Int32), I)) (fun a_3 => if x2 < (1 : Int32) then some ((-2 : Int32), I) else if (4 : Int32) < x2 then some ((-2 : Int32), I) else if x3 < 0 then some ((-2 : Int32), I) else bd1 (f_X7_powerOfTen (((2 : Int32) * x2))) fun r_8 => if (lg_cmp x3.toInt64 r_8) < 0 then bd1 (f_X1_take I ((a0 + 37)) ((a0 + 20))) fun I_11 => bd1 (f_X7_powerOfTen ((((2 : Int32) * x2) - (2 : Int32)))) fun r_13 => wl3 (X7_plan_B66 a0 x1 x2 x3) 5000 I_11 r_13 ((0 : Int32)) else some ((-2 : Int32), I))
set_option maxHeartbeats 4000000 in
set_option maxRecDepth 100000 in
theorem k_X7_plan {G : GX} {l : Launch} {I : HI} {J : HJ} {I' : HI} {r : Int32} (hG : OKG G) {a0 : Nat} {x1 : Int32} {x2 : Int32} {x3 : Int32} (hk0 : gK G a0 = 8) (hf : f_X7_plan I a0 x1 x2 x3 = some (r, I')) : Ctr G l yX7_plan cX7_plan 8 (some .int) 4 95 [.ref a0, .int x1, .int x2, .int x3] I J (some (.int r)) I' J := by
  refine ctr_I hG (by decide) [some (.ref a0), some (.int x1), some (.int x2), some (.int x3), none, none, none, none] rfl rfl fun X e1 e2 hX hret => ?_
  subst e1; subst e2
  unfold f_X7_plan at hf
  refine r_aload_n hX dX7_plan_0 rfl ?_
  refine g_7_1 hX fl_X7_19 hk0 dX7_plan_1 ?_
  refine r_iload_n hX dX7_plan_4 rfl ?_
  obtain ⟨r_1, h_2, hf⟩ := bd1_some hf
  refine r_callV (As := [.int x1]) (ci := 1) hX (k_X1_proxyAt (l := xl X) (J := J) hX.ok ((q_8_1 hX hk0)) h_2) pk_X1_proxyAt ml_X7_94 rfl rfl rfl rfl ((q_8_1 hX hk0)) rfl rfl rfl (Nat.le_of_ble_eq_true rfl) dX7_plan_5 ?_
  cases r_1 with
  | none =>
    have hf := mN_n hf
    refine r_ifnonnull_n hX dX7_plan_8 ?_
    refine r_iconst (v := -1) hX dX7_plan_11 rfl ?_
    cases hf
    exact hret _ _ dX7_plan_12
  | some a_3 =>
    have hf := mN_s hf
    have hk_4 := kt_X1_proxyAt hX.ok ((q_8_1 hX hk0)) h_2
    refine r_ifnonnull_r (tgt := 13) hX dX7_plan_8 (by decide) ?_
    refine r_iload_n hX dX7_plan_13 rfl ?_
    refine r_iconst (v := 1) hX dX7_plan_14 rfl ?_
    refine r_icmp_lt (tgt := 39) hX dX7_plan_15 (by decide) (fun c_5 => ?_) (fun c_5 => ?_)
    · have hf := hf_t c_5 hf
      refine r_bipush (v := -2) hX dX7_plan_39 (by decide) ?_
      cases hf
      exact hret _ _ dX7_plan_41
    · have hf := hf_f c_5 hf
      refine r_iload_n hX dX7_plan_18 rfl ?_
      refine r_iconst (v := 4) hX dX7_plan_19 rfl ?_
      refine r_icmp_gt (tgt := 39) hX dX7_plan_20 (by decide) (fun c_6 => ?_) (fun c_6 => ?_)
      · have hf := hf_t c_6 hf
        refine r_bipush (v := -2) hX dX7_plan_39 (by decide) ?_
        cases hf
        exact hret _ _ dX7_plan_41
      · have hf := hf_f c_6 hf
        refine r_iload_n hX dX7_plan_23 rfl ?_
        refine r_if_lt (tgt := 39) hX dX7_plan_24 (by decide) (fun c_7 => ?_) (fun c_7 => ?_)
        · have hf := hf_t c_7 hf
          refine r_bipush (v := -2) hX dX7_plan_39 (by decide) ?_
          cases hf
          exact hret _ _ dX7_plan_41
        · have hf := hf_f c_7 hf
          refine r_iload_n hX dX7_plan_27 rfl ?_
          refine r_i2l hX dX7_plan_28 ?_
          refine r_iconst (v := 2) hX dX7_plan_29 rfl ?_
          refine r_iload_n hX dX7_plan_30 rfl ?_
          refine r_imul hX dX7_plan_31 ?_
          obtain ⟨r_8, h_9, hf⟩ := bd1_some hf
          refine r_callS (As := [.int (((2 : Int32) * x2))]) hX (k_X7_powerOfTen (l := xl X) (I := I) (J := J) hX.ok  h_9) pk_X7_powerOfTen ml_X7_207 rfl rfl rfl (Nat.le_of_ble_eq_true rfl) dX7_plan_32 ?_
          refine r_lcmp hX dX7_plan_35 ?_
          refine r_if_lt (tgt := 42) hX dX7_plan_36 (by decide) (fun c_10 => ?_) (fun c_10 => ?_)
          · have hf := hf_t c_10 hf
            refine r_aload_n hX dX7_plan_42 rfl ?_
            refine g_7_2 hX fl_X7_23 hk0 dX7_plan_43 ?_
            refine r_aload_n hX dX7_plan_46 rfl ?_
            refine g_7_1 hX fl_X7_19 hk0 dX7_plan_47 ?_
            obtain ⟨I_11, h_12, hf⟩ := bd1_some hf
            refine r_callV (As := [.ref ((a0 + 20))]) (ci := 1) hX (k_X1_take (l := xl X) (J := J) hX.ok ((q_8_2 hX hk0)) ((q_8_1 hX hk0)) h_12) pk_X1_take ml_X7_84 rfl rfl rfl rfl ((q_8_2 hX hk0)) rfl rfl rfl (Nat.le_of_ble_eq_true rfl) dX7_plan_50 ?_
            refine r_iconst (v := 2) hX dX7_plan_53 rfl ?_
            refine r_iload_n hX dX7_plan_54 rfl ?_
            refine r_imul hX dX7_plan_55 ?_
            refine r_iconst (v := 2) hX dX7_plan_56 rfl ?_
            refine r_isub hX dX7_plan_57 ?_
            obtain ⟨r_13, h_14, hf⟩ := bd1_some hf
            refine r_callS (As := [.int ((((2 : Int32) * x2) - (2 : Int32)))]) hX (k_X7_powerOfTen (l := xl X) (I := I_11) (J := J) hX.ok  h_14) pk_X7_powerOfTen ml_X7_207 rfl rfl rfl (Nat.le_of_ble_eq_true rfl) dX7_plan_58 ?_
            refine r_lstore hX dX7_plan_61 rfl rfl ?_
            refine r_iconst (v := 0) hX dX7_plan_63 rfl ?_
            refine r_istore hX dX7_plan_64 rfl rfl ?_
            refine V.mask [true, true, true, true, true, false, true, false] ?_
            exact vX7_plan_66 hX hret a0 x1 x2 x3 hk0 5000 I_11 r_13 ((0 : Int32)) hf
          · have hf := hf_f c_10 hf
            refine r_bipush (v := -2) hX dX7_plan_39 (by decide) ?_
            cases hf
            exact hret _ _ dX7_plan_41
noncomputable def X7_triedCost_B13 (a0 : Nat) (x1 : Int32) (k13 : HI → Int32 → Option (Int32 × HI)) (I : HI) (x2 : Int32) : Option (Int32 × HI) := if x2 < (I ((a0 + 300)) 0) then bd1 (f_X2_pageAt I ((a0 + 300)) x2) fun r_4 => bd2 (f_X1_request I ((a0 + 37)) x1 r_4) fun r_6 I_7 => lt1 (x2 + (1 : Int32)) fun x_9 => k13 I_7 x_9 else bd1 (f_X1_cost I ((a0 + 37))) fun r_10 => bd1 (f_X1_cost I ((a0 + 20))) fun r_12 => some ((r_10 - r_12), I)
set_option maxHeartbeats 4000000 in
set_option maxRecDepth 100000 in
theorem vX7_triedCost_13 {X : CX} {I' : HI} {r : Int32} {J : HJ} (hX : OKX X cX7_triedCost RX7 4 95 3) (hret : RetI X cX7_triedCost r I' J) (a0 : Nat) (x1 : Int32) (hk0 : gK (xG X) a0 = 8)   : ∀ (n : Nat) (I : HI) (x2 : Int32), wl2 (X7_triedCost_B13 a0 x1) n I x2 = some (r, I') → V X I J 13 [some (.ref a0), some (.int x1), some (.int x2)] [] := by
  refine wl2_V (P := fun (I : HI) (x2 : Int32) => V X I J 13 [some (.ref a0), some (.int x1), some (.int x2)] []) ?_
  intro k13 hc13 I x2 hf
  unfold X7_triedCost_B13 at hf
  refine r_iload_n hX dX7_triedCost_13 rfl ?_
  refine r_aload_n hX dX7_triedCost_14 rfl ?_
  refine g_7_7 hX fl_X7_51 hk0 dX7_triedCost_15 ?_
  refine g_2_0 hX fl_X7_291 ((q_8_7 hX hk0)) dX7_triedCost_18 ?_
  refine r_icmp_ge (tgt := 47) hX dX7_triedCost_21 (by decide) (fun c_3 => ?_) (fun c_3 => ?_)
  · have hf := hf_t c_3 hf
    refine r_aload_n hX dX7_triedCost_24 rfl ?_
    refine g_7_2 hX fl_X7_23 hk0 dX7_triedCost_25 ?_
    refine r_iload_n hX dX7_triedCost_28 rfl ?_
    refine r_aload_n hX dX7_triedCost_29 rfl ?_
    refine g_7_7 hX fl_X7_51 hk0 dX7_triedCost_30 ?_
    refine r_iload_n hX dX7_triedCost_33 rfl ?_
    obtain ⟨r_4, h_5, hf⟩ := bd1_some hf
    refine r_callV (As := [.int x2]) (ci := 2) hX (k_X2_pageAt (l := xl X) (J := J) hX.ok ((q_8_7 hX hk0)) h_5) pk_X2_pageAt ml_X7_219 rfl rfl rfl rfl ((q_8_7 hX hk0)) rfl rfl rfl (Nat.le_of_ble_eq_true rfl) dX7_triedCost_34 ?_
    obtain ⟨r_6, I_7, h_8, hf⟩ := bd2_some hf
    refine r_callV (As := [.int x1, .int r_4]) (ci := 1) hX (k_X1_request (l := xl X) (J := J) hX.ok ((q_8_2 hX hk0)) h_8) pk_X1_request ml_X7_164 rfl rfl rfl rfl ((q_8_2 hX hk0)) rfl rfl rfl (Nat.le_of_ble_eq_true rfl) dX7_triedCost_37 ?_
    refine r_pop hX dX7_triedCost_40 rfl ?_
    obtain ⟨x_9, ex_9, hf⟩ := lt1_some hf
    refine r_iincE (n' := 1) ex_9 hX dX7_triedCost_41 rfl rfl rfl rfl ?_
    refine r_goto (tgt := 13) hX dX7_triedCost_44 (by decide) ?_
    refine V.mask [true, true, true] ?_
    exact hc13 I_7 x_9 hf
  · have hf := hf_f c_3 hf
    refine r_aload_n hX dX7_triedCost_47 rfl ?_
    refine g_7_2 hX fl_X7_23 hk0 dX7_triedCost_48 ?_
    obtain ⟨r_10, h_11, hf⟩ := bd1_some hf
    refine r_callV (As := []) (ci := 1) hX (k_X1_cost (l := xl X) (J := J) hX.ok ((q_8_2 hX hk0)) h_11) pk_X1_cost ml_X7_213 rfl rfl rfl rfl ((q_8_2 hX hk0)) rfl rfl rfl (Nat.le_of_ble_eq_true rfl) dX7_triedCost_51 ?_
    refine r_aload_n hX dX7_triedCost_54 rfl ?_
    refine g_7_1 hX fl_X7_19 hk0 dX7_triedCost_55 ?_
    obtain ⟨r_12, h_13, hf⟩ := bd1_some hf
    refine r_callV (As := []) (ci := 1) hX (k_X1_cost (l := xl X) (J := J) hX.ok ((q_8_1 hX hk0)) h_13) pk_X1_cost ml_X7_213 rfl rfl rfl rfl ((q_8_1 hX hk0)) rfl rfl rfl (Nat.le_of_ble_eq_true rfl) dX7_triedCost_58 ?_
    refine r_isub hX dX7_triedCost_61 ?_
    cases hf
    exact hret _ _ dX7_triedCost_62
noncomputable def f_X7_triedCost (I : HI) (a0 : Nat) (x1 : Int32) : Option (Int32 × HI) := bd1 (f_X1_take I ((a0 + 37)) ((a0 + 20))) fun I_1 => wl2 (X7_triedCost_B13 a0 x1) 5000 I_1 ((0 : Int32))
set_option maxHeartbeats 4000000 in
set_option maxRecDepth 100000 in
theorem k_X7_triedCost {G : GX} {l : Launch} {I : HI} {J : HJ} {I' : HI} {r : Int32} (hG : OKG G) {a0 : Nat} {x1 : Int32} (hk0 : gK G a0 = 8) (hf : f_X7_triedCost I a0 x1 = some (r, I')) : Ctr G l yX7_triedCost cX7_triedCost 3 (some .int) 4 95 [.ref a0, .int x1] I J (some (.int r)) I' J := by
  refine ctr_I hG (by decide) [some (.ref a0), some (.int x1), none] rfl rfl fun X e1 e2 hX hret => ?_
  subst e1; subst e2
  unfold f_X7_triedCost at hf
  refine r_aload_n hX dX7_triedCost_0 rfl ?_
  refine g_7_2 hX fl_X7_23 hk0 dX7_triedCost_1 ?_
  refine r_aload_n hX dX7_triedCost_4 rfl ?_
  refine g_7_1 hX fl_X7_19 hk0 dX7_triedCost_5 ?_
  obtain ⟨I_1, h_2, hf⟩ := bd1_some hf
  refine r_callV (As := [.ref ((a0 + 20))]) (ci := 1) hX (k_X1_take (l := xl X) (J := J) hX.ok ((q_8_2 hX hk0)) ((q_8_1 hX hk0)) h_2) pk_X1_take ml_X7_84 rfl rfl rfl rfl ((q_8_2 hX hk0)) rfl rfl rfl (Nat.le_of_ble_eq_true rfl) dX7_triedCost_8 ?_
  refine r_iconst (v := 0) hX dX7_triedCost_11 rfl ?_
  refine r_istore_n hX dX7_triedCost_12 rfl rfl ?_
  refine V.mask [true, true, true] ?_
  exact vX7_triedCost_13 hX hret a0 x1 hk0 5000 I_1 ((0 : Int32)) hf
noncomputable def X7_findCheapest_J60 (I : HI) (a0 : Nat) (x1 : Int32) (x3 : Int32) (x5 : Int32) (k16 : HI → Int32 → Int32 → Int32 → Option (Int32 × HI)) : Option (Int32 × HI) := bd2 (f_X2_advance I ((a0 + 300))) fun r_12 I_13 => lt1 (x5 + (1 : Int32)) fun x_15 => k16 I_13 x3 r_12 x_15
set_option maxHeartbeats 4000000 in
set_option maxRecDepth 100000 in
theorem vX7_findCheapest_60 {X : CX} {I' : HI} {r : Int32} {I : HI} {J : HJ} (hX : OKX X cX7_findCheapest RX7 5 117 7) (hret : RetI X cX7_findCheapest r I' J) (a0 : Nat) (x1 : Int32) (x3 : Int32) (x5 : Int32) (hk0 : gK (xG X) a0 = 8) (k16 : HI → Int32 → Int32 → Int32 → Option (Int32 × HI)) (hc16 : ∀ (I : HI) (x3 : Int32) (x4 : Int32) (x5 : Int32), k16 I x3 x4 x5 = some (r, I') → V X I J 16 [some (.ref a0), some (.int x1), none, some (.int x3), some (.int x4), some (.int x5), none] []) (hf : X7_findCheapest_J60 I a0 x1 x3 x5 k16 = some (r, I')) : V X I J 60 [some (.ref a0), some (.int x1), none, some (.int x3), none, some (.int x5), none] [] := by
  unfold X7_findCheapest_J60 at hf
  refine r_aload_n hX dX7_findCheapest_60 rfl ?_
  refine g_7_7 hX fl_X7_51 hk0 dX7_findCheapest_61 ?_
  obtain ⟨r_12, I_13, h_14, hf⟩ := bd2_some hf
  refine r_callV (As := []) (ci := 2) hX (k_X2_advance (l := xl X) (J := J) hX.ok ((q_8_7 hX hk0)) h_14) pk_X2_advance ml_X7_287 rfl rfl rfl rfl ((q_8_7 hX hk0)) rfl rfl rfl (Nat.le_of_ble_eq_true rfl) dX7_findCheapest_64 ?_
  refine r_istore hX dX7_findCheapest_67 rfl rfl ?_
  obtain ⟨x_15, ex_15, hf⟩ := lt1_some hf
  refine r_iincE (n' := 1) ex_15 hX dX7_findCheapest_69 rfl rfl rfl rfl ?_
  refine r_goto (tgt := 16) hX dX7_findCheapest_72 (by decide) ?_
  refine V.mask [true, true, false, true, true, true, false] ?_
  exact hc16 I_13 x3 r_12 x_15 hf
noncomputable def X7_findCheapest_J46 (I : HI) (a0 : Nat) (x1 : Int32) (x5 : Int32) (x6 : Int32) (k16 : HI → Int32 → Int32 → Int32 → Option (Int32 × HI)) : Option (Int32 × HI) := bd1 (f_X2_take I ((a0 + 302)) ((a0 + 300))) fun I_10 => X7_findCheapest_J60 I_10 a0 x1 x6 x5 k16
set_option maxHeartbeats 4000000 in
set_option maxRecDepth 100000 in
theorem vX7_findCheapest_46 {X : CX} {I' : HI} {r : Int32} {I : HI} {J : HJ} (hX : OKX X cX7_findCheapest RX7 5 117 7) (hret : RetI X cX7_findCheapest r I' J) (a0 : Nat) (x1 : Int32) (x5 : Int32) (x6 : Int32) (hk0 : gK (xG X) a0 = 8) (k16 : HI → Int32 → Int32 → Int32 → Option (Int32 × HI)) (hc16 : ∀ (I : HI) (x3 : Int32) (x4 : Int32) (x5 : Int32), k16 I x3 x4 x5 = some (r, I') → V X I J 16 [some (.ref a0), some (.int x1), none, some (.int x3), some (.int x4), some (.int x5), none] []) (hf : X7_findCheapest_J46 I a0 x1 x5 x6 k16 = some (r, I')) : V X I J 46 [some (.ref a0), some (.int x1), none, none, none, some (.int x5), some (.int x6)] [] := by
  unfold X7_findCheapest_J46 at hf
  refine r_iload hX dX7_findCheapest_46 rfl ?_
  refine r_istore_n hX dX7_findCheapest_48 rfl rfl ?_
  refine r_aload_n hX dX7_findCheapest_49 rfl ?_
  refine g_7_8 hX fl_X7_55 hk0 dX7_findCheapest_50 ?_
  refine r_aload_n hX dX7_findCheapest_53 rfl ?_
  refine g_7_7 hX fl_X7_51 hk0 dX7_findCheapest_54 ?_
  obtain ⟨I_10, h_11, hf⟩ := bd1_some hf
  refine r_callV (As := [.ref ((a0 + 300))]) (ci := 2) hX (k_X2_take (l := xl X) (J := J) hX.ok ((q_8_8 hX hk0)) ((q_8_7 hX hk0)) h_11) pk_X2_take ml_X7_284 rfl rfl rfl rfl ((q_8_8 hX hk0)) rfl rfl rfl (Nat.le_of_ble_eq_true rfl) dX7_findCheapest_57 ?_
  refine V.mask [true, true, false, true, false, true, false] ?_
  exact vX7_findCheapest_60 hX hret a0 x1 x6 x5 hk0 k16 hc16 hf
noncomputable def X7_findCheapest_B16 (a0 : Nat) (x1 : Int32) (k16 : HI → Int32 → Int32 → Int32 → Option (Int32 × HI)) (I : HI) (x3 : Int32) (x4 : Int32) (x5 : Int32) : Option (Int32 × HI) := if x5 < (120 : Int32) then if x4 = 0 then some (x3, I) else bd2 (f_X7_triedCost I a0 x1) fun r_5 I_6 => if x5 = 0 then X7_findCheapest_J46 I_6 a0 x1 x5 r_5 k16 else if r_5 < x3 then X7_findCheapest_J46 I_6 a0 x1 x5 r_5 k16 else X7_findCheapest_J60 I_6 a0 x1 x3 x5 k16 else some (x3, I)
set_option maxHeartbeats 4000000 in
set_option maxRecDepth 100000 in
theorem vX7_findCheapest_16 {X : CX} {I' : HI} {r : Int32} {J : HJ} (hX : OKX X cX7_findCheapest RX7 5 117 7) (hret : RetI X cX7_findCheapest r I' J) (a0 : Nat) (x1 : Int32) (hk0 : gK (xG X) a0 = 8)   : ∀ (n : Nat) (I : HI) (x3 : Int32) (x4 : Int32) (x5 : Int32), wl4 (X7_findCheapest_B16 a0 x1) n I x3 x4 x5 = some (r, I') → V X I J 16 [some (.ref a0), some (.int x1), none, some (.int x3), some (.int x4), some (.int x5), none] [] := by
  refine wl4_V (P := fun (I : HI) (x3 : Int32) (x4 : Int32) (x5 : Int32) => V X I J 16 [some (.ref a0), some (.int x1), none, some (.int x3), some (.int x4), some (.int x5), none] []) ?_
  intro k16 hc16 I x3 x4 x5 hf
  unfold X7_findCheapest_B16 at hf
  refine r_iload hX dX7_findCheapest_16 rfl ?_
  refine r_bipush (v := 120) hX dX7_findCheapest_18 (by decide) ?_
  refine r_icmp_ge (tgt := 75) hX dX7_findCheapest_20 (by decide) (fun c_3 => ?_) (fun c_3 => ?_)
  · have hf := hf_t c_3 hf
    refine r_iload hX dX7_findCheapest_23 rfl ?_
    refine r_if_eq (tgt := 75) hX dX7_findCheapest_25 (by decide) (fun c_4 => ?_) (fun c_4 => ?_)
    · have hf := hf_t c_4 hf
      refine r_iload_n hX dX7_findCheapest_75 rfl ?_
      cases hf
      exact hret _ _ dX7_findCheapest_76
    · have hf := hf_f c_4 hf
      refine r_aload_n hX dX7_findCheapest_28 rfl ?_
      refine r_iload_n hX dX7_findCheapest_29 rfl ?_
      obtain ⟨r_5, I_6, h_7, hf⟩ := bd2_some hf
      refine r_callV (As := [.int x1]) (ci := 7) hX (k_X7_triedCost (l := xl X) (J := J) hX.ok hk0 h_7) pk_X7_triedCost ml_X7_281 rfl rfl rfl rfl hk0 rfl rfl rfl (Nat.le_of_ble_eq_true rfl) dX7_findCheapest_30 ?_
      refine r_istore hX dX7_findCheapest_33 rfl rfl ?_
      refine r_iload hX dX7_findCheapest_35 rfl ?_
      refine r_if_eq (tgt := 46) hX dX7_findCheapest_37 (by decide) (fun c_8 => ?_) (fun c_8 => ?_)
      · have hf := hf_t c_8 hf
        refine V.mask [true, true, false, false, false, true, true] ?_
        exact vX7_findCheapest_46 hX hret a0 x1 x5 r_5 hk0 k16 hc16 hf
      · have hf := hf_f c_8 hf
        refine r_iload hX dX7_findCheapest_40 rfl ?_
        refine r_iload_n hX dX7_findCheapest_42 rfl ?_
        refine r_icmp_ge (tgt := 60) hX dX7_findCheapest_43 (by decide) (fun c_9 => ?_) (fun c_9 => ?_)
        · have hf := hf_t c_9 hf
          refine V.mask [true, true, false, false, false, true, true] ?_
          exact vX7_findCheapest_46 hX hret a0 x1 x5 r_5 hk0 k16 hc16 hf
        · have hf := hf_f c_9 hf
          refine V.mask [true, true, false, true, false, true, false] ?_
          exact vX7_findCheapest_60 hX hret a0 x1 x3 x5 hk0 k16 hc16 hf
  · have hf := hf_f c_3 hf
    refine r_iload_n hX dX7_findCheapest_75 rfl ?_
    cases hf
    exact hret _ _ dX7_findCheapest_76
noncomputable def f_X7_findCheapest (I : HI) (a0 : Nat) (x1 : Int32) (x2 : Int32) : Option (Int32 × HI) := bd1 (f_X2_begin I ((a0 + 300)) x2) fun I_1 => wl4 (X7_findCheapest_B16 a0 x1) 5000 I_1 ((0 : Int32)) ((1 : Int32)) ((0 : Int32))
set_option maxHeartbeats 4000000 in
set_option maxRecDepth 100000 in
theorem k_X7_findCheapest {G : GX} {l : Launch} {I : HI} {J : HJ} {I' : HI} {r : Int32} (hG : OKG G) {a0 : Nat} {x1 : Int32} {x2 : Int32} (hk0 : gK G a0 = 8) (hf : f_X7_findCheapest I a0 x1 x2 = some (r, I')) : Ctr G l yX7_findCheapest cX7_findCheapest 7 (some .int) 5 117 [.ref a0, .int x1, .int x2] I J (some (.int r)) I' J := by
  refine ctr_I hG (by decide) [some (.ref a0), some (.int x1), some (.int x2), none, none, none, none] rfl rfl fun X e1 e2 hX hret => ?_
  subst e1; subst e2
  unfold f_X7_findCheapest at hf
  refine r_aload_n hX dX7_findCheapest_0 rfl ?_
  refine g_7_7 hX fl_X7_51 hk0 dX7_findCheapest_1 ?_
  refine r_iload_n hX dX7_findCheapest_4 rfl ?_
  obtain ⟨I_1, h_2, hf⟩ := bd1_some hf
  refine r_callV (As := [.int x2]) (ci := 2) hX (k_X2_begin (l := xl X) (J := J) hX.ok ((q_8_7 hX hk0)) h_2) pk_X2_begin ml_X7_278 rfl rfl rfl rfl ((q_8_7 hX hk0)) rfl rfl rfl (Nat.le_of_ble_eq_true rfl) dX7_findCheapest_5 ?_
  refine r_iconst (v := 0) hX dX7_findCheapest_8 rfl ?_
  refine r_istore_n hX dX7_findCheapest_9 rfl rfl ?_
  refine r_iconst (v := 1) hX dX7_findCheapest_10 rfl ?_
  refine r_istore hX dX7_findCheapest_11 rfl rfl ?_
  refine r_iconst (v := 0) hX dX7_findCheapest_13 rfl ?_
  refine r_istore hX dX7_findCheapest_14 rfl rfl ?_
  refine V.mask [true, true, false, true, true, true, false] ?_
  exact vX7_findCheapest_16 hX hret a0 x1 hk0 5000 I_1 ((0 : Int32)) ((1 : Int32)) ((0 : Int32)) hf
noncomputable def f_X7_order (I : HI) (a0 : Nat) (x1 : Int32) (x2 : Int32) (x3 : Int32) : Option (Int32 × HI) := bd1 (f_X1_proxyAt I ((a0 + 20)) x1) fun r_1 => mN r_1 (some ((-1 : Int32), I)) (fun a_3 => bd1 (f_J6_bitCount_0f7a4 x2) fun r_5 => if r_5 < (1 : Int32) then some ((-2 : Int32), I) else if (5 : Int32) < r_5 then some ((-2 : Int32), I) else if x3 < (-1 : Int32) then some ((-2 : Int32), I) else bd2 (f_X7_findCheapest I a0 x1 x2) fun r_10 I_11 => if x3 < 0 then some (r_10, I_11) else bd1 (f_X2_pageAt I_11 ((a0 + 302)) x3) fun r_14 => some (r_14, I_11))
set_option maxHeartbeats 4000000 in
set_option maxRecDepth 100000 in
theorem k_X7_order {G : GX} {l : Launch} {I : HI} {J : HJ} {I' : HI} {r : Int32} (hG : OKG G) {a0 : Nat} {x1 : Int32} {x2 : Int32} {x3 : Int32} (hk0 : gK G a0 = 8) (hf : f_X7_order I a0 x1 x2 x3 = some (r, I')) : Ctr G l yX7_order cX7_order 6 (some .int) 6 143 [.ref a0, .int x1, .int x2, .int x3] I J (some (.int r)) I' J := by
  refine ctr_I hG (by decide) [some (.ref a0), some (.int x1), some (.int x2), some (.int x3), none, none] rfl rfl fun X e1 e2 hX hret => ?_
  subst e1; subst e2
  unfold f_X7_order at hf
  refine r_aload_n hX dX7_order_0 rfl ?_
  refine g_7_1 hX fl_X7_19 hk0 dX7_order_1 ?_
  refine r_iload_n hX dX7_order_4 rfl ?_
  obtain ⟨r_1, h_2, hf⟩ := bd1_some hf
  refine r_callV (As := [.int x1]) (ci := 1) hX (k_X1_proxyAt (l := xl X) (J := J) hX.ok ((q_8_1 hX hk0)) h_2) pk_X1_proxyAt ml_X7_94 rfl rfl rfl rfl ((q_8_1 hX hk0)) rfl rfl rfl (Nat.le_of_ble_eq_true rfl) dX7_order_5 ?_
  cases r_1 with
  | none =>
    have hf := mN_n hf
    refine r_ifnonnull_n hX dX7_order_8 ?_
    refine r_iconst (v := -1) hX dX7_order_11 rfl ?_
    cases hf
    exact hret _ _ dX7_order_12
  | some a_3 =>
    have hf := mN_s hf
    have hk_4 := kt_X1_proxyAt hX.ok ((q_8_1 hX hk0)) h_2
    refine r_ifnonnull_r (tgt := 13) hX dX7_order_8 (by decide) ?_
    refine r_iload_n hX dX7_order_13 rfl ?_
    obtain ⟨r_5, h_6, hf⟩ := bd1_some hf
    refine r_callS (As := [.int x2]) hX (k_J6_bitCount_0f7a4 (l := xl X) (I := I) (J := J) hX.ok  h_6) pk_J6_bitCount_0f7a4 ml_X7_122 rfl rfl rfl (Nat.le_of_ble_eq_true rfl) dX7_order_14 ?_
    refine r_istore hX dX7_order_17 rfl rfl ?_
    refine r_iload hX dX7_order_19 rfl ?_
    refine r_iconst (v := 1) hX dX7_order_21 rfl ?_
    refine r_icmp_lt (tgt := 36) hX dX7_order_22 (by decide) (fun c_7 => ?_) (fun c_7 => ?_)
    · have hf := hf_t c_7 hf
      refine r_bipush (v := -2) hX dX7_order_36 (by decide) ?_
      cases hf
      exact hret _ _ dX7_order_38
    · have hf := hf_f c_7 hf
      refine r_iload hX dX7_order_25 rfl ?_
      refine r_iconst (v := 5) hX dX7_order_27 rfl ?_
      refine r_icmp_gt (tgt := 36) hX dX7_order_28 (by decide) (fun c_8 => ?_) (fun c_8 => ?_)
      · have hf := hf_t c_8 hf
        refine r_bipush (v := -2) hX dX7_order_36 (by decide) ?_
        cases hf
        exact hret _ _ dX7_order_38
      · have hf := hf_f c_8 hf
        refine r_iload_n hX dX7_order_31 rfl ?_
        refine r_iconst (v := -1) hX dX7_order_32 rfl ?_
        refine r_icmp_ge (tgt := 39) hX dX7_order_33 (by decide) (fun c_9 => ?_) (fun c_9 => ?_)
        · have hf := hf_t c_9 hf
          refine r_bipush (v := -2) hX dX7_order_36 (by decide) ?_
          cases hf
          exact hret _ _ dX7_order_38
        · have hf := hf_f c_9 hf
          refine r_aload_n hX dX7_order_39 rfl ?_
          refine r_iload_n hX dX7_order_40 rfl ?_
          refine r_iload_n hX dX7_order_41 rfl ?_
          obtain ⟨r_10, I_11, h_12, hf⟩ := bd2_some hf
          refine r_callV (As := [.int x1, .int x2]) (ci := 7) hX (k_X7_findCheapest (l := xl X) (J := J) hX.ok hk0 h_12) pk_X7_findCheapest ml_X7_216 rfl rfl rfl rfl hk0 rfl rfl rfl (Nat.le_of_ble_eq_true rfl) dX7_order_42 ?_
          refine r_istore hX dX7_order_45 rfl rfl ?_
          refine r_iload_n hX dX7_order_47 rfl ?_
          refine r_if_ge (tgt := 54) hX dX7_order_48 (by decide) (fun c_13 => ?_) (fun c_13 => ?_)
          · have hf := hf_t c_13 hf
            refine r_iload hX dX7_order_51 rfl ?_
            cases hf
            exact hret _ _ dX7_order_53
          · have hf := hf_f c_13 hf
            refine r_aload_n hX dX7_order_54 rfl ?_
            refine g_7_8 hX fl_X7_55 hk0 dX7_order_55 ?_
            refine r_iload_n hX dX7_order_58 rfl ?_
            obtain ⟨r_14, h_15, hf⟩ := bd1_some hf
            refine r_callV (As := [.int x3]) (ci := 2) hX (k_X2_pageAt (l := xl X) (J := J) hX.ok ((q_8_8 hX hk0)) h_15) pk_X2_pageAt ml_X7_219 rfl rfl rfl rfl ((q_8_8 hX hk0)) rfl rfl rfl (Nat.le_of_ble_eq_true rfl) dX7_order_59 ?_
            cases hf
            exact hret _ _ dX7_order_62
noncomputable def X7_holds_J215 (I : HI) (sx0 : Int32) (sx1 : Int32) : Option (Int32 × HI) := if sx0 = sx1 then some ((1 : Int32), I) else some ((0 : Int32), I)
set_option maxHeartbeats 4000000 in
set_option maxRecDepth 100000 in
theorem vX7_holds_215 {X : CX} {I' : HI} {r : Int32} {I : HI} {J : HJ} (hX : OKX X cX7_holds RX7 4 95 7) (hret : RetZ X cX7_holds r I' J) (sx0 : Int32) (sx1 : Int32)    (hf : X7_holds_J215 I sx0 sx1 = some (r, I')) : V X I J 215 [none, none, none, none, none, none, none] [.int sx1, .int sx0] := by
  unfold X7_holds_J215 at hf
  refine r_icmp_ne (tgt := 222) hX dX7_holds_215 (by decide) (fun c_51 => ?_) (fun c_51 => ?_)
  · have hf := hf_t c_51 hf
    refine r_iconst (v := 1) hX dX7_holds_218 rfl ?_
    refine r_goto (tgt := 223) hX dX7_holds_219 (by decide) ?_
    cases hf
    exact hret _ _ zb_1 dX7_holds_223
  · have hf := hf_f c_51 hf
    refine r_iconst (v := 0) hX dX7_holds_222 rfl ?_
    cases hf
    exact hret _ _ zb_0 dX7_holds_223
noncomputable def X7_holds_J250 (I : HI) (sx0 : Int32) (sx1 : Int32) : Option (Int32 × HI) := if sx0 = sx1 then some ((1 : Int32), I) else some ((0 : Int32), I)
set_option maxHeartbeats 4000000 in
set_option maxRecDepth 100000 in
theorem vX7_holds_250 {X : CX} {I' : HI} {r : Int32} {I : HI} {J : HJ} (hX : OKX X cX7_holds RX7 4 95 7) (hret : RetZ X cX7_holds r I' J) (sx0 : Int32) (sx1 : Int32)    (hf : X7_holds_J250 I sx0 sx1 = some (r, I')) : V X I J 250 [none, none, none, none, none, none, none] [.int sx1, .int sx0] := by
  unfold X7_holds_J250 at hf
  refine r_icmp_ne (tgt := 257) hX dX7_holds_250 (by decide) (fun c_52 => ?_) (fun c_52 => ?_)
  · have hf := hf_t c_52 hf
    refine r_iconst (v := 1) hX dX7_holds_253 rfl ?_
    refine r_goto (tgt := 258) hX dX7_holds_254 (by decide) ?_
    cases hf
    exact hret _ _ zb_1 dX7_holds_258
  · have hf := hf_f c_52 hf
    refine r_iconst (v := 0) hX dX7_holds_257 rfl ?_
    cases hf
    exact hret _ _ zb_0 dX7_holds_258
noncomputable def f_X7_holds (I : HI) (a0 : Nat) (x1 : Int32) : Option (Int32 × HI) := lt1 ((x1 / (10000 : Int32))) fun x_1 => lt1 ((jrem ((x1 / (1000 : Int32))) ((10 : Int32)))) fun x_2 => lt1 ((jrem ((x1 / (10 : Int32))) ((100 : Int32)))) fun x_3 => lt1 ((jrem x1 ((10 : Int32)))) fun x_4 => if x_1 = (7 : Int32) then if x_3 = 0 then if x_4 = 0 then bd2 (f_X1_adopt I a0 x_2) fun r_8 I_9 => if r_8 = 0 then some ((0 : Int32), I_9) else some ((1 : Int32), I_9) else some ((0 : Int32), I) else some ((0 : Int32), I) else bd1 (f_X1_proxyAt I a0 x_2) fun r_12 => mN r_12 (some ((0 : Int32), I)) (fun a_14 => bd1 (f_X7_isPage x_3) fun r_16 => if r_16 = 0 then some ((0 : Int32), I) else if x_1 = 1 then if x_4 = 0 then bd2 (f_X1_request I a0 x_2 x_3) fun r_21 I_22 => if r_21 = (-1 : Int32) then some ((0 : Int32), I_22) else some ((1 : Int32), I_22) else some ((0 : Int32), I) else if x_1 = 2 then if x_4 = 0 then bd2 (f_X1_discard I a0 a_14 x_3) fun r_27 I_28 => if r_27 = 0 then some ((0 : Int32), I_28) else some ((1 : Int32), I_28) else some ((0 : Int32), I) else if x_1 = 3 then if x_3 = 0 then if x_4 = 0 then bd2 (f_X1_spread I a0 a_14) fun r_34 I_35 => if r_34 = 0 then some ((0 : Int32), I_35) else some ((1 : Int32), I_35) else some ((0 : Int32), I) else some ((0 : Int32), I) else if x_1 = 4 then if (1 : Int32) < x_4 then some ((0 : Int32), I) else bd1 (f_X1_isSo I a0 a_14 ((0 : Int32)) x_3) fun r_40 => if x_4 = (1 : Int32) then X7_holds_J215 I r_40 ((1 : Int32)) else X7_holds_J215 I r_40 ((0 : Int32)) else if x_1 = 5 then if (1 : Int32) < x_4 then some ((0 : Int32), I) else bd1 (f_X1_isSo I a0 a_14 ((1 : Int32)) x_3) fun r_45 => if x_4 = (1 : Int32) then X7_holds_J250 I r_45 ((1 : Int32)) else X7_holds_J250 I r_45 ((0 : Int32)) else if x_1 = 6 then if x_3 = 0 then if (I a_14 3) = x_4 then some ((1 : Int32), I) else some ((0 : Int32), I) else some ((0 : Int32), I) else some ((0 : Int32), I))
set_option maxHeartbeats 4000000 in
set_option maxRecDepth 100000 in
theorem k_X7_holds {G : GX} {l : Launch} {I : HI} {J : HJ} {I' : HI} {r : Int32} (hG : OKG G) {a0 : Nat} {x1 : Int32} (hk0 : gK G a0 = 2) (hf : f_X7_holds I a0 x1 = some (r, I')) : Ctr G l yX7_holds cX7_holds 7 (some .boolean) 4 95 [.ref a0, .int x1] I J (some (.int r)) I' J := by
  refine ctr_Zb hG (by decide) [some (.ref a0), some (.int x1), none, none, none, none, none] rfl rfl fun X e1 e2 hX hret => ?_
  subst e1; subst e2
  unfold f_X7_holds at hf
  refine r_iload_n hX dX7_holds_0 rfl ?_
  refine r_sipush (v := 10000) hX dX7_holds_1 (by decide) ?_
  refine r_idiv hX dX7_holds_4 (by decide) ?_
  obtain ⟨x_1, ex_1, hf⟩ := lt1_some hf
  refine V.topi ex_1 ?_
  refine r_istore_n hX dX7_holds_5 rfl rfl ?_
  refine r_iload_n hX dX7_holds_6 rfl ?_
  refine r_sipush (v := 1000) hX dX7_holds_7 (by decide) ?_
  refine r_idiv hX dX7_holds_10 (by decide) ?_
  refine r_bipush (v := 10) hX dX7_holds_11 (by decide) ?_
  refine r_irem hX dX7_holds_13 (by decide) ?_
  obtain ⟨x_2, ex_2, hf⟩ := lt1_some hf
  refine V.topi ex_2 ?_
  refine r_istore_n hX dX7_holds_14 rfl rfl ?_
  refine r_iload_n hX dX7_holds_15 rfl ?_
  refine r_bipush (v := 10) hX dX7_holds_16 (by decide) ?_
  refine r_idiv hX dX7_holds_18 (by decide) ?_
  refine r_bipush (v := 100) hX dX7_holds_19 (by decide) ?_
  refine r_irem hX dX7_holds_21 (by decide) ?_
  obtain ⟨x_3, ex_3, hf⟩ := lt1_some hf
  refine V.topi ex_3 ?_
  refine r_istore hX dX7_holds_22 rfl rfl ?_
  refine r_iload_n hX dX7_holds_24 rfl ?_
  refine r_bipush (v := 10) hX dX7_holds_25 (by decide) ?_
  refine r_irem hX dX7_holds_27 (by decide) ?_
  obtain ⟨x_4, ex_4, hf⟩ := lt1_some hf
  refine V.topi ex_4 ?_
  refine r_istore hX dX7_holds_28 rfl rfl ?_
  refine r_iload_n hX dX7_holds_30 rfl ?_
  refine r_bipush (v := 7) hX dX7_holds_31 (by decide) ?_
  refine r_icmp_ne (tgt := 60) hX dX7_holds_33 (by decide) (fun c_5 => ?_) (fun c_5 => ?_)
  · have hf := hf_t c_5 hf
    refine r_iload hX dX7_holds_36 rfl ?_
    refine r_if_ne (tgt := 58) hX dX7_holds_38 (by decide) (fun c_6 => ?_) (fun c_6 => ?_)
    · have hf := hf_t c_6 hf
      refine r_iload hX dX7_holds_41 rfl ?_
      refine r_if_ne (tgt := 58) hX dX7_holds_43 (by decide) (fun c_7 => ?_) (fun c_7 => ?_)
      · have hf := hf_t c_7 hf
        refine r_aload_n hX dX7_holds_46 rfl ?_
        refine r_iload_n hX dX7_holds_47 rfl ?_
        obtain ⟨r_8, I_9, h_10, hf⟩ := bd2_some hf
        refine r_callV (As := [.int x_2]) (ci := 1) hX (k_X1_adopt (l := xl X) (J := J) hX.ok hk0 h_10) pk_X1_adopt ml_X7_185 rfl rfl rfl rfl hk0 rfl rfl rfl (Nat.le_of_ble_eq_true rfl) dX7_holds_48 ?_
        refine r_if_eq (tgt := 58) hX dX7_holds_51 (by decide) (fun c_11 => ?_) (fun c_11 => ?_)
        · have hf := hf_t c_11 hf
          refine r_iconst (v := 0) hX dX7_holds_58 rfl ?_
          cases hf
          exact hret _ _ zb_0 dX7_holds_59
        · have hf := hf_f c_11 hf
          refine r_iconst (v := 1) hX dX7_holds_54 rfl ?_
          refine r_goto (tgt := 59) hX dX7_holds_55 (by decide) ?_
          cases hf
          exact hret _ _ zb_1 dX7_holds_59
      · have hf := hf_f c_7 hf
        refine r_iconst (v := 0) hX dX7_holds_58 rfl ?_
        cases hf
        exact hret _ _ zb_0 dX7_holds_59
    · have hf := hf_f c_6 hf
      refine r_iconst (v := 0) hX dX7_holds_58 rfl ?_
      cases hf
      exact hret _ _ zb_0 dX7_holds_59
  · have hf := hf_f c_5 hf
    refine r_aload_n hX dX7_holds_60 rfl ?_
    refine r_iload_n hX dX7_holds_61 rfl ?_
    obtain ⟨r_12, h_13, hf⟩ := bd1_some hf
    refine r_callV (As := [.int x_2]) (ci := 1) hX (k_X1_proxyAt (l := xl X) (J := J) hX.ok hk0 h_13) pk_X1_proxyAt ml_X7_94 rfl rfl rfl rfl hk0 rfl rfl rfl (Nat.le_of_ble_eq_true rfl) dX7_holds_62 ?_
    cases r_12 with
    | none =>
      have hf := mN_n hf
      refine r_astoreN hX dX7_holds_65 rfl rfl ?_
      refine r_aloadN hX dX7_holds_67 rfl ?_
      refine r_ifnull_n (tgt := 80) hX dX7_holds_69 (by decide) ?_
      refine r_iconst (v := 0) hX dX7_holds_80 rfl ?_
      cases hf
      exact hret _ _ zb_0 dX7_holds_81
    | some a_14 =>
      have hf := mN_s hf
      have hk_15 := kt_X1_proxyAt hX.ok hk0 h_13
      refine r_astore hX dX7_holds_65 rfl rfl ?_
      refine r_aload hX dX7_holds_67 rfl ?_
      refine r_ifnull_r hX dX7_holds_69 ?_
      refine r_iload hX dX7_holds_72 rfl ?_
      obtain ⟨r_16, h_17, hf⟩ := bd1_some hf
      refine r_callS (As := [.int x_3]) hX (k_X7_isPage (l := xl X) (I := I) (J := J) hX.ok  h_17) pk_X7_isPage ml_X7_147 rfl rfl rfl (Nat.le_of_ble_eq_true rfl) dX7_holds_74 ?_
      refine r_if_ne (tgt := 82) hX dX7_holds_77 (by decide) (fun c_18 => ?_) (fun c_18 => ?_)
      · have hf := hf_t c_18 hf
        refine r_iconst (v := 0) hX dX7_holds_80 rfl ?_
        cases hf
        exact hret _ _ zb_0 dX7_holds_81
      · have hf := hf_f c_18 hf
        refine r_iload_n hX dX7_holds_82 rfl ?_
        by_cases c_19 : x_1 = 1
        · have hf := hf_t c_19 hf
          refine r_tsw (off := 37) (tgt := 120) hX 1 dX7_holds_83 c_19 (by decide) (by decide) (by decide) (by decide) ?_
          refine r_iload hX dX7_holds_120 rfl ?_
          refine r_if_ne (tgt := 140) hX dX7_holds_122 (by decide) (fun c_20 => ?_) (fun c_20 => ?_)
          · have hf := hf_t c_20 hf
            refine r_aload_n hX dX7_holds_125 rfl ?_
            refine r_iload_n hX dX7_holds_126 rfl ?_
            refine r_iload hX dX7_holds_127 rfl ?_
            obtain ⟨r_21, I_22, h_23, hf⟩ := bd2_some hf
            refine r_callV (As := [.int x_2, .int x_3]) (ci := 1) hX (k_X1_request (l := xl X) (J := J) hX.ok hk0 h_23) pk_X1_request ml_X7_164 rfl rfl rfl rfl hk0 rfl rfl rfl (Nat.le_of_ble_eq_true rfl) dX7_holds_129 ?_
            refine r_iconst (v := -1) hX dX7_holds_132 rfl ?_
            refine r_icmp_eq (tgt := 140) hX dX7_holds_133 (by decide) (fun c_24 => ?_) (fun c_24 => ?_)
            · have hf := hf_t c_24 hf
              refine r_iconst (v := 0) hX dX7_holds_140 rfl ?_
              cases hf
              exact hret _ _ zb_0 dX7_holds_141
            · have hf := hf_f c_24 hf
              refine r_iconst (v := 1) hX dX7_holds_136 rfl ?_
              refine r_goto (tgt := 141) hX dX7_holds_137 (by decide) ?_
              cases hf
              exact hret _ _ zb_1 dX7_holds_141
          · have hf := hf_f c_20 hf
            refine r_iconst (v := 0) hX dX7_holds_140 rfl ?_
            cases hf
            exact hret _ _ zb_0 dX7_holds_141
        have hf := hf_f c_19 hf
        by_cases c_25 : x_1 = 2
        · have hf := hf_t c_25 hf
          refine r_tsw (off := 59) (tgt := 142) hX 2 dX7_holds_83 c_25 (by decide) (by decide) (by decide) (by decide) ?_
          refine r_iload hX dX7_holds_142 rfl ?_
          refine r_if_ne (tgt := 162) hX dX7_holds_144 (by decide) (fun c_26 => ?_) (fun c_26 => ?_)
          · have hf := hf_t c_26 hf
            refine r_aload_n hX dX7_holds_147 rfl ?_
            refine r_aload hX dX7_holds_148 rfl ?_
            refine r_iload hX dX7_holds_150 rfl ?_
            obtain ⟨r_27, I_28, h_29, hf⟩ := bd2_some hf
            refine r_callV (As := [.ref a_14, .int x_3]) (ci := 1) hX (k_X1_discard (l := xl X) (J := J) hX.ok hk0 hk_15 h_29) pk_X1_discard ml_X7_171 rfl rfl rfl rfl hk0 rfl rfl rfl (Nat.le_of_ble_eq_true rfl) dX7_holds_152 ?_
            refine r_if_eq (tgt := 162) hX dX7_holds_155 (by decide) (fun c_30 => ?_) (fun c_30 => ?_)
            · have hf := hf_t c_30 hf
              refine r_iconst (v := 0) hX dX7_holds_162 rfl ?_
              cases hf
              exact hret _ _ zb_0 dX7_holds_163
            · have hf := hf_f c_30 hf
              refine r_iconst (v := 1) hX dX7_holds_158 rfl ?_
              refine r_goto (tgt := 163) hX dX7_holds_159 (by decide) ?_
              cases hf
              exact hret _ _ zb_1 dX7_holds_163
          · have hf := hf_f c_26 hf
            refine r_iconst (v := 0) hX dX7_holds_162 rfl ?_
            cases hf
            exact hret _ _ zb_0 dX7_holds_163
        have hf := hf_f c_25 hf
        by_cases c_31 : x_1 = 3
        · have hf := hf_t c_31 hf
          refine r_tsw (off := 81) (tgt := 164) hX 3 dX7_holds_83 c_31 (by decide) (by decide) (by decide) (by decide) ?_
          refine r_iload hX dX7_holds_164 rfl ?_
          refine r_if_ne (tgt := 187) hX dX7_holds_166 (by decide) (fun c_32 => ?_) (fun c_32 => ?_)
          · have hf := hf_t c_32 hf
            refine r_iload hX dX7_holds_169 rfl ?_
            refine r_if_ne (tgt := 187) hX dX7_holds_171 (by decide) (fun c_33 => ?_) (fun c_33 => ?_)
            · have hf := hf_t c_33 hf
              refine r_aload_n hX dX7_holds_174 rfl ?_
              refine r_aload hX dX7_holds_175 rfl ?_
              obtain ⟨r_34, I_35, h_36, hf⟩ := bd2_some hf
              refine r_callV (As := [.ref a_14]) (ci := 1) hX (k_X1_spread (l := xl X) (J := J) hX.ok hk0 hk_15 h_36) pk_X1_spread ml_X7_175 rfl rfl rfl rfl hk0 rfl rfl rfl (Nat.le_of_ble_eq_true rfl) dX7_holds_177 ?_
              refine r_if_eq (tgt := 187) hX dX7_holds_180 (by decide) (fun c_37 => ?_) (fun c_37 => ?_)
              · have hf := hf_t c_37 hf
                refine r_iconst (v := 0) hX dX7_holds_187 rfl ?_
                cases hf
                exact hret _ _ zb_0 dX7_holds_188
              · have hf := hf_f c_37 hf
                refine r_iconst (v := 1) hX dX7_holds_183 rfl ?_
                refine r_goto (tgt := 188) hX dX7_holds_184 (by decide) ?_
                cases hf
                exact hret _ _ zb_1 dX7_holds_188
            · have hf := hf_f c_33 hf
              refine r_iconst (v := 0) hX dX7_holds_187 rfl ?_
              cases hf
              exact hret _ _ zb_0 dX7_holds_188
          · have hf := hf_f c_32 hf
            refine r_iconst (v := 0) hX dX7_holds_187 rfl ?_
            cases hf
            exact hret _ _ zb_0 dX7_holds_188
        have hf := hf_f c_31 hf
        by_cases c_38 : x_1 = 4
        · have hf := hf_t c_38 hf
          refine r_tsw (off := 106) (tgt := 189) hX 4 dX7_holds_83 c_38 (by decide) (by decide) (by decide) (by decide) ?_
          refine r_iload hX dX7_holds_189 rfl ?_
          refine r_iconst (v := 1) hX dX7_holds_191 rfl ?_
          refine r_icmp_gt (tgt := 222) hX dX7_holds_192 (by decide) (fun c_39 => ?_) (fun c_39 => ?_)
          · have hf := hf_t c_39 hf
            refine r_iconst (v := 0) hX dX7_holds_222 rfl ?_
            cases hf
            exact hret _ _ zb_0 dX7_holds_223
          · have hf := hf_f c_39 hf
            refine r_aload_n hX dX7_holds_195 rfl ?_
            refine r_aload hX dX7_holds_196 rfl ?_
            refine r_iconst (v := 0) hX dX7_holds_198 rfl ?_
            refine r_iload hX dX7_holds_199 rfl ?_
            obtain ⟨r_40, h_41, hf⟩ := bd1_some hf
            refine r_callV (As := [.ref a_14, .int ((0 : Int32)), .int x_3]) (ci := 1) hX (k_X1_isSo (l := xl X) (J := J) hX.ok hk0 hk_15 h_41) pk_X1_isSo ml_X7_157 rfl rfl rfl rfl hk0 rfl rfl rfl (Nat.le_of_ble_eq_true rfl) dX7_holds_201 ?_
            refine r_iload hX dX7_holds_204 rfl ?_
            refine r_iconst (v := 1) hX dX7_holds_206 rfl ?_
            refine r_icmp_ne (tgt := 214) hX dX7_holds_207 (by decide) (fun c_42 => ?_) (fun c_42 => ?_)
            · have hf := hf_t c_42 hf
              refine r_iconst (v := 1) hX dX7_holds_210 rfl ?_
              refine r_goto (tgt := 215) hX dX7_holds_211 (by decide) ?_
              refine V.mask [false, false, false, false, false, false, false] ?_
              exact vX7_holds_215 hX hret r_40 ((1 : Int32)) hf
            · have hf := hf_f c_42 hf
              refine r_iconst (v := 0) hX dX7_holds_214 rfl ?_
              refine V.mask [false, false, false, false, false, false, false] ?_
              exact vX7_holds_215 hX hret r_40 ((0 : Int32)) hf
        have hf := hf_f c_38 hf
        by_cases c_43 : x_1 = 5
        · have hf := hf_t c_43 hf
          refine r_tsw (off := 141) (tgt := 224) hX 5 dX7_holds_83 c_43 (by decide) (by decide) (by decide) (by decide) ?_
          refine r_iload hX dX7_holds_224 rfl ?_
          refine r_iconst (v := 1) hX dX7_holds_226 rfl ?_
          refine r_icmp_gt (tgt := 257) hX dX7_holds_227 (by decide) (fun c_44 => ?_) (fun c_44 => ?_)
          · have hf := hf_t c_44 hf
            refine r_iconst (v := 0) hX dX7_holds_257 rfl ?_
            cases hf
            exact hret _ _ zb_0 dX7_holds_258
          · have hf := hf_f c_44 hf
            refine r_aload_n hX dX7_holds_230 rfl ?_
            refine r_aload hX dX7_holds_231 rfl ?_
            refine r_iconst (v := 1) hX dX7_holds_233 rfl ?_
            refine r_iload hX dX7_holds_234 rfl ?_
            obtain ⟨r_45, h_46, hf⟩ := bd1_some hf
            refine r_callV (As := [.ref a_14, .int ((1 : Int32)), .int x_3]) (ci := 1) hX (k_X1_isSo (l := xl X) (J := J) hX.ok hk0 hk_15 h_46) pk_X1_isSo ml_X7_157 rfl rfl rfl rfl hk0 rfl rfl rfl (Nat.le_of_ble_eq_true rfl) dX7_holds_236 ?_
            refine r_iload hX dX7_holds_239 rfl ?_
            refine r_iconst (v := 1) hX dX7_holds_241 rfl ?_
            refine r_icmp_ne (tgt := 249) hX dX7_holds_242 (by decide) (fun c_47 => ?_) (fun c_47 => ?_)
            · have hf := hf_t c_47 hf
              refine r_iconst (v := 1) hX dX7_holds_245 rfl ?_
              refine r_goto (tgt := 250) hX dX7_holds_246 (by decide) ?_
              refine V.mask [false, false, false, false, false, false, false] ?_
              exact vX7_holds_250 hX hret r_45 ((1 : Int32)) hf
            · have hf := hf_f c_47 hf
              refine r_iconst (v := 0) hX dX7_holds_249 rfl ?_
              refine V.mask [false, false, false, false, false, false, false] ?_
              exact vX7_holds_250 hX hret r_45 ((0 : Int32)) hf
        have hf := hf_f c_43 hf
        by_cases c_48 : x_1 = 6
        · have hf := hf_t c_48 hf
          refine r_tsw (off := 176) (tgt := 259) hX 6 dX7_holds_83 c_48 (by decide) (by decide) (by decide) (by decide) ?_
          refine r_iload hX dX7_holds_259 rfl ?_
          refine r_if_ne (tgt := 278) hX dX7_holds_261 (by decide) (fun c_49 => ?_) (fun c_49 => ?_)
          · have hf := hf_t c_49 hf
            refine r_aload hX dX7_holds_264 rfl ?_
            refine g_4_3 hX fl_X7_109 hk_15 dX7_holds_266 ?_
            refine r_iload hX dX7_holds_269 rfl ?_
            refine r_icmp_ne (tgt := 278) hX dX7_holds_271 (by decide) (fun c_50 => ?_) (fun c_50 => ?_)
            · have hf := hf_t c_50 hf
              refine r_iconst (v := 1) hX dX7_holds_274 rfl ?_
              refine r_goto (tgt := 279) hX dX7_holds_275 (by decide) ?_
              cases hf
              exact hret _ _ zb_1 dX7_holds_279
            · have hf := hf_f c_50 hf
              refine r_iconst (v := 0) hX dX7_holds_278 rfl ?_
              cases hf
              exact hret _ _ zb_0 dX7_holds_279
          · have hf := hf_f c_49 hf
            refine r_iconst (v := 0) hX dX7_holds_278 rfl ?_
            cases hf
            exact hret _ _ zb_0 dX7_holds_279
        have hf := hf_f c_48 hf
        refine r_tswD (tgt := 280) hX dX7_holds_83 [1, 2, 3, 4, 5, 6] (by decide) (List.forall_mem_cons.mpr ⟨c_19, List.forall_mem_cons.mpr ⟨c_25, List.forall_mem_cons.mpr ⟨c_31, List.forall_mem_cons.mpr ⟨c_38, List.forall_mem_cons.mpr ⟨c_43, List.forall_mem_cons.mpr ⟨c_48, (fun _ h => absurd h List.not_mem_nil)⟩⟩⟩⟩⟩⟩) (by decide) ?_
        refine r_iconst (v := 0) hX dX7_holds_280 rfl ?_
        cases hf
        exact hret _ _ zb_0 dX7_holds_281

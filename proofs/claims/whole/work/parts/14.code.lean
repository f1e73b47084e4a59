noncomputable def X8_readShelf_J29 (I : HI) (a0 : Nat) (x2 : Int32) (sx0 : Int32) (k4 : Int32 → Int32 → Option (Int32 × HI)) : Option (Int32 × HI) := lt1 (x2 + (1 : Int32)) fun x_49 => k4 sx0 x_49
set_option maxHeartbeats 4000000 in
set_option maxRecDepth 100000 in
theorem vX8_readShelf_29 {X : CX} {I' : HI} {r : Int32} {I : HI} {J : HJ} (hX : OKX X cX8_readShelf RX8 2 50 4) (hret : RetZ X cX8_readShelf r I' J) (a0 : Nat) (x2 : Int32) (sx0 : Int32) (hk0 : gK (xG X) a0 = 9) (k4 : Int32 → Int32 → Option (Int32 × HI)) (hc4 : ∀ (x1 : Int32) (x2 : Int32), k4 x1 x2 = some (r, I') → V X I J 4 [some (.ref a0), some (.int x1), some (.int x2), none] []) (hf : X8_readShelf_J29 I a0 x2 sx0 k4 = some (r, I')) : V X I J 29 [some (.ref a0), none, some (.int x2), none] [.int sx0] := by
  unfold X8_readShelf_J29 at hf
  refine r_istore_n hX dX8_readShelf_29 rfl rfl ?_
  obtain ⟨x_49, ex_49, hf⟩ := lt1_some hf
  refine r_iincE (n' := 1) ex_49 hX dX8_readShelf_30 rfl rfl rfl rfl ?_
  refine r_goto (tgt := 4) hX dX8_readShelf_33 (by decide) ?_
  refine V.mask [true, true, true, false] ?_
  exact hc4 sx0 x_49 hf
noncomputable def X8_readShelf_J24 (I : HI) (a0 : Nat) (x2 : Int32) (k4 : Int32 → Int32 → Option (Int32 × HI)) : Option (Int32 × HI) := X8_readShelf_J29 I a0 x2 ((1 : Int32)) k4
set_option maxHeartbeats 4000000 in
set_option maxRecDepth 100000 in
theorem vX8_readShelf_24 {X : CX} {I' : HI} {r : Int32} {I : HI} {J : HJ} (hX : OKX X cX8_readShelf RX8 2 50 4) (hret : RetZ X cX8_readShelf r I' J) (a0 : Nat) (x2 : Int32) (hk0 : gK (xG X) a0 = 9) (k4 : Int32 → Int32 → Option (Int32 × HI)) (hc4 : ∀ (x1 : Int32) (x2 : Int32), k4 x1 x2 = some (r, I') → V X I J 4 [some (.ref a0), some (.int x1), some (.int x2), none] []) (hf : X8_readShelf_J24 I a0 x2 k4 = some (r, I')) : V X I J 24 [some (.ref a0), none, some (.int x2), none] [] := by
  unfold X8_readShelf_J24 at hf
  refine r_iconst (v := 1) hX dX8_readShelf_24 rfl ?_
  refine r_goto (tgt := 29) hX dX8_readShelf_25 (by decide) ?_
  refine V.mask [true, false, true, false] ?_
  exact vX8_readShelf_29 hX hret a0 x2 ((1 : Int32)) hk0 k4 hc4 hf
noncomputable def X8_readShelf_B4 (I : HI) (a0 : Nat) (k4 : Int32 → Int32 → Option (Int32 × HI)) (x1 : Int32) (x2 : Int32) : Option (Int32 × HI) := if x2 < (I a0 16) then if x1 = 0 then bd1 (f_X8_hasRoom I a0 x2) fun r_3 => if r_3 = 0 then X8_readShelf_J29 I a0 x2 ((0 : Int32)) k4 else X8_readShelf_J24 I a0 x2 k4 else X8_readShelf_J24 I a0 x2 k4 else if x1 = 0 then some ((0 : Int32), I) else lt1 (sI I a0 3 (((I a0 3) + (1 : Int32)))) fun I_7 => if (I_7 a0 3) = (I_7 a0 2) then some ((0 : Int32), I_7) else gd (vp_in ((I_7 a0 3)) 100) (bd1 (f_X8_in ((((I_7 ((a0 + 1)) ((I_7 a0 3)).toNatClampNeg) - (48 : Int32))).toInt64) ((0 : Int64)) ((((I_7 a0 16) - (1 : Int32))).toInt64)) fun r_10 => if r_10 = 0 then some ((0 : Int32), I_7) else gd (vp_in ((I_7 a0 3)) 100) (bd1 (f_X8_hasRoom I_7 a0 (((I_7 ((a0 + 1)) ((I_7 a0 3)).toNatClampNeg) - (48 : Int32)))) fun r_14 => if r_14 = 0 then some ((0 : Int32), I_7) else gd (vp_in ((I_7 a0 3)) 100) (lt1 (((I_7 ((a0 + 1)) ((I_7 a0 3)).toNatClampNeg) - (48 : Int32))) fun x_18 => lt1 (sI I_7 a0 3 (((I_7 a0 3) + (1 : Int32)))) fun I_19 => if (I_19 a0 3) = (I_19 a0 2) then some ((0 : Int32), I_19) else gd (vp_in ((I_19 a0 3)) 100) (bd1 (f_X8_in ((((I_19 ((a0 + 1)) ((I_19 a0 3)).toNatClampNeg) - (48 : Int32))).toInt64) ((0 : Int64)) ((3 : Int64))) fun r_22 => if r_22 = 0 then some ((0 : Int32), I_19) else gd (vp_in ((I_19 a0 3)) 100) (bd1 (f_X8_mayCome I_19 a0 x_18 (((I_19 ((a0 + 1)) ((I_19 a0 3)).toNatClampNeg) - (48 : Int32))) ((-9 : Int32))) fun r_26 => if r_26 = 0 then some ((0 : Int32), I_19) else gd (vp_in ((I_19 a0 3)) 100) (lt1 (((I_19 ((a0 + 1)) ((I_19 a0 3)).toNatClampNeg) - (48 : Int32))) fun x_30 => lt1 (sI I_19 a0 3 (((I_19 a0 3) + (1 : Int32)))) fun I_31 => if (I_31 a0 3) = (I_31 a0 2) then some ((0 : Int32), I_31) else gd (vp_in ((I_31 a0 3)) 100) (bd1 (f_X8_in ((((I_31 ((a0 + 1)) ((I_31 a0 3)).toNatClampNeg) - (48 : Int32))).toInt64) ((0 : Int64)) ((9 : Int64))) fun r_34 => if r_34 = 0 then some ((0 : Int32), I_31) else gd (vp_in ((I_31 a0 3)) 100) (bd1 (f_X8_mayCome I_31 a0 x_18 x_30 (((I_31 ((a0 + 1)) ((I_31 a0 3)).toNatClampNeg) - (48 : Int32)))) fun r_38 => if r_38 = 0 then some ((0 : Int32), I_31) else gd (vp_in ((((29 : Int32) * x_18) + (9 : Int32))) 121) (gd (vp_in ((I_31 a0 3)) 100) (gd (vp_in ((((29 : Int32) * x_18) + (I_31 ((a0 + 8)) ((((29 : Int32) * x_18) + (9 : Int32))).toNatClampNeg))) 121) (lt1 (sI I_31 ((a0 + 8)) ((((29 : Int32) * x_18) + (I_31 ((a0 + 8)) ((((29 : Int32) * x_18) + (9 : Int32))).toNatClampNeg))).toNatClampNeg (((((10 : Int32) * x_30) + (I_31 ((a0 + 1)) ((I_31 a0 3)).toNatClampNeg)) - (48 : Int32)))) fun I_44 => gd (vp_in ((((29 : Int32) * x_18) + (9 : Int32))) 121) (gd (vp_in ((((29 : Int32) * x_18) + (9 : Int32))) 121) (lt1 (sI I_44 ((a0 + 8)) ((((29 : Int32) * x_18) + (9 : Int32))).toNatClampNeg (((I_44 ((a0 + 8)) ((((29 : Int32) * x_18) + (9 : Int32))).toNatClampNeg) + (1 : Int32)))) fun I_47 => lt1 (sI I_47 a0 3 (((I_47 a0 3) + (1 : Int32)))) fun I_48 => some ((1 : Int32), I_48))))))))))))))
set_option maxHeartbeats 4000000 in
set_option maxRecDepth 100000 in
theorem vX8_readShelf_4 {X : CX} {I' : HI} {r : Int32} {I : HI} {J : HJ} (hX : OKX X cX8_readShelf RX8 2 50 4) (hret : RetZ X cX8_readShelf r I' J) (a0 : Nat) (hk0 : gK (xG X) a0 = 9)   : ∀ (n : Nat) (x1 : Int32) (x2 : Int32), wl2 (X8_readShelf_B4 I a0) n x1 x2 = some (r, I') → V X I J 4 [some (.ref a0), some (.int x1), some (.int x2), none] [] := by
  refine wl2_V (P := fun (x1 : Int32) (x2 : Int32) => V X I J 4 [some (.ref a0), some (.int x1), some (.int x2), none] []) ?_
  intro k4 hc4 x1 x2 hf
  unfold X8_readShelf_B4 at hf
  refine r_iload_n hX dX8_readShelf_4 rfl ?_
  refine r_aload_n hX dX8_readShelf_5 rfl ?_
  refine g_8_16 hX fl_X8_112 hk0 dX8_readShelf_6 ?_
  refine r_icmp_ge (tgt := 36) hX dX8_readShelf_9 (by decide) (fun c_1 => ?_) (fun c_1 => ?_)
  · have hf := hf_t c_1 hf
    refine r_iload_n hX dX8_readShelf_12 rfl ?_
    refine r_if_ne (tgt := 24) hX dX8_readShelf_13 (by decide) (fun c_2 => ?_) (fun c_2 => ?_)
    · have hf := hf_t c_2 hf
      refine r_aload_n hX dX8_readShelf_16 rfl ?_
      refine r_iload_n hX dX8_readShelf_17 rfl ?_
      obtain ⟨r_3, h_4, hf⟩ := bd1_some hf
      refine r_callV (As := [.int x2]) (ci := 8) hX (k_X8_hasRoom (l := xl X) (J := J) hX.ok hk0 h_4) pk_X8_hasRoom ml_X8_119 rfl rfl rfl rfl hk0 rfl rfl rfl (Nat.le_of_ble_eq_true rfl) dX8_readShelf_18 ?_
      refine r_if_eq (tgt := 28) hX dX8_readShelf_21 (by decide) (fun c_5 => ?_) (fun c_5 => ?_)
      · have hf := hf_t c_5 hf
        refine r_iconst (v := 0) hX dX8_readShelf_28 rfl ?_
        refine V.mask [true, false, true, false] ?_
        exact vX8_readShelf_29 hX hret a0 x2 ((0 : Int32)) hk0 k4 hc4 hf
      · have hf := hf_f c_5 hf
        refine V.mask [true, false, true, false] ?_
        exact vX8_readShelf_24 hX hret a0 x2 hk0 k4 hc4 hf
    · have hf := hf_f c_2 hf
      refine V.mask [true, false, true, false] ?_
      exact vX8_readShelf_24 hX hret a0 x2 hk0 k4 hc4 hf
  · have hf := hf_f c_1 hf
    refine r_iload_n hX dX8_readShelf_36 rfl ?_
    refine r_if_ne (tgt := 42) hX dX8_readShelf_37 (by decide) (fun c_6 => ?_) (fun c_6 => ?_)
    · have hf := hf_t c_6 hf
      refine r_iconst (v := 0) hX dX8_readShelf_40 rfl ?_
      cases hf
      exact hret _ _ zb_0 dX8_readShelf_41
    · have hf := hf_f c_6 hf
      refine r_aload_n hX dX8_readShelf_42 rfl ?_
      refine r_dup hX dX8_readShelf_43 rfl ?_
      refine g_8_3 hX fl_X8_92 hk0 dX8_readShelf_44 ?_
      refine r_iconst (v := 1) hX dX8_readShelf_47 rfl ?_
      refine r_iadd hX dX8_readShelf_48 ?_
      obtain ⟨I_7, eI_7, hf⟩ := lt1_some hf
      refine p_8_3 eI_7 hX fl_X8_92 hk0 dX8_readShelf_49 ?_
      refine r_aload_n hX dX8_readShelf_52 rfl ?_
      refine g_8_3 hX fl_X8_92 hk0 dX8_readShelf_53 ?_
      refine r_aload_n hX dX8_readShelf_56 rfl ?_
      refine g_8_2 hX fl_X8_89 hk0 dX8_readShelf_57 ?_
      refine r_icmp_eq (tgt := 109) hX dX8_readShelf_60 (by decide) (fun c_8 => ?_) (fun c_8 => ?_)
      · have hf := hf_t c_8 hf
        refine r_iconst (v := 0) hX dX8_readShelf_109 rfl ?_
        cases hf
        exact hret _ _ zb_0 dX8_readShelf_110
      · have hf := hf_f c_8 hf
        refine r_aload_n hX dX8_readShelf_63 rfl ?_
        refine g_8_1 hX fl_X8_7 hk0 dX8_readShelf_64 ?_
        refine r_aload_n hX dX8_readShelf_67 rfl ?_
        refine g_8_3 hX fl_X8_92 hk0 dX8_readShelf_68 ?_
        obtain ⟨g_9, hf⟩ := gd_some hf
        refine r_iald (n := 100) hX rfl ((q_9_1 hX hk0)) g_9 dX8_readShelf_71 ?_
        refine r_bipush (v := 48) hX dX8_readShelf_72 (by decide) ?_
        refine r_isub hX dX8_readShelf_74 ?_
        refine r_i2l hX dX8_readShelf_75 ?_
        refine r_lconst (v := 0) hX dX8_readShelf_76 rfl ?_
        refine r_aload_n hX dX8_readShelf_77 rfl ?_
        refine g_8_16 hX fl_X8_112 hk0 dX8_readShelf_78 ?_
        refine r_iconst (v := 1) hX dX8_readShelf_81 rfl ?_
        refine r_isub hX dX8_readShelf_82 ?_
        refine r_i2l hX dX8_readShelf_83 ?_
        obtain ⟨r_10, h_11, hf⟩ := bd1_some hf
        refine r_callS (As := [.long ((((I_7 ((a0 + 1)) ((I_7 a0 3)).toNatClampNeg) - (48 : Int32))).toInt64), .long ((0 : Int64)), .long ((((I_7 a0 16) - (1 : Int32))).toInt64)]) hX (k_X8_in (l := xl X) (I := I_7) (J := J) hX.ok  h_11) pk_X8_in ml_X8_81 rfl rfl rfl (Nat.le_of_ble_eq_true rfl) dX8_readShelf_84 ?_
        refine r_if_eq (tgt := 109) hX dX8_readShelf_87 (by decide) (fun c_12 => ?_) (fun c_12 => ?_)
        · have hf := hf_t c_12 hf
          refine r_iconst (v := 0) hX dX8_readShelf_109 rfl ?_
          cases hf
          exact hret _ _ zb_0 dX8_readShelf_110
        · have hf := hf_f c_12 hf
          refine r_aload_n hX dX8_readShelf_90 rfl ?_
          refine r_aload_n hX dX8_readShelf_91 rfl ?_
          refine g_8_1 hX fl_X8_7 hk0 dX8_readShelf_92 ?_
          refine r_aload_n hX dX8_readShelf_95 rfl ?_
          refine g_8_3 hX fl_X8_92 hk0 dX8_readShelf_96 ?_
          obtain ⟨g_13, hf⟩ := gd_some hf
          refine r_iald (n := 100) hX rfl ((q_9_1 hX hk0)) g_13 dX8_readShelf_99 ?_
          refine r_bipush (v := 48) hX dX8_readShelf_100 (by decide) ?_
          refine r_isub hX dX8_readShelf_102 ?_
          obtain ⟨r_14, h_15, hf⟩ := bd1_some hf
          refine r_callV (As := [.int (((I_7 ((a0 + 1)) ((I_7 a0 3)).toNatClampNeg) - (48 : Int32)))]) (ci := 8) hX (k_X8_hasRoom (l := xl X) (J := J) hX.ok hk0 h_15) pk_X8_hasRoom ml_X8_119 rfl rfl rfl rfl hk0 rfl rfl rfl (Nat.le_of_ble_eq_true rfl) dX8_readShelf_103 ?_
          refine r_if_ne (tgt := 111) hX dX8_readShelf_106 (by decide) (fun c_16 => ?_) (fun c_16 => ?_)
          · have hf := hf_t c_16 hf
            refine r_iconst (v := 0) hX dX8_readShelf_109 rfl ?_
            cases hf
            exact hret _ _ zb_0 dX8_readShelf_110
          · have hf := hf_f c_16 hf
            refine r_aload_n hX dX8_readShelf_111 rfl ?_
            refine g_8_1 hX fl_X8_7 hk0 dX8_readShelf_112 ?_
            refine r_aload_n hX dX8_readShelf_115 rfl ?_
            refine g_8_3 hX fl_X8_92 hk0 dX8_readShelf_116 ?_
            obtain ⟨g_17, hf⟩ := gd_some hf
            refine r_iald (n := 100) hX rfl ((q_9_1 hX hk0)) g_17 dX8_readShelf_119 ?_
            refine r_bipush (v := 48) hX dX8_readShelf_120 (by decide) ?_
            refine r_isub hX dX8_readShelf_122 ?_
            obtain ⟨x_18, ex_18, hf⟩ := lt1_some hf
            refine V.topi ex_18 ?_
            refine r_istore_n hX dX8_readShelf_123 rfl rfl ?_
            refine r_aload_n hX dX8_readShelf_124 rfl ?_
            refine r_dup hX dX8_readShelf_125 rfl ?_
            refine g_8_3 hX fl_X8_92 hk0 dX8_readShelf_126 ?_
            refine r_iconst (v := 1) hX dX8_readShelf_129 rfl ?_
            refine r_iadd hX dX8_readShelf_130 ?_
            obtain ⟨I_19, eI_19, hf⟩ := lt1_some hf
            refine p_8_3 eI_19 hX fl_X8_92 hk0 dX8_readShelf_131 ?_
            refine r_aload_n hX dX8_readShelf_134 rfl ?_
            refine g_8_3 hX fl_X8_92 hk0 dX8_readShelf_135 ?_
            refine r_aload_n hX dX8_readShelf_138 rfl ?_
            refine g_8_2 hX fl_X8_89 hk0 dX8_readShelf_139 ?_
            refine r_icmp_eq (tgt := 190) hX dX8_readShelf_142 (by decide) (fun c_20 => ?_) (fun c_20 => ?_)
            · have hf := hf_t c_20 hf
              refine r_iconst (v := 0) hX dX8_readShelf_190 rfl ?_
              cases hf
              exact hret _ _ zb_0 dX8_readShelf_191
            · have hf := hf_f c_20 hf
              refine r_aload_n hX dX8_readShelf_145 rfl ?_
              refine g_8_1 hX fl_X8_7 hk0 dX8_readShelf_146 ?_
              refine r_aload_n hX dX8_readShelf_149 rfl ?_
              refine g_8_3 hX fl_X8_92 hk0 dX8_readShelf_150 ?_
              obtain ⟨g_21, hf⟩ := gd_some hf
              refine r_iald (n := 100) hX rfl ((q_9_1 hX hk0)) g_21 dX8_readShelf_153 ?_
              refine r_bipush (v := 48) hX dX8_readShelf_154 (by decide) ?_
              refine r_isub hX dX8_readShelf_156 ?_
              refine r_i2l hX dX8_readShelf_157 ?_
              refine r_lconst (v := 0) hX dX8_readShelf_158 rfl ?_
              refine r_ldc2 hX dX8_readShelf_159 cn_X8_123 ?_
              obtain ⟨r_22, h_23, hf⟩ := bd1_some hf
              refine r_callS (As := [.long ((((I_19 ((a0 + 1)) ((I_19 a0 3)).toNatClampNeg) - (48 : Int32))).toInt64), .long ((0 : Int64)), .long ((3 : Int64))]) hX (k_X8_in (l := xl X) (I := I_19) (J := J) hX.ok  h_23) pk_X8_in ml_X8_81 rfl rfl rfl (Nat.le_of_ble_eq_true rfl) dX8_readShelf_162 ?_
              refine r_if_eq (tgt := 190) hX dX8_readShelf_165 (by decide) (fun c_24 => ?_) (fun c_24 => ?_)
              · have hf := hf_t c_24 hf
                refine r_iconst (v := 0) hX dX8_readShelf_190 rfl ?_
                cases hf
                exact hret _ _ zb_0 dX8_readShelf_191
              · have hf := hf_f c_24 hf
                refine r_aload_n hX dX8_readShelf_168 rfl ?_
                refine r_iload_n hX dX8_readShelf_169 rfl ?_
                refine r_aload_n hX dX8_readShelf_170 rfl ?_
                refine g_8_1 hX fl_X8_7 hk0 dX8_readShelf_171 ?_
                refine r_aload_n hX dX8_readShelf_174 rfl ?_
                refine g_8_3 hX fl_X8_92 hk0 dX8_readShelf_175 ?_
                obtain ⟨g_25, hf⟩ := gd_some hf
                refine r_iald (n := 100) hX rfl ((q_9_1 hX hk0)) g_25 dX8_readShelf_178 ?_
                refine r_bipush (v := 48) hX dX8_readShelf_179 (by decide) ?_
                refine r_isub hX dX8_readShelf_181 ?_
                refine r_bipush (v := -9) hX dX8_readShelf_182 (by decide) ?_
                obtain ⟨r_26, h_27, hf⟩ := bd1_some hf
                refine r_callV (As := [.int x_18, .int (((I_19 ((a0 + 1)) ((I_19 a0 3)).toNatClampNeg) - (48 : Int32))), .int ((-9 : Int32))]) (ci := 8) hX (k_X8_mayCome (l := xl X) (J := J) hX.ok hk0 h_27) pk_X8_mayCome ml_X8_125 rfl rfl rfl rfl hk0 rfl rfl rfl (Nat.le_of_ble_eq_true rfl) dX8_readShelf_184 ?_
                refine r_if_ne (tgt := 192) hX dX8_readShelf_187 (by decide) (fun c_28 => ?_) (fun c_28 => ?_)
                · have hf := hf_t c_28 hf
                  refine r_iconst (v := 0) hX dX8_readShelf_190 rfl ?_
                  cases hf
                  exact hret _ _ zb_0 dX8_readShelf_191
                · have hf := hf_f c_28 hf
                  refine r_aload_n hX dX8_readShelf_192 rfl ?_
                  refine g_8_1 hX fl_X8_7 hk0 dX8_readShelf_193 ?_
                  refine r_aload_n hX dX8_readShelf_196 rfl ?_
                  refine g_8_3 hX fl_X8_92 hk0 dX8_readShelf_197 ?_
                  obtain ⟨g_29, hf⟩ := gd_some hf
                  refine r_iald (n := 100) hX rfl ((q_9_1 hX hk0)) g_29 dX8_readShelf_200 ?_
                  refine r_bipush (v := 48) hX dX8_readShelf_201 (by decide) ?_
                  refine r_isub hX dX8_readShelf_203 ?_
                  obtain ⟨x_30, ex_30, hf⟩ := lt1_some hf
                  refine V.topi ex_30 ?_
                  refine r_istore_n hX dX8_readShelf_204 rfl rfl ?_
                  refine r_aload_n hX dX8_readShelf_205 rfl ?_
                  refine r_dup hX dX8_readShelf_206 rfl ?_
                  refine g_8_3 hX fl_X8_92 hk0 dX8_readShelf_207 ?_
                  refine r_iconst (v := 1) hX dX8_readShelf_210 rfl ?_
                  refine r_iadd hX dX8_readShelf_211 ?_
                  obtain ⟨I_31, eI_31, hf⟩ := lt1_some hf
                  refine p_8_3 eI_31 hX fl_X8_92 hk0 dX8_readShelf_212 ?_
                  refine r_aload_n hX dX8_readShelf_215 rfl ?_
                  refine g_8_3 hX fl_X8_92 hk0 dX8_readShelf_216 ?_
                  refine r_aload_n hX dX8_readShelf_219 rfl ?_
                  refine g_8_2 hX fl_X8_89 hk0 dX8_readShelf_220 ?_
                  refine r_icmp_eq (tgt := 270) hX dX8_readShelf_223 (by decide) (fun c_32 => ?_) (fun c_32 => ?_)
                  · have hf := hf_t c_32 hf
                    refine r_iconst (v := 0) hX dX8_readShelf_270 rfl ?_
                    cases hf
                    exact hret _ _ zb_0 dX8_readShelf_271
                  · have hf := hf_f c_32 hf
                    refine r_aload_n hX dX8_readShelf_226 rfl ?_
                    refine g_8_1 hX fl_X8_7 hk0 dX8_readShelf_227 ?_
                    refine r_aload_n hX dX8_readShelf_230 rfl ?_
                    refine g_8_3 hX fl_X8_92 hk0 dX8_readShelf_231 ?_
                    obtain ⟨g_33, hf⟩ := gd_some hf
                    refine r_iald (n := 100) hX rfl ((q_9_1 hX hk0)) g_33 dX8_readShelf_234 ?_
                    refine r_bipush (v := 48) hX dX8_readShelf_235 (by decide) ?_
                    refine r_isub hX dX8_readShelf_237 ?_
                    refine r_i2l hX dX8_readShelf_238 ?_
                    refine r_lconst (v := 0) hX dX8_readShelf_239 rfl ?_
                    refine r_ldc2 hX dX8_readShelf_240 cn_X8_129 ?_
                    obtain ⟨r_34, h_35, hf⟩ := bd1_some hf
                    refine r_callS (As := [.long ((((I_31 ((a0 + 1)) ((I_31 a0 3)).toNatClampNeg) - (48 : Int32))).toInt64), .long ((0 : Int64)), .long ((9 : Int64))]) hX (k_X8_in (l := xl X) (I := I_31) (J := J) hX.ok  h_35) pk_X8_in ml_X8_81 rfl rfl rfl (Nat.le_of_ble_eq_true rfl) dX8_readShelf_243 ?_
                    refine r_if_eq (tgt := 270) hX dX8_readShelf_246 (by decide) (fun c_36 => ?_) (fun c_36 => ?_)
                    · have hf := hf_t c_36 hf
                      refine r_iconst (v := 0) hX dX8_readShelf_270 rfl ?_
                      cases hf
                      exact hret _ _ zb_0 dX8_readShelf_271
                    · have hf := hf_f c_36 hf
                      refine r_aload_n hX dX8_readShelf_249 rfl ?_
                      refine r_iload_n hX dX8_readShelf_250 rfl ?_
                      refine r_iload_n hX dX8_readShelf_251 rfl ?_
                      refine r_aload_n hX dX8_readShelf_252 rfl ?_
                      refine g_8_1 hX fl_X8_7 hk0 dX8_readShelf_253 ?_
                      refine r_aload_n hX dX8_readShelf_256 rfl ?_
                      refine g_8_3 hX fl_X8_92 hk0 dX8_readShelf_257 ?_
                      obtain ⟨g_37, hf⟩ := gd_some hf
                      refine r_iald (n := 100) hX rfl ((q_9_1 hX hk0)) g_37 dX8_readShelf_260 ?_
                      refine r_bipush (v := 48) hX dX8_readShelf_261 (by decide) ?_
                      refine r_isub hX dX8_readShelf_263 ?_
                      obtain ⟨r_38, h_39, hf⟩ := bd1_some hf
                      refine r_callV (As := [.int x_18, .int x_30, .int (((I_31 ((a0 + 1)) ((I_31 a0 3)).toNatClampNeg) - (48 : Int32)))]) (ci := 8) hX (k_X8_mayCome (l := xl X) (J := J) hX.ok hk0 h_39) pk_X8_mayCome ml_X8_125 rfl rfl rfl rfl hk0 rfl rfl rfl (Nat.le_of_ble_eq_true rfl) dX8_readShelf_264 ?_
                      refine r_if_ne (tgt := 272) hX dX8_readShelf_267 (by decide) (fun c_40 => ?_) (fun c_40 => ?_)
                      · have hf := hf_t c_40 hf
                        refine r_iconst (v := 0) hX dX8_readShelf_270 rfl ?_
                        cases hf
                        exact hret _ _ zb_0 dX8_readShelf_271
                      · have hf := hf_f c_40 hf
                        refine r_aload_n hX dX8_readShelf_272 rfl ?_
                        refine g_8_18 hX fl_X8_41 hk0 dX8_readShelf_273 ?_
                        refine r_bipush (v := 29) hX dX8_readShelf_276 (by decide) ?_
                        refine r_iload_n hX dX8_readShelf_278 rfl ?_
                        refine r_imul hX dX8_readShelf_279 ?_
                        refine r_aload_n hX dX8_readShelf_280 rfl ?_
                        refine g_8_18 hX fl_X8_41 hk0 dX8_readShelf_281 ?_
                        refine r_bipush (v := 29) hX dX8_readShelf_284 (by decide) ?_
                        refine r_iload_n hX dX8_readShelf_286 rfl ?_
                        refine r_imul hX dX8_readShelf_287 ?_
                        refine r_bipush (v := 9) hX dX8_readShelf_288 (by decide) ?_
                        refine r_iadd hX dX8_readShelf_290 ?_
                        obtain ⟨g_41, hf⟩ := gd_some hf
                        refine r_iald (n := 121) hX rfl ((q_9_18 hX hk0)) g_41 dX8_readShelf_291 ?_
                        refine r_iadd hX dX8_readShelf_292 ?_
                        refine r_bipush (v := 10) hX dX8_readShelf_293 (by decide) ?_
                        refine r_iload_n hX dX8_readShelf_295 rfl ?_
                        refine r_imul hX dX8_readShelf_296 ?_
                        refine r_aload_n hX dX8_readShelf_297 rfl ?_
                        refine g_8_1 hX fl_X8_7 hk0 dX8_readShelf_298 ?_
                        refine r_aload_n hX dX8_readShelf_301 rfl ?_
                        refine g_8_3 hX fl_X8_92 hk0 dX8_readShelf_302 ?_
                        obtain ⟨g_42, hf⟩ := gd_some hf
                        refine r_iald (n := 100) hX rfl ((q_9_1 hX hk0)) g_42 dX8_readShelf_305 ?_
                        refine r_iadd hX dX8_readShelf_306 ?_
                        refine r_bipush (v := 48) hX dX8_readShelf_307 (by decide) ?_
                        refine r_isub hX dX8_readShelf_309 ?_
                        obtain ⟨g_43, hf⟩ := gd_some hf
                        obtain ⟨I_44, eI_44, hf⟩ := lt1_some hf
                        refine r_iastE (n := 121) eI_44 hX rfl ((q_9_18 hX hk0)) g_43 dX8_readShelf_310 ?_
                        refine r_aload_n hX dX8_readShelf_311 rfl ?_
                        refine g_8_18 hX fl_X8_41 hk0 dX8_readShelf_312 ?_
                        refine r_bipush (v := 29) hX dX8_readShelf_315 (by decide) ?_
                        refine r_iload_n hX dX8_readShelf_317 rfl ?_
                        refine r_imul hX dX8_readShelf_318 ?_
                        refine r_bipush (v := 9) hX dX8_readShelf_319 (by decide) ?_
                        refine r_iadd hX dX8_readShelf_321 ?_
                        refine r_dup2 hX dX8_readShelf_322 rfl rfl ?_
                        obtain ⟨g_45, hf⟩ := gd_some hf
                        refine r_iald (n := 121) hX rfl ((q_9_18 hX hk0)) g_45 dX8_readShelf_323 ?_
                        refine r_iconst (v := 1) hX dX8_readShelf_324 rfl ?_
                        refine r_iadd hX dX8_readShelf_325 ?_
                        obtain ⟨g_46, hf⟩ := gd_some hf
                        obtain ⟨I_47, eI_47, hf⟩ := lt1_some hf
                        refine r_iastE (n := 121) eI_47 hX rfl ((q_9_18 hX hk0)) g_46 dX8_readShelf_326 ?_
                        refine r_aload_n hX dX8_readShelf_327 rfl ?_
                        refine r_dup hX dX8_readShelf_328 rfl ?_
                        refine g_8_3 hX fl_X8_92 hk0 dX8_readShelf_329 ?_
                        refine r_iconst (v := 1) hX dX8_readShelf_332 rfl ?_
                        refine r_iadd hX dX8_readShelf_333 ?_
                        obtain ⟨I_48, eI_48, hf⟩ := lt1_some hf
                        refine p_8_3 eI_48 hX fl_X8_92 hk0 dX8_readShelf_334 ?_
                        refine r_iconst (v := 1) hX dX8_readShelf_337 rfl ?_
                        cases hf
                        exact hret _ _ zb_1 dX8_readShelf_338
noncomputable def f_X8_readShelf (I : HI) (a0 : Nat) : Option (Int32 × HI) := wl2 (X8_readShelf_B4 I a0) 5000 ((0 : Int32)) ((0 : Int32))
set_option maxHeartbeats 4000000 in
set_option maxRecDepth 100000 in
theorem k_X8_readShelf {G : GX} {l : Launch} {I : HI} {J : HJ} {I' : HI} {r : Int32} (hG : OKG G) {a0 : Nat} (hk0 : gK G a0 = 9) (hf : f_X8_readShelf I a0 = some (r, I')) : Ctr G l yX8_readShelf cX8_readShelf 4 (some .boolean) 2 50 [.ref a0] I J (some (.int r)) I' J := by
  refine ctr_Zb hG (by decide) [some (.ref a0), none, none, none] rfl rfl fun X e1 e2 hX hret => ?_
  subst e1; subst e2
  unfold f_X8_readShelf at hf
  refine r_iconst (v := 0) hX dX8_readShelf_0 rfl ?_
  refine r_istore_n hX dX8_readShelf_1 rfl rfl ?_
  refine r_iconst (v := 0) hX dX8_readShelf_2 rfl ?_
  refine r_istore_n hX dX8_readShelf_3 rfl rfl ?_
  refine V.mask [true, true, true, false] ?_
  exact vX8_readShelf_4 hX hret a0 hk0 5000 ((0 : Int32)) ((0 : Int32)) hf
noncomputable def f_X8_readPart (I : HI) (a0 : Nat) : Option (Int32 × HI) := gd (vp_in ((I a0 3)) 100) (if (I ((a0 + 1)) ((I a0 3)).toNatClampNeg) = 104 then bd2 (f_X8_readFamily I a0) fun r_3 I_4 => gd (zb r_3) (some (r_3, I_4)) else if (I ((a0 + 1)) ((I a0 3)).toNatClampNeg) = 112 then bd2 (f_X8_readProxy I a0) fun r_8 I_9 => gd (zb r_8) (some (r_8, I_9)) else if (I ((a0 + 1)) ((I a0 3)).toNatClampNeg) = 115 then bd2 (f_X8_readShelf I a0) fun r_13 I_14 => gd (zb r_13) (some (r_13, I_14)) else some ((0 : Int32), I))
set_option maxHeartbeats 4000000 in
set_option maxRecDepth 100000 in
theorem k_X8_readPart {G : GX} {l : Launch} {I : HI} {J : HJ} {I' : HI} {r : Int32} (hG : OKG G) {a0 : Nat} (hk0 : gK G a0 = 9) (hf : f_X8_readPart I a0 = some (r, I')) : Ctr G l yX8_readPart cX8_readPart 1 (some .boolean) 3 73 [.ref a0] I J (some (.int r)) I' J := by
  refine ctr_Zb hG (by decide) [some (.ref a0)] rfl rfl fun X e1 e2 hX hret => ?_
  subst e1; subst e2
  unfold f_X8_readPart at hf
  refine r_aload_n hX dX8_readPart_0 rfl ?_
  refine g_8_1 hX fl_X8_7 hk0 dX8_readPart_1 ?_
  refine r_aload_n hX dX8_readPart_4 rfl ?_
  refine g_8_3 hX fl_X8_92 hk0 dX8_readPart_5 ?_
  obtain ⟨g_1, hf⟩ := gd_some hf
  refine r_iald (n := 100) hX rfl ((q_9_1 hX hk0)) g_1 dX8_readPart_8 ?_
  by_cases c_2 : (I ((a0 + 1)) ((I a0 3)).toNatClampNeg) = 104
  · have hf := hf_t c_2 hf
    refine r_lswV (off := 35) (tgt := 44) hX 104 dX8_readPart_9 c_2 (by decide) (by decide) (by decide) ?_
    refine r_aload_n hX dX8_readPart_44 rfl ?_
    obtain ⟨r_3, I_4, h_5, hf⟩ := bd2_some hf
    refine r_callV (As := []) (ci := 8) hX (k_X8_readFamily (l := xl X) (J := J) hX.ok hk0 h_5) pk_X8_readFamily ml_X8_131 rfl rfl rfl rfl hk0 rfl rfl rfl (Nat.le_of_ble_eq_true rfl) dX8_readPart_45 ?_
    obtain ⟨g_6, hf⟩ := gd_some hf
    cases hf
    exact hret _ _ g_6 dX8_readPart_48
  have hf := hf_f c_2 hf
  by_cases c_7 : (I ((a0 + 1)) ((I a0 3)).toNatClampNeg) = 112
  · have hf := hf_t c_7 hf
    refine r_lswV (off := 40) (tgt := 49) hX 112 dX8_readPart_9 c_7 (by decide) (by decide) (by decide) ?_
    refine r_aload_n hX dX8_readPart_49 rfl ?_
    obtain ⟨r_8, I_9, h_10, hf⟩ := bd2_some hf
    refine r_callV (As := []) (ci := 8) hX (k_X8_readProxy (l := xl X) (J := J) hX.ok hk0 h_10) pk_X8_readProxy ml_X8_135 rfl rfl rfl rfl hk0 rfl rfl rfl (Nat.le_of_ble_eq_true rfl) dX8_readPart_50 ?_
    obtain ⟨g_11, hf⟩ := gd_some hf
    cases hf
    exact hret _ _ g_11 dX8_readPart_53
  have hf := hf_f c_7 hf
  by_cases c_12 : (I ((a0 + 1)) ((I a0 3)).toNatClampNeg) = 115
  · have hf := hf_t c_12 hf
    refine r_lswV (off := 45) (tgt := 54) hX 115 dX8_readPart_9 c_12 (by decide) (by decide) (by decide) ?_
    refine r_aload_n hX dX8_readPart_54 rfl ?_
    obtain ⟨r_13, I_14, h_15, hf⟩ := bd2_some hf
    refine r_callV (As := []) (ci := 8) hX (k_X8_readShelf (l := xl X) (J := J) hX.ok hk0 h_15) pk_X8_readShelf ml_X8_138 rfl rfl rfl rfl hk0 rfl rfl rfl (Nat.le_of_ble_eq_true rfl) dX8_readPart_55 ?_
    obtain ⟨g_16, hf⟩ := gd_some hf
    cases hf
    exact hret _ _ g_16 dX8_readPart_58
  have hf := hf_f c_12 hf
  refine r_lswD (tgt := 59) hX dX8_readPart_9 [104, 112, 115] (by decide) (by decide) (List.forall_mem_cons.mpr ⟨c_2, List.forall_mem_cons.mpr ⟨c_7, List.forall_mem_cons.mpr ⟨c_12, (fun _ h => absurd h List.not_mem_nil)⟩⟩⟩) (by decide) ?_
  refine r_iconst (v := 0) hX dX8_readPart_59 rfl ?_
  cases hf
  exact hret _ _ zb_0 dX8_readPart_60
noncomputable def X8_readNet_B48 (a0 : Nat) (k48 : HI → Option (Int32 × HI)) (I : HI) : Option (Int32 × HI) := if (I a0 3) < (I a0 2) then bd2 (f_X8_readPart I a0) fun r_13 I_14 => if r_13 = 0 then some ((I_14 a0 3), I_14) else k48 I_14 else some ((-9 : Int32), I)
set_option maxHeartbeats 4000000 in
set_option maxRecDepth 100000 in
theorem vX8_readNet_48 {X : CX} {I' : HI} {r : Int32} {J : HJ} (hX : OKX X cX8_readNet RX8 4 93 2) (hret : RetI X cX8_readNet r I' J) (a0 : Nat) (hk0 : gK (xG X) a0 = 9)   : ∀ (n : Nat) (I : HI), wl1 (X8_readNet_B48 a0) n I = some (r, I') → V X I J 48 [some (.ref a0), none] [] := by
  refine wl1_V (P := fun (I : HI) => V X I J 48 [some (.ref a0), none] []) ?_
  intro k48 hc48 I hf
  unfold X8_readNet_B48 at hf
  refine r_aload_n hX dX8_readNet_48 rfl ?_
  refine g_8_3 hX fl_X8_92 hk0 dX8_readNet_49 ?_
  refine r_aload_n hX dX8_readNet_52 rfl ?_
  refine g_8_2 hX fl_X8_89 hk0 dX8_readNet_53 ?_
  refine r_icmp_ge (tgt := 71) hX dX8_readNet_56 (by decide) (fun c_12 => ?_) (fun c_12 => ?_)
  · have hf := hf_t c_12 hf
    refine r_aload_n hX dX8_readNet_59 rfl ?_
    obtain ⟨r_13, I_14, h_15, hf⟩ := bd2_some hf
    refine r_callV (As := []) (ci := 8) hX (k_X8_readPart (l := xl X) (J := J) hX.ok hk0 h_15) pk_X8_readPart ml_X8_144 rfl rfl rfl rfl hk0 rfl rfl rfl (Nat.le_of_ble_eq_true rfl) dX8_readNet_60 ?_
    refine r_if_ne (tgt := 48) hX dX8_readNet_63 (by decide) (fun c_16 => ?_) (fun c_16 => ?_)
    · have hf := hf_t c_16 hf
      refine r_aload_n hX dX8_readNet_66 rfl ?_
      refine g_8_3 hX fl_X8_92 hk0 dX8_readNet_67 ?_
      cases hf
      exact hret _ _ dX8_readNet_70
    · have hf := hf_f c_16 hf
      refine V.mask [true, false] ?_
      exact hc48 I_14 hf
  · have hf := hf_f c_12 hf
    refine r_bipush (v := -9) hX dX8_readNet_71 (by decide) ?_
    cases hf
    exact hret _ _ dX8_readNet_73
noncomputable def X8_readNet_B17 (a0 : Nat) (k17 : HI → Int32 → Option (Int32 × HI)) (I : HI) (x1 : Int32) : Option (Int32 × HI) := if x1 < (121 : Int32) then gd (vp_in x1 121) (lt1 (sI I ((a0 + 8)) x1.toNatClampNeg ((0 : Int32))) fun I_6 => lt1 (x1 + (1 : Int32)) fun x_7 => k17 I_6 x_7) else bd2 (f_X8_readHead I a0) fun r_8 I_9 => if r_8 = 0 then some ((I_9 a0 3), I_9) else wl1 (X8_readNet_B48 a0) 5000 I_9
set_option maxHeartbeats 4000000 in
set_option maxRecDepth 100000 in
theorem vX8_readNet_17 {X : CX} {I' : HI} {r : Int32} {J : HJ} (hX : OKX X cX8_readNet RX8 4 93 2) (hret : RetI X cX8_readNet r I' J) (a0 : Nat) (hk0 : gK (xG X) a0 = 9)   : ∀ (n : Nat) (I : HI) (x1 : Int32), wl2 (X8_readNet_B17 a0) n I x1 = some (r, I') → V X I J 17 [some (.ref a0), some (.int x1)] [] := by
  refine wl2_V (P := fun (I : HI) (x1 : Int32) => V X I J 17 [some (.ref a0), some (.int x1)] []) ?_
  intro k17 hc17 I x1 hf
  unfold X8_readNet_B17 at hf
  refine r_iload_n hX dX8_readNet_17 rfl ?_
  refine r_bipush (v := 121) hX dX8_readNet_18 (by decide) ?_
  refine r_icmp_ge (tgt := 36) hX dX8_readNet_20 (by decide) (fun c_4 => ?_) (fun c_4 => ?_)
  · have hf := hf_t c_4 hf
    refine r_aload_n hX dX8_readNet_23 rfl ?_
    refine g_8_18 hX fl_X8_41 hk0 dX8_readNet_24 ?_
    refine r_iload_n hX dX8_readNet_27 rfl ?_
    refine r_iconst (v := 0) hX dX8_readNet_28 rfl ?_
    obtain ⟨g_5, hf⟩ := gd_some hf
    obtain ⟨I_6, eI_6, hf⟩ := lt1_some hf
    refine r_iastE (n := 121) eI_6 hX rfl ((q_9_18 hX hk0)) g_5 dX8_readNet_29 ?_
    obtain ⟨x_7, ex_7, hf⟩ := lt1_some hf
    refine r_iincE (n' := 1) ex_7 hX dX8_readNet_30 rfl rfl rfl rfl ?_
    refine r_goto (tgt := 17) hX dX8_readNet_33 (by decide) ?_
    refine V.mask [true, true] ?_
    exact hc17 I_6 x_7 hf
  · have hf := hf_f c_4 hf
    refine r_aload_n hX dX8_readNet_36 rfl ?_
    obtain ⟨r_8, I_9, h_10, hf⟩ := bd2_some hf
    refine r_callV (As := []) (ci := 8) hX (k_X8_readHead (l := xl X) (J := J) hX.ok hk0 h_10) pk_X8_readHead ml_X8_141 rfl rfl rfl rfl hk0 rfl rfl rfl (Nat.le_of_ble_eq_true rfl) dX8_readNet_37 ?_
    refine r_if_ne (tgt := 48) hX dX8_readNet_40 (by decide) (fun c_11 => ?_) (fun c_11 => ?_)
    · have hf := hf_t c_11 hf
      refine r_aload_n hX dX8_readNet_43 rfl ?_
      refine g_8_3 hX fl_X8_92 hk0 dX8_readNet_44 ?_
      cases hf
      exact hret _ _ dX8_readNet_47
    · have hf := hf_f c_11 hf
      refine V.mask [true, false] ?_
      exact vX8_readNet_48 hX hret a0 hk0 5000 I_9 hf
noncomputable def f_X8_readNet (I : HI) (a0 : Nat) : Option (Int32 × HI) := lt1 (sI I a0 13 ((0 : Int32))) fun I_1 => lt1 (sI I_1 a0 16 ((0 : Int32))) fun I_2 => lt1 (sI I_2 a0 3 ((0 : Int32))) fun I_3 => wl2 (X8_readNet_B17 a0) 5000 I_3 ((0 : Int32))
set_option maxHeartbeats 4000000 in
set_option maxRecDepth 100000 in
theorem k_X8_readNet {G : GX} {l : Launch} {I : HI} {J : HJ} {I' : HI} {r : Int32} (hG : OKG G) {a0 : Nat} (hk0 : gK G a0 = 9) (hf : f_X8_readNet I a0 = some (r, I')) : Ctr G l yX8_readNet cX8_readNet 2 (some .int) 4 93 [.ref a0] I J (some (.int r)) I' J := by
  refine ctr_I hG (by decide) [some (.ref a0), none] rfl rfl fun X e1 e2 hX hret => ?_
  subst e1; subst e2
  unfold f_X8_readNet at hf
  refine r_aload_n hX dX8_readNet_0 rfl ?_
  refine r_iconst (v := 0) hX dX8_readNet_1 rfl ?_
  obtain ⟨I_1, eI_1, hf⟩ := lt1_some hf
  refine p_8_13 eI_1 hX fl_X8_109 hk0 dX8_readNet_2 ?_
  refine r_aload_n hX dX8_readNet_5 rfl ?_
  refine r_iconst (v := 0) hX dX8_readNet_6 rfl ?_
  obtain ⟨I_2, eI_2, hf⟩ := lt1_some hf
  refine p_8_16 eI_2 hX fl_X8_112 hk0 dX8_readNet_7 ?_
  refine r_aload_n hX dX8_readNet_10 rfl ?_
  refine r_iconst (v := 0) hX dX8_readNet_11 rfl ?_
  obtain ⟨I_3, eI_3, hf⟩ := lt1_some hf
  refine p_8_3 eI_3 hX fl_X8_92 hk0 dX8_readNet_12 ?_
  refine r_iconst (v := 0) hX dX8_readNet_15 rfl ?_
  refine r_istore_n hX dX8_readNet_16 rfl rfl ?_
  refine V.mask [true, true] ?_
  exact vX8_readNet_17 hX hret a0 hk0 5000 I_3 ((0 : Int32)) hf
noncomputable def f_X8_fault (I : HI) (a0 : Nat) : Option (Int32 × HI) := lt1 (sI I a0 0 ((0 : Int32))) fun I_1 => bd2 (f_X8_readNet I_1 a0) fun r_2 I_3 => some (r_2, I_3)
set_option maxHeartbeats 4000000 in
set_option maxRecDepth 100000 in
theorem k_X8_fault {G : GX} {l : Launch} {I : HI} {J : HJ} {I' : HI} {r : Int32} (hG : OKG G) {a0 : Nat} (hk0 : gK G a0 = 9) (hf : f_X8_fault I a0 = some (r, I')) : Ctr G l yX8_fault cX8_fault 1 (some .int) 5 114 [.ref a0] I J (some (.int r)) I' J := by
  refine ctr_I hG (by decide) [some (.ref a0)] rfl rfl fun X e1 e2 hX hret => ?_
  subst e1; subst e2
  unfold f_X8_fault at hf
  refine r_aload_n hX dX8_fault_0 rfl ?_
  refine r_iconst (v := 0) hX dX8_fault_1 rfl ?_
  obtain ⟨I_1, eI_1, hf⟩ := lt1_some hf
  refine p_8_0 eI_1 hX fl_X8_75 hk0 dX8_fault_2 ?_
  refine r_aload_n hX dX8_fault_5 rfl ?_
  obtain ⟨r_2, I_3, h_4, hf⟩ := bd2_some hf
  refine r_callV (As := []) (ci := 8) hX (k_X8_readNet (l := xl X) (J := J) hX.ok hk0 h_4) pk_X8_readNet ml_X8_147 rfl rfl rfl rfl hk0 rfl rfl rfl (Nat.le_of_ble_eq_true rfl) dX8_fault_6 ?_
  cases hf
  exact hret _ _ dX8_fault_9
noncomputable def f_X8_hashOf (I : HI) (a0 : Nat) (x1 : Int32) (x2 : Int32) (x3 : Int32) : Option (Int32) := gd (vp_in x1 3) (gd (vp_in x1 3) (gd (¬ (I a0 4) = 0) (some ((jrem ((jrem ((((I ((a0 + 2)) x1.toNatClampNeg) * x2) + (((I ((a0 + 3)) x1.toNatClampNeg) * (x3 + (1 : Int32))) * (x3 + (1 : Int32))))) ((37 : Int32)))) ((I a0 4)))))))
set_option maxHeartbeats 4000000 in
set_option maxRecDepth 100000 in
theorem k_X8_hashOf {G : GX} {l : Launch} {I : HI} {J : HJ} {r : Int32} (hG : OKG G) {a0 : Nat} {x1 : Int32} {x2 : Int32} {x3 : Int32} (hk0 : gK G a0 = 9) (hf : f_X8_hashOf I a0 x1 x2 x3 = some r) : Ctr G l yX8_hashOf cX8_hashOf 4 (some .int) 0 0 [.ref a0, .int x1, .int x2, .int x3] I J (some (.int r)) I J := by
  refine ctr_I hG (by decide) [some (.ref a0), some (.int x1), some (.int x2), some (.int x3)] rfl rfl fun X e1 e2 hX hret => ?_
  subst e1; subst e2
  unfold f_X8_hashOf at hf
  refine r_aload_n hX dX8_hashOf_0 rfl ?_
  refine g_8_7 hX fl_X8_23 hk0 dX8_hashOf_1 ?_
  refine r_iload_n hX dX8_hashOf_4 rfl ?_
  obtain ⟨g_1, hf⟩ := gd_some hf
  refine r_iald (n := 3) hX rfl ((q_9_7 hX hk0)) g_1 dX8_hashOf_5 ?_
  refine r_iload_n hX dX8_hashOf_6 rfl ?_
  refine r_imul hX dX8_hashOf_7 ?_
  refine r_aload_n hX dX8_hashOf_8 rfl ?_
  refine g_8_8 hX fl_X8_26 hk0 dX8_hashOf_9 ?_
  refine r_iload_n hX dX8_hashOf_12 rfl ?_
  obtain ⟨g_2, hf⟩ := gd_some hf
  refine r_iald (n := 3) hX rfl ((q_9_8 hX hk0)) g_2 dX8_hashOf_13 ?_
  refine r_iload_n hX dX8_hashOf_14 rfl ?_
  refine r_iconst (v := 1) hX dX8_hashOf_15 rfl ?_
  refine r_iadd hX dX8_hashOf_16 ?_
  refine r_imul hX dX8_hashOf_17 ?_
  refine r_iload_n hX dX8_hashOf_18 rfl ?_
  refine r_iconst (v := 1) hX dX8_hashOf_19 rfl ?_
  refine r_iadd hX dX8_hashOf_20 ?_
  refine r_imul hX dX8_hashOf_21 ?_
  refine r_iadd hX dX8_hashOf_22 ?_
  refine r_bipush (v := 37) hX dX8_hashOf_23 (by decide) ?_
  refine r_irem hX dX8_hashOf_25 (by decide) ?_
  refine r_aload_n hX dX8_hashOf_26 rfl ?_
  refine g_8_4 hX fl_X8_13 hk0 dX8_hashOf_27 ?_
  obtain ⟨g_3, hf⟩ := gd_some hf
  refine r_irem hX dX8_hashOf_30 g_3 ?_
  cases hf
  exact hret _ _ dX8_hashOf_31
noncomputable def X8_tally_J53 (I : HI) (a0 : Nat) (a1 : Nat) (x2 : Int32) (x3 : Int32) (x4 : Int32) (x5 : Int32) (sa0 : Nat) (sx1 : Int32) (sx2 : Int32) (sx3 : Int32) (k3 : HI → Int32 → Option (HI)) : Option (HI) := gd (vp_in sx1 121) (lt1 (sI I sa0 sx1.toNatClampNeg ((sx2 + sx3))) fun I_10 => lt1 (x5 + (1 : Int32)) fun x_11 => k3 I_10 x_11)
set_option maxHeartbeats 4000000 in
set_option maxRecDepth 100000 in
theorem vX8_tally_53 {X : CX} {I' : HI} {I : HI} {J : HJ} (hX : OKX X cX8_tally RX8 1 23 7) (hret : RetV X cX8_tally I' J) (a0 : Nat) (a1 : Nat) (x2 : Int32) (x3 : Int32) (x4 : Int32) (x5 : Int32) (sa0 : Nat) (sx1 : Int32) (sx2 : Int32) (sx3 : Int32) (hk0 : gK (xG X) a0 = 9) (hk1 : gK (xG X) a1 = 221) (hs0 : gK (xG X) sa0 = 221) (k3 : HI → Int32 → Option (HI)) (hc3 : ∀ (I : HI) (x5 : Int32), k3 I x5 = some I' → V X I J 3 [some (.ref a0), some (.ref a1), some (.int x2), some (.int x3), some (.int x4), some (.int x5), none] []) (hf : X8_tally_J53 I a0 a1 x2 x3 x4 x5 sa0 sx1 sx2 sx3 k3 = some I') : V X I J 53 [some (.ref a0), some (.ref a1), some (.int x2), some (.int x3), some (.int x4), some (.int x5), none] [.int sx3, .int sx2, .int sx1, .ref sa0] := by
  unfold X8_tally_J53 at hf
  refine r_iadd hX dX8_tally_53 ?_
  obtain ⟨g_9, hf⟩ := gd_some hf
  obtain ⟨I_10, eI_10, hf⟩ := lt1_some hf
  refine r_iastE (n := 121) eI_10 hX rfl hs0 g_9 dX8_tally_54 ?_
  obtain ⟨x_11, ex_11, hf⟩ := lt1_some hf
  refine r_iincE (n' := 1) ex_11 hX dX8_tally_55 rfl rfl rfl rfl ?_
  refine r_goto (tgt := 3) hX dX8_tally_58 (by decide) ?_
  refine V.mask [true, true, true, true, true, true, false] ?_
  exact hc3 I_10 x_11 hf
noncomputable def X8_tally_B3 (a0 : Nat) (a1 : Nat) (x2 : Int32) (x3 : Int32) (x4 : Int32) (k3 : HI → Int32 → Option (HI)) (I : HI) (x5 : Int32) : Option (HI) := if x5 < (I a0 5) then gd (vp_in ((116 : Int32)) 121) (bd1 (f_X8_hashOf I a0 ((I a1 ((116 : Int32)).toNatClampNeg)) x3 x5) fun r_3 => lt1 (((((29 : Int32) * x2) + (10 : Int32)) + r_3)) fun x_5 => gd (vp_in x_5 121) (gd (vp_in x_5 121) (if (I a1 x_5.toNatClampNeg) = (7 : Int32) then X8_tally_J53 I a0 a1 x2 x3 x4 x5 a1 x_5 ((I a1 x_5.toNatClampNeg)) ((0 : Int32)) k3 else X8_tally_J53 I a0 a1 x2 x3 x4 x5 a1 x_5 ((I a1 x_5.toNatClampNeg)) x4 k3))) else some I
set_option maxHeartbeats 4000000 in
set_option maxRecDepth 100000 in
theorem vX8_tally_3 {X : CX} {I' : HI} {J : HJ} (hX : OKX X cX8_tally RX8 1 23 7) (hret : RetV X cX8_tally I' J) (a0 : Nat) (a1 : Nat) (x2 : Int32) (x3 : Int32) (x4 : Int32) (hk0 : gK (xG X) a0 = 9) (hk1 : gK (xG X) a1 = 221)   : ∀ (n : Nat) (I : HI) (x5 : Int32), wl2 (X8_tally_B3 a0 a1 x2 x3 x4) n I x5 = some I' → V X I J 3 [some (.ref a0), some (.ref a1), some (.int x2), some (.int x3), some (.int x4), some (.int x5), none] [] := by
  refine wl2_V (P := fun (I : HI) (x5 : Int32) => V X I J 3 [some (.ref a0), some (.ref a1), some (.int x2), some (.int x3), some (.int x4), some (.int x5), none] []) ?_
  intro k3 hc3 I x5 hf
  unfold X8_tally_B3 at hf
  refine r_iload hX dX8_tally_3 rfl ?_
  refine r_aload_n hX dX8_tally_5 rfl ?_
  refine g_8_5 hX fl_X8_17 hk0 dX8_tally_6 ?_
  refine r_icmp_ge (tgt := 61) hX dX8_tally_9 (by decide) (fun c_1 => ?_) (fun c_1 => ?_)
  · have hf := hf_t c_1 hf
    refine r_bipush (v := 29) hX dX8_tally_12 (by decide) ?_
    refine r_iload_n hX dX8_tally_14 rfl ?_
    refine r_imul hX dX8_tally_15 ?_
    refine r_bipush (v := 10) hX dX8_tally_16 (by decide) ?_
    refine r_iadd hX dX8_tally_18 ?_
    refine r_aload_n hX dX8_tally_19 rfl ?_
    refine r_aload_n hX dX8_tally_20 rfl ?_
    refine r_bipush (v := 116) hX dX8_tally_21 (by decide) ?_
    obtain ⟨g_2, hf⟩ := gd_some hf
    refine r_iald (n := 121) hX rfl hk1 g_2 dX8_tally_23 ?_
    refine r_iload_n hX dX8_tally_24 rfl ?_
    refine r_iload hX dX8_tally_25 rfl ?_
    obtain ⟨r_3, h_4, hf⟩ := bd1_some hf
    refine r_callV (As := [.int ((I a1 ((116 : Int32)).toNatClampNeg)), .int x3, .int x5]) (ci := 8) hX (k_X8_hashOf (l := xl X) (J := J) hX.ok hk0 h_4) pk_X8_hashOf ml_X8_162 rfl rfl rfl rfl hk0 rfl rfl rfl (Nat.le_of_ble_eq_true rfl) dX8_tally_27 ?_
    refine r_iadd hX dX8_tally_30 ?_
    obtain ⟨x_5, ex_5, hf⟩ := lt1_some hf
    refine V.topi ex_5 ?_
    refine r_istore hX dX8_tally_31 rfl rfl ?_
    refine r_aload_n hX dX8_tally_33 rfl ?_
    refine r_iload hX dX8_tally_34 rfl ?_
    refine r_dup2 hX dX8_tally_36 rfl rfl ?_
    obtain ⟨g_6, hf⟩ := gd_some hf
    refine r_iald (n := 121) hX rfl hk1 g_6 dX8_tally_37 ?_
    refine r_aload_n hX dX8_tally_38 rfl ?_
    refine r_iload hX dX8_tally_39 rfl ?_
    obtain ⟨g_7, hf⟩ := gd_some hf
    refine r_iald (n := 121) hX rfl hk1 g_7 dX8_tally_41 ?_
    refine r_bipush (v := 7) hX dX8_tally_42 (by decide) ?_
    refine r_icmp_ne (tgt := 51) hX dX8_tally_44 (by decide) (fun c_8 => ?_) (fun c_8 => ?_)
    · have hf := hf_t c_8 hf
      refine r_iconst (v := 0) hX dX8_tally_47 rfl ?_
      refine r_goto (tgt := 53) hX dX8_tally_48 (by decide) ?_
      refine V.mask [true, true, true, true, true, true, false] ?_
      exact vX8_tally_53 hX hret a0 a1 x2 x3 x4 x5 a1 x_5 ((I a1 x_5.toNatClampNeg)) ((0 : Int32)) hk0 hk1 hk1 k3 hc3 hf
    · have hf := hf_f c_8 hf
      refine r_iload hX dX8_tally_51 rfl ?_
      refine V.mask [true, true, true, true, true, true, false] ?_
      exact vX8_tally_53 hX hret a0 a1 x2 x3 x4 x5 a1 x_5 ((I a1 x_5.toNatClampNeg)) x4 hk0 hk1 hk1 k3 hc3 hf
  · have hf := hf_f c_1 hf
    cases hf
    exact hret _ _ dX8_tally_61
noncomputable def f_X8_tally (I : HI) (a0 : Nat) (a1 : Nat) (x2 : Int32) (x3 : Int32) (x4 : Int32) : Option (HI) := wl2 (X8_tally_B3 a0 a1 x2 x3 x4) 5000 I ((0 : Int32))
set_option maxHeartbeats 4000000 in
set_option maxRecDepth 100000 in
theorem k_X8_tally {G : GX} {l : Launch} {I : HI} {J : HJ} {I' : HI} (hG : OKG G) {a0 : Nat} {a1 : Nat} {x2 : Int32} {x3 : Int32} {x4 : Int32} (hk0 : gK G a0 = 9) (hk1 : gK G a1 = 221) (hf : f_X8_tally I a0 a1 x2 x3 x4 = some I') : Ctr G l yX8_tally cX8_tally 7 none 1 23 [.ref a0, .ref a1, .int x2, .int x3, .int x4] I J none I' J := by
  refine ctr_V hG (by decide) [some (.ref a0), some (.ref a1), some (.int x2), some (.int x3), some (.int x4), none, none] rfl rfl fun X e1 e2 hX hret => ?_
  subst e1; subst e2
  unfold f_X8_tally at hf
  refine r_iconst (v := 0) hX dX8_tally_0 rfl ?_
  refine r_istore hX dX8_tally_1 rfl rfl ?_
  refine V.mask [true, true, true, true, true, true, false] ?_
  exact vX8_tally_3 hX hret a0 a1 x2 x3 x4 hk0 hk1 5000 I ((0 : Int32)) hf
noncomputable def X8_makeAnew_B38 (a0 : Nat) (a1 : Nat) (x2 : Int32) (k38 : HI → Int32 → Option (HI)) (I : HI) (x3 : Int32) : Option (HI) := if x3 < 0 then some I else gd (vp_in ((((29 : Int32) * x2) + x3)) 121) (bd1 (f_X8_tally I a0 a1 x2 ((I a1 ((((29 : Int32) * x2) + x3)).toNatClampNeg)) ((1 : Int32))) fun I_9 => lt1 (x3 + (-1 : Int32)) fun x_11 => k38 I_9 x_11)
set_option maxHeartbeats 4000000 in
set_option maxRecDepth 100000 in
theorem vX8_makeAnew_38 {X : CX} {I' : HI} {J : HJ} (hX : OKX X cX8_makeAnew RX8 2 49 4) (hret : RetV X cX8_makeAnew I' J) (a0 : Nat) (a1 : Nat) (x2 : Int32) (hk0 : gK (xG X) a0 = 9) (hk1 : gK (xG X) a1 = 221)   : ∀ (n : Nat) (I : HI) (x3 : Int32), wl2 (X8_makeAnew_B38 a0 a1 x2) n I x3 = some I' → V X I J 38 [some (.ref a0), some (.ref a1), some (.int x2), some (.int x3)] [] := by
  refine wl2_V (P := fun (I : HI) (x3 : Int32) => V X I J 38 [some (.ref a0), some (.ref a1), some (.int x2), some (.int x3)] []) ?_
  intro k38 hc38 I x3 hf
  unfold X8_makeAnew_B38 at hf
  refine r_iload_n hX dX8_makeAnew_38 rfl ?_
  refine r_if_lt (tgt := 63) hX dX8_makeAnew_39 (by decide) (fun c_7 => ?_) (fun c_7 => ?_)
  · have hf := hf_t c_7 hf
    cases hf
    exact hret _ _ dX8_makeAnew_63
  · have hf := hf_f c_7 hf
    refine r_aload_n hX dX8_makeAnew_42 rfl ?_
    refine r_aload_n hX dX8_makeAnew_43 rfl ?_
    refine r_iload_n hX dX8_makeAnew_44 rfl ?_
    refine r_aload_n hX dX8_makeAnew_45 rfl ?_
    refine r_bipush (v := 29) hX dX8_makeAnew_46 (by decide) ?_
    refine r_iload_n hX dX8_makeAnew_48 rfl ?_
    refine r_imul hX dX8_makeAnew_49 ?_
    refine r_iload_n hX dX8_makeAnew_50 rfl ?_
    refine r_iadd hX dX8_makeAnew_51 ?_
    obtain ⟨g_8, hf⟩ := gd_some hf
    refine r_iald (n := 121) hX rfl hk1 g_8 dX8_makeAnew_52 ?_
    refine r_iconst (v := 1) hX dX8_makeAnew_53 rfl ?_
    obtain ⟨I_9, h_10, hf⟩ := bd1_some hf
    refine r_callV (As := [.ref a1, .int x2, .int ((I a1 ((((29 : Int32) * x2) + x3)).toNatClampNeg)), .int ((1 : Int32))]) (ci := 8) hX (k_X8_tally (l := xl X) (J := J) hX.ok hk0 hk1 h_10) pk_X8_tally ml_X8_172 rfl rfl rfl rfl hk0 rfl rfl rfl (Nat.le_of_ble_eq_true rfl) dX8_makeAnew_54 ?_
    obtain ⟨x_11, ex_11, hf⟩ := lt1_some hf
    refine r_iincE (n' := -1) ex_11 hX dX8_makeAnew_57 rfl rfl rfl rfl ?_
    refine r_goto (tgt := 38) hX dX8_makeAnew_60 (by decide) ?_
    refine V.mask [true, true, true, true] ?_
    exact hc38 I_9 x_11 hf
noncomputable def X8_makeAnew_B2 (a0 : Nat) (a1 : Nat) (x2 : Int32) (k2 : HI → Int32 → Option (HI)) (I : HI) (x3 : Int32) : Option (HI) := if x3 < (16 : Int32) then gd (vp_in (((((29 : Int32) * x2) + (10 : Int32)) + x3)) 121) (lt1 (sI I a1 (((((29 : Int32) * x2) + (10 : Int32)) + x3)).toNatClampNeg ((0 : Int32))) fun I_3 => lt1 (x3 + (1 : Int32)) fun x_4 => k2 I_3 x_4) else gd (vp_in ((((29 : Int32) * x2) + (9 : Int32))) 121) (lt1 (((I a1 ((((29 : Int32) * x2) + (9 : Int32))).toNatClampNeg) - (1 : Int32))) fun x_6 => wl2 (X8_makeAnew_B38 a0 a1 x2) 5000 I x_6)
set_option maxHeartbeats 4000000 in
set_option maxRecDepth 100000 in
theorem vX8_makeAnew_2 {X : CX} {I' : HI} {J : HJ} (hX : OKX X cX8_makeAnew RX8 2 49 4) (hret : RetV X cX8_makeAnew I' J) (a0 : Nat) (a1 : Nat) (x2 : Int32) (hk0 : gK (xG X) a0 = 9) (hk1 : gK (xG X) a1 = 221)   : ∀ (n : Nat) (I : HI) (x3 : Int32), wl2 (X8_makeAnew_B2 a0 a1 x2) n I x3 = some I' → V X I J 2 [some (.ref a0), some (.ref a1), some (.int x2), some (.int x3)] [] := by
  refine wl2_V (P := fun (I : HI) (x3 : Int32) => V X I J 2 [some (.ref a0), some (.ref a1), some (.int x2), some (.int x3)] []) ?_
  intro k2 hc2 I x3 hf
  unfold X8_makeAnew_B2 at hf
  refine r_iload_n hX dX8_makeAnew_2 rfl ?_
  refine r_bipush (v := 16) hX dX8_makeAnew_3 (by decide) ?_
  refine r_icmp_ge (tgt := 26) hX dX8_makeAnew_5 (by decide) (fun c_1 => ?_) (fun c_1 => ?_)
  · have hf := hf_t c_1 hf
    refine r_aload_n hX dX8_makeAnew_8 rfl ?_
    refine r_bipush (v := 29) hX dX8_makeAnew_9 (by decide) ?_
    refine r_iload_n hX dX8_makeAnew_11 rfl ?_
    refine r_imul hX dX8_makeAnew_12 ?_
    refine r_bipush (v := 10) hX dX8_makeAnew_13 (by decide) ?_
    refine r_iadd hX dX8_makeAnew_15 ?_
    refine r_iload_n hX dX8_makeAnew_16 rfl ?_
    refine r_iadd hX dX8_makeAnew_17 ?_
    refine r_iconst (v := 0) hX dX8_makeAnew_18 rfl ?_
    obtain ⟨g_2, hf⟩ := gd_some hf
    obtain ⟨I_3, eI_3, hf⟩ := lt1_some hf
    refine r_iastE (n := 121) eI_3 hX rfl hk1 g_2 dX8_makeAnew_19 ?_
    obtain ⟨x_4, ex_4, hf⟩ := lt1_some hf
    refine r_iincE (n' := 1) ex_4 hX dX8_makeAnew_20 rfl rfl rfl rfl ?_
    refine r_goto (tgt := 2) hX dX8_makeAnew_23 (by decide) ?_
    refine V.mask [true, true, true, true] ?_
    exact hc2 I_3 x_4 hf
  · have hf := hf_f c_1 hf
    refine r_aload_n hX dX8_makeAnew_26 rfl ?_
    refine r_bipush (v := 29) hX dX8_makeAnew_27 (by decide) ?_
    refine r_iload_n hX dX8_makeAnew_29 rfl ?_
    refine r_imul hX dX8_makeAnew_30 ?_
    refine r_bipush (v := 9) hX dX8_makeAnew_31 (by decide) ?_
    refine r_iadd hX dX8_makeAnew_33 ?_
    obtain ⟨g_5, hf⟩ := gd_some hf
    refine r_iald (n := 121) hX rfl hk1 g_5 dX8_makeAnew_34 ?_
    refine r_iconst (v := 1) hX dX8_makeAnew_35 rfl ?_
    refine r_isub hX dX8_makeAnew_36 ?_
    obtain ⟨x_6, ex_6, hf⟩ := lt1_some hf
    refine V.topi ex_6 ?_
    refine r_istore_n hX dX8_makeAnew_37 rfl rfl ?_
    refine V.mask [true, true, true, true] ?_
    exact vX8_makeAnew_38 hX hret a0 a1 x2 hk0 hk1 5000 I x_6 hf
noncomputable def f_X8_makeAnew (I : HI) (a0 : Nat) (a1 : Nat) (x2 : Int32) : Option (HI) := wl2 (X8_makeAnew_B2 a0 a1 x2) 5000 I ((0 : Int32))
set_option maxHeartbeats 4000000 in
set_option maxRecDepth 100000 in
theorem k_X8_makeAnew {G : GX} {l : Launch} {I : HI} {J : HJ} {I' : HI} (hG : OKG G) {a0 : Nat} {a1 : Nat} {x2 : Int32} (hk0 : gK G a0 = 9) (hk1 : gK G a1 = 221) (hf : f_X8_makeAnew I a0 a1 x2 = some I') : Ctr G l yX8_makeAnew cX8_makeAnew 4 none 2 49 [.ref a0, .ref a1, .int x2] I J none I' J := by
  refine ctr_V hG (by decide) [some (.ref a0), some (.ref a1), some (.int x2), none] rfl rfl fun X e1 e2 hX hret => ?_
  subst e1; subst e2
  unfold f_X8_makeAnew at hf
  refine r_iconst (v := 0) hX dX8_makeAnew_0 rfl ?_
  refine r_istore_n hX dX8_makeAnew_1 rfl rfl ?_
  refine V.mask [true, true, true, true] ?_
  exact vX8_makeAnew_2 hX hret a0 a1 x2 hk0 hk1 5000 I ((0 : Int32)) hf
noncomputable def X8_filterOf_J38 (I : HI) (a0 : Nat) (a1 : Nat) (x2 : Int32) (x4 : Int32) (sx0 : Int32) (sx1 : Int32) (k5 : Int32 → Int32 → Option (Int32)) : Option (Int32) := lt1 ((sx0 ||| sx1)) fun x_4 => lt1 (x4 + (1 : Int32)) fun x_5 => k5 x_4 x_5
set_option maxHeartbeats 4000000 in
set_option maxRecDepth 100000 in
theorem vX8_filterOf_38 {X : CX} {r : Int32} {I : HI} {J : HJ} (hX : OKX X cX8_filterOf RX8 0 0 5) (hret : RetI X cX8_filterOf r I J) (a0 : Nat) (a1 : Nat) (x2 : Int32) (x4 : Int32) (sx0 : Int32) (sx1 : Int32) (hk0 : gK (xG X) a0 = 9) (hk1 : gK (xG X) a1 = 221) (k5 : Int32 → Int32 → Option (Int32)) (hc5 : ∀ (x3 : Int32) (x4 : Int32), k5 x3 x4 = some r → V X I J 5 [some (.ref a0), some (.ref a1), some (.int x2), some (.int x3), some (.int x4)] []) (hf : X8_filterOf_J38 I a0 a1 x2 x4 sx0 sx1 k5 = some r) : V X I J 38 [some (.ref a0), some (.ref a1), some (.int x2), none, some (.int x4)] [.int sx1, .int sx0] := by
  unfold X8_filterOf_J38 at hf
  refine r_ior hX dX8_filterOf_38 ?_
  obtain ⟨x_4, ex_4, hf⟩ := lt1_some hf
  refine V.topi ex_4 ?_
  refine r_istore_n hX dX8_filterOf_39 rfl rfl ?_
  obtain ⟨x_5, ex_5, hf⟩ := lt1_some hf
  refine r_iincE (n' := 1) ex_5 hX dX8_filterOf_40 rfl rfl rfl rfl ?_
  refine r_goto (tgt := 5) hX dX8_filterOf_43 (by decide) ?_
  refine V.mask [true, true, true, true, true] ?_
  exact hc5 x_4 x_5 hf
noncomputable def X8_filterOf_B5 (I : HI) (a0 : Nat) (a1 : Nat) (x2 : Int32) (k5 : Int32 → Int32 → Option (Int32)) (x3 : Int32) (x4 : Int32) : Option (Int32) := if x4 < (I a0 4) then gd (vp_in (((((29 : Int32) * x2) + (10 : Int32)) + x4)) 121) (if 0 < (I a1 (((((29 : Int32) * x2) + (10 : Int32)) + x4)).toNatClampNeg) then X8_filterOf_J38 I a0 a1 x2 x4 x3 (((1 : Int32) <<< (x4 &&& 31))) k5 else X8_filterOf_J38 I a0 a1 x2 x4 x3 ((0 : Int32)) k5) else some x3
set_option maxHeartbeats 4000000 in
set_option maxRecDepth 100000 in
theorem vX8_filterOf_5 {X : CX} {r : Int32} {I : HI} {J : HJ} (hX : OKX X cX8_filterOf RX8 0 0 5) (hret : RetI X cX8_filterOf r I J) (a0 : Nat) (a1 : Nat) (x2 : Int32) (hk0 : gK (xG X) a0 = 9) (hk1 : gK (xG X) a1 = 221)   : ∀ (n : Nat) (x3 : Int32) (x4 : Int32), wl2 (X8_filterOf_B5 I a0 a1 x2) n x3 x4 = some r → V X I J 5 [some (.ref a0), some (.ref a1), some (.int x2), some (.int x3), some (.int x4)] [] := by
  refine wl2_V (P := fun (x3 : Int32) (x4 : Int32) => V X I J 5 [some (.ref a0), some (.ref a1), some (.int x2), some (.int x3), some (.int x4)] []) ?_
  intro k5 hc5 x3 x4 hf
  unfold X8_filterOf_B5 at hf
  refine r_iload hX dX8_filterOf_5 rfl ?_
  refine r_aload_n hX dX8_filterOf_7 rfl ?_
  refine g_8_4 hX fl_X8_13 hk0 dX8_filterOf_8 ?_
  refine r_icmp_ge (tgt := 46) hX dX8_filterOf_11 (by decide) (fun c_1 => ?_) (fun c_1 => ?_)
  · have hf := hf_t c_1 hf
    refine r_iload_n hX dX8_filterOf_14 rfl ?_
    refine r_aload_n hX dX8_filterOf_15 rfl ?_
    refine r_bipush (v := 29) hX dX8_filterOf_16 (by decide) ?_
    refine r_iload_n hX dX8_filterOf_18 rfl ?_
    refine r_imul hX dX8_filterOf_19 ?_
    refine r_bipush (v := 10) hX dX8_filterOf_20 (by decide) ?_
    refine r_iadd hX dX8_filterOf_22 ?_
    refine r_iload hX dX8_filterOf_23 rfl ?_
    refine r_iadd hX dX8_filterOf_25 ?_
    obtain ⟨g_2, hf⟩ := gd_some hf
    refine r_iald (n := 121) hX rfl hk1 g_2 dX8_filterOf_26 ?_
    refine r_if_le (tgt := 37) hX dX8_filterOf_27 (by decide) (fun c_3 => ?_) (fun c_3 => ?_)
    · have hf := hf_t c_3 hf
      refine r_iconst (v := 1) hX dX8_filterOf_30 rfl ?_
      refine r_iload hX dX8_filterOf_31 rfl ?_
      refine r_ishl hX dX8_filterOf_33 ?_
      refine r_goto (tgt := 38) hX dX8_filterOf_34 (by decide) ?_
      refine V.mask [true, true, true, false, true] ?_
      exact vX8_filterOf_38 hX hret a0 a1 x2 x4 x3 (((1 : Int32) <<< (x4 &&& 31))) hk0 hk1 k5 hc5 hf
    · have hf := hf_f c_3 hf
      refine r_iconst (v := 0) hX dX8_filterOf_37 rfl ?_
      refine V.mask [true, true, true, false, true] ?_
      exact vX8_filterOf_38 hX hret a0 a1 x2 x4 x3 ((0 : Int32)) hk0 hk1 k5 hc5 hf
  · have hf := hf_f c_1 hf
    refine r_iload_n hX dX8_filterOf_46 rfl ?_
    cases hf
    exact hret _ _ dX8_filterOf_47
noncomputable def f_X8_filterOf (I : HI) (a0 : Nat) (a1 : Nat) (x2 : Int32) : Option (Int32) := wl2 (X8_filterOf_B5 I a0 a1 x2) 5000 ((0 : Int32)) ((0 : Int32))
set_option maxHeartbeats 4000000 in
set_option maxRecDepth 100000 in
theorem k_X8_filterOf {G : GX} {l : Launch} {I : HI} {J : HJ} {r : Int32} (hG : OKG G) {a0 : Nat} {a1 : Nat} {x2 : Int32} (hk0 : gK G a0 = 9) (hk1 : gK G a1 = 221) (hf : f_X8_filterOf I a0 a1 x2 = some r) : Ctr G l yX8_filterOf cX8_filterOf 5 (some .int) 0 0 [.ref a0, .ref a1, .int x2] I J (some (.int r)) I J := by
  refine ctr_I hG (by decide) [some (.ref a0), some (.ref a1), some (.int x2), none, none] rfl rfl fun X e1 e2 hX hret => ?_
  subst e1; subst e2
  unfold f_X8_filterOf at hf
  refine r_iconst (v := 0) hX dX8_filterOf_0 rfl ?_
  refine r_istore_n hX dX8_filterOf_1 rfl rfl ?_
  refine r_iconst (v := 0) hX dX8_filterOf_2 rfl ?_
  refine r_istore hX dX8_filterOf_3 rfl rfl ?_
  refine V.mask [true, true, true, true, true] ?_
  exact vX8_filterOf_5 hX hret a0 a1 x2 hk0 hk1 5000 ((0 : Int32)) ((0 : Int32)) hf
noncomputable def X8_net_J112 (I : HI) (a0 : Nat) (x1 : Int32) (sa0 : Nat) (sx1 : Int32) (sx2 : Int32) (k62 : HI → Int32 → Option (Int32 × HI)) : Option (Int32 × HI) := gd (vp_in sx1 3) (lt1 (sI I sa0 sx1.toNatClampNeg sx2) fun I_24 => lt1 (x1 + (1 : Int32)) fun x_25 => k62 I_24 x_25)
set_option maxHeartbeats 4000000 in
set_option maxRecDepth 100000 in
theorem vX8_net_112 {X : CX} {I' : HI} {r : Int32} {I : HI} {J : HJ} (hX : OKX X cX8_net RX8 5 114 2) (hret : RetI X cX8_net r I' J) (a0 : Nat) (x1 : Int32) (sa0 : Nat) (sx1 : Int32) (sx2 : Int32) (hk0 : gK (xG X) a0 = 9) (hs0 : gK (xG X) sa0 = 103) (k62 : HI → Int32 → Option (Int32 × HI)) (hc62 : ∀ (I : HI) (x1 : Int32), k62 I x1 = some (r, I') → V X I J 62 [some (.ref a0), some (.int x1)] []) (hf : X8_net_J112 I a0 x1 sa0 sx1 sx2 k62 = some (r, I')) : V X I J 112 [some (.ref a0), some (.int x1)] [.int sx2, .int sx1, .ref sa0] := by
  unfold X8_net_J112 at hf
  obtain ⟨g_23, hf⟩ := gd_some hf
  obtain ⟨I_24, eI_24, hf⟩ := lt1_some hf
  refine r_iastE (n := 3) eI_24 hX rfl hs0 g_23 dX8_net_112 ?_
  obtain ⟨x_25, ex_25, hf⟩ := lt1_some hf
  refine r_iincE (n' := 1) ex_25 hX dX8_net_113 rfl rfl rfl rfl ?_
  refine r_goto (tgt := 62) hX dX8_net_116 (by decide) ?_
  refine V.mask [true, true] ?_
  exact hc62 I_24 x_25 hf
noncomputable def X8_net_B172 (a0 : Nat) (k172 : HI → Int32 → Option (Int32 × HI)) (I : HI) (x1 : Int32) : Option (Int32 × HI) := if x1 < (I a0 9) then bd1 (f_X8_makeAnew I a0 ((a0 + 9)) x1) fun I_32 => bd1 (f_X8_filterOf I_32 a0 ((a0 + 9)) x1) fun r_34 => gd (vp_in ((((29 : Int32) * x1) + (26 : Int32))) 121) (lt1 (sI I_32 ((a0 + 9)) ((((29 : Int32) * x1) + (26 : Int32))).toNatClampNeg r_34) fun I_37 => lt1 (x1 + (1 : Int32)) fun x_38 => k172 I_37 x_38) else lt1 (sI I a0 22 ((0 : Int32))) fun I_39 => gd (vp_in ((0 : Int32)) 2) (lt1 (sI I_39 ((a0 + 13)) ((0 : Int32)).toNatClampNeg ((0 : Int32))) fun I_41 => gd (vp_in ((1 : Int32)) 2) (lt1 (sI I_41 ((a0 + 13)) ((1 : Int32)).toNatClampNeg ((0 : Int32))) fun I_43 => some ((I_43 a0 9), I_43)))
set_option maxHeartbeats 4000000 in
set_option maxRecDepth 100000 in
theorem vX8_net_172 {X : CX} {I' : HI} {r : Int32} {J : HJ} (hX : OKX X cX8_net RX8 5 114 2) (hret : RetI X cX8_net r I' J) (a0 : Nat) (hk0 : gK (xG X) a0 = 9)   : ∀ (n : Nat) (I : HI) (x1 : Int32), wl2 (X8_net_B172 a0) n I x1 = some (r, I') → V X I J 172 [some (.ref a0), some (.int x1)] [] := by
  refine wl2_V (P := fun (I : HI) (x1 : Int32) => V X I J 172 [some (.ref a0), some (.int x1)] []) ?_
  intro k172 hc172 I x1 hf
  unfold X8_net_B172 at hf
  refine r_iload_n hX dX8_net_172 rfl ?_
  refine r_aload_n hX dX8_net_173 rfl ?_
  refine g_8_9 hX fl_X8_78 hk0 dX8_net_174 ?_
  refine r_icmp_ge (tgt := 216) hX dX8_net_177 (by decide) (fun c_31 => ?_) (fun c_31 => ?_)
  · have hf := hf_t c_31 hf
    refine r_aload_n hX dX8_net_180 rfl ?_
    refine r_aload_n hX dX8_net_181 rfl ?_
    refine g_8_19 hX fl_X8_44 hk0 dX8_net_182 ?_
    refine r_iload_n hX dX8_net_185 rfl ?_
    obtain ⟨I_32, h_33, hf⟩ := bd1_some hf
    refine r_callV (As := [.ref ((a0 + 9)), .int x1]) (ci := 8) hX (k_X8_makeAnew (l := xl X) (J := J) hX.ok hk0 ((q_9_19 hX hk0)) h_33) pk_X8_makeAnew ml_X8_151 rfl rfl rfl rfl hk0 rfl rfl rfl (Nat.le_of_ble_eq_true rfl) dX8_net_186 ?_
    refine r_aload_n hX dX8_net_189 rfl ?_
    refine g_8_19 hX fl_X8_44 hk0 dX8_net_190 ?_
    refine r_bipush (v := 29) hX dX8_net_193 (by decide) ?_
    refine r_iload_n hX dX8_net_195 rfl ?_
    refine r_imul hX dX8_net_196 ?_
    refine r_bipush (v := 26) hX dX8_net_197 (by decide) ?_
    refine r_iadd hX dX8_net_199 ?_
    refine r_aload_n hX dX8_net_200 rfl ?_
    refine r_aload_n hX dX8_net_201 rfl ?_
    refine g_8_19 hX fl_X8_44 hk0 dX8_net_202 ?_
    refine r_iload_n hX dX8_net_205 rfl ?_
    obtain ⟨r_34, h_35, hf⟩ := bd1_some hf
    refine r_callV (As := [.ref ((a0 + 9)), .int x1]) (ci := 8) hX (k_X8_filterOf (l := xl X) (J := J) hX.ok hk0 ((q_9_19 hX hk0)) h_35) pk_X8_filterOf ml_X8_155 rfl rfl rfl rfl hk0 rfl rfl rfl (Nat.le_of_ble_eq_true rfl) dX8_net_206 ?_
    obtain ⟨g_36, hf⟩ := gd_some hf
    obtain ⟨I_37, eI_37, hf⟩ := lt1_some hf
    refine r_iastE (n := 121) eI_37 hX rfl ((q_9_19 hX hk0)) g_36 dX8_net_209 ?_
    obtain ⟨x_38, ex_38, hf⟩ := lt1_some hf
    refine r_iincE (n' := 1) ex_38 hX dX8_net_210 rfl rfl rfl rfl ?_
    refine r_goto (tgt := 172) hX dX8_net_213 (by decide) ?_
    refine V.mask [true, true] ?_
    exact hc172 I_37 x_38 hf
  · have hf := hf_f c_31 hf
    refine r_aload_n hX dX8_net_216 rfl ?_
    refine r_iconst (v := 0) hX dX8_net_217 rfl ?_
    obtain ⟨I_39, eI_39, hf⟩ := lt1_some hf
    refine p_8_22 eI_39 hX fl_X8_159 hk0 dX8_net_218 ?_
    refine r_aload_n hX dX8_net_221 rfl ?_
    refine g_8_24 hX fl_X8_56 hk0 dX8_net_222 ?_
    refine r_iconst (v := 0) hX dX8_net_225 rfl ?_
    refine r_iconst (v := 0) hX dX8_net_226 rfl ?_
    obtain ⟨g_40, hf⟩ := gd_some hf
    obtain ⟨I_41, eI_41, hf⟩ := lt1_some hf
    refine r_zastE (n := 2) eI_41 hX rfl rfl ((q_9_24 hX hk0)) g_40 zb_0 dX8_net_227 ?_
    refine r_aload_n hX dX8_net_228 rfl ?_
    refine g_8_24 hX fl_X8_56 hk0 dX8_net_229 ?_
    refine r_iconst (v := 1) hX dX8_net_232 rfl ?_
    refine r_iconst (v := 0) hX dX8_net_233 rfl ?_
    obtain ⟨g_42, hf⟩ := gd_some hf
    obtain ⟨I_43, eI_43, hf⟩ := lt1_some hf
    refine r_zastE (n := 2) eI_43 hX rfl rfl ((q_9_24 hX hk0)) g_42 zb_0 dX8_net_234 ?_
    refine r_aload_n hX dX8_net_235 rfl ?_
    refine g_8_9 hX fl_X8_78 hk0 dX8_net_236 ?_
    cases hf
    exact hret _ _ dX8_net_239
noncomputable def X8_net_B146 (a0 : Nat) (k146 : HI → Int32 → Option (Int32 × HI)) (I : HI) (x1 : Int32) : Option (Int32 × HI) := if x1 < (121 : Int32) then gd (vp_in x1 121) (gd (vp_in x1 121) (lt1 (sI I ((a0 + 9)) x1.toNatClampNeg ((I ((a0 + 8)) x1.toNatClampNeg))) fun I_29 => lt1 (x1 + (1 : Int32)) fun x_30 => k146 I_29 x_30)) else wl2 (X8_net_B172 a0) 5000 I ((0 : Int32))
set_option maxHeartbeats 4000000 in
set_option maxRecDepth 100000 in
theorem vX8_net_146 {X : CX} {I' : HI} {r : Int32} {J : HJ} (hX : OKX X cX8_net RX8 5 114 2) (hret : RetI X cX8_net r I' J) (a0 : Nat) (hk0 : gK (xG X) a0 = 9)   : ∀ (n : Nat) (I : HI) (x1 : Int32), wl2 (X8_net_B146 a0) n I x1 = some (r, I') → V X I J 146 [some (.ref a0), some (.int x1)] [] := by
  refine wl2_V (P := fun (I : HI) (x1 : Int32) => V X I J 146 [some (.ref a0), some (.int x1)] []) ?_
  intro k146 hc146 I x1 hf
  unfold X8_net_B146 at hf
  refine r_iload_n hX dX8_net_146 rfl ?_
  refine r_bipush (v := 121) hX dX8_net_147 (by decide) ?_
  refine r_icmp_ge (tgt := 170) hX dX8_net_149 (by decide) (fun c_26 => ?_) (fun c_26 => ?_)
  · have hf := hf_t c_26 hf
    refine r_aload_n hX dX8_net_152 rfl ?_
    refine g_8_19 hX fl_X8_44 hk0 dX8_net_153 ?_
    refine r_iload_n hX dX8_net_156 rfl ?_
    refine r_aload_n hX dX8_net_157 rfl ?_
    refine g_8_18 hX fl_X8_41 hk0 dX8_net_158 ?_
    refine r_iload_n hX dX8_net_161 rfl ?_
    obtain ⟨g_27, hf⟩ := gd_some hf
    refine r_iald (n := 121) hX rfl ((q_9_18 hX hk0)) g_27 dX8_net_162 ?_
    obtain ⟨g_28, hf⟩ := gd_some hf
    obtain ⟨I_29, eI_29, hf⟩ := lt1_some hf
    refine r_iastE (n := 121) eI_29 hX rfl ((q_9_19 hX hk0)) g_28 dX8_net_163 ?_
    obtain ⟨x_30, ex_30, hf⟩ := lt1_some hf
    refine r_iincE (n' := 1) ex_30 hX dX8_net_164 rfl rfl rfl rfl ?_
    refine r_goto (tgt := 146) hX dX8_net_167 (by decide) ?_
    refine V.mask [true, true] ?_
    exact hc146 I_29 x_30 hf
  · have hf := hf_f c_26 hf
    refine r_iconst (v := 0) hX dX8_net_170 rfl ?_
    refine r_istore_n hX dX8_net_171 rfl rfl ?_
    refine V.mask [true, true] ?_
    exact vX8_net_172 hX hret a0 hk0 5000 I ((0 : Int32)) hf
noncomputable def X8_net_B121 (a0 : Nat) (k121 : HI → Int32 → Option (Int32 × HI)) (I : HI) (x1 : Int32) : Option (Int32 × HI) := if x1 < (4 : Int32) then gd (vp_in x1 4) (gd (vp_in x1 4) (lt1 (sI I ((a0 + 4)) x1.toNatClampNeg ((I ((a0 + 7)) x1.toNatClampNeg))) fun I_21 => lt1 (x1 + (1 : Int32)) fun x_22 => k121 I_21 x_22)) else wl2 (X8_net_B146 a0) 5000 I ((0 : Int32))
set_option maxHeartbeats 4000000 in
set_option maxRecDepth 100000 in
theorem vX8_net_121 {X : CX} {I' : HI} {r : Int32} {J : HJ} (hX : OKX X cX8_net RX8 5 114 2) (hret : RetI X cX8_net r I' J) (a0 : Nat) (hk0 : gK (xG X) a0 = 9)   : ∀ (n : Nat) (I : HI) (x1 : Int32), wl2 (X8_net_B121 a0) n I x1 = some (r, I') → V X I J 121 [some (.ref a0), some (.int x1)] [] := by
  refine wl2_V (P := fun (I : HI) (x1 : Int32) => V X I J 121 [some (.ref a0), some (.int x1)] []) ?_
  intro k121 hc121 I x1 hf
  unfold X8_net_B121 at hf
  refine r_iload_n hX dX8_net_121 rfl ?_
  refine r_iconst (v := 4) hX dX8_net_122 rfl ?_
  refine r_icmp_ge (tgt := 144) hX dX8_net_123 (by decide) (fun c_18 => ?_) (fun c_18 => ?_)
  · have hf := hf_t c_18 hf
    refine r_aload_n hX dX8_net_126 rfl ?_
    refine g_8_10 hX fl_X8_29 hk0 dX8_net_127 ?_
    refine r_iload_n hX dX8_net_130 rfl ?_
    refine r_aload_n hX dX8_net_131 rfl ?_
    refine g_8_17 hX fl_X8_38 hk0 dX8_net_132 ?_
    refine r_iload_n hX dX8_net_135 rfl ?_
    obtain ⟨g_19, hf⟩ := gd_some hf
    refine r_iald (n := 4) hX rfl ((q_9_17 hX hk0)) g_19 dX8_net_136 ?_
    obtain ⟨g_20, hf⟩ := gd_some hf
    obtain ⟨I_21, eI_21, hf⟩ := lt1_some hf
    refine r_iastE (n := 4) eI_21 hX rfl ((q_9_10 hX hk0)) g_20 dX8_net_137 ?_
    obtain ⟨x_22, ex_22, hf⟩ := lt1_some hf
    refine r_iincE (n' := 1) ex_22 hX dX8_net_138 rfl rfl rfl rfl ?_
    refine r_goto (tgt := 121) hX dX8_net_141 (by decide) ?_
    refine V.mask [true, true] ?_
    exact hc121 I_21 x_22 hf
  · have hf := hf_f c_18 hf
    refine r_iconst (v := 0) hX dX8_net_144 rfl ?_
    refine r_istore_n hX dX8_net_145 rfl rfl ?_
    refine V.mask [true, true] ?_
    exact vX8_net_146 hX hret a0 hk0 5000 I ((0 : Int32)) hf
noncomputable def X8_net_J89 (I : HI) (a0 : Nat) (x1 : Int32) (sa0 : Nat) (sx1 : Int32) (sx2 : Int32) (k62 : HI → Int32 → Option (Int32 × HI)) : Option (Int32 × HI) := gd (vp_in sx1 3) (lt1 (sI I sa0 sx1.toNatClampNeg sx2) fun I_15 => if (I_15 a0 13) = 0 then X8_net_J112 I_15 a0 x1 ((a0 + 3)) x1 ((1 : Int32)) k62 else gd (vp_in x1 3) (X8_net_J112 I_15 a0 x1 ((a0 + 3)) x1 ((I_15 ((a0 + 6)) x1.toNatClampNeg)) k62))
set_option maxHeartbeats 4000000 in
set_option maxRecDepth 100000 in
theorem vX8_net_89 {X : CX} {I' : HI} {r : Int32} {I : HI} {J : HJ} (hX : OKX X cX8_net RX8 5 114 2) (hret : RetI X cX8_net r I' J) (a0 : Nat) (x1 : Int32) (sa0 : Nat) (sx1 : Int32) (sx2 : Int32) (hk0 : gK (xG X) a0 = 9) (hs0 : gK (xG X) sa0 = 103) (k62 : HI → Int32 → Option (Int32 × HI)) (hc62 : ∀ (I : HI) (x1 : Int32), k62 I x1 = some (r, I') → V X I J 62 [some (.ref a0), some (.int x1)] []) (hf : X8_net_J89 I a0 x1 sa0 sx1 sx2 k62 = some (r, I')) : V X I J 89 [some (.ref a0), some (.int x1)] [.int sx2, .int sx1, .ref sa0] := by
  unfold X8_net_J89 at hf
  obtain ⟨g_14, hf⟩ := gd_some hf
  obtain ⟨I_15, eI_15, hf⟩ := lt1_some hf
  refine r_iastE (n := 3) eI_15 hX rfl hs0 g_14 dX8_net_89 ?_
  refine r_aload_n hX dX8_net_90 rfl ?_
  refine g_8_8 hX fl_X8_26 hk0 dX8_net_91 ?_
  refine r_iload_n hX dX8_net_94 rfl ?_
  refine r_aload_n hX dX8_net_95 rfl ?_
  refine g_8_13 hX fl_X8_109 hk0 dX8_net_96 ?_
  refine r_if_ne (tgt := 106) hX dX8_net_99 (by decide) (fun c_16 => ?_) (fun c_16 => ?_)
  · have hf := hf_t c_16 hf
    refine r_iconst (v := 1) hX dX8_net_102 rfl ?_
    refine r_goto (tgt := 112) hX dX8_net_103 (by decide) ?_
    refine V.mask [true, true] ?_
    exact vX8_net_112 hX hret a0 x1 ((a0 + 3)) x1 ((1 : Int32)) hk0 (q_9_8 hX hk0) k62 hc62 hf
  · have hf := hf_f c_16 hf
    refine r_aload_n hX dX8_net_106 rfl ?_
    refine g_8_15 hX fl_X8_35 hk0 dX8_net_107 ?_
    refine r_iload_n hX dX8_net_110 rfl ?_
    obtain ⟨g_17, hf⟩ := gd_some hf
    refine r_iald (n := 3) hX rfl ((q_9_15 hX hk0)) g_17 dX8_net_111 ?_
    refine V.mask [true, true] ?_
    exact vX8_net_112 hX hret a0 x1 ((a0 + 3)) x1 ((I_15 ((a0 + 6)) x1.toNatClampNeg)) hk0 (q_9_8 hX hk0) k62 hc62 hf
noncomputable def X8_net_B62 (a0 : Nat) (k62 : HI → Int32 → Option (Int32 × HI)) (I : HI) (x1 : Int32) : Option (Int32 × HI) := if x1 < (3 : Int32) then if (I a0 13) = 0 then X8_net_J89 I a0 x1 ((a0 + 2)) x1 ((1 : Int32)) k62 else gd (vp_in x1 3) (X8_net_J89 I a0 x1 ((a0 + 2)) x1 ((I ((a0 + 5)) x1.toNatClampNeg)) k62) else wl2 (X8_net_B121 a0) 5000 I ((0 : Int32))
set_option maxHeartbeats 4000000 in
set_option maxRecDepth 100000 in
theorem vX8_net_62 {X : CX} {I' : HI} {r : Int32} {J : HJ} (hX : OKX X cX8_net RX8 5 114 2) (hret : RetI X cX8_net r I' J) (a0 : Nat) (hk0 : gK (xG X) a0 = 9)   : ∀ (n : Nat) (I : HI) (x1 : Int32), wl2 (X8_net_B62 a0) n I x1 = some (r, I') → V X I J 62 [some (.ref a0), some (.int x1)] [] := by
  refine wl2_V (P := fun (I : HI) (x1 : Int32) => V X I J 62 [some (.ref a0), some (.int x1)] []) ?_
  intro k62 hc62 I x1 hf
  unfold X8_net_B62 at hf
  refine r_iload_n hX dX8_net_62 rfl ?_
  refine r_iconst (v := 3) hX dX8_net_63 rfl ?_
  refine r_icmp_ge (tgt := 119) hX dX8_net_64 (by decide) (fun c_11 => ?_) (fun c_11 => ?_)
  · have hf := hf_t c_11 hf
    refine r_aload_n hX dX8_net_67 rfl ?_
    refine g_8_7 hX fl_X8_23 hk0 dX8_net_68 ?_
    refine r_iload_n hX dX8_net_71 rfl ?_
    refine r_aload_n hX dX8_net_72 rfl ?_
    refine g_8_13 hX fl_X8_109 hk0 dX8_net_73 ?_
    refine r_if_ne (tgt := 83) hX dX8_net_76 (by decide) (fun c_12 => ?_) (fun c_12 => ?_)
    · have hf := hf_t c_12 hf
      refine r_iconst (v := 1) hX dX8_net_79 rfl ?_
      refine r_goto (tgt := 89) hX dX8_net_80 (by decide) ?_
      refine V.mask [true, true] ?_
      exact vX8_net_89 hX hret a0 x1 ((a0 + 2)) x1 ((1 : Int32)) hk0 (q_9_7 hX hk0) k62 hc62 hf
    · have hf := hf_f c_12 hf
      refine r_aload_n hX dX8_net_83 rfl ?_
      refine g_8_14 hX fl_X8_32 hk0 dX8_net_84 ?_
      refine r_iload_n hX dX8_net_87 rfl ?_
      obtain ⟨g_13, hf⟩ := gd_some hf
      refine r_iald (n := 3) hX rfl ((q_9_14 hX hk0)) g_13 dX8_net_88 ?_
      refine V.mask [true, true] ?_
      exact vX8_net_89 hX hret a0 x1 ((a0 + 2)) x1 ((I ((a0 + 5)) x1.toNatClampNeg)) hk0 (q_9_7 hX hk0) k62 hc62 hf
  · have hf := hf_f c_11 hf
    refine r_iconst (v := 0) hX dX8_net_119 rfl ?_
    refine r_istore_n hX dX8_net_120 rfl rfl ?_
    refine V.mask [true, true] ?_
    exact vX8_net_121 hX hret a0 hk0 5000 I ((0 : Int32)) hf
noncomputable def X8_net_J49 (I : HI) (a0 : Nat) (sa0 : Nat) (sx1 : Int32) : Option (Int32 × HI) := lt1 (sI I sa0 6 sx1) fun I_9 => lt1 (sI I_9 a0 9 ((I_9 a0 16))) fun I_10 => wl2 (X8_net_B62 a0) 5000 I_10 ((0 : Int32))
set_option maxHeartbeats 4000000 in
set_option maxRecDepth 100000 in
theorem vX8_net_49 {X : CX} {I' : HI} {r : Int32} {I : HI} {J : HJ} (hX : OKX X cX8_net RX8 5 114 2) (hret : RetI X cX8_net r I' J) (a0 : Nat) (sa0 : Nat) (sx1 : Int32) (hk0 : gK (xG X) a0 = 9) (hs0 : gK (xG X) sa0 = 9)   (hf : X8_net_J49 I a0 sa0 sx1 = some (r, I')) : V X I J 49 [some (.ref a0), none] [.int sx1, .ref sa0] := by
  unfold X8_net_J49 at hf
  obtain ⟨I_9, eI_9, hf⟩ := lt1_some hf
  refine p_8_6 eI_9 hX fl_X8_20 hs0 dX8_net_49 ?_
  refine r_aload_n hX dX8_net_52 rfl ?_
  refine r_aload_n hX dX8_net_53 rfl ?_
  refine g_8_16 hX fl_X8_112 hk0 dX8_net_54 ?_
  obtain ⟨I_10, eI_10, hf⟩ := lt1_some hf
  refine p_8_9 eI_10 hX fl_X8_78 hk0 dX8_net_57 ?_
  refine r_iconst (v := 0) hX dX8_net_60 rfl ?_
  refine r_istore_n hX dX8_net_61 rfl rfl ?_
  refine V.mask [true, true] ?_
  exact vX8_net_62 hX hret a0 hk0 5000 I_10 ((0 : Int32)) hf
noncomputable def f_X8_net (I : HI) (a0 : Nat) : Option (Int32 × HI) := lt1 (sI I a0 0 ((0 : Int32))) fun I_1 => bd2 (f_X8_readNet I_1 a0) fun r_2 I_3 => if r_2 = (-9 : Int32) then lt1 (sI I_3 a0 4 ((I_3 a0 11))) fun I_6 => lt1 (sI I_6 a0 5 ((I_6 a0 12))) fun I_7 => if (I_7 a0 13) = 0 then X8_net_J49 I_7 a0 a0 ((1 : Int32)) else X8_net_J49 I_7 a0 a0 ((I_7 a0 13)) else some ((-3 : Int32), I_3)
set_option maxHeartbeats 4000000 in
set_option maxRecDepth 100000 in
theorem k_X8_net {G : GX} {l : Launch} {I : HI} {J : HJ} {I' : HI} {r : Int32} (hG : OKG G) {a0 : Nat} (hk0 : gK G a0 = 9) (hf : f_X8_net I a0 = some (r, I')) : Ctr G l yX8_net cX8_net 2 (some .int) 5 114 [.ref a0] I J (some (.int r)) I' J := by
  refine ctr_I hG (by decide) [some (.ref a0), none] rfl rfl fun X e1 e2 hX hret => ?_
  subst e1; subst e2
  unfold f_X8_net at hf
  refine r_aload_n hX dX8_net_0 rfl ?_
  refine r_iconst (v := 0) hX dX8_net_1 rfl ?_
  obtain ⟨I_1, eI_1, hf⟩ := lt1_some hf
  refine p_8_0 eI_1 hX fl_X8_75 hk0 dX8_net_2 ?_
  refine r_aload_n hX dX8_net_5 rfl ?_
  obtain ⟨r_2, I_3, h_4, hf⟩ := bd2_some hf
  refine r_callV (As := []) (ci := 8) hX (k_X8_readNet (l := xl X) (J := J) hX.ok hk0 h_4) pk_X8_readNet ml_X8_147 rfl rfl rfl rfl hk0 rfl rfl rfl (Nat.le_of_ble_eq_true rfl) dX8_net_6 ?_
  refine r_bipush (v := -9) hX dX8_net_9 (by decide) ?_
  refine r_icmp_eq (tgt := 17) hX dX8_net_11 (by decide) (fun c_5 => ?_) (fun c_5 => ?_)
  · have hf := hf_t c_5 hf
    refine r_aload_n hX dX8_net_17 rfl ?_
    refine r_aload_n hX dX8_net_18 rfl ?_
    refine g_8_11 hX fl_X8_103 hk0 dX8_net_19 ?_
    obtain ⟨I_6, eI_6, hf⟩ := lt1_some hf
    refine p_8_4 eI_6 hX fl_X8_13 hk0 dX8_net_22 ?_
    refine r_aload_n hX dX8_net_25 rfl ?_
    refine r_aload_n hX dX8_net_26 rfl ?_
    refine g_8_12 hX fl_X8_106 hk0 dX8_net_27 ?_
    obtain ⟨I_7, eI_7, hf⟩ := lt1_some hf
    refine p_8_5 eI_7 hX fl_X8_17 hk0 dX8_net_30 ?_
    refine r_aload_n hX dX8_net_33 rfl ?_
    refine r_aload_n hX dX8_net_34 rfl ?_
    refine g_8_13 hX fl_X8_109 hk0 dX8_net_35 ?_
    refine r_if_ne (tgt := 45) hX dX8_net_38 (by decide) (fun c_8 => ?_) (fun c_8 => ?_)
    · have hf := hf_t c_8 hf
      refine r_iconst (v := 1) hX dX8_net_41 rfl ?_
      refine r_goto (tgt := 49) hX dX8_net_42 (by decide) ?_
      refine V.mask [true, false] ?_
      exact vX8_net_49 hX hret a0 a0 ((1 : Int32)) hk0 hk0 hf
    · have hf := hf_f c_8 hf
      refine r_aload_n hX dX8_net_45 rfl ?_
      refine g_8_13 hX fl_X8_109 hk0 dX8_net_46 ?_
      refine V.mask [true, false] ?_
      exact vX8_net_49 hX hret a0 a0 ((I_7 a0 13)) hk0 hk0 hf
  · have hf := hf_f c_5 hf
    refine r_bipush (v := -3) hX dX8_net_14 (by decide) ?_
    cases hf
    exact hret _ _ dX8_net_16
noncomputable def X8_isSaid_J40 (I : HI) (a0 : Nat) (x1 : Int32) (x2 : Int32) (x3 : Int32) (x5 : Int32) (sx0 : Int32) (k6 : Int32 → Int32 → Option (Int32)) : Option (Int32) := lt1 (x5 + (1 : Int32)) fun x_9 => k6 sx0 x_9
set_option maxHeartbeats 4000000 in
set_option maxRecDepth 100000 in
theorem vX8_isSaid_40 {X : CX} {r : Int32} {I : HI} {J : HJ} (hX : OKX X cX8_isSaid RX8 1 23 6) (hret : RetZ X cX8_isSaid r I J) (a0 : Nat) (x1 : Int32) (x2 : Int32) (x3 : Int32) (x5 : Int32) (sx0 : Int32) (hk0 : gK (xG X) a0 = 9) (k6 : Int32 → Int32 → Option (Int32)) (hc6 : ∀ (x4 : Int32) (x5 : Int32), k6 x4 x5 = some r → V X I J 6 [some (.ref a0), some (.int x1), some (.int x2), some (.int x3), some (.int x4), some (.int x5)] []) (hf : X8_isSaid_J40 I a0 x1 x2 x3 x5 sx0 k6 = some r) : V X I J 40 [some (.ref a0), some (.int x1), some (.int x2), some (.int x3), none, some (.int x5)] [.int sx0] := by
  unfold X8_isSaid_J40 at hf
  refine r_istore hX dX8_isSaid_40 rfl rfl ?_
  obtain ⟨x_9, ex_9, hf⟩ := lt1_some hf
  refine r_iincE (n' := 1) ex_9 hX dX8_isSaid_42 rfl rfl rfl rfl ?_
  refine r_goto (tgt := 6) hX dX8_isSaid_45 (by decide) ?_
  refine V.mask [true, true, true, true, true, true] ?_
  exact hc6 sx0 x_9 hf
noncomputable def X8_isSaid_J39 (I : HI) (a0 : Nat) (x1 : Int32) (x2 : Int32) (x3 : Int32) (x5 : Int32) (k6 : Int32 → Int32 → Option (Int32)) : Option (Int32) := X8_isSaid_J40 I a0 x1 x2 x3 x5 ((0 : Int32)) k6
set_option maxHeartbeats 4000000 in
set_option maxRecDepth 100000 in
theorem vX8_isSaid_39 {X : CX} {r : Int32} {I : HI} {J : HJ} (hX : OKX X cX8_isSaid RX8 1 23 6) (hret : RetZ X cX8_isSaid r I J) (a0 : Nat) (x1 : Int32) (x2 : Int32) (x3 : Int32) (x5 : Int32) (hk0 : gK (xG X) a0 = 9) (k6 : Int32 → Int32 → Option (Int32)) (hc6 : ∀ (x4 : Int32) (x5 : Int32), k6 x4 x5 = some r → V X I J 6 [some (.ref a0), some (.int x1), some (.int x2), some (.int x3), some (.int x4), some (.int x5)] []) (hf : X8_isSaid_J39 I a0 x1 x2 x3 x5 k6 = some r) : V X I J 39 [some (.ref a0), some (.int x1), some (.int x2), some (.int x3), none, some (.int x5)] [] := by
  unfold X8_isSaid_J39 at hf
  refine r_iconst (v := 0) hX dX8_isSaid_39 rfl ?_
  refine V.mask [true, true, true, true, false, true] ?_
  exact vX8_isSaid_40 hX hret a0 x1 x2 x3 x5 ((0 : Int32)) hk0 k6 hc6 hf
noncomputable def X8_isSaid_B6 (I : HI) (a0 : Nat) (x1 : Int32) (x2 : Int32) (x3 : Int32) (k6 : Int32 → Int32 → Option (Int32)) (x4 : Int32) (x5 : Int32) : Option (Int32) := if x5 < (I a0 5) then if x4 = 0 then X8_isSaid_J39 I a0 x1 x2 x3 x5 k6 else bd1 (f_X8_hashOf I a0 x2 x3 x5) fun r_3 => bd1 (f_X8_has x1 r_3) fun r_5 => if r_5 = 0 then X8_isSaid_J39 I a0 x1 x2 x3 x5 k6 else X8_isSaid_J40 I a0 x1 x2 x3 x5 ((1 : Int32)) k6 else gd (zb x4) (some x4)
set_option maxHeartbeats 4000000 in
set_option maxRecDepth 100000 in
theorem vX8_isSaid_6 {X : CX} {r : Int32} {I : HI} {J : HJ} (hX : OKX X cX8_isSaid RX8 1 23 6) (hret : RetZ X cX8_isSaid r I J) (a0 : Nat) (x1 : Int32) (x2 : Int32) (x3 : Int32) (hk0 : gK (xG X) a0 = 9)   : ∀ (n : Nat) (x4 : Int32) (x5 : Int32), wl2 (X8_isSaid_B6 I a0 x1 x2 x3) n x4 x5 = some r → V X I J 6 [some (.ref a0), some (.int x1), some (.int x2), some (.int x3), some (.int x4), some (.int x5)] [] := by
  refine wl2_V (P := fun (x4 : Int32) (x5 : Int32) => V X I J 6 [some (.ref a0), some (.int x1), some (.int x2), some (.int x3), some (.int x4), some (.int x5)] []) ?_
  intro k6 hc6 x4 x5 hf
  unfold X8_isSaid_B6 at hf
  refine r_iload hX dX8_isSaid_6 rfl ?_
  refine r_aload_n hX dX8_isSaid_8 rfl ?_
  refine g_8_5 hX fl_X8_17 hk0 dX8_isSaid_9 ?_
  refine r_icmp_ge (tgt := 48) hX dX8_isSaid_12 (by decide) (fun c_1 => ?_) (fun c_1 => ?_)
  · have hf := hf_t c_1 hf
    refine r_iload hX dX8_isSaid_15 rfl ?_
    refine r_if_eq (tgt := 39) hX dX8_isSaid_17 (by decide) (fun c_2 => ?_) (fun c_2 => ?_)
    · have hf := hf_t c_2 hf
      refine V.mask [true, true, true, true, false, true] ?_
      exact vX8_isSaid_39 hX hret a0 x1 x2 x3 x5 hk0 k6 hc6 hf
    · have hf := hf_f c_2 hf
      refine r_iload_n hX dX8_isSaid_20 rfl ?_
      refine r_aload_n hX dX8_isSaid_21 rfl ?_
      refine r_iload_n hX dX8_isSaid_22 rfl ?_
      refine r_iload_n hX dX8_isSaid_23 rfl ?_
      refine r_iload hX dX8_isSaid_24 rfl ?_
      obtain ⟨r_3, h_4, hf⟩ := bd1_some hf
      refine r_callV (As := [.int x2, .int x3, .int x5]) (ci := 8) hX (k_X8_hashOf (l := xl X) (J := J) hX.ok hk0 h_4) pk_X8_hashOf ml_X8_162 rfl rfl rfl rfl hk0 rfl rfl rfl (Nat.le_of_ble_eq_true rfl) dX8_isSaid_26 ?_
      obtain ⟨r_5, h_6, hf⟩ := bd1_some hf
      refine r_callS (As := [.int x1, .int r_3]) hX (k_X8_has (l := xl X) (I := I) (J := J) hX.ok  h_6) pk_X8_has ml_X8_166 rfl rfl rfl (Nat.le_of_ble_eq_true rfl) dX8_isSaid_29 ?_
      refine r_if_eq (tgt := 39) hX dX8_isSaid_32 (by decide) (fun c_7 => ?_) (fun c_7 => ?_)
      · have hf := hf_t c_7 hf
        refine V.mask [true, true, true, true, false, true] ?_
        exact vX8_isSaid_39 hX hret a0 x1 x2 x3 x5 hk0 k6 hc6 hf
      · have hf := hf_f c_7 hf
        refine r_iconst (v := 1) hX dX8_isSaid_35 rfl ?_
        refine r_goto (tgt := 40) hX dX8_isSaid_36 (by decide) ?_
        refine V.mask [true, true, true, true, false, true] ?_
        exact vX8_isSaid_40 hX hret a0 x1 x2 x3 x5 ((1 : Int32)) hk0 k6 hc6 hf
  · have hf := hf_f c_1 hf
    refine r_iload hX dX8_isSaid_48 rfl ?_
    obtain ⟨g_8, hf⟩ := gd_some hf
    cases hf
    exact hret _ _ g_8 dX8_isSaid_50
noncomputable def f_X8_isSaid (I : HI) (a0 : Nat) (x1 : Int32) (x2 : Int32) (x3 : Int32) : Option (Int32) := wl2 (X8_isSaid_B6 I a0 x1 x2 x3) 5000 ((1 : Int32)) ((0 : Int32))
set_option maxHeartbeats 4000000 in
set_option maxRecDepth 100000 in
theorem k_X8_isSaid {G : GX} {l : Launch} {I : HI} {J : HJ} {r : Int32} (hG : OKG G) {a0 : Nat} {x1 : Int32} {x2 : Int32} {x3 : Int32} (hk0 : gK G a0 = 9) (hf : f_X8_isSaid I a0 x1 x2 x3 = some r) : Ctr G l yX8_isSaid cX8_isSaid 6 (some .boolean) 1 23 [.ref a0, .int x1, .int x2, .int x3] I J (some (.int r)) I J := by
  refine ctr_Zb hG (by decide) [some (.ref a0), some (.int x1), some (.int x2), some (.int x3), none, none] rfl rfl fun X e1 e2 hX hret => ?_
  subst e1; subst e2
  unfold f_X8_isSaid at hf
  refine r_iconst (v := 1) hX dX8_isSaid_0 rfl ?_
  refine r_istore hX dX8_isSaid_1 rfl rfl ?_
  refine r_iconst (v := 0) hX dX8_isSaid_3 rfl ?_
  refine r_istore hX dX8_isSaid_4 rfl rfl ?_
  refine V.mask [true, true, true, true, true, true] ?_
  exact vX8_isSaid_6 hX hret a0 x1 x2 x3 hk0 5000 ((1 : Int32)) ((0 : Int32)) hf
noncomputable def f_X8_summarySays (I : HI) (a0 : Nat) (a1 : Nat) (x2 : Int32) (x3 : Int32) : Option (Int32) := gd (vp_in ((((29 : Int32) * x2) + (26 : Int32))) 121) (gd (vp_in ((116 : Int32)) 121) (bd1 (f_X8_isSaid I a0 ((I a1 ((((29 : Int32) * x2) + (26 : Int32))).toNatClampNeg)) ((I a1 ((116 : Int32)).toNatClampNeg)) x3) fun r_3 => gd (zb r_3) (some r_3)))
set_option maxHeartbeats 4000000 in
set_option maxRecDepth 100000 in
theorem k_X8_summarySays {G : GX} {l : Launch} {I : HI} {J : HJ} {r : Int32} (hG : OKG G) {a0 : Nat} {a1 : Nat} {x2 : Int32} {x3 : Int32} (hk0 : gK G a0 = 9) (hk1 : gK G a1 = 221) (hf : f_X8_summarySays I a0 a1 x2 x3 = some r) : Ctr G l yX8_summarySays cX8_summarySays 4 (some .boolean) 2 48 [.ref a0, .ref a1, .int x2, .int x3] I J (some (.int r)) I J := by
  refine ctr_Zb hG (by decide) [some (.ref a0), some (.ref a1), some (.int x2), some (.int x3)] rfl rfl fun X e1 e2 hX hret => ?_
  subst e1; subst e2
  unfold f_X8_summarySays at hf
  refine r_aload_n hX dX8_summarySays_0 rfl ?_
  refine r_aload_n hX dX8_summarySays_1 rfl ?_
  refine r_bipush (v := 29) hX dX8_summarySays_2 (by decide) ?_
  refine r_iload_n hX dX8_summarySays_4 rfl ?_
  refine r_imul hX dX8_summarySays_5 ?_
  refine r_bipush (v := 26) hX dX8_summarySays_6 (by decide) ?_
  refine r_iadd hX dX8_summarySays_8 ?_
  obtain ⟨g_1, hf⟩ := gd_some hf
  refine r_iald (n := 121) hX rfl hk1 g_1 dX8_summarySays_9 ?_
  refine r_aload_n hX dX8_summarySays_10 rfl ?_
  refine r_bipush (v := 116) hX dX8_summarySays_11 (by decide) ?_
  obtain ⟨g_2, hf⟩ := gd_some hf
  refine r_iald (n := 121) hX rfl hk1 g_2 dX8_summarySays_13 ?_
  refine r_iload_n hX dX8_summarySays_14 rfl ?_
  obtain ⟨r_3, h_4, hf⟩ := bd1_some hf
  refine r_callV (As := [.int ((I a1 ((((29 : Int32) * x2) + (26 : Int32))).toNatClampNeg)), .int ((I a1 ((116 : Int32)).toNatClampNeg)), .int x3]) (ci := 8) hX (k_X8_isSaid (l := xl X) (J := J) hX.ok hk0 h_4) pk_X8_isSaid ml_X8_169 rfl rfl rfl rfl hk0 rfl rfl rfl (Nat.le_of_ble_eq_true rfl) dX8_summarySays_15 ?_
  obtain ⟨g_5, hf⟩ := gd_some hf
  cases hf
  exact hret _ _ g_5 dX8_summarySays_18
noncomputable def X8_freshen_B12 (a0 : Nat) (x1 : Int32) (x3 : Int32) (k12 : HI → Int32 → Option (HI)) (I : HI) (x4 : Int32) : Option (HI) := if 0 < x4 then gd (vp_in (((((29 : Int32) * x1) + x4) - (1 : Int32))) 121) (gd (vp_in ((((29 : Int32) * x1) + x4)) 121) (lt1 (sI I a0 ((((29 : Int32) * x1) + x4)).toNatClampNeg ((I a0 (((((29 : Int32) * x1) + x4) - (1 : Int32))).toNatClampNeg))) fun I_6 => lt1 (x4 + (-1 : Int32)) fun x_7 => k12 I_6 x_7)) else gd (vp_in (((29 : Int32) * x1)) 121) (lt1 (sI I a0 (((29 : Int32) * x1)).toNatClampNeg x3) fun I_9 => some I_9)
set_option maxHeartbeats 4000000 in
set_option maxRecDepth 100000 in
theorem vX8_freshen_12 {X : CX} {I' : HI} {J : HJ} (hX : OKX X cX8_freshen RX8 0 0 5) (hret : RetV X cX8_freshen I' J) (a0 : Nat) (x1 : Int32) (x3 : Int32) (hk0 : gK (xG X) a0 = 221)   : ∀ (n : Nat) (I : HI) (x4 : Int32), wl2 (X8_freshen_B12 a0 x1 x3) n I x4 = some I' → V X I J 12 [some (.ref a0), some (.int x1), none, some (.int x3), some (.int x4)] [] := by
  refine wl2_V (P := fun (I : HI) (x4 : Int32) => V X I J 12 [some (.ref a0), some (.int x1), none, some (.int x3), some (.int x4)] []) ?_
  intro k12 hc12 I x4 hf
  unfold X8_freshen_B12 at hf
  refine r_iload hX dX8_freshen_12 rfl ?_
  refine r_if_le (tgt := 43) hX dX8_freshen_14 (by decide) (fun c_3 => ?_) (fun c_3 => ?_)
  · have hf := hf_t c_3 hf
    refine r_aload_n hX dX8_freshen_17 rfl ?_
    refine r_bipush (v := 29) hX dX8_freshen_18 (by decide) ?_
    refine r_iload_n hX dX8_freshen_20 rfl ?_
    refine r_imul hX dX8_freshen_21 ?_
    refine r_iload hX dX8_freshen_22 rfl ?_
    refine r_iadd hX dX8_freshen_24 ?_
    refine r_aload_n hX dX8_freshen_25 rfl ?_
    refine r_bipush (v := 29) hX dX8_freshen_26 (by decide) ?_
    refine r_iload_n hX dX8_freshen_28 rfl ?_
    refine r_imul hX dX8_freshen_29 ?_
    refine r_iload hX dX8_freshen_30 rfl ?_
    refine r_iadd hX dX8_freshen_32 ?_
    refine r_iconst (v := 1) hX dX8_freshen_33 rfl ?_
    refine r_isub hX dX8_freshen_34 ?_
    obtain ⟨g_4, hf⟩ := gd_some hf
    refine r_iald (n := 121) hX rfl hk0 g_4 dX8_freshen_35 ?_
    obtain ⟨g_5, hf⟩ := gd_some hf
    obtain ⟨I_6, eI_6, hf⟩ := lt1_some hf
    refine r_iastE (n := 121) eI_6 hX rfl hk0 g_5 dX8_freshen_36 ?_
    obtain ⟨x_7, ex_7, hf⟩ := lt1_some hf
    refine r_iincE (n' := -1) ex_7 hX dX8_freshen_37 rfl rfl rfl rfl ?_
    refine r_goto (tgt := 12) hX dX8_freshen_40 (by decide) ?_
    refine V.mask [true, true, false, true, true] ?_
    exact hc12 I_6 x_7 hf
  · have hf := hf_f c_3 hf
    refine r_aload_n hX dX8_freshen_43 rfl ?_
    refine r_bipush (v := 29) hX dX8_freshen_44 (by decide) ?_
    refine r_iload_n hX dX8_freshen_46 rfl ?_
    refine r_imul hX dX8_freshen_47 ?_
    refine r_iload_n hX dX8_freshen_48 rfl ?_
    obtain ⟨g_8, hf⟩ := gd_some hf
    obtain ⟨I_9, eI_9, hf⟩ := lt1_some hf
    refine r_iastE (n := 121) eI_9 hX rfl hk0 g_8 dX8_freshen_49 ?_
    cases hf
    exact hret _ _ dX8_freshen_50
noncomputable def f_X8_freshen (I : HI) (a0 : Nat) (x1 : Int32) (x2 : Int32) : Option (HI) := gd (vp_in ((((29 : Int32) * x1) + x2)) 121) (lt1 ((I a0 ((((29 : Int32) * x1) + x2)).toNatClampNeg)) fun x_2 => wl2 (X8_freshen_B12 a0 x1 x_2) 5000 I x2)
set_option maxHeartbeats 4000000 in
set_option maxRecDepth 100000 in
theorem k_X8_freshen {G : GX} {l : Launch} {I : HI} {J : HJ} {I' : HI} (hG : OKG G) {a0 : Nat} {x1 : Int32} {x2 : Int32} (hk0 : gK G a0 = 221) (hf : f_X8_freshen I a0 x1 x2 = some I') : Ctr G l yX8_freshen cX8_freshen 5 none 0 0 [.ref a0, .int x1, .int x2] I J none I' J := by
  refine ctr_V hG (by decide) [some (.ref a0), some (.int x1), some (.int x2), none, none] rfl rfl fun X e1 e2 hX hret => ?_
  subst e1; subst e2
  unfold f_X8_freshen at hf
  refine r_aload_n hX dX8_freshen_0 rfl ?_
  refine r_bipush (v := 29) hX dX8_freshen_1 (by decide) ?_
  refine r_iload_n hX dX8_freshen_3 rfl ?_
  refine r_imul hX dX8_freshen_4 ?_
  refine r_iload_n hX dX8_freshen_5 rfl ?_
  refine r_iadd hX dX8_freshen_6 ?_
  obtain ⟨g_1, hf⟩ := gd_some hf
  refine r_iald (n := 121) hX rfl hk0 g_1 dX8_freshen_7 ?_
  obtain ⟨x_2, ex_2, hf⟩ := lt1_some hf
  refine V.topi ex_2 ?_
  refine r_istore_n hX dX8_freshen_8 rfl rfl ?_
  refine r_iload_n hX dX8_freshen_9 rfl ?_
  refine r_istore hX dX8_freshen_10 rfl rfl ?_
  refine V.mask [true, true, false, true, true] ?_
  exact vX8_freshen_12 hX hret a0 x1 x_2 hk0 5000 I x2 hf
noncomputable def X8_goOut_B31 (a1 : Nat) (x2 : Int32) (k31 : HI → Int32 → Option (HI)) (I : HI) (x4 : Int32) : Option (HI) := gd (vp_in ((((29 : Int32) * x2) + (9 : Int32))) 121) (if x4 < (I a1 ((((29 : Int32) * x2) + (9 : Int32))).toNatClampNeg) then gd (vp_in (((((29 : Int32) * x2) + x4) + (1 : Int32))) 121) (gd (vp_in ((((29 : Int32) * x2) + x4)) 121) (lt1 (sI I a1 ((((29 : Int32) * x2) + x4)).toNatClampNeg ((I a1 (((((29 : Int32) * x2) + x4) + (1 : Int32))).toNatClampNeg))) fun I_11 => lt1 (x4 + (1 : Int32)) fun x_12 => k31 I_11 x_12)) else gd (vp_in ((((29 : Int32) * x2) + (27 : Int32))) 121) (gd (vp_in ((((29 : Int32) * x2) + (27 : Int32))) 121) (lt1 (sI I a1 ((((29 : Int32) * x2) + (27 : Int32))).toNatClampNeg (((I a1 ((((29 : Int32) * x2) + (27 : Int32))).toNatClampNeg) + (1 : Int32)))) fun I_15 => some I_15)))
set_option maxHeartbeats 4000000 in
set_option maxRecDepth 100000 in
theorem vX8_goOut_31 {X : CX} {I' : HI} {J : HJ} (hX : OKX X cX8_goOut RX8 2 49 5) (hret : RetV X cX8_goOut I' J) (a1 : Nat) (x2 : Int32) (hk1 : gK (xG X) a1 = 221)   : ∀ (n : Nat) (I : HI) (x4 : Int32), wl2 (X8_goOut_B31 a1 x2) n I x4 = some I' → V X I J 31 [none, some (.ref a1), some (.int x2), none, some (.int x4)] [] := by
  refine wl2_V (P := fun (I : HI) (x4 : Int32) => V X I J 31 [none, some (.ref a1), some (.int x2), none, some (.int x4)] []) ?_
  intro k31 hc31 I x4 hf
  unfold X8_goOut_B31 at hf
  refine r_iload hX dX8_goOut_31 rfl ?_
  refine r_aload_n hX dX8_goOut_33 rfl ?_
  refine r_bipush (v := 29) hX dX8_goOut_34 (by decide) ?_
  refine r_iload_n hX dX8_goOut_36 rfl ?_
  refine r_imul hX dX8_goOut_37 ?_
  refine r_bipush (v := 9) hX dX8_goOut_38 (by decide) ?_
  refine r_iadd hX dX8_goOut_40 ?_
  obtain ⟨g_7, hf⟩ := gd_some hf
  refine r_iald (n := 121) hX rfl hk1 g_7 dX8_goOut_41 ?_
  refine r_icmp_ge (tgt := 71) hX dX8_goOut_42 (by decide) (fun c_8 => ?_) (fun c_8 => ?_)
  · have hf := hf_t c_8 hf
    refine r_aload_n hX dX8_goOut_45 rfl ?_
    refine r_bipush (v := 29) hX dX8_goOut_46 (by decide) ?_
    refine r_iload_n hX dX8_goOut_48 rfl ?_
    refine r_imul hX dX8_goOut_49 ?_
    refine r_iload hX dX8_goOut_50 rfl ?_
    refine r_iadd hX dX8_goOut_52 ?_
    refine r_aload_n hX dX8_goOut_53 rfl ?_
    refine r_bipush (v := 29) hX dX8_goOut_54 (by decide) ?_
    refine r_iload_n hX dX8_goOut_56 rfl ?_
    refine r_imul hX dX8_goOut_57 ?_
    refine r_iload hX dX8_goOut_58 rfl ?_
    refine r_iadd hX dX8_goOut_60 ?_
    refine r_iconst (v := 1) hX dX8_goOut_61 rfl ?_
    refine r_iadd hX dX8_goOut_62 ?_
    obtain ⟨g_9, hf⟩ := gd_some hf
    refine r_iald (n := 121) hX rfl hk1 g_9 dX8_goOut_63 ?_
    obtain ⟨g_10, hf⟩ := gd_some hf
    obtain ⟨I_11, eI_11, hf⟩ := lt1_some hf
    refine r_iastE (n := 121) eI_11 hX rfl hk1 g_10 dX8_goOut_64 ?_
    obtain ⟨x_12, ex_12, hf⟩ := lt1_some hf
    refine r_iincE (n' := 1) ex_12 hX dX8_goOut_65 rfl rfl rfl rfl ?_
    refine r_goto (tgt := 31) hX dX8_goOut_68 (by decide) ?_
    refine V.mask [false, true, true, false, true] ?_
    exact hc31 I_11 x_12 hf
  · have hf := hf_f c_8 hf
    refine r_aload_n hX dX8_goOut_71 rfl ?_
    refine r_bipush (v := 29) hX dX8_goOut_72 (by decide) ?_
    refine r_iload_n hX dX8_goOut_74 rfl ?_
    refine r_imul hX dX8_goOut_75 ?_
    refine r_bipush (v := 27) hX dX8_goOut_76 (by decide) ?_
    refine r_iadd hX dX8_goOut_78 ?_
    refine r_dup2 hX dX8_goOut_79 rfl rfl ?_
    obtain ⟨g_13, hf⟩ := gd_some hf
    refine r_iald (n := 121) hX rfl hk1 g_13 dX8_goOut_80 ?_
    refine r_iconst (v := 1) hX dX8_goOut_81 rfl ?_
    refine r_iadd hX dX8_goOut_82 ?_
    obtain ⟨g_14, hf⟩ := gd_some hf
    obtain ⟨I_15, eI_15, hf⟩ := lt1_some hf
    refine r_iastE (n := 121) eI_15 hX rfl hk1 g_14 dX8_goOut_83 ?_
    cases hf
    exact hret _ _ dX8_goOut_84
noncomputable def f_X8_goOut (I : HI) (a0 : Nat) (a1 : Nat) (x2 : Int32) (x3 : Int32) : Option (HI) := gd (vp_in ((((29 : Int32) * x2) + x3)) 121) (bd1 (f_X8_tally I a0 a1 x2 ((I a1 ((((29 : Int32) * x2) + x3)).toNatClampNeg)) ((-1 : Int32))) fun I_2 => gd (vp_in ((((29 : Int32) * x2) + (9 : Int32))) 121) (gd (vp_in ((((29 : Int32) * x2) + (9 : Int32))) 121) (lt1 (sI I_2 a1 ((((29 : Int32) * x2) + (9 : Int32))).toNatClampNeg (((I_2 a1 ((((29 : Int32) * x2) + (9 : Int32))).toNatClampNeg) - (1 : Int32)))) fun I_6 => wl2 (X8_goOut_B31 a1 x2) 5000 I_6 x3)))
set_option maxHeartbeats 4000000 in
set_option maxRecDepth 100000 in
theorem k_X8_goOut {G : GX} {l : Launch} {I : HI} {J : HJ} {I' : HI} (hG : OKG G) {a0 : Nat} {a1 : Nat} {x2 : Int32} {x3 : Int32} (hk0 : gK G a0 = 9) (hk1 : gK G a1 = 221) (hf : f_X8_goOut I a0 a1 x2 x3 = some I') : Ctr G l yX8_goOut cX8_goOut 5 none 2 49 [.ref a0, .ref a1, .int x2, .int x3] I J none I' J := by
  refine ctr_V hG (by decide) [some (.ref a0), some (.ref a1), some (.int x2), some (.int x3), none] rfl rfl fun X e1 e2 hX hret => ?_
  subst e1; subst e2
  unfold f_X8_goOut at hf
  refine r_aload_n hX dX8_goOut_0 rfl ?_
  refine r_aload_n hX dX8_goOut_1 rfl ?_
  refine r_iload_n hX dX8_goOut_2 rfl ?_
  refine r_aload_n hX dX8_goOut_3 rfl ?_
  refine r_bipush (v := 29) hX dX8_goOut_4 (by decide) ?_
  refine r_iload_n hX dX8_goOut_6 rfl ?_
  refine r_imul hX dX8_goOut_7 ?_
  refine r_iload_n hX dX8_goOut_8 rfl ?_
  refine r_iadd hX dX8_goOut_9 ?_
  obtain ⟨g_1, hf⟩ := gd_some hf
  refine r_iald (n := 121) hX rfl hk1 g_1 dX8_goOut_10 ?_
  refine r_iconst (v := -1) hX dX8_goOut_11 rfl ?_
  obtain ⟨I_2, h_3, hf⟩ := bd1_some hf
  refine r_callV (As := [.ref a1, .int x2, .int ((I a1 ((((29 : Int32) * x2) + x3)).toNatClampNeg)), .int ((-1 : Int32))]) (ci := 8) hX (k_X8_tally (l := xl X) (J := J) hX.ok hk0 hk1 h_3) pk_X8_tally ml_X8_172 rfl rfl rfl rfl hk0 rfl rfl rfl (Nat.le_of_ble_eq_true rfl) dX8_goOut_12 ?_
  refine r_aload_n hX dX8_goOut_15 rfl ?_
  refine r_bipush (v := 29) hX dX8_goOut_16 (by decide) ?_
  refine r_iload_n hX dX8_goOut_18 rfl ?_
  refine r_imul hX dX8_goOut_19 ?_
  refine r_bipush (v := 9) hX dX8_goOut_20 (by decide) ?_
  refine r_iadd hX dX8_goOut_22 ?_
  refine r_dup2 hX dX8_goOut_23 rfl rfl ?_
  obtain ⟨g_4, hf⟩ := gd_some hf
  refine r_iald (n := 121) hX rfl hk1 g_4 dX8_goOut_24 ?_
  refine r_iconst (v := 1) hX dX8_goOut_25 rfl ?_
  refine r_isub hX dX8_goOut_26 ?_
  obtain ⟨g_5, hf⟩ := gd_some hf
  obtain ⟨I_6, eI_6, hf⟩ := lt1_some hf
  refine r_iastE (n := 121) eI_6 hX rfl hk1 g_5 dX8_goOut_27 ?_
  refine r_iload_n hX dX8_goOut_28 rfl ?_
  refine r_istore hX dX8_goOut_29 rfl rfl ?_
  refine V.mask [false, true, true, false, true] ?_
  exact vX8_goOut_31 hX hret a1 x2 hk1 5000 I_6 x3 hf
noncomputable def X8_comeTo_J32 (I : HI) (a0 : Nat) (a1 : Nat) (x2 : Int32) (x3 : Int32) : Option (HI) := gd (vp_in ((((29 : Int32) * x2) + (9 : Int32))) 121) (gd (vp_in ((((29 : Int32) * x2) + (I a1 ((((29 : Int32) * x2) + (9 : Int32))).toNatClampNeg))) 121) (lt1 (sI I a1 ((((29 : Int32) * x2) + (I a1 ((((29 : Int32) * x2) + (9 : Int32))).toNatClampNeg))).toNatClampNeg x3) fun I_9 => gd (vp_in ((((29 : Int32) * x2) + (9 : Int32))) 121) (gd (vp_in ((((29 : Int32) * x2) + (9 : Int32))) 121) (lt1 (sI I_9 a1 ((((29 : Int32) * x2) + (9 : Int32))).toNatClampNeg (((I_9 a1 ((((29 : Int32) * x2) + (9 : Int32))).toNatClampNeg) + (1 : Int32)))) fun I_12 => gd (vp_in ((((29 : Int32) * x2) + (9 : Int32))) 121) (bd1 (f_X8_freshen I_12 a1 x2 (((I_12 a1 ((((29 : Int32) * x2) + (9 : Int32))).toNatClampNeg) - (1 : Int32)))) fun I_14 => bd1 (f_X8_tally I_14 a0 a1 x2 x3 ((1 : Int32))) fun I_16 => gd (vp_in ((((29 : Int32) * x2) + (27 : Int32))) 121) (gd (vp_in ((((29 : Int32) * x2) + (27 : Int32))) 121) (lt1 (sI I_16 a1 ((((29 : Int32) * x2) + (27 : Int32))).toNatClampNeg (((I_16 a1 ((((29 : Int32) * x2) + (27 : Int32))).toNatClampNeg) + (1 : Int32)))) fun I_20 => some I_20)))))))
set_option maxHeartbeats 4000000 in
set_option maxRecDepth 100000 in
theorem vX8_comeTo_32 {X : CX} {I' : HI} {I : HI} {J : HJ} (hX : OKX X cX8_comeTo RX8 3 73 4) (hret : RetV X cX8_comeTo I' J) (a0 : Nat) (a1 : Nat) (x2 : Int32) (x3 : Int32) (hk0 : gK (xG X) a0 = 9) (hk1 : gK (xG X) a1 = 221)   (hf : X8_comeTo_J32 I a0 a1 x2 x3 = some I') : V X I J 32 [some (.ref a0), some (.ref a1), some (.int x2), some (.int x3)] [] := by
  unfold X8_comeTo_J32 at hf
  refine r_aload_n hX dX8_comeTo_32 rfl ?_
  refine r_bipush (v := 29) hX dX8_comeTo_33 (by decide) ?_
  refine r_iload_n hX dX8_comeTo_35 rfl ?_
  refine r_imul hX dX8_comeTo_36 ?_
  refine r_aload_n hX dX8_comeTo_37 rfl ?_
  refine r_bipush (v := 29) hX dX8_comeTo_38 (by decide) ?_
  refine r_iload_n hX dX8_comeTo_40 rfl ?_
  refine r_imul hX dX8_comeTo_41 ?_
  refine r_bipush (v := 9) hX dX8_comeTo_42 (by decide) ?_
  refine r_iadd hX dX8_comeTo_44 ?_
  obtain ⟨g_7, hf⟩ := gd_some hf
  refine r_iald (n := 121) hX rfl hk1 g_7 dX8_comeTo_45 ?_
  refine r_iadd hX dX8_comeTo_46 ?_
  refine r_iload_n hX dX8_comeTo_47 rfl ?_
  obtain ⟨g_8, hf⟩ := gd_some hf
  obtain ⟨I_9, eI_9, hf⟩ := lt1_some hf
  refine r_iastE (n := 121) eI_9 hX rfl hk1 g_8 dX8_comeTo_48 ?_
  refine r_aload_n hX dX8_comeTo_49 rfl ?_
  refine r_bipush (v := 29) hX dX8_comeTo_50 (by decide) ?_
  refine r_iload_n hX dX8_comeTo_52 rfl ?_
  refine r_imul hX dX8_comeTo_53 ?_
  refine r_bipush (v := 9) hX dX8_comeTo_54 (by decide) ?_
  refine r_iadd hX dX8_comeTo_56 ?_
  refine r_dup2 hX dX8_comeTo_57 rfl rfl ?_
  obtain ⟨g_10, hf⟩ := gd_some hf
  refine r_iald (n := 121) hX rfl hk1 g_10 dX8_comeTo_58 ?_
  refine r_iconst (v := 1) hX dX8_comeTo_59 rfl ?_
  refine r_iadd hX dX8_comeTo_60 ?_
  obtain ⟨g_11, hf⟩ := gd_some hf
  obtain ⟨I_12, eI_12, hf⟩ := lt1_some hf
  refine r_iastE (n := 121) eI_12 hX rfl hk1 g_11 dX8_comeTo_61 ?_
  refine r_aload_n hX dX8_comeTo_62 rfl ?_
  refine r_iload_n hX dX8_comeTo_63 rfl ?_
  refine r_aload_n hX dX8_comeTo_64 rfl ?_
  refine r_bipush (v := 29) hX dX8_comeTo_65 (by decide) ?_
  refine r_iload_n hX dX8_comeTo_67 rfl ?_
  refine r_imul hX dX8_comeTo_68 ?_
  refine r_bipush (v := 9) hX dX8_comeTo_69 (by decide) ?_
  refine r_iadd hX dX8_comeTo_71 ?_
  obtain ⟨g_13, hf⟩ := gd_some hf
  refine r_iald (n := 121) hX rfl hk1 g_13 dX8_comeTo_72 ?_
  refine r_iconst (v := 1) hX dX8_comeTo_73 rfl ?_
  refine r_isub hX dX8_comeTo_74 ?_
  obtain ⟨I_14, h_15, hf⟩ := bd1_some hf
  refine r_callS (As := [.ref a1, .int x2, .int (((I_12 a1 ((((29 : Int32) * x2) + (9 : Int32))).toNatClampNeg) - (1 : Int32)))]) hX (k_X8_freshen (l := xl X) (J := J) hX.ok hk1 h_15) pk_X8_freshen ml_X8_180 rfl rfl rfl (Nat.le_of_ble_eq_true rfl) dX8_comeTo_75 ?_
  refine r_aload_n hX dX8_comeTo_78 rfl ?_
  refine r_aload_n hX dX8_comeTo_79 rfl ?_
  refine r_iload_n hX dX8_comeTo_80 rfl ?_
  refine r_iload_n hX dX8_comeTo_81 rfl ?_
  refine r_iconst (v := 1) hX dX8_comeTo_82 rfl ?_
  obtain ⟨I_16, h_17, hf⟩ := bd1_some hf
  refine r_callV (As := [.ref a1, .int x2, .int x3, .int ((1 : Int32))]) (ci := 8) hX (k_X8_tally (l := xl X) (J := J) hX.ok hk0 hk1 h_17) pk_X8_tally ml_X8_172 rfl rfl rfl rfl hk0 rfl rfl rfl (Nat.le_of_ble_eq_true rfl) dX8_comeTo_83 ?_
  refine r_aload_n hX dX8_comeTo_86 rfl ?_
  refine r_bipush (v := 29) hX dX8_comeTo_87 (by decide) ?_
  refine r_iload_n hX dX8_comeTo_89 rfl ?_
  refine r_imul hX dX8_comeTo_90 ?_
  refine r_bipush (v := 27) hX dX8_comeTo_91 (by decide) ?_
  refine r_iadd hX dX8_comeTo_93 ?_
  refine r_dup2 hX dX8_comeTo_94 rfl rfl ?_
  obtain ⟨g_18, hf⟩ := gd_some hf
  refine r_iald (n := 121) hX rfl hk1 g_18 dX8_comeTo_95 ?_
  refine r_iconst (v := 1) hX dX8_comeTo_96 rfl ?_
  refine r_iadd hX dX8_comeTo_97 ?_
  obtain ⟨g_19, hf⟩ := gd_some hf
  obtain ⟨I_20, eI_20, hf⟩ := lt1_some hf
  refine r_iastE (n := 121) eI_20 hX rfl hk1 g_19 dX8_comeTo_98 ?_
  cases hf
  exact hret _ _ dX8_comeTo_99
noncomputable def f_X8_comeTo (I : HI) (a0 : Nat) (a1 : Nat) (x2 : Int32) (x3 : Int32) : Option (HI) := gd (vp_in ((((29 : Int32) * x2) + (9 : Int32))) 121) (gd (vp_in x2 4) (if (I a1 ((((29 : Int32) * x2) + (9 : Int32))).toNatClampNeg) = (I ((a0 + 4)) x2.toNatClampNeg) then gd (vp_in x2 4) (bd1 (f_X8_goOut I a0 a1 x2 (((I ((a0 + 4)) x2.toNatClampNeg) - (1 : Int32)))) fun I_5 => X8_comeTo_J32 I_5 a0 a1 x2 x3) else X8_comeTo_J32 I a0 a1 x2 x3))
set_option maxHeartbeats 4000000 in
set_option maxRecDepth 100000 in
theorem k_X8_comeTo {G : GX} {l : Launch} {I : HI} {J : HJ} {I' : HI} (hG : OKG G) {a0 : Nat} {a1 : Nat} {x2 : Int32} {x3 : Int32} (hk0 : gK G a0 = 9) (hk1 : gK G a1 = 221) (hf : f_X8_comeTo I a0 a1 x2 x3 = some I') : Ctr G l yX8_comeTo cX8_comeTo 4 none 3 73 [.ref a0, .ref a1, .int x2, .int x3] I J none I' J := by
  refine ctr_V hG (by decide) [some (.ref a0), some (.ref a1), some (.int x2), some (.int x3)] rfl rfl fun X e1 e2 hX hret => ?_
  subst e1; subst e2
  unfold f_X8_comeTo at hf
  refine r_aload_n hX dX8_comeTo_0 rfl ?_
  refine r_bipush (v := 29) hX dX8_comeTo_1 (by decide) ?_
  refine r_iload_n hX dX8_comeTo_3 rfl ?_
  refine r_imul hX dX8_comeTo_4 ?_
  refine r_bipush (v := 9) hX dX8_comeTo_5 (by decide) ?_
  refine r_iadd hX dX8_comeTo_7 ?_
  obtain ⟨g_1, hf⟩ := gd_some hf
  refine r_iald (n := 121) hX rfl hk1 g_1 dX8_comeTo_8 ?_
  refine r_aload_n hX dX8_comeTo_9 rfl ?_
  refine g_8_10 hX fl_X8_29 hk0 dX8_comeTo_10 ?_
  refine r_iload_n hX dX8_comeTo_13 rfl ?_
  obtain ⟨g_2, hf⟩ := gd_some hf
  refine r_iald (n := 4) hX rfl ((q_9_10 hX hk0)) g_2 dX8_comeTo_14 ?_
  refine r_icmp_ne (tgt := 32) hX dX8_comeTo_15 (by decide) (fun c_3 => ?_) (fun c_3 => ?_)
  · have hf := hf_t c_3 hf
    refine r_aload_n hX dX8_comeTo_18 rfl ?_
    refine r_aload_n hX dX8_comeTo_19 rfl ?_
    refine r_iload_n hX dX8_comeTo_20 rfl ?_
    refine r_aload_n hX dX8_comeTo_21 rfl ?_
    refine g_8_10 hX fl_X8_29 hk0 dX8_comeTo_22 ?_
    refine r_iload_n hX dX8_comeTo_25 rfl ?_
    obtain ⟨g_4, hf⟩ := gd_some hf
    refine r_iald (n := 4) hX rfl ((q_9_10 hX hk0)) g_4 dX8_comeTo_26 ?_
    refine r_iconst (v := 1) hX dX8_comeTo_27 rfl ?_
    refine r_isub hX dX8_comeTo_28 ?_
    obtain ⟨I_5, h_6, hf⟩ := bd1_some hf
    refine r_callV (As := [.ref a1, .int x2, .int (((I ((a0 + 4)) x2.toNatClampNeg) - (1 : Int32)))]) (ci := 8) hX (k_X8_goOut (l := xl X) (J := J) hX.ok hk0 hk1 h_6) pk_X8_goOut ml_X8_176 rfl rfl rfl rfl hk0 rfl rfl rfl (Nat.le_of_ble_eq_true rfl) dX8_comeTo_29 ?_
    refine V.mask [true, true, true, true] ?_
    exact vX8_comeTo_32 hX hret a0 a1 x2 x3 hk0 hk1 hf
  · have hf := hf_f c_3 hf
    refine V.mask [true, true, true, true] ?_
    exact vX8_comeTo_32 hX hret a0 a1 x2 x3 hk0 hk1 hf
noncomputable def f_X8_sendOn (I : HI) (a0 : Nat) (a1 : Nat) (x2 : Int32) : Option (HI) := bd1 (f_X8_filterOf I a0 a1 x2) fun r_1 => gd (vp_in ((((29 : Int32) * x2) + (26 : Int32))) 121) (lt1 (sI I a1 ((((29 : Int32) * x2) + (26 : Int32))).toNatClampNeg r_1) fun I_4 => gd (vp_in ((((29 : Int32) * x2) + (27 : Int32))) 121) (lt1 (sI I_4 a1 ((((29 : Int32) * x2) + (27 : Int32))).toNatClampNeg ((0 : Int32))) fun I_6 => gd (vp_in ((120 : Int32)) 121) (gd (vp_in ((120 : Int32)) 121) (lt1 (sI I_6 a1 ((120 : Int32)).toNatClampNeg (((I_6 a1 ((120 : Int32)).toNatClampNeg) + ((I_6 a0 9) - (1 : Int32))))) fun I_9 => some I_9))))
set_option maxHeartbeats 4000000 in
set_option maxRecDepth 100000 in
theorem k_X8_sendOn {G : GX} {l : Launch} {I : HI} {J : HJ} {I' : HI} (hG : OKG G) {a0 : Nat} {a1 : Nat} {x2 : Int32} (hk0 : gK G a0 = 9) (hk1 : gK G a1 = 221) (hf : f_X8_sendOn I a0 a1 x2 = some I') : Ctr G l yX8_sendOn cX8_sendOn 3 none 1 24 [.ref a0, .ref a1, .int x2] I J none I' J := by
  refine ctr_V hG (by decide) [some (.ref a0), some (.ref a1), some (.int x2)] rfl rfl fun X e1 e2 hX hret => ?_
  subst e1; subst e2
  unfold f_X8_sendOn at hf
  refine r_aload_n hX dX8_sendOn_0 rfl ?_
  refine r_bipush (v := 29) hX dX8_sendOn_1 (by decide) ?_
  refine r_iload_n hX dX8_sendOn_3 rfl ?_
  refine r_imul hX dX8_sendOn_4 ?_
  refine r_bipush (v := 26) hX dX8_sendOn_5 (by decide) ?_
  refine r_iadd hX dX8_sendOn_7 ?_
  refine r_aload_n hX dX8_sendOn_8 rfl ?_
  refine r_aload_n hX dX8_sendOn_9 rfl ?_
  refine r_iload_n hX dX8_sendOn_10 rfl ?_
  obtain ⟨r_1, h_2, hf⟩ := bd1_some hf
  refine r_callV (As := [.ref a1, .int x2]) (ci := 8) hX (k_X8_filterOf (l := xl X) (J := J) hX.ok hk0 hk1 h_2) pk_X8_filterOf ml_X8_155 rfl rfl rfl rfl hk0 rfl rfl rfl (Nat.le_of_ble_eq_true rfl) dX8_sendOn_11 ?_
  obtain ⟨g_3, hf⟩ := gd_some hf
  obtain ⟨I_4, eI_4, hf⟩ := lt1_some hf
  refine r_iastE (n := 121) eI_4 hX rfl hk1 g_3 dX8_sendOn_14 ?_
  refine r_aload_n hX dX8_sendOn_15 rfl ?_
  refine r_bipush (v := 29) hX dX8_sendOn_16 (by decide) ?_
  refine r_iload_n hX dX8_sendOn_18 rfl ?_
  refine r_imul hX dX8_sendOn_19 ?_
  refine r_bipush (v := 27) hX dX8_sendOn_20 (by decide) ?_
  refine r_iadd hX dX8_sendOn_22 ?_
  refine r_iconst (v := 0) hX dX8_sendOn_23 rfl ?_
  obtain ⟨g_5, hf⟩ := gd_some hf
  obtain ⟨I_6, eI_6, hf⟩ := lt1_some hf
  refine r_iastE (n := 121) eI_6 hX rfl hk1 g_5 dX8_sendOn_24 ?_
  refine r_aload_n hX dX8_sendOn_25 rfl ?_
  refine r_bipush (v := 120) hX dX8_sendOn_26 (by decide) ?_
  refine r_dup2 hX dX8_sendOn_28 rfl rfl ?_
  obtain ⟨g_7, hf⟩ := gd_some hf
  refine r_iald (n := 121) hX rfl hk1 g_7 dX8_sendOn_29 ?_
  refine r_aload_n hX dX8_sendOn_30 rfl ?_
  refine g_8_9 hX fl_X8_78 hk0 dX8_sendOn_31 ?_
  refine r_iconst (v := 1) hX dX8_sendOn_34 rfl ?_
  refine r_isub hX dX8_sendOn_35 ?_
  refine r_iadd hX dX8_sendOn_36 ?_
  obtain ⟨g_8, hf⟩ := gd_some hf
  obtain ⟨I_9, eI_9, hf⟩ := lt1_some hf
  refine r_iastE (n := 121) eI_9 hX rfl hk1 g_8 dX8_sendOn_37 ?_
  cases hf
  exact hret _ _ dX8_sendOn_38
noncomputable def X8_sendDue_J37 (I : HI) (a0 : Nat) (a1 : Nat) (x2 : Int32) (k2 : HI → Int32 → Option (HI)) : Option (HI) := lt1 (x2 + (1 : Int32)) fun x_7 => k2 I x_7
set_option maxHeartbeats 4000000 in
set_option maxRecDepth 100000 in
theorem vX8_sendDue_37 {X : CX} {I' : HI} {I : HI} {J : HJ} (hX : OKX X cX8_sendDue RX8 2 46 3) (hret : RetV X cX8_sendDue I' J) (a0 : Nat) (a1 : Nat) (x2 : Int32) (hk0 : gK (xG X) a0 = 9) (hk1 : gK (xG X) a1 = 221) (k2 : HI → Int32 → Option (HI)) (hc2 : ∀ (I : HI) (x2 : Int32), k2 I x2 = some I' → V X I J 2 [some (.ref a0), some (.ref a1), some (.int x2)] []) (hf : X8_sendDue_J37 I a0 a1 x2 k2 = some I') : V X I J 37 [some (.ref a0), some (.ref a1), some (.int x2)] [] := by
  unfold X8_sendDue_J37 at hf
  obtain ⟨x_7, ex_7, hf⟩ := lt1_some hf
  refine r_iincE (n' := 1) ex_7 hX dX8_sendDue_37 rfl rfl rfl rfl ?_
  refine r_goto (tgt := 2) hX dX8_sendDue_40 (by decide) ?_
  refine V.mask [true, true, true] ?_
  exact hc2 I x_7 hf
noncomputable def X8_sendDue_B2 (a0 : Nat) (a1 : Nat) (k2 : HI → Int32 → Option (HI)) (I : HI) (x2 : Int32) : Option (HI) := if x2 < (I a0 9) then gd (vp_in ((((29 : Int32) * x2) + (27 : Int32))) 121) (gd (vp_in ((((29 : Int32) * x2) + (28 : Int32))) 121) (if (I a1 ((((29 : Int32) * x2) + (27 : Int32))).toNatClampNeg) < (I a1 ((((29 : Int32) * x2) + (28 : Int32))).toNatClampNeg) then X8_sendDue_J37 I a0 a1 x2 k2 else bd1 (f_X8_sendOn I a0 a1 x2) fun I_5 => X8_sendDue_J37 I_5 a0 a1 x2 k2)) else some I
set_option maxHeartbeats 4000000 in
set_option maxRecDepth 100000 in
theorem vX8_sendDue_2 {X : CX} {I' : HI} {J : HJ} (hX : OKX X cX8_sendDue RX8 2 46 3) (hret : RetV X cX8_sendDue I' J) (a0 : Nat) (a1 : Nat) (hk0 : gK (xG X) a0 = 9) (hk1 : gK (xG X) a1 = 221)   : ∀ (n : Nat) (I : HI) (x2 : Int32), wl2 (X8_sendDue_B2 a0 a1) n I x2 = some I' → V X I J 2 [some (.ref a0), some (.ref a1), some (.int x2)] [] := by
  refine wl2_V (P := fun (I : HI) (x2 : Int32) => V X I J 2 [some (.ref a0), some (.ref a1), some (.int x2)] []) ?_
  intro k2 hc2 I x2 hf
  unfold X8_sendDue_B2 at hf
  refine r_iload_n hX dX8_sendDue_2 rfl ?_
  refine r_aload_n hX dX8_sendDue_3 rfl ?_
  refine g_8_9 hX fl_X8_78 hk0 dX8_sendDue_4 ?_
  refine r_icmp_ge (tgt := 43) hX dX8_sendDue_7 (by decide) (fun c_1 => ?_) (fun c_1 => ?_)
  · have hf := hf_t c_1 hf
    refine r_aload_n hX dX8_sendDue_10 rfl ?_
    refine r_bipush (v := 29) hX dX8_sendDue_11 (by decide) ?_
    refine r_iload_n hX dX8_sendDue_13 rfl ?_
    refine r_imul hX dX8_sendDue_14 ?_
    refine r_bipush (v := 27) hX dX8_sendDue_15 (by decide) ?_
    refine r_iadd hX dX8_sendDue_17 ?_
    obtain ⟨g_2, hf⟩ := gd_some hf
    refine r_iald (n := 121) hX rfl hk1 g_2 dX8_sendDue_18 ?_
    refine r_aload_n hX dX8_sendDue_19 rfl ?_
    refine r_bipush (v := 29) hX dX8_sendDue_20 (by decide) ?_
    refine r_iload_n hX dX8_sendDue_22 rfl ?_
    refine r_imul hX dX8_sendDue_23 ?_
    refine r_bipush (v := 28) hX dX8_sendDue_24 (by decide) ?_
    refine r_iadd hX dX8_sendDue_26 ?_
    obtain ⟨g_3, hf⟩ := gd_some hf
    refine r_iald (n := 121) hX rfl hk1 g_3 dX8_sendDue_27 ?_
    refine r_icmp_lt (tgt := 37) hX dX8_sendDue_28 (by decide) (fun c_4 => ?_) (fun c_4 => ?_)
    · have hf := hf_t c_4 hf
      refine V.mask [true, true, true] ?_
      exact vX8_sendDue_37 hX hret a0 a1 x2 hk0 hk1 k2 hc2 hf
    · have hf := hf_f c_4 hf
      refine r_aload_n hX dX8_sendDue_31 rfl ?_
      refine r_aload_n hX dX8_sendDue_32 rfl ?_
      refine r_iload_n hX dX8_sendDue_33 rfl ?_
      obtain ⟨I_5, h_6, hf⟩ := bd1_some hf
      refine r_callV (As := [.ref a1, .int x2]) (ci := 8) hX (k_X8_sendOn (l := xl X) (J := J) hX.ok hk0 hk1 h_6) pk_X8_sendOn ml_X8_183 rfl rfl rfl rfl hk0 rfl rfl rfl (Nat.le_of_ble_eq_true rfl) dX8_sendDue_34 ?_
      refine V.mask [true, true, true] ?_
      exact vX8_sendDue_37 hX hret a0 a1 x2 hk0 hk1 k2 hc2 hf
  · have hf := hf_f c_1 hf
    cases hf
    exact hret _ _ dX8_sendDue_43
noncomputable def f_X8_sendDue (I : HI) (a0 : Nat) (a1 : Nat) : Option (HI) := wl2 (X8_sendDue_B2 a0 a1) 5000 I ((0 : Int32))
set_option maxHeartbeats 4000000 in
set_option maxRecDepth 100000 in
theorem k_X8_sendDue {G : GX} {l : Launch} {I : HI} {J : HJ} {I' : HI} (hG : OKG G) {a0 : Nat} {a1 : Nat} (hk0 : gK G a0 = 9) (hk1 : gK G a1 = 221) (hf : f_X8_sendDue I a0 a1 = some I') : Ctr G l yX8_sendDue cX8_sendDue 3 none 2 46 [.ref a0, .ref a1] I J none I' J := by
  refine ctr_V hG (by decide) [some (.ref a0), some (.ref a1), none] rfl rfl fun X e1 e2 hX hret => ?_
  subst e1; subst e2
  unfold f_X8_sendDue at hf
  refine r_iconst (v := 0) hX dX8_sendDue_0 rfl ?_
  refine r_istore_n hX dX8_sendDue_1 rfl rfl ?_
  refine V.mask [true, true, true] ?_
  exact vX8_sendDue_2 hX hret a0 a1 hk0 hk1 5000 I ((0 : Int32)) hf
noncomputable def X8_askOn_J117 (I : HI) (a0 : Nat) (a1 : Nat) (x2 : Int32) (x3 : Int32) (x5 : Int32) (x6 : Int32) (k37 : HI → Int32 → Int32 → Option (Int32 × HI)) : Option (Int32 × HI) := lt1 (x6 + (1 : Int32)) fun x_25 => k37 I x5 x_25
set_option maxHeartbeats 4000000 in
set_option maxRecDepth 100000 in
theorem vX8_askOn_117 {X : CX} {I' : HI} {r : Int32} {I : HI} {J : HJ} (hX : OKX X cX8_askOn RX8 4 96 8) (hret : RetI X cX8_askOn r I' J) (a0 : Nat) (a1 : Nat) (x2 : Int32) (x3 : Int32) (x5 : Int32) (x6 : Int32) (hk0 : gK (xG X) a0 = 9) (hk1 : gK (xG X) a1 = 221) (k37 : HI → Int32 → Int32 → Option (Int32 × HI)) (hc37 : ∀ (I : HI) (x5 : Int32) (x6 : Int32), k37 I x5 x6 = some (r, I') → V X I J 37 [some (.ref a0), some (.ref a1), some (.int x2), some (.int x3), none, some (.int x5), some (.int x6), none] []) (hf : X8_askOn_J117 I a0 a1 x2 x3 x5 x6 k37 = some (r, I')) : V X I J 117 [some (.ref a0), some (.ref a1), some (.int x2), some (.int x3), none, some (.int x5), some (.int x6), none] [] := by
  unfold X8_askOn_J117 at hf
  obtain ⟨x_25, ex_25, hf⟩ := lt1_some hf
  refine r_iincE (n' := 1) ex_25 hX dX8_askOn_117 rfl rfl rfl rfl ?_
  refine r_goto (tgt := 37) hX dX8_askOn_120 (by decide) ?_
  refine V.mask [true, true, true, true, false, true, true, false] ?_
  exact hc37 I x5 x_25 hf
noncomputable def X8_askOn_J140 (I : HI) (a0 : Nat) (a1 : Nat) (x2 : Int32) (x3 : Int32) (x5 : Int32) (sa0 : Nat) (sx1 : Int32) (sx2 : Int32) (sx3 : Int32) : Option (Int32 × HI) := gd (vp_in sx1 121) (lt1 (sI I sa0 sx1.toNatClampNeg ((sx2 + sx3))) fun I_29 => bd1 (f_X8_comeTo I_29 a0 a1 x2 x3) fun I_30 => bd1 (f_X8_sendDue I_30 a0 a1) fun I_32 => some (x5, I_32))
set_option maxHeartbeats 4000000 in
set_option maxRecDepth 100000 in
theorem vX8_askOn_140 {X : CX} {I' : HI} {r : Int32} {I : HI} {J : HJ} (hX : OKX X cX8_askOn RX8 4 96 8) (hret : RetI X cX8_askOn r I' J) (a0 : Nat) (a1 : Nat) (x2 : Int32) (x3 : Int32) (x5 : Int32) (sa0 : Nat) (sx1 : Int32) (sx2 : Int32) (sx3 : Int32) (hk0 : gK (xG X) a0 = 9) (hk1 : gK (xG X) a1 = 221) (hs0 : gK (xG X) sa0 = 221)   (hf : X8_askOn_J140 I a0 a1 x2 x3 x5 sa0 sx1 sx2 sx3 = some (r, I')) : V X I J 140 [some (.ref a0), some (.ref a1), some (.int x2), some (.int x3), none, some (.int x5), none, none] [.int sx3, .int sx2, .int sx1, .ref sa0] := by
  unfold X8_askOn_J140 at hf
  refine r_iadd hX dX8_askOn_140 ?_
  obtain ⟨g_28, hf⟩ := gd_some hf
  obtain ⟨I_29, eI_29, hf⟩ := lt1_some hf
  refine r_iastE (n := 121) eI_29 hX rfl hs0 g_28 dX8_askOn_141 ?_
  refine r_aload_n hX dX8_askOn_142 rfl ?_
  refine r_aload_n hX dX8_askOn_143 rfl ?_
  refine r_iload_n hX dX8_askOn_144 rfl ?_
  refine r_iload_n hX dX8_askOn_145 rfl ?_
  obtain ⟨I_30, h_31, hf⟩ := bd1_some hf
  refine r_callV (As := [.ref a1, .int x2, .int x3]) (ci := 8) hX (k_X8_comeTo (l := xl X) (J := J) hX.ok hk0 hk1 h_31) pk_X8_comeTo ml_X8_194 rfl rfl rfl rfl hk0 rfl rfl rfl (Nat.le_of_ble_eq_true rfl) dX8_askOn_146 ?_
  refine r_aload_n hX dX8_askOn_149 rfl ?_
  refine r_aload_n hX dX8_askOn_150 rfl ?_
  obtain ⟨I_32, h_33, hf⟩ := bd1_some hf
  refine r_callV (As := [.ref a1]) (ci := 8) hX (k_X8_sendDue (l := xl X) (J := J) hX.ok hk0 hk1 h_33) pk_X8_sendDue ml_X8_186 rfl rfl rfl rfl hk0 rfl rfl rfl (Nat.le_of_ble_eq_true rfl) dX8_askOn_151 ?_
  refine r_iload hX dX8_askOn_154 rfl ?_
  cases hf
  exact hret _ _ dX8_askOn_156
noncomputable def X8_askOn_J123 (I : HI) (a0 : Nat) (a1 : Nat) (x2 : Int32) (x3 : Int32) (x5 : Int32) : Option (Int32 × HI) := gd (vp_in ((119 : Int32)) 121) (if x5 = (-9 : Int32) then X8_askOn_J140 I a0 a1 x2 x3 x5 a1 ((119 : Int32)) ((I a1 ((119 : Int32)).toNatClampNeg)) ((1 : Int32)) else X8_askOn_J140 I a0 a1 x2 x3 x5 a1 ((119 : Int32)) ((I a1 ((119 : Int32)).toNatClampNeg)) ((0 : Int32)))
set_option maxHeartbeats 4000000 in
set_option maxRecDepth 100000 in
theorem vX8_askOn_123 {X : CX} {I' : HI} {r : Int32} {I : HI} {J : HJ} (hX : OKX X cX8_askOn RX8 4 96 8) (hret : RetI X cX8_askOn r I' J) (a0 : Nat) (a1 : Nat) (x2 : Int32) (x3 : Int32) (x5 : Int32) (hk0 : gK (xG X) a0 = 9) (hk1 : gK (xG X) a1 = 221)   (hf : X8_askOn_J123 I a0 a1 x2 x3 x5 = some (r, I')) : V X I J 123 [some (.ref a0), some (.ref a1), some (.int x2), some (.int x3), none, some (.int x5), none, none] [] := by
  unfold X8_askOn_J123 at hf
  refine r_aload_n hX dX8_askOn_123 rfl ?_
  refine r_bipush (v := 119) hX dX8_askOn_124 (by decide) ?_
  refine r_dup2 hX dX8_askOn_126 rfl rfl ?_
  obtain ⟨g_26, hf⟩ := gd_some hf
  refine r_iald (n := 121) hX rfl hk1 g_26 dX8_askOn_127 ?_
  refine r_iload hX dX8_askOn_128 rfl ?_
  refine r_bipush (v := -9) hX dX8_askOn_130 (by decide) ?_
  refine r_icmp_ne (tgt := 139) hX dX8_askOn_132 (by decide) (fun c_27 => ?_) (fun c_27 => ?_)
  · have hf := hf_t c_27 hf
    refine r_iconst (v := 1) hX dX8_askOn_135 rfl ?_
    refine r_goto (tgt := 140) hX dX8_askOn_136 (by decide) ?_
    refine V.mask [true, true, true, true, false, true, false, false] ?_
    exact vX8_askOn_140 hX hret a0 a1 x2 x3 x5 a1 ((119 : Int32)) ((I a1 ((119 : Int32)).toNatClampNeg)) ((1 : Int32)) hk0 hk1 hk1 hf
  · have hf := hf_f c_27 hf
    refine r_iconst (v := 0) hX dX8_askOn_139 rfl ?_
    refine V.mask [true, true, true, true, false, true, false, false] ?_
    exact vX8_askOn_140 hX hret a0 a1 x2 x3 x5 a1 ((119 : Int32)) ((I a1 ((119 : Int32)).toNatClampNeg)) ((0 : Int32)) hk0 hk1 hk1 hf
noncomputable def X8_askOn_B37 (a0 : Nat) (a1 : Nat) (x2 : Int32) (x3 : Int32) (k37 : HI → Int32 → Int32 → Option (Int32 × HI)) (I : HI) (x5 : Int32) (x6 : Int32) : Option (Int32 × HI) := if x6 < (I a0 9) then if x5 = (-9 : Int32) then if x6 = x2 then X8_askOn_J117 I a0 a1 x2 x3 x5 x6 k37 else bd1 (f_X8_summarySays I a0 a1 x6 x3) fun r_11 => if r_11 = 0 then X8_askOn_J117 I a0 a1 x2 x3 x5 x6 k37 else gd (vp_in ((117 : Int32)) 121) (gd (vp_in ((117 : Int32)) 121) (lt1 (sI I a1 ((117 : Int32)).toNatClampNeg (((I a1 ((117 : Int32)).toNatClampNeg) + (1 : Int32)))) fun I_16 => bd1 (f_X8_placeOf I_16 a1 x6 x3) fun r_17 => if r_17 = (-9 : Int32) then gd (vp_in ((118 : Int32)) 121) (gd (vp_in ((118 : Int32)) 121) (lt1 (sI I_16 a1 ((118 : Int32)).toNatClampNeg (((I_16 a1 ((118 : Int32)).toNatClampNeg) + (1 : Int32)))) fun I_22 => X8_askOn_J117 I_22 a0 a1 x2 x3 x5 x6 k37)) else bd1 (f_X8_freshen I_16 a1 x6 r_17) fun I_23 => X8_askOn_J117 I_23 a0 a1 x2 x3 x6 x6 k37)) else X8_askOn_J123 I a0 a1 x2 x3 x5 else X8_askOn_J123 I a0 a1 x2 x3 x5
set_option maxHeartbeats 4000000 in
set_option maxRecDepth 100000 in
theorem vX8_askOn_37 {X : CX} {I' : HI} {r : Int32} {J : HJ} (hX : OKX X cX8_askOn RX8 4 96 8) (hret : RetI X cX8_askOn r I' J) (a0 : Nat) (a1 : Nat) (x2 : Int32) (x3 : Int32) (hk0 : gK (xG X) a0 = 9) (hk1 : gK (xG X) a1 = 221)   : ∀ (n : Nat) (I : HI) (x5 : Int32) (x6 : Int32), wl3 (X8_askOn_B37 a0 a1 x2 x3) n I x5 x6 = some (r, I') → V X I J 37 [some (.ref a0), some (.ref a1), some (.int x2), some (.int x3), none, some (.int x5), some (.int x6), none] [] := by
  refine wl3_V (P := fun (I : HI) (x5 : Int32) (x6 : Int32) => V X I J 37 [some (.ref a0), some (.ref a1), some (.int x2), some (.int x3), none, some (.int x5), some (.int x6), none] []) ?_
  intro k37 hc37 I x5 x6 hf
  unfold X8_askOn_B37 at hf
  refine r_iload hX dX8_askOn_37 rfl ?_
  refine r_aload_n hX dX8_askOn_39 rfl ?_
  refine g_8_9 hX fl_X8_78 hk0 dX8_askOn_40 ?_
  refine r_icmp_ge (tgt := 123) hX dX8_askOn_43 (by decide) (fun c_8 => ?_) (fun c_8 => ?_)
  · have hf := hf_t c_8 hf
    refine r_iload hX dX8_askOn_46 rfl ?_
    refine r_bipush (v := -9) hX dX8_askOn_48 (by decide) ?_
    refine r_icmp_ne (tgt := 123) hX dX8_askOn_50 (by decide) (fun c_9 => ?_) (fun c_9 => ?_)
    · have hf := hf_t c_9 hf
      refine r_iload hX dX8_askOn_53 rfl ?_
      refine r_iload_n hX dX8_askOn_55 rfl ?_
      refine r_icmp_eq (tgt := 117) hX dX8_askOn_56 (by decide) (fun c_10 => ?_) (fun c_10 => ?_)
      · have hf := hf_t c_10 hf
        refine V.mask [true, true, true, true, false, true, true, false] ?_
        exact vX8_askOn_117 hX hret a0 a1 x2 x3 x5 x6 hk0 hk1 k37 hc37 hf
      · have hf := hf_f c_10 hf
        refine r_aload_n hX dX8_askOn_59 rfl ?_
        refine r_aload_n hX dX8_askOn_60 rfl ?_
        refine r_iload hX dX8_askOn_61 rfl ?_
        refine r_iload_n hX dX8_askOn_63 rfl ?_
        obtain ⟨r_11, h_12, hf⟩ := bd1_some hf
        refine r_callV (As := [.ref a1, .int x6, .int x3]) (ci := 8) hX (k_X8_summarySays (l := xl X) (J := J) hX.ok hk0 hk1 h_12) pk_X8_summarySays ml_X8_190 rfl rfl rfl rfl hk0 rfl rfl rfl (Nat.le_of_ble_eq_true rfl) dX8_askOn_64 ?_
        refine r_if_eq (tgt := 117) hX dX8_askOn_67 (by decide) (fun c_13 => ?_) (fun c_13 => ?_)
        · have hf := hf_t c_13 hf
          refine V.mask [true, true, true, true, false, true, true, false] ?_
          exact vX8_askOn_117 hX hret a0 a1 x2 x3 x5 x6 hk0 hk1 k37 hc37 hf
        · have hf := hf_f c_13 hf
          refine r_aload_n hX dX8_askOn_70 rfl ?_
          refine r_bipush (v := 117) hX dX8_askOn_71 (by decide) ?_
          refine r_dup2 hX dX8_askOn_73 rfl rfl ?_
          obtain ⟨g_14, hf⟩ := gd_some hf
          refine r_iald (n := 121) hX rfl hk1 g_14 dX8_askOn_74 ?_
          refine r_iconst (v := 1) hX dX8_askOn_75 rfl ?_
          refine r_iadd hX dX8_askOn_76 ?_
          obtain ⟨g_15, hf⟩ := gd_some hf
          obtain ⟨I_16, eI_16, hf⟩ := lt1_some hf
          refine r_iastE (n := 121) eI_16 hX rfl hk1 g_15 dX8_askOn_77 ?_
          refine r_aload_n hX dX8_askOn_78 rfl ?_
          refine r_iload hX dX8_askOn_79 rfl ?_
          refine r_iload_n hX dX8_askOn_81 rfl ?_
          obtain ⟨r_17, h_18, hf⟩ := bd1_some hf
          refine r_callS (As := [.ref a1, .int x6, .int x3]) hX (k_X8_placeOf (l := xl X) (J := J) hX.ok hk1 h_18) pk_X8_placeOf ml_X8_115 rfl rfl rfl (Nat.le_of_ble_eq_true rfl) dX8_askOn_82 ?_
          refine r_istore hX dX8_askOn_85 rfl rfl ?_
          refine r_iload hX dX8_askOn_87 rfl ?_
          refine r_bipush (v := -9) hX dX8_askOn_89 (by decide) ?_
          refine r_icmp_eq (tgt := 109) hX dX8_askOn_91 (by decide) (fun c_19 => ?_) (fun c_19 => ?_)
          · have hf := hf_t c_19 hf
            refine r_aload_n hX dX8_askOn_109 rfl ?_
            refine r_bipush (v := 118) hX dX8_askOn_110 (by decide) ?_
            refine r_dup2 hX dX8_askOn_112 rfl rfl ?_
            obtain ⟨g_20, hf⟩ := gd_some hf
            refine r_iald (n := 121) hX rfl hk1 g_20 dX8_askOn_113 ?_
            refine r_iconst (v := 1) hX dX8_askOn_114 rfl ?_
            refine r_iadd hX dX8_askOn_115 ?_
            obtain ⟨g_21, hf⟩ := gd_some hf
            obtain ⟨I_22, eI_22, hf⟩ := lt1_some hf
            refine r_iastE (n := 121) eI_22 hX rfl hk1 g_21 dX8_askOn_116 ?_
            refine V.mask [true, true, true, true, false, true, true, false] ?_
            exact vX8_askOn_117 hX hret a0 a1 x2 x3 x5 x6 hk0 hk1 k37 hc37 hf
          · have hf := hf_f c_19 hf
            refine r_iload hX dX8_askOn_94 rfl ?_
            refine r_istore hX dX8_askOn_96 rfl rfl ?_
            refine r_aload_n hX dX8_askOn_98 rfl ?_
            refine r_iload hX dX8_askOn_99 rfl ?_
            refine r_iload hX dX8_askOn_101 rfl ?_
            obtain ⟨I_23, h_24, hf⟩ := bd1_some hf
            refine r_callS (As := [.ref a1, .int x6, .int r_17]) hX (k_X8_freshen (l := xl X) (J := J) hX.ok hk1 h_24) pk_X8_freshen ml_X8_180 rfl rfl rfl (Nat.le_of_ble_eq_true rfl) dX8_askOn_103 ?_
            refine r_goto (tgt := 117) hX dX8_askOn_106 (by decide) ?_
            refine V.mask [true, true, true, true, false, true, true, false] ?_
            exact vX8_askOn_117 hX hret a0 a1 x2 x3 x6 x6 hk0 hk1 k37 hc37 hf
    · have hf := hf_f c_9 hf
      refine V.mask [true, true, true, true, false, true, false, false] ?_
      exact vX8_askOn_123 hX hret a0 a1 x2 x3 x5 hk0 hk1 hf
  · have hf := hf_f c_8 hf
    refine V.mask [true, true, true, true, false, true, false, false] ?_
    exact vX8_askOn_123 hX hret a0 a1 x2 x3 x5 hk0 hk1 hf
noncomputable def f_X8_askOn (I : HI) (a0 : Nat) (a1 : Nat) (x2 : Int32) (x3 : Int32) : Option (Int32 × HI) := bd1 (f_X8_placeOf I a1 x2 x3) fun r_1 => if r_1 = (-9 : Int32) then wl3 (X8_askOn_B37 a0 a1 x2 x3) 5000 I ((-9 : Int32)) ((0 : Int32)) else bd1 (f_X8_freshen I a1 x2 r_1) fun I_4 => bd1 (f_X8_sendDue I_4 a0 a1) fun I_6 => some ((10 : Int32), I_6)
set_option maxHeartbeats 4000000 in
set_option maxRecDepth 100000 in
theorem k_X8_askOn {G : GX} {l : Launch} {I : HI} {J : HJ} {I' : HI} {r : Int32} (hG : OKG G) {a0 : Nat} {a1 : Nat} {x2 : Int32} {x3 : Int32} (hk0 : gK G a0 = 9) (hk1 : gK G a1 = 221) (hf : f_X8_askOn I a0 a1 x2 x3 = some (r, I')) : Ctr G l yX8_askOn cX8_askOn 8 (some .int) 4 96 [.ref a0, .ref a1, .int x2, .int x3] I J (some (.int r)) I' J := by
  refine ctr_I hG (by decide) [some (.ref a0), some (.ref a1), some (.int x2), some (.int x3), none, none, none, none] rfl rfl fun X e1 e2 hX hret => ?_
  subst e1; subst e2
  unfold f_X8_askOn at hf
  refine r_aload_n hX dX8_askOn_0 rfl ?_
  refine r_iload_n hX dX8_askOn_1 rfl ?_
  refine r_iload_n hX dX8_askOn_2 rfl ?_
  obtain ⟨r_1, h_2, hf⟩ := bd1_some hf
  refine r_callS (As := [.ref a1, .int x2, .int x3]) hX (k_X8_placeOf (l := xl X) (J := J) hX.ok hk1 h_2) pk_X8_placeOf ml_X8_115 rfl rfl rfl (Nat.le_of_ble_eq_true rfl) dX8_askOn_3 ?_
  refine r_istore hX dX8_askOn_6 rfl rfl ?_
  refine r_iload hX dX8_askOn_8 rfl ?_
  refine r_bipush (v := -9) hX dX8_askOn_10 (by decide) ?_
  refine r_icmp_eq (tgt := 30) hX dX8_askOn_12 (by decide) (fun c_3 => ?_) (fun c_3 => ?_)
  · have hf := hf_t c_3 hf
    refine r_bipush (v := -9) hX dX8_askOn_30 (by decide) ?_
    refine r_istore hX dX8_askOn_32 rfl rfl ?_
    refine r_iconst (v := 0) hX dX8_askOn_34 rfl ?_
    refine r_istore hX dX8_askOn_35 rfl rfl ?_
    refine V.mask [true, true, true, true, false, true, true, false] ?_
    exact vX8_askOn_37 hX hret a0 a1 x2 x3 hk0 hk1 5000 I ((-9 : Int32)) ((0 : Int32)) hf
  · have hf := hf_f c_3 hf
    refine r_aload_n hX dX8_askOn_15 rfl ?_
    refine r_iload_n hX dX8_askOn_16 rfl ?_
    refine r_iload hX dX8_askOn_17 rfl ?_
    obtain ⟨I_4, h_5, hf⟩ := bd1_some hf
    refine r_callS (As := [.ref a1, .int x2, .int r_1]) hX (k_X8_freshen (l := xl X) (J := J) hX.ok hk1 h_5) pk_X8_freshen ml_X8_180 rfl rfl rfl (Nat.le_of_ble_eq_true rfl) dX8_askOn_19 ?_
    refine r_aload_n hX dX8_askOn_22 rfl ?_
    refine r_aload_n hX dX8_askOn_23 rfl ?_
    obtain ⟨I_6, h_7, hf⟩ := bd1_some hf
    refine r_callV (As := [.ref a1]) (ci := 8) hX (k_X8_sendDue (l := xl X) (J := J) hX.ok hk0 hk1 h_7) pk_X8_sendDue ml_X8_186 rfl rfl rfl rfl hk0 rfl rfl rfl (Nat.le_of_ble_eq_true rfl) dX8_askOn_24 ?_
    refine r_bipush (v := 10) hX dX8_askOn_27 (by decide) ?_
    cases hf
    exact hret _ _ dX8_askOn_29
noncomputable def f_X8_dropOn (I : HI) (a0 : Nat) (a1 : Nat) (x2 : Int32) (x3 : Int32) : Option (HI) := bd1 (f_X8_goOut I a0 a1 x2 x3) fun I_1 => bd1 (f_X8_sendDue I_1 a0 a1) fun I_3 => some I_3
set_option maxHeartbeats 4000000 in
set_option maxRecDepth 100000 in
theorem k_X8_dropOn {G : GX} {l : Launch} {I : HI} {J : HJ} {I' : HI} (hG : OKG G) {a0 : Nat} {a1 : Nat} {x2 : Int32} {x3 : Int32} (hk0 : gK G a0 = 9) (hk1 : gK G a1 = 221) (hf : f_X8_dropOn I a0 a1 x2 x3 = some I') : Ctr G l yX8_dropOn cX8_dropOn 4 none 3 73 [.ref a0, .ref a1, .int x2, .int x3] I J none I' J := by
  refine ctr_V hG (by decide) [some (.ref a0), some (.ref a1), some (.int x2), some (.int x3)] rfl rfl fun X e1 e2 hX hret => ?_
  subst e1; subst e2
  unfold f_X8_dropOn at hf
  refine r_aload_n hX dX8_dropOn_0 rfl ?_
  refine r_aload_n hX dX8_dropOn_1 rfl ?_
  refine r_iload_n hX dX8_dropOn_2 rfl ?_
  refine r_iload_n hX dX8_dropOn_3 rfl ?_
  obtain ⟨I_1, h_2, hf⟩ := bd1_some hf
  refine r_callV (As := [.ref a1, .int x2, .int x3]) (ci := 8) hX (k_X8_goOut (l := xl X) (J := J) hX.ok hk0 hk1 h_2) pk_X8_goOut ml_X8_176 rfl rfl rfl rfl hk0 rfl rfl rfl (Nat.le_of_ble_eq_true rfl) dX8_dropOn_4 ?_
  refine r_aload_n hX dX8_dropOn_7 rfl ?_
  refine r_aload_n hX dX8_dropOn_8 rfl ?_
  obtain ⟨I_3, h_4, hf⟩ := bd1_some hf
  refine r_callV (As := [.ref a1]) (ci := 8) hX (k_X8_sendDue (l := xl X) (J := J) hX.ok hk0 hk1 h_4) pk_X8_sendDue ml_X8_186 rfl rfl rfl rfl hk0 rfl rfl rfl (Nat.le_of_ble_eq_true rfl) dX8_dropOn_9 ?_
  cases hf
  exact hret _ _ dX8_dropOn_12

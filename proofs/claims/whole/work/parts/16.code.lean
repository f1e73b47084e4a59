noncomputable def X8_layBest_J156 (I : HI) (a0 : Nat) (x1 : Int32) (x2 : Int32) (x3 : Int32) (x4 : Int32) (x5 : Int32) (k39 : HI → Int32 → Option (HI)) : Option (HI) := lt1 (x5 + (1 : Int32)) fun x_26 => k39 I x_26
set_option maxHeartbeats 4000000 in
set_option maxRecDepth 100000 in
theorem vX8_layBest_156 {X : CX} {I' : HI} {I : HI} {J : HJ} (hX : OKX X cX8_layBest RX8 5 123 8) (hret : RetV X cX8_layBest I' J) (a0 : Nat) (x1 : Int32) (x2 : Int32) (x3 : Int32) (x4 : Int32) (x5 : Int32) (hk0 : gK (xG X) a0 = 9) (k39 : HI → Int32 → Option (HI)) (hc39 : ∀ (I : HI) (x5 : Int32), k39 I x5 = some I' → V X I J 39 [some (.ref a0), some (.int x1), some (.int x2), some (.int x3), some (.int x4), some (.int x5), none, none] []) (hf : X8_layBest_J156 I a0 x1 x2 x3 x4 x5 k39 = some I') : V X I J 156 [some (.ref a0), some (.int x1), some (.int x2), some (.int x3), some (.int x4), some (.int x5), none, none] [] := by
  unfold X8_layBest_J156 at hf
  obtain ⟨x_26, ex_26, hf⟩ := lt1_some hf
  refine r_iincE (n' := 1) ex_26 hX dX8_layBest_156 rfl rfl rfl rfl ?_
  refine r_goto (tgt := 39) hX dX8_layBest_159 (by decide) ?_
  refine V.mask [true, true, true, true, true, true, false, false] ?_
  exact hc39 I x_26 hf
noncomputable def X8_layBest_B130 (a0 : Nat) (x1 : Int32) (x2 : Int32) (x3 : Int32) (x4 : Int32) (x5 : Int32) (k39 : HI → Int32 → Option (HI)) (k130 : HI → Int32 → Option (HI)) (I : HI) (x7 : Int32) : Option (HI) := if x7 < x3 then gd (vp_in x7 5) (gd (vp_in x7 5) (lt1 (sI I ((a0 + 18)) x7.toNatClampNeg ((I ((a0 + 17)) x7.toNatClampNeg))) fun I_30 => lt1 (x7 + (1 : Int32)) fun x_31 => k130 I_30 x_31)) else X8_layBest_J156 I a0 x1 x2 x3 x4 x5 k39
set_option maxHeartbeats 4000000 in
set_option maxRecDepth 100000 in
theorem vX8_layBest_130 {X : CX} {I' : HI} {J : HJ} (hX : OKX X cX8_layBest RX8 5 123 8) (hret : RetV X cX8_layBest I' J) (a0 : Nat) (x1 : Int32) (x2 : Int32) (x3 : Int32) (x4 : Int32) (x5 : Int32) (hk0 : gK (xG X) a0 = 9) (k39 : HI → Int32 → Option (HI)) (hc39 : ∀ (I : HI) (x5 : Int32), k39 I x5 = some I' → V X I J 39 [some (.ref a0), some (.int x1), some (.int x2), some (.int x3), some (.int x4), some (.int x5), none, none] []) : ∀ (n : Nat) (I : HI) (x7 : Int32), wl2 (X8_layBest_B130 a0 x1 x2 x3 x4 x5 k39) n I x7 = some I' → V X I J 130 [some (.ref a0), some (.int x1), some (.int x2), some (.int x3), some (.int x4), some (.int x5), none, some (.int x7)] [] := by
  refine wl2_V (P := fun (I : HI) (x7 : Int32) => V X I J 130 [some (.ref a0), some (.int x1), some (.int x2), some (.int x3), some (.int x4), some (.int x5), none, some (.int x7)] []) ?_
  intro k130 hc130 I x7 hf
  unfold X8_layBest_B130 at hf
  refine r_iload hX dX8_layBest_130 rfl ?_
  refine r_iload_n hX dX8_layBest_132 rfl ?_
  refine r_icmp_ge (tgt := 156) hX dX8_layBest_133 (by decide) (fun c_27 => ?_) (fun c_27 => ?_)
  · have hf := hf_t c_27 hf
    refine r_aload_n hX dX8_layBest_136 rfl ?_
    refine g_8_31 hX fl_X8_72 hk0 dX8_layBest_137 ?_
    refine r_iload hX dX8_layBest_140 rfl ?_
    refine r_aload_n hX dX8_layBest_142 rfl ?_
    refine g_8_30 hX fl_X8_69 hk0 dX8_layBest_143 ?_
    refine r_iload hX dX8_layBest_146 rfl ?_
    obtain ⟨g_28, hf⟩ := gd_some hf
    refine r_iald (n := 5) hX rfl ((q_9_30 hX hk0)) g_28 dX8_layBest_148 ?_
    obtain ⟨g_29, hf⟩ := gd_some hf
    obtain ⟨I_30, eI_30, hf⟩ := lt1_some hf
    refine r_iastE (n := 5) eI_30 hX rfl ((q_9_31 hX hk0)) g_29 dX8_layBest_149 ?_
    obtain ⟨x_31, ex_31, hf⟩ := lt1_some hf
    refine r_iincE (n' := 1) ex_31 hX dX8_layBest_150 rfl rfl rfl rfl ?_
    refine r_goto (tgt := 130) hX dX8_layBest_153 (by decide) ?_
    refine V.mask [true, true, true, true, true, true, false, true] ?_
    exact hc130 I_30 x_31 hf
  · have hf := hf_f c_27 hf
    refine V.mask [true, true, true, true, true, true, false, false] ?_
    exact vX8_layBest_156 hX hret a0 x1 x2 x3 x4 x5 hk0 k39 hc39 hf
noncomputable def X8_layBest_J121 (I : HI) (a0 : Nat) (x1 : Int32) (x2 : Int32) (x3 : Int32) (x4 : Int32) (x5 : Int32) (x6 : Int32) (k39 : HI → Int32 → Option (HI)) : Option (HI) := lt1 (sI I a0 32 x6) fun I_25 => wl2 (X8_layBest_B130 a0 x1 x2 x3 x4 x5 k39) 5000 I_25 ((0 : Int32))
set_option maxHeartbeats 4000000 in
set_option maxRecDepth 100000 in
theorem vX8_layBest_121 {X : CX} {I' : HI} {I : HI} {J : HJ} (hX : OKX X cX8_layBest RX8 5 123 8) (hret : RetV X cX8_layBest I' J) (a0 : Nat) (x1 : Int32) (x2 : Int32) (x3 : Int32) (x4 : Int32) (x5 : Int32) (x6 : Int32) (hk0 : gK (xG X) a0 = 9) (k39 : HI → Int32 → Option (HI)) (hc39 : ∀ (I : HI) (x5 : Int32), k39 I x5 = some I' → V X I J 39 [some (.ref a0), some (.int x1), some (.int x2), some (.int x3), some (.int x4), some (.int x5), none, none] []) (hf : X8_layBest_J121 I a0 x1 x2 x3 x4 x5 x6 k39 = some I') : V X I J 121 [some (.ref a0), some (.int x1), some (.int x2), some (.int x3), some (.int x4), some (.int x5), some (.int x6), none] [] := by
  unfold X8_layBest_J121 at hf
  refine r_aload_n hX dX8_layBest_121 rfl ?_
  refine r_iload hX dX8_layBest_122 rfl ?_
  obtain ⟨I_25, eI_25, hf⟩ := lt1_some hf
  refine p_8_32 eI_25 hX fl_X8_251 hk0 dX8_layBest_124 ?_
  refine r_iconst (v := 0) hX dX8_layBest_127 rfl ?_
  refine r_istore hX dX8_layBest_128 rfl rfl ?_
  refine V.mask [true, true, true, true, true, true, false, true] ?_
  exact vX8_layBest_130 hX hret a0 x1 x2 x3 x4 x5 hk0 k39 hc39 5000 I_25 ((0 : Int32)) hf
noncomputable def X8_layBest_B61 (a0 : Nat) (x1 : Int32) (x2 : Int32) (x3 : Int32) (x4 : Int32) (x5 : Int32) (k39 : HI → Int32 → Option (HI)) (k61 : HI → Int32 → Option (HI)) (I : HI) (x6 : Int32) : Option (HI) := if x6 < x3 then gd (vp_in x6 5) (bd2 (f_X8_askOn I a0 ((a0 + 10)) x1 ((I ((a0 + 17)) x6.toNatClampNeg))) fun r_14 I_15 => lt1 (x6 + (1 : Int32)) fun x_17 => k61 I_15 x_17) else bd1 (f_X8_costOf I ((a0 + 10))) fun r_18 => bd1 (f_X8_costOf I ((a0 + 9))) fun r_20 => lt1 ((r_18 - r_20)) fun x_22 => if x5 = 0 then X8_layBest_J121 I a0 x1 x2 x3 x4 x5 x_22 k39 else if x_22 < (I a0 32) then X8_layBest_J121 I a0 x1 x2 x3 x4 x5 x_22 k39 else X8_layBest_J156 I a0 x1 x2 x3 x4 x5 k39
set_option maxHeartbeats 4000000 in
set_option maxRecDepth 100000 in
theorem vX8_layBest_61 {X : CX} {I' : HI} {J : HJ} (hX : OKX X cX8_layBest RX8 5 123 8) (hret : RetV X cX8_layBest I' J) (a0 : Nat) (x1 : Int32) (x2 : Int32) (x3 : Int32) (x4 : Int32) (x5 : Int32) (hk0 : gK (xG X) a0 = 9) (k39 : HI → Int32 → Option (HI)) (hc39 : ∀ (I : HI) (x5 : Int32), k39 I x5 = some I' → V X I J 39 [some (.ref a0), some (.int x1), some (.int x2), some (.int x3), some (.int x4), some (.int x5), none, none] []) : ∀ (n : Nat) (I : HI) (x6 : Int32), wl2 (X8_layBest_B61 a0 x1 x2 x3 x4 x5 k39) n I x6 = some I' → V X I J 61 [some (.ref a0), some (.int x1), some (.int x2), some (.int x3), some (.int x4), some (.int x5), some (.int x6), none] [] := by
  refine wl2_V (P := fun (I : HI) (x6 : Int32) => V X I J 61 [some (.ref a0), some (.int x1), some (.int x2), some (.int x3), some (.int x4), some (.int x5), some (.int x6), none] []) ?_
  intro k61 hc61 I x6 hf
  unfold X8_layBest_B61 at hf
  refine r_iload hX dX8_layBest_61 rfl ?_
  refine r_iload_n hX dX8_layBest_63 rfl ?_
  refine r_icmp_ge (tgt := 90) hX dX8_layBest_64 (by decide) (fun c_12 => ?_) (fun c_12 => ?_)
  · have hf := hf_t c_12 hf
    refine r_aload_n hX dX8_layBest_67 rfl ?_
    refine r_aload_n hX dX8_layBest_68 rfl ?_
    refine g_8_20 hX fl_X8_47 hk0 dX8_layBest_69 ?_
    refine r_iload_n hX dX8_layBest_72 rfl ?_
    refine r_aload_n hX dX8_layBest_73 rfl ?_
    refine g_8_30 hX fl_X8_69 hk0 dX8_layBest_74 ?_
    refine r_iload hX dX8_layBest_77 rfl ?_
    obtain ⟨g_13, hf⟩ := gd_some hf
    refine r_iald (n := 5) hX rfl ((q_9_30 hX hk0)) g_13 dX8_layBest_79 ?_
    obtain ⟨r_14, I_15, h_16, hf⟩ := bd2_some hf
    refine r_callV (As := [.ref ((a0 + 10)), .int x1, .int ((I ((a0 + 17)) x6.toNatClampNeg))]) (ci := 8) hX (k_X8_askOn (l := xl X) (J := J) hX.ok hk0 ((q_9_20 hX hk0)) h_16) pk_X8_askOn ml_X8_217 rfl rfl rfl rfl hk0 rfl rfl rfl (Nat.le_of_ble_eq_true rfl) dX8_layBest_80 ?_
    refine r_pop hX dX8_layBest_83 rfl ?_
    obtain ⟨x_17, ex_17, hf⟩ := lt1_some hf
    refine r_iincE (n' := 1) ex_17 hX dX8_layBest_84 rfl rfl rfl rfl ?_
    refine r_goto (tgt := 61) hX dX8_layBest_87 (by decide) ?_
    refine V.mask [true, true, true, true, true, true, true, false] ?_
    exact hc61 I_15 x_17 hf
  · have hf := hf_f c_12 hf
    refine r_aload_n hX dX8_layBest_90 rfl ?_
    refine g_8_20 hX fl_X8_47 hk0 dX8_layBest_91 ?_
    obtain ⟨r_18, h_19, hf⟩ := bd1_some hf
    refine r_callS (As := [.ref ((a0 + 10))]) hX (k_X8_costOf (l := xl X) (J := J) hX.ok ((q_9_20 hX hk0)) h_19) pk_X8_costOf ml_X8_247 rfl rfl rfl (Nat.le_of_ble_eq_true rfl) dX8_layBest_94 ?_
    refine r_aload_n hX dX8_layBest_97 rfl ?_
    refine g_8_19 hX fl_X8_44 hk0 dX8_layBest_98 ?_
    obtain ⟨r_20, h_21, hf⟩ := bd1_some hf
    refine r_callS (As := [.ref ((a0 + 9))]) hX (k_X8_costOf (l := xl X) (J := J) hX.ok ((q_9_19 hX hk0)) h_21) pk_X8_costOf ml_X8_247 rfl rfl rfl (Nat.le_of_ble_eq_true rfl) dX8_layBest_101 ?_
    refine r_isub hX dX8_layBest_104 ?_
    obtain ⟨x_22, ex_22, hf⟩ := lt1_some hf
    refine V.topi ex_22 ?_
    refine r_istore hX dX8_layBest_105 rfl rfl ?_
    refine r_iload hX dX8_layBest_107 rfl ?_
    refine r_if_eq (tgt := 121) hX dX8_layBest_109 (by decide) (fun c_23 => ?_) (fun c_23 => ?_)
    · have hf := hf_t c_23 hf
      refine V.mask [true, true, true, true, true, true, true, false] ?_
      exact vX8_layBest_121 hX hret a0 x1 x2 x3 x4 x5 x_22 hk0 k39 hc39 hf
    · have hf := hf_f c_23 hf
      refine r_iload hX dX8_layBest_112 rfl ?_
      refine r_aload_n hX dX8_layBest_114 rfl ?_
      refine g_8_32 hX fl_X8_251 hk0 dX8_layBest_115 ?_
      refine r_icmp_ge (tgt := 156) hX dX8_layBest_118 (by decide) (fun c_24 => ?_) (fun c_24 => ?_)
      · have hf := hf_t c_24 hf
        refine V.mask [true, true, true, true, true, true, true, false] ?_
        exact vX8_layBest_121 hX hret a0 x1 x2 x3 x4 x5 x_22 hk0 k39 hc39 hf
      · have hf := hf_f c_24 hf
        refine V.mask [true, true, true, true, true, true, false, false] ?_
        exact vX8_layBest_156 hX hret a0 x1 x2 x3 x4 x5 hk0 k39 hc39 hf
noncomputable def X8_layBest_B39 (a0 : Nat) (x1 : Int32) (x2 : Int32) (x3 : Int32) (x4 : Int32) (k39 : HI → Int32 → Option (HI)) (I : HI) (x5 : Int32) : Option (HI) := if x5 < x4 then bd1 (f_X8_layOrder I a0 x2 x3 x5) fun I_8 => bd1 (f_X8_layTrial I_8 a0) fun I_10 => wl2 (X8_layBest_B61 a0 x1 x2 x3 x4 x5 k39) 5000 I_10 ((0 : Int32)) else some I
set_option maxHeartbeats 4000000 in
set_option maxRecDepth 100000 in
theorem vX8_layBest_39 {X : CX} {I' : HI} {J : HJ} (hX : OKX X cX8_layBest RX8 5 123 8) (hret : RetV X cX8_layBest I' J) (a0 : Nat) (x1 : Int32) (x2 : Int32) (x3 : Int32) (x4 : Int32) (hk0 : gK (xG X) a0 = 9)   : ∀ (n : Nat) (I : HI) (x5 : Int32), wl2 (X8_layBest_B39 a0 x1 x2 x3 x4) n I x5 = some I' → V X I J 39 [some (.ref a0), some (.int x1), some (.int x2), some (.int x3), some (.int x4), some (.int x5), none, none] [] := by
  refine wl2_V (P := fun (I : HI) (x5 : Int32) => V X I J 39 [some (.ref a0), some (.int x1), some (.int x2), some (.int x3), some (.int x4), some (.int x5), none, none] []) ?_
  intro k39 hc39 I x5 hf
  unfold X8_layBest_B39 at hf
  refine r_iload hX dX8_layBest_39 rfl ?_
  refine r_iload hX dX8_layBest_41 rfl ?_
  refine r_icmp_ge (tgt := 162) hX dX8_layBest_43 (by decide) (fun c_7 => ?_) (fun c_7 => ?_)
  · have hf := hf_t c_7 hf
    refine r_aload_n hX dX8_layBest_46 rfl ?_
    refine r_iload_n hX dX8_layBest_47 rfl ?_
    refine r_iload_n hX dX8_layBest_48 rfl ?_
    refine r_iload hX dX8_layBest_49 rfl ?_
    obtain ⟨I_8, h_9, hf⟩ := bd1_some hf
    refine r_callV (As := [.int x2, .int x3, .int x5]) (ci := 8) hX (k_X8_layOrder (l := xl X) (J := J) hX.ok hk0 h_9) pk_X8_layOrder ml_X8_254 rfl rfl rfl rfl hk0 rfl rfl rfl (Nat.le_of_ble_eq_true rfl) dX8_layBest_51 ?_
    refine r_aload_n hX dX8_layBest_54 rfl ?_
    obtain ⟨I_10, h_11, hf⟩ := bd1_some hf
    refine r_callV (As := []) (ci := 8) hX (k_X8_layTrial (l := xl X) (J := J) hX.ok hk0 h_11) pk_X8_layTrial ml_X8_244 rfl rfl rfl rfl hk0 rfl rfl rfl (Nat.le_of_ble_eq_true rfl) dX8_layBest_55 ?_
    refine r_iconst (v := 0) hX dX8_layBest_58 rfl ?_
    refine r_istore hX dX8_layBest_59 rfl rfl ?_
    refine V.mask [true, true, true, true, true, true, true, false] ?_
    exact vX8_layBest_61 hX hret a0 x1 x2 x3 x4 x5 hk0 k39 hc39 5000 I_10 ((0 : Int32)) hf
  · have hf := hf_f c_7 hf
    cases hf
    exact hret _ _ dX8_layBest_162
noncomputable def X8_layBest_B11 (I : HI) (a0 : Nat) (x1 : Int32) (x2 : Int32) (x3 : Int32) (k11 : Int32 → Int32 → Option (HI)) (x4 : Int32) (x5 : Int32) : Option (HI) := if x3 < x5 then lt1 (sI I a0 32 ((-9 : Int32))) fun I_4 => wl2 (X8_layBest_B39 a0 x1 x2 x3 x4) 5000 I_4 ((0 : Int32)) else lt1 ((x4 * x5)) fun x_5 => lt1 (x5 + (1 : Int32)) fun x_6 => k11 x_5 x_6
set_option maxHeartbeats 4000000 in
set_option maxRecDepth 100000 in
theorem vX8_layBest_11 {X : CX} {I' : HI} {I : HI} {J : HJ} (hX : OKX X cX8_layBest RX8 5 123 8) (hret : RetV X cX8_layBest I' J) (a0 : Nat) (x1 : Int32) (x2 : Int32) (x3 : Int32) (hk0 : gK (xG X) a0 = 9)   : ∀ (n : Nat) (x4 : Int32) (x5 : Int32), wl2 (X8_layBest_B11 I a0 x1 x2 x3) n x4 x5 = some I' → V X I J 11 [some (.ref a0), some (.int x1), some (.int x2), some (.int x3), some (.int x4), some (.int x5), none, none] [] := by
  refine wl2_V (P := fun (x4 : Int32) (x5 : Int32) => V X I J 11 [some (.ref a0), some (.int x1), some (.int x2), some (.int x3), some (.int x4), some (.int x5), none, none] []) ?_
  intro k11 hc11 x4 x5 hf
  unfold X8_layBest_B11 at hf
  refine r_iload hX dX8_layBest_11 rfl ?_
  refine r_iload_n hX dX8_layBest_13 rfl ?_
  refine r_icmp_gt (tgt := 30) hX dX8_layBest_14 (by decide) (fun c_3 => ?_) (fun c_3 => ?_)
  · have hf := hf_t c_3 hf
    refine r_aload_n hX dX8_layBest_30 rfl ?_
    refine r_bipush (v := -9) hX dX8_layBest_31 (by decide) ?_
    obtain ⟨I_4, eI_4, hf⟩ := lt1_some hf
    refine p_8_32 eI_4 hX fl_X8_251 hk0 dX8_layBest_33 ?_
    refine r_iconst (v := 0) hX dX8_layBest_36 rfl ?_
    refine r_istore hX dX8_layBest_37 rfl rfl ?_
    refine V.mask [true, true, true, true, true, true, false, false] ?_
    exact vX8_layBest_39 hX hret a0 x1 x2 x3 x4 hk0 5000 I_4 ((0 : Int32)) hf
  · have hf := hf_f c_3 hf
    refine r_iload hX dX8_layBest_17 rfl ?_
    refine r_iload hX dX8_layBest_19 rfl ?_
    refine r_imul hX dX8_layBest_21 ?_
    obtain ⟨x_5, ex_5, hf⟩ := lt1_some hf
    refine V.topi ex_5 ?_
    refine r_istore hX dX8_layBest_22 rfl rfl ?_
    obtain ⟨x_6, ex_6, hf⟩ := lt1_some hf
    refine r_iincE (n' := 1) ex_6 hX dX8_layBest_24 rfl rfl rfl rfl ?_
    refine r_goto (tgt := 11) hX dX8_layBest_27 (by decide) ?_
    refine V.mask [true, true, true, true, true, true, false, false] ?_
    exact hc11 x_5 x_6 hf
noncomputable def f_X8_layBest (I : HI) (a0 : Nat) (x1 : Int32) (x2 : Int32) : Option (HI) := bd1 (f_X8_ones x2) fun r_1 => wl2 (X8_layBest_B11 I a0 x1 x2 r_1) 5000 ((1 : Int32)) ((2 : Int32))
set_option maxHeartbeats 4000000 in
set_option maxRecDepth 100000 in
theorem k_X8_layBest {G : GX} {l : Launch} {I : HI} {J : HJ} {I' : HI} (hG : OKG G) {a0 : Nat} {x1 : Int32} {x2 : Int32} (hk0 : gK G a0 = 9) (hf : f_X8_layBest I a0 x1 x2 = some I') : Ctr G l yX8_layBest cX8_layBest 8 none 5 123 [.ref a0, .int x1, .int x2] I J none I' J := by
  refine ctr_V hG (by decide) [some (.ref a0), some (.int x1), some (.int x2), none, none, none, none, none] rfl rfl fun X e1 e2 hX hret => ?_
  subst e1; subst e2
  unfold f_X8_layBest at hf
  refine r_iload_n hX dX8_layBest_0 rfl ?_
  obtain ⟨r_1, h_2, hf⟩ := bd1_some hf
  refine r_callS (As := [.int x2]) hX (k_X8_ones (l := xl X) (I := I) (J := J) hX.ok  h_2) pk_X8_ones ml_X8_226 rfl rfl rfl (Nat.le_of_ble_eq_true rfl) dX8_layBest_1 ?_
  refine r_istore_n hX dX8_layBest_4 rfl rfl ?_
  refine r_iconst (v := 1) hX dX8_layBest_5 rfl ?_
  refine r_istore hX dX8_layBest_6 rfl rfl ?_
  refine r_iconst (v := 2) hX dX8_layBest_8 rfl ?_
  refine r_istore hX dX8_layBest_9 rfl rfl ?_
  refine V.mask [true, true, true, true, true, true, false, false] ?_
  exact vX8_layBest_11 hX hret a0 x1 x2 r_1 hk0 5000 ((1 : Int32)) ((2 : Int32)) hf
noncomputable def f_X8_order (I : HI) (a0 : Nat) (x1 : Int32) (x2 : Int32) (x3 : Int32) : Option (Int32 × HI) := lt1 (sI I a0 0 ((0 : Int32))) fun I_1 => bd1 (f_X8_noProxy I_1 a0 x1) fun r_2 => if r_2 = 0 then bd1 (f_X8_ones x2) fun r_5 => bd1 (f_X8_in r_5.toInt64 ((1 : Int64)) ((5 : Int64))) fun r_7 => if r_7 = 0 then some ((-2 : Int32), I_1) else if x3 < (-1 : Int32) then some ((-2 : Int32), I_1) else bd1 (f_X8_layBest I_1 a0 x1 x2) fun I_11 => if x3 = (-1 : Int32) then some ((I_11 a0 32), I_11) else if x3 < r_5 then gd (vp_in x3 5) (some ((I_11 ((a0 + 18)) x3.toNatClampNeg), I_11)) else some ((-9 : Int32), I_11) else some ((-1 : Int32), I_1)
set_option maxHeartbeats 4000000 in
set_option maxRecDepth 100000 in
theorem k_X8_order {G : GX} {l : Launch} {I : HI} {J : HJ} {I' : HI} {r : Int32} (hG : OKG G) {a0 : Nat} {x1 : Int32} {x2 : Int32} {x3 : Int32} (hk0 : gK G a0 = 9) (hf : f_X8_order I a0 x1 x2 x3 = some (r, I')) : Ctr G l yX8_order cX8_order 5 (some .int) 6 150 [.ref a0, .int x1, .int x2, .int x3] I J (some (.int r)) I' J := by
  refine ctr_I hG (by decide) [some (.ref a0), some (.int x1), some (.int x2), some (.int x3), none] rfl rfl fun X e1 e2 hX hret => ?_
  subst e1; subst e2
  unfold f_X8_order at hf
  refine r_aload_n hX dX8_order_0 rfl ?_
  refine r_iconst (v := 0) hX dX8_order_1 rfl ?_
  obtain ⟨I_1, eI_1, hf⟩ := lt1_some hf
  refine p_8_0 eI_1 hX fl_X8_75 hk0 dX8_order_2 ?_
  refine r_aload_n hX dX8_order_5 rfl ?_
  refine r_iload_n hX dX8_order_6 rfl ?_
  obtain ⟨r_2, h_3, hf⟩ := bd1_some hf
  refine r_callV (As := [.int x1]) (ci := 8) hX (k_X8_noProxy (l := xl X) (J := J) hX.ok hk0 h_3) pk_X8_noProxy ml_X8_200 rfl rfl rfl rfl hk0 rfl rfl rfl (Nat.le_of_ble_eq_true rfl) dX8_order_7 ?_
  refine r_if_eq (tgt := 15) hX dX8_order_10 (by decide) (fun c_4 => ?_) (fun c_4 => ?_)
  · have hf := hf_t c_4 hf
    refine r_iload_n hX dX8_order_15 rfl ?_
    obtain ⟨r_5, h_6, hf⟩ := bd1_some hf
    refine r_callS (As := [.int x2]) hX (k_X8_ones (l := xl X) (I := I_1) (J := J) hX.ok  h_6) pk_X8_ones ml_X8_226 rfl rfl rfl (Nat.le_of_ble_eq_true rfl) dX8_order_16 ?_
    refine r_istore hX dX8_order_19 rfl rfl ?_
    refine r_iload hX dX8_order_21 rfl ?_
    refine r_i2l hX dX8_order_23 ?_
    refine r_lconst (v := 1) hX dX8_order_24 rfl ?_
    refine r_ldc2 hX dX8_order_25 cn_X8_258 ?_
    obtain ⟨r_7, h_8, hf⟩ := bd1_some hf
    refine r_callS (As := [.long r_5.toInt64, .long ((1 : Int64)), .long ((5 : Int64))]) hX (k_X8_in (l := xl X) (I := I_1) (J := J) hX.ok  h_8) pk_X8_in ml_X8_81 rfl rfl rfl (Nat.le_of_ble_eq_true rfl) dX8_order_28 ?_
    refine r_if_eq (tgt := 39) hX dX8_order_31 (by decide) (fun c_9 => ?_) (fun c_9 => ?_)
    · have hf := hf_t c_9 hf
      refine r_bipush (v := -2) hX dX8_order_39 (by decide) ?_
      cases hf
      exact hret _ _ dX8_order_41
    · have hf := hf_f c_9 hf
      refine r_iload_n hX dX8_order_34 rfl ?_
      refine r_iconst (v := -1) hX dX8_order_35 rfl ?_
      refine r_icmp_ge (tgt := 42) hX dX8_order_36 (by decide) (fun c_10 => ?_) (fun c_10 => ?_)
      · have hf := hf_t c_10 hf
        refine r_bipush (v := -2) hX dX8_order_39 (by decide) ?_
        cases hf
        exact hret _ _ dX8_order_41
      · have hf := hf_f c_10 hf
        refine r_aload_n hX dX8_order_42 rfl ?_
        refine r_iload_n hX dX8_order_43 rfl ?_
        refine r_iload_n hX dX8_order_44 rfl ?_
        obtain ⟨I_11, h_12, hf⟩ := bd1_some hf
        refine r_callV (As := [.int x1, .int x2]) (ci := 8) hX (k_X8_layBest (l := xl X) (J := J) hX.ok hk0 h_12) pk_X8_layBest ml_X8_260 rfl rfl rfl rfl hk0 rfl rfl rfl (Nat.le_of_ble_eq_true rfl) dX8_order_45 ?_
        refine r_iload_n hX dX8_order_48 rfl ?_
        refine r_iconst (v := -1) hX dX8_order_49 rfl ?_
        refine r_icmp_ne (tgt := 60) hX dX8_order_50 (by decide) (fun c_13 => ?_) (fun c_13 => ?_)
        · have hf := hf_t c_13 hf
          refine r_aload_n hX dX8_order_53 rfl ?_
          refine g_8_32 hX fl_X8_251 hk0 dX8_order_54 ?_
          refine r_goto (tgt := 77) hX dX8_order_57 (by decide) ?_
          cases hf
          exact hret _ _ dX8_order_77
        · have hf := hf_f c_13 hf
          refine r_iload_n hX dX8_order_60 rfl ?_
          refine r_iload hX dX8_order_61 rfl ?_
          refine r_icmp_ge (tgt := 75) hX dX8_order_63 (by decide) (fun c_14 => ?_) (fun c_14 => ?_)
          · have hf := hf_t c_14 hf
            refine r_aload_n hX dX8_order_66 rfl ?_
            refine g_8_31 hX fl_X8_72 hk0 dX8_order_67 ?_
            refine r_iload_n hX dX8_order_70 rfl ?_
            obtain ⟨g_15, hf⟩ := gd_some hf
            refine r_iald (n := 5) hX rfl ((q_9_31 hX hk0)) g_15 dX8_order_71 ?_
            refine r_goto (tgt := 77) hX dX8_order_72 (by decide) ?_
            cases hf
            exact hret _ _ dX8_order_77
          · have hf := hf_f c_14 hf
            refine r_bipush (v := -9) hX dX8_order_75 (by decide) ?_
            cases hf
            exact hret _ _ dX8_order_77
  · have hf := hf_f c_4 hf
    refine r_iconst (v := -1) hX dX8_order_13 rfl ?_
    cases hf
    exact hret _ _ dX8_order_14
noncomputable def X8_does_J232 (I : HI) (x4 : Int32) (sx0 : Int32) : Option (Int32 × HI) := if sx0 = x4 then some ((1 : Int32), I) else some ((0 : Int32), I)
set_option maxHeartbeats 4000000 in
set_option maxRecDepth 100000 in
theorem vX8_does_232 {X : CX} {I' : HI} {r : Int32} {I : HI} {J : HJ} (hX : OKX X cX8_does RX8 5 123 7) (hret : RetZ X cX8_does r I' J) (x4 : Int32) (sx0 : Int32)    (hf : X8_does_J232 I x4 sx0 = some (r, I')) : V X I J 232 [none, none, none, none, some (.int x4), none, none] [.int sx0] := by
  unfold X8_does_J232 at hf
  refine r_iload hX dX8_does_232 rfl ?_
  refine r_icmp_ne (tgt := 241) hX dX8_does_234 (by decide) (fun c_52 => ?_) (fun c_52 => ?_)
  · have hf := hf_t c_52 hf
    refine r_iconst (v := 1) hX dX8_does_237 rfl ?_
    refine r_goto (tgt := 242) hX dX8_does_238 (by decide) ?_
    cases hf
    exact hret _ _ zb_1 dX8_does_242
  · have hf := hf_f c_52 hf
    refine r_iconst (v := 0) hX dX8_does_241 rfl ?_
    cases hf
    exact hret _ _ zb_0 dX8_does_242
noncomputable def X8_does_J272 (I : HI) (x4 : Int32) (sx0 : Int32) : Option (Int32 × HI) := if sx0 = x4 then some ((1 : Int32), I) else some ((0 : Int32), I)
set_option maxHeartbeats 4000000 in
set_option maxRecDepth 100000 in
theorem vX8_does_272 {X : CX} {I' : HI} {r : Int32} {I : HI} {J : HJ} (hX : OKX X cX8_does RX8 5 123 7) (hret : RetZ X cX8_does r I' J) (x4 : Int32) (sx0 : Int32)    (hf : X8_does_J272 I x4 sx0 = some (r, I')) : V X I J 272 [none, none, none, none, some (.int x4), none, none] [.int sx0] := by
  unfold X8_does_J272 at hf
  refine r_iload hX dX8_does_272 rfl ?_
  refine r_icmp_ne (tgt := 281) hX dX8_does_274 (by decide) (fun c_53 => ?_) (fun c_53 => ?_)
  · have hf := hf_t c_53 hf
    refine r_iconst (v := 1) hX dX8_does_277 rfl ?_
    refine r_goto (tgt := 282) hX dX8_does_278 (by decide) ?_
    cases hf
    exact hret _ _ zb_1 dX8_does_282
  · have hf := hf_f c_53 hf
    refine r_iconst (v := 0) hX dX8_does_281 rfl ?_
    cases hf
    exact hret _ _ zb_0 dX8_does_282
noncomputable def X8_does_J54 (I : HI) (a0 : Nat) (x1 : Int32) (x2 : Int32) (x3 : Int32) (x4 : Int32) (x5 : Int32) (sx0 : Int32) : Option (Int32 × HI) := if (x1 / (10000 : Int32)) = 1 then if sx0 = 0 then some ((0 : Int32), I) else if x4 = 0 then bd2 (f_X8_askOn I a0 ((a0 + 10)) x2 x3) fun r_10 I_11 => some ((1 : Int32), I_11) else some ((0 : Int32), I) else if (x1 / (10000 : Int32)) = 2 then if sx0 = 0 then some ((0 : Int32), I) else if x4 = 0 then bd1 (f_X8_placeOf I ((a0 + 10)) x2 x3) fun r_16 => if r_16 = (-9 : Int32) then some ((0 : Int32), I) else bd1 (f_X8_placeOf I ((a0 + 10)) x2 x3) fun r_19 => bd1 (f_X8_dropOn I a0 ((a0 + 10)) x2 r_19) fun I_21 => some ((1 : Int32), I_21) else some ((0 : Int32), I) else if (x1 / (10000 : Int32)) = 3 then if x5 = 0 then some ((0 : Int32), I) else if x3 = 0 then if x4 = 0 then bd1 (f_X8_sendOn I a0 ((a0 + 10)) x2) fun I_27 => some ((1 : Int32), I_27) else some ((0 : Int32), I) else some ((0 : Int32), I) else if (x1 / (10000 : Int32)) = 4 then if sx0 = 0 then some ((0 : Int32), I) else if x4 < (2 : Int32) then bd1 (f_X8_placeOf I ((a0 + 10)) x2 x3) fun r_32 => if r_32 = (-9 : Int32) then X8_does_J232 I x4 ((0 : Int32)) else X8_does_J232 I x4 ((1 : Int32)) else some ((0 : Int32), I) else if (x1 / (10000 : Int32)) = 5 then if sx0 = 0 then some ((0 : Int32), I) else if x4 < (2 : Int32) then bd1 (f_X8_summarySays I a0 ((a0 + 10)) x2 x3) fun r_38 => if r_38 = 0 then X8_does_J272 I x4 ((0 : Int32)) else X8_does_J272 I x4 ((1 : Int32)) else some ((0 : Int32), I) else if (x1 / (10000 : Int32)) = 6 then if x5 = 0 then some ((0 : Int32), I) else if x3 = 0 then gd (vp_in ((((29 : Int32) * x2) + (27 : Int32))) 121) (if (I ((a0 + 10)) ((((29 : Int32) * x2) + (27 : Int32))).toNatClampNeg) = x4 then some ((1 : Int32), I) else some ((0 : Int32), I)) else some ((0 : Int32), I) else if (x1 / (10000 : Int32)) = 7 then if x2 < (I a0 6) then if x3 = 0 then if x4 = 0 then bd1 (f_X8_useOn I a0 ((a0 + 10)) x2) fun I_50 => some ((1 : Int32), I_50) else some ((0 : Int32), I) else some ((0 : Int32), I) else some ((0 : Int32), I) else some ((0 : Int32), I)
set_option maxHeartbeats 4000000 in
set_option maxRecDepth 100000 in
theorem vX8_does_54 {X : CX} {I' : HI} {r : Int32} {I : HI} {J : HJ} (hX : OKX X cX8_does RX8 5 123 7) (hret : RetZ X cX8_does r I' J) (a0 : Nat) (x1 : Int32) (x2 : Int32) (x3 : Int32) (x4 : Int32) (x5 : Int32) (sx0 : Int32) (hk0 : gK (xG X) a0 = 9)   (hf : X8_does_J54 I a0 x1 x2 x3 x4 x5 sx0 = some (r, I')) : V X I J 54 [some (.ref a0), some (.int x1), some (.int x2), some (.int x3), some (.int x4), some (.int x5), none] [.int sx0] := by
  unfold X8_does_J54 at hf
  refine r_istore hX dX8_does_54 rfl rfl ?_
  refine r_iload_n hX dX8_does_56 rfl ?_
  refine r_sipush (v := 10000) hX dX8_does_57 (by decide) ?_
  refine r_idiv hX dX8_does_60 (by decide) ?_
  by_cases c_7 : (x1 / (10000 : Int32)) = 1
  · have hf := hf_t c_7 hf
    refine r_tsw (off := 43) (tgt := 104) hX 1 dX8_does_61 c_7 (by decide) (by decide) (by decide) (by decide) ?_
    refine r_iload hX dX8_does_104 rfl ?_
    refine r_if_eq (tgt := 114) hX dX8_does_106 (by decide) (fun c_8 => ?_) (fun c_8 => ?_)
    · have hf := hf_t c_8 hf
      refine r_iconst (v := 0) hX dX8_does_114 rfl ?_
      cases hf
      exact hret _ _ zb_0 dX8_does_115
    · have hf := hf_f c_8 hf
      refine r_iload hX dX8_does_109 rfl ?_
      refine r_if_eq (tgt := 116) hX dX8_does_111 (by decide) (fun c_9 => ?_) (fun c_9 => ?_)
      · have hf := hf_t c_9 hf
        refine r_aload_n hX dX8_does_116 rfl ?_
        refine r_aload_n hX dX8_does_117 rfl ?_
        refine g_8_20 hX fl_X8_47 hk0 dX8_does_118 ?_
        refine r_iload_n hX dX8_does_121 rfl ?_
        refine r_iload_n hX dX8_does_122 rfl ?_
        obtain ⟨r_10, I_11, h_12, hf⟩ := bd2_some hf
        refine r_callV (As := [.ref ((a0 + 10)), .int x2, .int x3]) (ci := 8) hX (k_X8_askOn (l := xl X) (J := J) hX.ok hk0 ((q_9_20 hX hk0)) h_12) pk_X8_askOn ml_X8_217 rfl rfl rfl rfl hk0 rfl rfl rfl (Nat.le_of_ble_eq_true rfl) dX8_does_123 ?_
        refine r_pop hX dX8_does_126 rfl ?_
        refine r_iconst (v := 1) hX dX8_does_127 rfl ?_
        cases hf
        exact hret _ _ zb_1 dX8_does_128
      · have hf := hf_f c_9 hf
        refine r_iconst (v := 0) hX dX8_does_114 rfl ?_
        cases hf
        exact hret _ _ zb_0 dX8_does_115
  have hf := hf_f c_7 hf
  by_cases c_13 : (x1 / (10000 : Int32)) = 2
  · have hf := hf_t c_13 hf
    refine r_tsw (off := 68) (tgt := 129) hX 2 dX8_does_61 c_13 (by decide) (by decide) (by decide) (by decide) ?_
    refine r_iload hX dX8_does_129 rfl ?_
    refine r_if_eq (tgt := 153) hX dX8_does_131 (by decide) (fun c_14 => ?_) (fun c_14 => ?_)
    · have hf := hf_t c_14 hf
      refine r_iconst (v := 0) hX dX8_does_153 rfl ?_
      cases hf
      exact hret _ _ zb_0 dX8_does_154
    · have hf := hf_f c_14 hf
      refine r_iload hX dX8_does_134 rfl ?_
      refine r_if_ne (tgt := 153) hX dX8_does_136 (by decide) (fun c_15 => ?_) (fun c_15 => ?_)
      · have hf := hf_t c_15 hf
        refine r_aload_n hX dX8_does_139 rfl ?_
        refine g_8_20 hX fl_X8_47 hk0 dX8_does_140 ?_
        refine r_iload_n hX dX8_does_143 rfl ?_
        refine r_iload_n hX dX8_does_144 rfl ?_
        obtain ⟨r_16, h_17, hf⟩ := bd1_some hf
        refine r_callS (As := [.ref ((a0 + 10)), .int x2, .int x3]) hX (k_X8_placeOf (l := xl X) (J := J) hX.ok ((q_9_20 hX hk0)) h_17) pk_X8_placeOf ml_X8_115 rfl rfl rfl (Nat.le_of_ble_eq_true rfl) dX8_does_145 ?_
        refine r_bipush (v := -9) hX dX8_does_148 (by decide) ?_
        refine r_icmp_ne (tgt := 155) hX dX8_does_150 (by decide) (fun c_18 => ?_) (fun c_18 => ?_)
        · have hf := hf_t c_18 hf
          refine r_iconst (v := 0) hX dX8_does_153 rfl ?_
          cases hf
          exact hret _ _ zb_0 dX8_does_154
        · have hf := hf_f c_18 hf
          refine r_aload_n hX dX8_does_155 rfl ?_
          refine r_aload_n hX dX8_does_156 rfl ?_
          refine g_8_20 hX fl_X8_47 hk0 dX8_does_157 ?_
          refine r_iload_n hX dX8_does_160 rfl ?_
          refine r_aload_n hX dX8_does_161 rfl ?_
          refine g_8_20 hX fl_X8_47 hk0 dX8_does_162 ?_
          refine r_iload_n hX dX8_does_165 rfl ?_
          refine r_iload_n hX dX8_does_166 rfl ?_
          obtain ⟨r_19, h_20, hf⟩ := bd1_some hf
          refine r_callS (As := [.ref ((a0 + 10)), .int x2, .int x3]) hX (k_X8_placeOf (l := xl X) (J := J) hX.ok ((q_9_20 hX hk0)) h_20) pk_X8_placeOf ml_X8_115 rfl rfl rfl (Nat.le_of_ble_eq_true rfl) dX8_does_167 ?_
          obtain ⟨I_21, h_22, hf⟩ := bd1_some hf
          refine r_callV (As := [.ref ((a0 + 10)), .int x2, .int r_19]) (ci := 8) hX (k_X8_dropOn (l := xl X) (J := J) hX.ok hk0 ((q_9_20 hX hk0)) h_22) pk_X8_dropOn ml_X8_220 rfl rfl rfl rfl hk0 rfl rfl rfl (Nat.le_of_ble_eq_true rfl) dX8_does_170 ?_
          refine r_iconst (v := 1) hX dX8_does_173 rfl ?_
          cases hf
          exact hret _ _ zb_1 dX8_does_174
      · have hf := hf_f c_15 hf
        refine r_iconst (v := 0) hX dX8_does_153 rfl ?_
        cases hf
        exact hret _ _ zb_0 dX8_does_154
  have hf := hf_f c_13 hf
  by_cases c_23 : (x1 / (10000 : Int32)) = 3
  · have hf := hf_t c_23 hf
    refine r_tsw (off := 114) (tgt := 175) hX 3 dX8_does_61 c_23 (by decide) (by decide) (by decide) (by decide) ?_
    refine r_iload hX dX8_does_175 rfl ?_
    refine r_if_eq (tgt := 189) hX dX8_does_177 (by decide) (fun c_24 => ?_) (fun c_24 => ?_)
    · have hf := hf_t c_24 hf
      refine r_iconst (v := 0) hX dX8_does_189 rfl ?_
      cases hf
      exact hret _ _ zb_0 dX8_does_190
    · have hf := hf_f c_24 hf
      refine r_iload_n hX dX8_does_180 rfl ?_
      refine r_if_ne (tgt := 189) hX dX8_does_181 (by decide) (fun c_25 => ?_) (fun c_25 => ?_)
      · have hf := hf_t c_25 hf
        refine r_iload hX dX8_does_184 rfl ?_
        refine r_if_eq (tgt := 191) hX dX8_does_186 (by decide) (fun c_26 => ?_) (fun c_26 => ?_)
        · have hf := hf_t c_26 hf
          refine r_aload_n hX dX8_does_191 rfl ?_
          refine r_aload_n hX dX8_does_192 rfl ?_
          refine g_8_20 hX fl_X8_47 hk0 dX8_does_193 ?_
          refine r_iload_n hX dX8_does_196 rfl ?_
          obtain ⟨I_27, h_28, hf⟩ := bd1_some hf
          refine r_callV (As := [.ref ((a0 + 10)), .int x2]) (ci := 8) hX (k_X8_sendOn (l := xl X) (J := J) hX.ok hk0 ((q_9_20 hX hk0)) h_28) pk_X8_sendOn ml_X8_183 rfl rfl rfl rfl hk0 rfl rfl rfl (Nat.le_of_ble_eq_true rfl) dX8_does_197 ?_
          refine r_iconst (v := 1) hX dX8_does_200 rfl ?_
          cases hf
          exact hret _ _ zb_1 dX8_does_201
        · have hf := hf_f c_26 hf
          refine r_iconst (v := 0) hX dX8_does_189 rfl ?_
          cases hf
          exact hret _ _ zb_0 dX8_does_190
      · have hf := hf_f c_25 hf
        refine r_iconst (v := 0) hX dX8_does_189 rfl ?_
        cases hf
        exact hret _ _ zb_0 dX8_does_190
  have hf := hf_f c_23 hf
  by_cases c_29 : (x1 / (10000 : Int32)) = 4
  · have hf := hf_t c_29 hf
    refine r_tsw (off := 141) (tgt := 202) hX 4 dX8_does_61 c_29 (by decide) (by decide) (by decide) (by decide) ?_
    refine r_iload hX dX8_does_202 rfl ?_
    refine r_if_eq (tgt := 241) hX dX8_does_204 (by decide) (fun c_30 => ?_) (fun c_30 => ?_)
    · have hf := hf_t c_30 hf
      refine r_iconst (v := 0) hX dX8_does_241 rfl ?_
      cases hf
      exact hret _ _ zb_0 dX8_does_242
    · have hf := hf_f c_30 hf
      refine r_iload hX dX8_does_207 rfl ?_
      refine r_iconst (v := 2) hX dX8_does_209 rfl ?_
      refine r_icmp_ge (tgt := 241) hX dX8_does_210 (by decide) (fun c_31 => ?_) (fun c_31 => ?_)
      · have hf := hf_t c_31 hf
        refine r_aload_n hX dX8_does_213 rfl ?_
        refine g_8_20 hX fl_X8_47 hk0 dX8_does_214 ?_
        refine r_iload_n hX dX8_does_217 rfl ?_
        refine r_iload_n hX dX8_does_218 rfl ?_
        obtain ⟨r_32, h_33, hf⟩ := bd1_some hf
        refine r_callS (As := [.ref ((a0 + 10)), .int x2, .int x3]) hX (k_X8_placeOf (l := xl X) (J := J) hX.ok ((q_9_20 hX hk0)) h_33) pk_X8_placeOf ml_X8_115 rfl rfl rfl (Nat.le_of_ble_eq_true rfl) dX8_does_219 ?_
        refine r_bipush (v := -9) hX dX8_does_222 (by decide) ?_
        refine r_icmp_ne (tgt := 231) hX dX8_does_224 (by decide) (fun c_34 => ?_) (fun c_34 => ?_)
        · have hf := hf_t c_34 hf
          refine r_iconst (v := 0) hX dX8_does_227 rfl ?_
          refine r_goto (tgt := 232) hX dX8_does_228 (by decide) ?_
          refine V.mask [false, false, false, false, true, false, false] ?_
          exact vX8_does_232 hX hret x4 ((0 : Int32)) hf
        · have hf := hf_f c_34 hf
          refine r_iconst (v := 1) hX dX8_does_231 rfl ?_
          refine V.mask [false, false, false, false, true, false, false] ?_
          exact vX8_does_232 hX hret x4 ((1 : Int32)) hf
      · have hf := hf_f c_31 hf
        refine r_iconst (v := 0) hX dX8_does_241 rfl ?_
        cases hf
        exact hret _ _ zb_0 dX8_does_242
  have hf := hf_f c_29 hf
  by_cases c_35 : (x1 / (10000 : Int32)) = 5
  · have hf := hf_t c_35 hf
    refine r_tsw (off := 182) (tgt := 243) hX 5 dX8_does_61 c_35 (by decide) (by decide) (by decide) (by decide) ?_
    refine r_iload hX dX8_does_243 rfl ?_
    refine r_if_eq (tgt := 281) hX dX8_does_245 (by decide) (fun c_36 => ?_) (fun c_36 => ?_)
    · have hf := hf_t c_36 hf
      refine r_iconst (v := 0) hX dX8_does_281 rfl ?_
      cases hf
      exact hret _ _ zb_0 dX8_does_282
    · have hf := hf_f c_36 hf
      refine r_iload hX dX8_does_248 rfl ?_
      refine r_iconst (v := 2) hX dX8_does_250 rfl ?_
      refine r_icmp_ge (tgt := 281) hX dX8_does_251 (by decide) (fun c_37 => ?_) (fun c_37 => ?_)
      · have hf := hf_t c_37 hf
        refine r_aload_n hX dX8_does_254 rfl ?_
        refine r_aload_n hX dX8_does_255 rfl ?_
        refine g_8_20 hX fl_X8_47 hk0 dX8_does_256 ?_
        refine r_iload_n hX dX8_does_259 rfl ?_
        refine r_iload_n hX dX8_does_260 rfl ?_
        obtain ⟨r_38, h_39, hf⟩ := bd1_some hf
        refine r_callV (As := [.ref ((a0 + 10)), .int x2, .int x3]) (ci := 8) hX (k_X8_summarySays (l := xl X) (J := J) hX.ok hk0 ((q_9_20 hX hk0)) h_39) pk_X8_summarySays ml_X8_190 rfl rfl rfl rfl hk0 rfl rfl rfl (Nat.le_of_ble_eq_true rfl) dX8_does_261 ?_
        refine r_if_eq (tgt := 271) hX dX8_does_264 (by decide) (fun c_40 => ?_) (fun c_40 => ?_)
        · have hf := hf_t c_40 hf
          refine r_iconst (v := 0) hX dX8_does_271 rfl ?_
          refine V.mask [false, false, false, false, true, false, false] ?_
          exact vX8_does_272 hX hret x4 ((0 : Int32)) hf
        · have hf := hf_f c_40 hf
          refine r_iconst (v := 1) hX dX8_does_267 rfl ?_
          refine r_goto (tgt := 272) hX dX8_does_268 (by decide) ?_
          refine V.mask [false, false, false, false, true, false, false] ?_
          exact vX8_does_272 hX hret x4 ((1 : Int32)) hf
      · have hf := hf_f c_37 hf
        refine r_iconst (v := 0) hX dX8_does_281 rfl ?_
        cases hf
        exact hret _ _ zb_0 dX8_does_282
  have hf := hf_f c_35 hf
  by_cases c_41 : (x1 / (10000 : Int32)) = 6
  · have hf := hf_t c_41 hf
    refine r_tsw (off := 222) (tgt := 283) hX 6 dX8_does_61 c_41 (by decide) (by decide) (by decide) (by decide) ?_
    refine r_iload hX dX8_does_283 rfl ?_
    refine r_if_eq (tgt := 313) hX dX8_does_285 (by decide) (fun c_42 => ?_) (fun c_42 => ?_)
    · have hf := hf_t c_42 hf
      refine r_iconst (v := 0) hX dX8_does_313 rfl ?_
      cases hf
      exact hret _ _ zb_0 dX8_does_314
    · have hf := hf_f c_42 hf
      refine r_iload_n hX dX8_does_288 rfl ?_
      refine r_if_ne (tgt := 313) hX dX8_does_289 (by decide) (fun c_43 => ?_) (fun c_43 => ?_)
      · have hf := hf_t c_43 hf
        refine r_aload_n hX dX8_does_292 rfl ?_
        refine g_8_20 hX fl_X8_47 hk0 dX8_does_293 ?_
        refine r_bipush (v := 29) hX dX8_does_296 (by decide) ?_
        refine r_iload_n hX dX8_does_298 rfl ?_
        refine r_imul hX dX8_does_299 ?_
        refine r_bipush (v := 27) hX dX8_does_300 (by decide) ?_
        refine r_iadd hX dX8_does_302 ?_
        obtain ⟨g_44, hf⟩ := gd_some hf
        refine r_iald (n := 121) hX rfl ((q_9_20 hX hk0)) g_44 dX8_does_303 ?_
        refine r_iload hX dX8_does_304 rfl ?_
        refine r_icmp_ne (tgt := 313) hX dX8_does_306 (by decide) (fun c_45 => ?_) (fun c_45 => ?_)
        · have hf := hf_t c_45 hf
          refine r_iconst (v := 1) hX dX8_does_309 rfl ?_
          refine r_goto (tgt := 314) hX dX8_does_310 (by decide) ?_
          cases hf
          exact hret _ _ zb_1 dX8_does_314
        · have hf := hf_f c_45 hf
          refine r_iconst (v := 0) hX dX8_does_313 rfl ?_
          cases hf
          exact hret _ _ zb_0 dX8_does_314
      · have hf := hf_f c_43 hf
        refine r_iconst (v := 0) hX dX8_does_313 rfl ?_
        cases hf
        exact hret _ _ zb_0 dX8_does_314
  have hf := hf_f c_41 hf
  by_cases c_46 : (x1 / (10000 : Int32)) = 7
  · have hf := hf_t c_46 hf
    refine r_tsw (off := 254) (tgt := 315) hX 7 dX8_does_61 c_46 (by decide) (by decide) (by decide) (by decide) ?_
    refine r_iload_n hX dX8_does_315 rfl ?_
    refine r_aload_n hX dX8_does_316 rfl ?_
    refine g_8_6 hX fl_X8_20 hk0 dX8_does_317 ?_
    refine r_icmp_ge (tgt := 332) hX dX8_does_320 (by decide) (fun c_47 => ?_) (fun c_47 => ?_)
    · have hf := hf_t c_47 hf
      refine r_iload_n hX dX8_does_323 rfl ?_
      refine r_if_ne (tgt := 332) hX dX8_does_324 (by decide) (fun c_48 => ?_) (fun c_48 => ?_)
      · have hf := hf_t c_48 hf
        refine r_iload hX dX8_does_327 rfl ?_
        refine r_if_eq (tgt := 334) hX dX8_does_329 (by decide) (fun c_49 => ?_) (fun c_49 => ?_)
        · have hf := hf_t c_49 hf
          refine r_aload_n hX dX8_does_334 rfl ?_
          refine r_aload_n hX dX8_does_335 rfl ?_
          refine g_8_20 hX fl_X8_47 hk0 dX8_does_336 ?_
          refine r_iload_n hX dX8_does_339 rfl ?_
          obtain ⟨I_50, h_51, hf⟩ := bd1_some hf
          refine r_callV (As := [.ref ((a0 + 10)), .int x2]) (ci := 8) hX (k_X8_useOn (l := xl X) (J := J) hX.ok hk0 ((q_9_20 hX hk0)) h_51) pk_X8_useOn ml_X8_223 rfl rfl rfl rfl hk0 rfl rfl rfl (Nat.le_of_ble_eq_true rfl) dX8_does_340 ?_
          refine r_iconst (v := 1) hX dX8_does_343 rfl ?_
          cases hf
          exact hret _ _ zb_1 dX8_does_344
        · have hf := hf_f c_49 hf
          refine r_iconst (v := 0) hX dX8_does_332 rfl ?_
          cases hf
          exact hret _ _ zb_0 dX8_does_333
      · have hf := hf_f c_48 hf
        refine r_iconst (v := 0) hX dX8_does_332 rfl ?_
        cases hf
        exact hret _ _ zb_0 dX8_does_333
    · have hf := hf_f c_47 hf
      refine r_iconst (v := 0) hX dX8_does_332 rfl ?_
      cases hf
      exact hret _ _ zb_0 dX8_does_333
  have hf := hf_f c_46 hf
  refine r_tswD (tgt := 345) hX dX8_does_61 [1, 2, 3, 4, 5, 6, 7] (by decide) (List.forall_mem_cons.mpr ⟨c_7, List.forall_mem_cons.mpr ⟨c_13, List.forall_mem_cons.mpr ⟨c_23, List.forall_mem_cons.mpr ⟨c_29, List.forall_mem_cons.mpr ⟨c_35, List.forall_mem_cons.mpr ⟨c_41, List.forall_mem_cons.mpr ⟨c_46, (fun _ h => absurd h List.not_mem_nil)⟩⟩⟩⟩⟩⟩⟩) (by decide) ?_
  refine r_iconst (v := 0) hX dX8_does_345 rfl ?_
  cases hf
  exact hret _ _ zb_0 dX8_does_346
noncomputable def X8_does_J53 (I : HI) (a0 : Nat) (x1 : Int32) (x2 : Int32) (x3 : Int32) (x4 : Int32) (x5 : Int32) : Option (Int32 × HI) := X8_does_J54 I a0 x1 x2 x3 x4 x5 ((0 : Int32))
set_option maxHeartbeats 4000000 in
set_option maxRecDepth 100000 in
theorem vX8_does_53 {X : CX} {I' : HI} {r : Int32} {I : HI} {J : HJ} (hX : OKX X cX8_does RX8 5 123 7) (hret : RetZ X cX8_does r I' J) (a0 : Nat) (x1 : Int32) (x2 : Int32) (x3 : Int32) (x4 : Int32) (x5 : Int32) (hk0 : gK (xG X) a0 = 9)   (hf : X8_does_J53 I a0 x1 x2 x3 x4 x5 = some (r, I')) : V X I J 53 [some (.ref a0), some (.int x1), some (.int x2), some (.int x3), some (.int x4), some (.int x5), none] [] := by
  unfold X8_does_J53 at hf
  refine r_iconst (v := 0) hX dX8_does_53 rfl ?_
  refine V.mask [true, true, true, true, true, true, false] ?_
  exact vX8_does_54 hX hret a0 x1 x2 x3 x4 x5 ((0 : Int32)) hk0 hf
noncomputable def X8_does_J36 (I : HI) (a0 : Nat) (x1 : Int32) (x2 : Int32) (x3 : Int32) (x4 : Int32) (sx0 : Int32) : Option (Int32 × HI) := if sx0 = 0 then X8_does_J53 I a0 x1 x2 x3 x4 sx0 else if x3 < (32 : Int32) then X8_does_J54 I a0 x1 x2 x3 x4 sx0 ((1 : Int32)) else X8_does_J53 I a0 x1 x2 x3 x4 sx0
set_option maxHeartbeats 4000000 in
set_option maxRecDepth 100000 in
theorem vX8_does_36 {X : CX} {I' : HI} {r : Int32} {I : HI} {J : HJ} (hX : OKX X cX8_does RX8 5 123 7) (hret : RetZ X cX8_does r I' J) (a0 : Nat) (x1 : Int32) (x2 : Int32) (x3 : Int32) (x4 : Int32) (sx0 : Int32) (hk0 : gK (xG X) a0 = 9)   (hf : X8_does_J36 I a0 x1 x2 x3 x4 sx0 = some (r, I')) : V X I J 36 [some (.ref a0), some (.int x1), some (.int x2), some (.int x3), some (.int x4), none, none] [.int sx0] := by
  unfold X8_does_J36 at hf
  refine r_istore hX dX8_does_36 rfl rfl ?_
  refine r_iload hX dX8_does_38 rfl ?_
  refine r_if_eq (tgt := 53) hX dX8_does_40 (by decide) (fun c_5 => ?_) (fun c_5 => ?_)
  · have hf := hf_t c_5 hf
    refine V.mask [true, true, true, true, true, true, false] ?_
    exact vX8_does_53 hX hret a0 x1 x2 x3 x4 sx0 hk0 hf
  · have hf := hf_f c_5 hf
    refine r_iload_n hX dX8_does_43 rfl ?_
    refine r_bipush (v := 32) hX dX8_does_44 (by decide) ?_
    refine r_icmp_ge (tgt := 53) hX dX8_does_46 (by decide) (fun c_6 => ?_) (fun c_6 => ?_)
    · have hf := hf_t c_6 hf
      refine r_iconst (v := 1) hX dX8_does_49 rfl ?_
      refine r_goto (tgt := 54) hX dX8_does_50 (by decide) ?_
      refine V.mask [true, true, true, true, true, true, false] ?_
      exact vX8_does_54 hX hret a0 x1 x2 x3 x4 sx0 ((1 : Int32)) hk0 hf
    · have hf := hf_f c_6 hf
      refine V.mask [true, true, true, true, true, true, false] ?_
      exact vX8_does_53 hX hret a0 x1 x2 x3 x4 sx0 hk0 hf
noncomputable def f_X8_does (I : HI) (a0 : Nat) (x1 : Int32) : Option (Int32 × HI) := lt1 ((jrem ((x1 / (1000 : Int32))) ((10 : Int32)))) fun x_1 => lt1 ((jrem ((x1 / (10 : Int32))) ((100 : Int32)))) fun x_2 => lt1 ((jrem x1 ((10 : Int32)))) fun x_3 => if x_1 < (I a0 9) then X8_does_J36 I a0 x1 x_1 x_2 x_3 ((1 : Int32)) else X8_does_J36 I a0 x1 x_1 x_2 x_3 ((0 : Int32))
set_option maxHeartbeats 4000000 in
set_option maxRecDepth 100000 in
theorem k_X8_does {G : GX} {l : Launch} {I : HI} {J : HJ} {I' : HI} {r : Int32} (hG : OKG G) {a0 : Nat} {x1 : Int32} (hk0 : gK G a0 = 9) (hf : f_X8_does I a0 x1 = some (r, I')) : Ctr G l yX8_does cX8_does 7 (some .boolean) 5 123 [.ref a0, .int x1] I J (some (.int r)) I' J := by
  refine ctr_Zb hG (by decide) [some (.ref a0), some (.int x1), none, none, none, none, none] rfl rfl fun X e1 e2 hX hret => ?_
  subst e1; subst e2
  unfold f_X8_does at hf
  refine r_iload_n hX dX8_does_0 rfl ?_
  refine r_sipush (v := 1000) hX dX8_does_1 (by decide) ?_
  refine r_idiv hX dX8_does_4 (by decide) ?_
  refine r_bipush (v := 10) hX dX8_does_5 (by decide) ?_
  refine r_irem hX dX8_does_7 (by decide) ?_
  obtain ⟨x_1, ex_1, hf⟩ := lt1_some hf
  refine V.topi ex_1 ?_
  refine r_istore_n hX dX8_does_8 rfl rfl ?_
  refine r_iload_n hX dX8_does_9 rfl ?_
  refine r_bipush (v := 10) hX dX8_does_10 (by decide) ?_
  refine r_idiv hX dX8_does_12 (by decide) ?_
  refine r_bipush (v := 100) hX dX8_does_13 (by decide) ?_
  refine r_irem hX dX8_does_15 (by decide) ?_
  obtain ⟨x_2, ex_2, hf⟩ := lt1_some hf
  refine V.topi ex_2 ?_
  refine r_istore_n hX dX8_does_16 rfl rfl ?_
  refine r_iload_n hX dX8_does_17 rfl ?_
  refine r_bipush (v := 10) hX dX8_does_18 (by decide) ?_
  refine r_irem hX dX8_does_20 (by decide) ?_
  obtain ⟨x_3, ex_3, hf⟩ := lt1_some hf
  refine V.topi ex_3 ?_
  refine r_istore hX dX8_does_21 rfl rfl ?_
  refine r_iload_n hX dX8_does_23 rfl ?_
  refine r_aload_n hX dX8_does_24 rfl ?_
  refine g_8_9 hX fl_X8_78 hk0 dX8_does_25 ?_
  refine r_icmp_ge (tgt := 35) hX dX8_does_28 (by decide) (fun c_4 => ?_) (fun c_4 => ?_)
  · have hf := hf_t c_4 hf
    refine r_iconst (v := 1) hX dX8_does_31 rfl ?_
    refine r_goto (tgt := 36) hX dX8_does_32 (by decide) ?_
    refine V.mask [true, true, true, true, true, false, false] ?_
    exact vX8_does_36 hX hret a0 x1 x_1 x_2 x_3 ((1 : Int32)) hk0 hf
  · have hf := hf_f c_4 hf
    refine r_iconst (v := 0) hX dX8_does_35 rfl ?_
    refine V.mask [true, true, true, true, true, false, false] ?_
    exact vX8_does_36 hX hret a0 x1 x_1 x_2 x_3 ((0 : Int32)) hk0 hf
noncomputable def X8_longPower_B5 (y0 : Int64) (x2 : Int32) (k5 : Int64 → Int32 → Option (Int64)) (y3 : Int64) (x5 : Int32) : Option (Int64) := if x5 < x2 then lt1 ((y3 * y0)) fun y_2 => lt1 (x5 + (1 : Int32)) fun x_3 => k5 y_2 x_3 else some y3
set_option maxHeartbeats 4000000 in
set_option maxRecDepth 100000 in
theorem vX8_longPower_5 {X : CX} {r : Int64} {I : HI} {J : HJ} (hX : OKX X cX8_longPower RX8 0 0 6) (hret : RetL X cX8_longPower r I J) (y0 : Int64) (x2 : Int32)    : ∀ (n : Nat) (y3 : Int64) (x5 : Int32), wl2 (X8_longPower_B5 y0 x2) n y3 x5 = some r → V X I J 5 [some (.long y0), none, some (.int x2), some (.long y3), none, some (.int x5)] [] := by
  refine wl2_V (P := fun (y3 : Int64) (x5 : Int32) => V X I J 5 [some (.long y0), none, some (.int x2), some (.long y3), none, some (.int x5)] []) ?_
  intro k5 hc5 y3 x5 hf
  unfold X8_longPower_B5 at hf
  refine r_iload hX dX8_longPower_5 rfl ?_
  refine r_iload_n hX dX8_longPower_7 rfl ?_
  refine r_icmp_ge (tgt := 21) hX dX8_longPower_8 (by decide) (fun c_1 => ?_) (fun c_1 => ?_)
  · have hf := hf_t c_1 hf
    refine r_lload_n hX dX8_longPower_11 rfl ?_
    refine r_lload_n hX dX8_longPower_12 rfl ?_
    refine r_lmul hX dX8_longPower_13 ?_
    obtain ⟨y_2, ey_2, hf⟩ := lt1_some hf
    refine V.topl ey_2 ?_
    refine r_lstore_n hX dX8_longPower_14 rfl rfl ?_
    obtain ⟨x_3, ex_3, hf⟩ := lt1_some hf
    refine r_iincE (n' := 1) ex_3 hX dX8_longPower_15 rfl rfl rfl rfl ?_
    refine r_goto (tgt := 5) hX dX8_longPower_18 (by decide) ?_
    refine V.mask [true, false, true, true, false, true] ?_
    exact hc5 y_2 x_3 hf
  · have hf := hf_f c_1 hf
    refine r_lload_n hX dX8_longPower_21 rfl ?_
    cases hf
    exact hret _ _ dX8_longPower_22
noncomputable def f_X8_longPower (y0 : Int64) (x2 : Int32) : Option (Int64) := wl2 (X8_longPower_B5 y0 x2) 5000 ((1 : Int64)) ((0 : Int32))
set_option maxHeartbeats 4000000 in
set_option maxRecDepth 100000 in
theorem k_X8_longPower {G : GX} {l : Launch} {I : HI} {J : HJ} {r : Int64} (hG : OKG G) {y0 : Int64} {x2 : Int32}  (hf : f_X8_longPower y0 x2 = some r) : Ctr G l yX8_longPower cX8_longPower 6 (some .long) 0 0 [.long y0, .int x2] I J (some (.long r)) I J := by
  refine ctr_L hG (by decide) [some (.long y0), none, some (.int x2), none, none, none] rfl rfl fun X e1 e2 hX hret => ?_
  subst e1; subst e2
  unfold f_X8_longPower at hf
  refine r_lconst (v := 1) hX dX8_longPower_0 rfl ?_
  refine r_lstore_n hX dX8_longPower_1 rfl rfl ?_
  refine r_iconst (v := 0) hX dX8_longPower_2 rfl ?_
  refine r_istore hX dX8_longPower_3 rfl rfl ?_
  refine V.mask [true, false, true, true, false, true] ?_
  exact vX8_longPower_5 hX hret y0 x2 5000 ((1 : Int64)) ((0 : Int32)) hf
noncomputable def X8_judge_B44 (a0 : Nat) (x1 : Int32) (y2 : Int64) (k44 : HI → Int32 → Option (Int32 × HI)) (I : HI) (x4 : Int32) : Option (Int32 × HI) := if x4 < x1 then bd1 (f_X8_longPower ((100000 : Int64)) (((x1 - (1 : Int32)) - x4))) fun r_13 => gd (¬ r_13 = 0) (bd2 (f_X8_does I a0 (((jreml ((y2 / r_13)) ((100000 : Int64)))).toInt32)) fun r_16 I_17 => if r_16 = 0 then some (x4, I_17) else lt1 (x4 + (1 : Int32)) fun x_20 => k44 I_17 x_20) else some ((-9 : Int32), I)
set_option maxHeartbeats 4000000 in
set_option maxRecDepth 100000 in
theorem vX8_judge_44 {X : CX} {I' : HI} {r : Int32} {J : HJ} (hX : OKX X cX8_judge RX8 6 149 5) (hret : RetI X cX8_judge r I' J) (a0 : Nat) (x1 : Int32) (y2 : Int64) (hk0 : gK (xG X) a0 = 9)   : ∀ (n : Nat) (I : HI) (x4 : Int32), wl2 (X8_judge_B44 a0 x1 y2) n I x4 = some (r, I') → V X I J 44 [some (.ref a0), some (.int x1), some (.long y2), none, some (.int x4)] [] := by
  refine wl2_V (P := fun (I : HI) (x4 : Int32) => V X I J 44 [some (.ref a0), some (.int x1), some (.long y2), none, some (.int x4)] []) ?_
  intro k44 hc44 I x4 hf
  unfold X8_judge_B44 at hf
  refine r_iload hX dX8_judge_44 rfl ?_
  refine r_iload_n hX dX8_judge_46 rfl ?_
  refine r_icmp_ge (tgt := 85) hX dX8_judge_47 (by decide) (fun c_12 => ?_) (fun c_12 => ?_)
  · have hf := hf_t c_12 hf
    refine r_aload_n hX dX8_judge_50 rfl ?_
    refine r_lload_n hX dX8_judge_51 rfl ?_
    refine r_ldc2 hX dX8_judge_52 cn_X8_264 ?_
    refine r_iload_n hX dX8_judge_55 rfl ?_
    refine r_iconst (v := 1) hX dX8_judge_56 rfl ?_
    refine r_isub hX dX8_judge_57 ?_
    refine r_iload hX dX8_judge_58 rfl ?_
    refine r_isub hX dX8_judge_60 ?_
    obtain ⟨r_13, h_14, hf⟩ := bd1_some hf
    refine r_callS (As := [.long ((100000 : Int64)), .int (((x1 - (1 : Int32)) - x4))]) hX (k_X8_longPower (l := xl X) (I := I) (J := J) hX.ok  h_14) pk_X8_longPower ml_X8_266 rfl rfl rfl (Nat.le_of_ble_eq_true rfl) dX8_judge_61 ?_
    obtain ⟨g_15, hf⟩ := gd_some hf
    refine r_ldiv hX dX8_judge_64 g_15 ?_
    refine r_ldc2 hX dX8_judge_65 cn_X8_264 ?_
    refine r_lrem hX dX8_judge_68 (by decide) ?_
    refine r_l2i hX dX8_judge_69 ?_
    obtain ⟨r_16, I_17, h_18, hf⟩ := bd2_some hf
    refine r_callV (As := [.int (((jreml ((y2 / r_13)) ((100000 : Int64)))).toInt32)]) (ci := 8) hX (k_X8_does (l := xl X) (J := J) hX.ok hk0 h_18) pk_X8_does ml_X8_270 rfl rfl rfl rfl hk0 rfl rfl rfl (Nat.le_of_ble_eq_true rfl) dX8_judge_70 ?_
    refine r_if_ne (tgt := 79) hX dX8_judge_73 (by decide) (fun c_19 => ?_) (fun c_19 => ?_)
    · have hf := hf_t c_19 hf
      refine r_iload hX dX8_judge_76 rfl ?_
      cases hf
      exact hret _ _ dX8_judge_78
    · have hf := hf_f c_19 hf
      obtain ⟨x_20, ex_20, hf⟩ := lt1_some hf
      refine r_iincE (n' := 1) ex_20 hX dX8_judge_79 rfl rfl rfl rfl ?_
      refine r_goto (tgt := 44) hX dX8_judge_82 (by decide) ?_
      refine V.mask [true, true, true, false, true] ?_
      exact hc44 I_17 x_20 hf
  · have hf := hf_f c_12 hf
    refine r_bipush (v := -9) hX dX8_judge_85 (by decide) ?_
    cases hf
    exact hret _ _ dX8_judge_87
noncomputable def f_X8_judge (I : HI) (a0 : Nat) (x1 : Int32) (y2 : Int64) : Option (Int32 × HI) := lt1 (sI I a0 0 ((0 : Int32))) fun I_1 => bd1 (f_X8_in x1.toInt64 ((1 : Int64)) ((3 : Int64))) fun r_2 => if r_2 = 0 then some ((-2 : Int32), I_1) else bd1 (f_X8_longPower ((100000 : Int64)) x1) fun r_5 => bd1 (f_X8_in y2 ((0 : Int64)) ((r_5 - (1 : Int64)))) fun r_7 => if r_7 = 0 then some ((-2 : Int32), I_1) else bd1 (f_X8_layTrial I_1 a0) fun I_10 => wl2 (X8_judge_B44 a0 x1 y2) 5000 I_10 ((0 : Int32))
set_option maxHeartbeats 4000000 in
set_option maxRecDepth 100000 in
theorem k_X8_judge {G : GX} {l : Launch} {I : HI} {J : HJ} {I' : HI} {r : Int32} (hG : OKG G) {a0 : Nat} {x1 : Int32} {y2 : Int64} (hk0 : gK G a0 = 9) (hf : f_X8_judge I a0 x1 y2 = some (r, I')) : Ctr G l yX8_judge cX8_judge 5 (some .int) 6 149 [.ref a0, .int x1, .long y2] I J (some (.int r)) I' J := by
  refine ctr_I hG (by decide) [some (.ref a0), some (.int x1), some (.long y2), none, none] rfl rfl fun X e1 e2 hX hret => ?_
  subst e1; subst e2
  unfold f_X8_judge at hf
  refine r_aload_n hX dX8_judge_0 rfl ?_
  refine r_iconst (v := 0) hX dX8_judge_1 rfl ?_
  obtain ⟨I_1, eI_1, hf⟩ := lt1_some hf
  refine p_8_0 eI_1 hX fl_X8_75 hk0 dX8_judge_2 ?_
  refine r_iload_n hX dX8_judge_5 rfl ?_
  refine r_i2l hX dX8_judge_6 ?_
  refine r_lconst (v := 1) hX dX8_judge_7 rfl ?_
  refine r_ldc2 hX dX8_judge_8 cn_X8_123 ?_
  obtain ⟨r_2, h_3, hf⟩ := bd1_some hf
  refine r_callS (As := [.long x1.toInt64, .long ((1 : Int64)), .long ((3 : Int64))]) hX (k_X8_in (l := xl X) (I := I_1) (J := J) hX.ok  h_3) pk_X8_in ml_X8_81 rfl rfl rfl (Nat.le_of_ble_eq_true rfl) dX8_judge_11 ?_
  refine r_if_eq (tgt := 34) hX dX8_judge_14 (by decide) (fun c_4 => ?_) (fun c_4 => ?_)
  · have hf := hf_t c_4 hf
    refine r_bipush (v := -2) hX dX8_judge_34 (by decide) ?_
    cases hf
    exact hret _ _ dX8_judge_36
  · have hf := hf_f c_4 hf
    refine r_lload_n hX dX8_judge_17 rfl ?_
    refine r_lconst (v := 0) hX dX8_judge_18 rfl ?_
    refine r_ldc2 hX dX8_judge_19 cn_X8_264 ?_
    refine r_iload_n hX dX8_judge_22 rfl ?_
    obtain ⟨r_5, h_6, hf⟩ := bd1_some hf
    refine r_callS (As := [.long ((100000 : Int64)), .int x1]) hX (k_X8_longPower (l := xl X) (I := I_1) (J := J) hX.ok  h_6) pk_X8_longPower ml_X8_266 rfl rfl rfl (Nat.le_of_ble_eq_true rfl) dX8_judge_23 ?_
    refine r_lconst (v := 1) hX dX8_judge_26 rfl ?_
    refine r_lsub hX dX8_judge_27 ?_
    obtain ⟨r_7, h_8, hf⟩ := bd1_some hf
    refine r_callS (As := [.long y2, .long ((0 : Int64)), .long ((r_5 - (1 : Int64)))]) hX (k_X8_in (l := xl X) (I := I_1) (J := J) hX.ok  h_8) pk_X8_in ml_X8_81 rfl rfl rfl (Nat.le_of_ble_eq_true rfl) dX8_judge_28 ?_
    refine r_if_ne (tgt := 37) hX dX8_judge_31 (by decide) (fun c_9 => ?_) (fun c_9 => ?_)
    · have hf := hf_t c_9 hf
      refine r_bipush (v := -2) hX dX8_judge_34 (by decide) ?_
      cases hf
      exact hret _ _ dX8_judge_36
    · have hf := hf_f c_9 hf
      refine r_aload_n hX dX8_judge_37 rfl ?_
      obtain ⟨I_10, h_11, hf⟩ := bd1_some hf
      refine r_callV (As := []) (ci := 8) hX (k_X8_layTrial (l := xl X) (J := J) hX.ok hk0 h_11) pk_X8_layTrial ml_X8_244 rfl rfl rfl rfl hk0 rfl rfl rfl (Nat.le_of_ble_eq_true rfl) dX8_judge_38 ?_
      refine r_iconst (v := 0) hX dX8_judge_41 rfl ?_
      refine r_istore hX dX8_judge_42 rfl rfl ?_
      refine V.mask [true, true, true, false, true] ?_
      exact vX8_judge_44 hX hret a0 x1 y2 hk0 5000 I_10 ((0 : Int32)) hf
noncomputable def f_X8_see (I : HI) (a0 : Nat) (x1 : Int32) (x2 : Int32) (x3 : Int32) : Option (Int32 × HI) := lt1 (sI I a0 0 ((0 : Int32))) fun I_1 => bd1 (f_X8_noProxy I_1 a0 x1) fun r_2 => if r_2 = 0 then bd1 (f_X8_in x2.toInt64 ((0 : Int64)) ((2 : Int64))) fun r_5 => if r_5 = 0 then some ((-2 : Int32), I_1) else bd1 (f_X8_in x3.toInt64 ((0 : Int64)) ((1 : Int64))) fun r_8 => if r_8 = 0 then some ((-2 : Int32), I_1) else if (I_1 a0 25) = (6 : Int32) then some ((-4 : Int32), I_1) else gd (vp_in ((I_1 a0 25)) 6) (lt1 (sI I_1 ((a0 + 14)) ((I_1 a0 25)).toNatClampNeg x1) fun I_13 => gd (vp_in ((I_13 a0 25)) 6) (lt1 (sI I_13 ((a0 + 15)) ((I_13 a0 25)).toNatClampNeg x2) fun I_15 => gd (vp_in ((I_15 a0 25)) 6) (lt1 (sI I_15 ((a0 + 16)) ((I_15 a0 25)).toNatClampNeg x3) fun I_17 => lt1 (sI I_17 a0 25 (((I_17 a0 25) + (1 : Int32)))) fun I_18 => some ((I_18 a0 25), I_18)))) else some ((-1 : Int32), I_1)
set_option maxHeartbeats 4000000 in
set_option maxRecDepth 100000 in
theorem k_X8_see {G : GX} {l : Launch} {I : HI} {J : HJ} {I' : HI} {r : Int32} (hG : OKG G) {a0 : Nat} {x1 : Int32} {x2 : Int32} {x3 : Int32} (hk0 : gK G a0 = 9) (hf : f_X8_see I a0 x1 x2 x3 = some (r, I')) : Ctr G l yX8_see cX8_see 4 (some .int) 2 46 [.ref a0, .int x1, .int x2, .int x3] I J (some (.int r)) I' J := by
  refine ctr_I hG (by decide) [some (.ref a0), some (.int x1), some (.int x2), some (.int x3)] rfl rfl fun X e1 e2 hX hret => ?_
  subst e1; subst e2
  unfold f_X8_see at hf
  refine r_aload_n hX dX8_see_0 rfl ?_
  refine r_iconst (v := 0) hX dX8_see_1 rfl ?_
  obtain ⟨I_1, eI_1, hf⟩ := lt1_some hf
  refine p_8_0 eI_1 hX fl_X8_75 hk0 dX8_see_2 ?_
  refine r_aload_n hX dX8_see_5 rfl ?_
  refine r_iload_n hX dX8_see_6 rfl ?_
  obtain ⟨r_2, h_3, hf⟩ := bd1_some hf
  refine r_callV (As := [.int x1]) (ci := 8) hX (k_X8_noProxy (l := xl X) (J := J) hX.ok hk0 h_3) pk_X8_noProxy ml_X8_200 rfl rfl rfl rfl hk0 rfl rfl rfl (Nat.le_of_ble_eq_true rfl) dX8_see_7 ?_
  refine r_if_eq (tgt := 15) hX dX8_see_10 (by decide) (fun c_4 => ?_) (fun c_4 => ?_)
  · have hf := hf_t c_4 hf
    refine r_iload_n hX dX8_see_15 rfl ?_
    refine r_i2l hX dX8_see_16 ?_
    refine r_lconst (v := 0) hX dX8_see_17 rfl ?_
    refine r_ldc2 hX dX8_see_18 cn_X8_273 ?_
    obtain ⟨r_5, h_6, hf⟩ := bd1_some hf
    refine r_callS (As := [.long x2.toInt64, .long ((0 : Int64)), .long ((2 : Int64))]) hX (k_X8_in (l := xl X) (I := I_1) (J := J) hX.ok  h_6) pk_X8_in ml_X8_81 rfl rfl rfl (Nat.le_of_ble_eq_true rfl) dX8_see_21 ?_
    refine r_if_eq (tgt := 37) hX dX8_see_24 (by decide) (fun c_7 => ?_) (fun c_7 => ?_)
    · have hf := hf_t c_7 hf
      refine r_bipush (v := -2) hX dX8_see_37 (by decide) ?_
      cases hf
      exact hret _ _ dX8_see_39
    · have hf := hf_f c_7 hf
      refine r_iload_n hX dX8_see_27 rfl ?_
      refine r_i2l hX dX8_see_28 ?_
      refine r_lconst (v := 0) hX dX8_see_29 rfl ?_
      refine r_lconst (v := 1) hX dX8_see_30 rfl ?_
      obtain ⟨r_8, h_9, hf⟩ := bd1_some hf
      refine r_callS (As := [.long x3.toInt64, .long ((0 : Int64)), .long ((1 : Int64))]) hX (k_X8_in (l := xl X) (I := I_1) (J := J) hX.ok  h_9) pk_X8_in ml_X8_81 rfl rfl rfl (Nat.le_of_ble_eq_true rfl) dX8_see_31 ?_
      refine r_if_ne (tgt := 40) hX dX8_see_34 (by decide) (fun c_10 => ?_) (fun c_10 => ?_)
      · have hf := hf_t c_10 hf
        refine r_bipush (v := -2) hX dX8_see_37 (by decide) ?_
        cases hf
        exact hret _ _ dX8_see_39
      · have hf := hf_f c_10 hf
        refine r_aload_n hX dX8_see_40 rfl ?_
        refine g_8_25 hX fl_X8_275 hk0 dX8_see_41 ?_
        refine r_bipush (v := 6) hX dX8_see_44 (by decide) ?_
        refine r_icmp_ne (tgt := 52) hX dX8_see_46 (by decide) (fun c_11 => ?_) (fun c_11 => ?_)
        · have hf := hf_t c_11 hf
          refine r_bipush (v := -4) hX dX8_see_49 (by decide) ?_
          cases hf
          exact hret _ _ dX8_see_51
        · have hf := hf_f c_11 hf
          refine r_aload_n hX dX8_see_52 rfl ?_
          refine g_8_26 hX fl_X8_60 hk0 dX8_see_53 ?_
          refine r_aload_n hX dX8_see_56 rfl ?_
          refine g_8_25 hX fl_X8_275 hk0 dX8_see_57 ?_
          refine r_iload_n hX dX8_see_60 rfl ?_
          obtain ⟨g_12, hf⟩ := gd_some hf
          obtain ⟨I_13, eI_13, hf⟩ := lt1_some hf
          refine r_iastE (n := 6) eI_13 hX rfl ((q_9_26 hX hk0)) g_12 dX8_see_61 ?_
          refine r_aload_n hX dX8_see_62 rfl ?_
          refine g_8_27 hX fl_X8_63 hk0 dX8_see_63 ?_
          refine r_aload_n hX dX8_see_66 rfl ?_
          refine g_8_25 hX fl_X8_275 hk0 dX8_see_67 ?_
          refine r_iload_n hX dX8_see_70 rfl ?_
          obtain ⟨g_14, hf⟩ := gd_some hf
          obtain ⟨I_15, eI_15, hf⟩ := lt1_some hf
          refine r_iastE (n := 6) eI_15 hX rfl ((q_9_27 hX hk0)) g_14 dX8_see_71 ?_
          refine r_aload_n hX dX8_see_72 rfl ?_
          refine g_8_28 hX fl_X8_66 hk0 dX8_see_73 ?_
          refine r_aload_n hX dX8_see_76 rfl ?_
          refine g_8_25 hX fl_X8_275 hk0 dX8_see_77 ?_
          refine r_iload_n hX dX8_see_80 rfl ?_
          obtain ⟨g_16, hf⟩ := gd_some hf
          obtain ⟨I_17, eI_17, hf⟩ := lt1_some hf
          refine r_iastE (n := 6) eI_17 hX rfl ((q_9_28 hX hk0)) g_16 dX8_see_81 ?_
          refine r_aload_n hX dX8_see_82 rfl ?_
          refine r_dup hX dX8_see_83 rfl ?_
          refine g_8_25 hX fl_X8_275 hk0 dX8_see_84 ?_
          refine r_iconst (v := 1) hX dX8_see_87 rfl ?_
          refine r_iadd hX dX8_see_88 ?_
          obtain ⟨I_18, eI_18, hf⟩ := lt1_some hf
          refine p_8_25 eI_18 hX fl_X8_275 hk0 dX8_see_89 ?_
          refine r_aload_n hX dX8_see_92 rfl ?_
          refine g_8_25 hX fl_X8_275 hk0 dX8_see_93 ?_
          cases hf
          exact hret _ _ dX8_see_96
  · have hf := hf_f c_4 hf
    refine r_iconst (v := -1) hX dX8_see_13 rfl ?_
    cases hf
    exact hret _ _ dX8_see_14
noncomputable def f_X8_unsee (I : HI) (a0 : Nat) : Option (Int32 × HI) := lt1 (sI I a0 0 ((0 : Int32))) fun I_1 => lt1 ((I_1 a0 25)) fun x_2 => lt1 (sI I_1 a0 25 ((0 : Int32))) fun I_3 => some (x_2, I_3)
set_option maxHeartbeats 4000000 in
set_option maxRecDepth 100000 in
theorem k_X8_unsee {G : GX} {l : Launch} {I : HI} {J : HJ} {I' : HI} {r : Int32} (hG : OKG G) {a0 : Nat} (hk0 : gK G a0 = 9) (hf : f_X8_unsee I a0 = some (r, I')) : Ctr G l yX8_unsee cX8_unsee 2 (some .int) 0 0 [.ref a0] I J (some (.int r)) I' J := by
  refine ctr_I hG (by decide) [some (.ref a0), none] rfl rfl fun X e1 e2 hX hret => ?_
  subst e1; subst e2
  unfold f_X8_unsee at hf
  refine r_aload_n hX dX8_unsee_0 rfl ?_
  refine r_iconst (v := 0) hX dX8_unsee_1 rfl ?_
  obtain ⟨I_1, eI_1, hf⟩ := lt1_some hf
  refine p_8_0 eI_1 hX fl_X8_75 hk0 dX8_unsee_2 ?_
  refine r_aload_n hX dX8_unsee_5 rfl ?_
  refine g_8_25 hX fl_X8_275 hk0 dX8_unsee_6 ?_
  obtain ⟨x_2, ex_2, hf⟩ := lt1_some hf
  refine V.topi ex_2 ?_
  refine r_istore_n hX dX8_unsee_9 rfl rfl ?_
  refine r_aload_n hX dX8_unsee_10 rfl ?_
  refine r_iconst (v := 0) hX dX8_unsee_11 rfl ?_
  obtain ⟨I_3, eI_3, hf⟩ := lt1_some hf
  refine p_8_25 eI_3 hX fl_X8_275 hk0 dX8_unsee_12 ?_
  refine r_iload_n hX dX8_unsee_15 rfl ?_
  cases hf
  exact hret _ _ dX8_unsee_16
noncomputable def X8_isSo_J111 (I : HI) (sx0 : Int32) (sx1 : Int32) : Option (Int32) := if sx0 = sx1 then some ((1 : Int32)) else some ((0 : Int32))
set_option maxHeartbeats 4000000 in
set_option maxRecDepth 100000 in
theorem vX8_isSo_111 {X : CX} {r : Int32} {I : HI} {J : HJ} (hX : OKX X cX8_isSo RX8 3 71 5) (hret : RetZ X cX8_isSo r I J) (sx0 : Int32) (sx1 : Int32)    (hf : X8_isSo_J111 I sx0 sx1 = some r) : V X I J 111 [none, none, none, none, none] [.int sx1, .int sx0] := by
  unfold X8_isSo_J111 at hf
  refine r_icmp_ne (tgt := 118) hX dX8_isSo_111 (by decide) (fun c_22 => ?_) (fun c_22 => ?_)
  · have hf := hf_t c_22 hf
    refine r_iconst (v := 1) hX dX8_isSo_114 rfl ?_
    refine r_goto (tgt := 119) hX dX8_isSo_115 (by decide) ?_
    cases hf
    exact hret _ _ zb_1 dX8_isSo_119
  · have hf := hf_f c_22 hf
    refine r_iconst (v := 0) hX dX8_isSo_118 rfl ?_
    cases hf
    exact hret _ _ zb_0 dX8_isSo_119
noncomputable def X8_isSo_J92 (I : HI) (a0 : Nat) (x2 : Int32) (sx0 : Int32) : Option (Int32) := gd (vp_in x2 6) (if (I ((a0 + 16)) x2.toNatClampNeg) = (1 : Int32) then X8_isSo_J111 I sx0 ((1 : Int32)) else X8_isSo_J111 I sx0 ((0 : Int32)))
set_option maxHeartbeats 4000000 in
set_option maxRecDepth 100000 in
theorem vX8_isSo_92 {X : CX} {r : Int32} {I : HI} {J : HJ} (hX : OKX X cX8_isSo RX8 3 71 5) (hret : RetZ X cX8_isSo r I J) (a0 : Nat) (x2 : Int32) (sx0 : Int32) (hk0 : gK (xG X) a0 = 9)   (hf : X8_isSo_J92 I a0 x2 sx0 = some r) : V X I J 92 [some (.ref a0), none, some (.int x2), none, none] [.int sx0] := by
  unfold X8_isSo_J92 at hf
  refine r_istore hX dX8_isSo_92 rfl rfl ?_
  refine r_iload hX dX8_isSo_94 rfl ?_
  refine r_aload_n hX dX8_isSo_96 rfl ?_
  refine g_8_28 hX fl_X8_66 hk0 dX8_isSo_97 ?_
  refine r_iload_n hX dX8_isSo_100 rfl ?_
  obtain ⟨g_20, hf⟩ := gd_some hf
  refine r_iald (n := 6) hX rfl ((q_9_28 hX hk0)) g_20 dX8_isSo_101 ?_
  refine r_iconst (v := 1) hX dX8_isSo_102 rfl ?_
  refine r_icmp_ne (tgt := 110) hX dX8_isSo_103 (by decide) (fun c_21 => ?_) (fun c_21 => ?_)
  · have hf := hf_t c_21 hf
    refine r_iconst (v := 1) hX dX8_isSo_106 rfl ?_
    refine r_goto (tgt := 111) hX dX8_isSo_107 (by decide) ?_
    refine V.mask [false, false, false, false, false] ?_
    exact vX8_isSo_111 hX hret sx0 ((1 : Int32)) hf
  · have hf := hf_f c_21 hf
    refine r_iconst (v := 0) hX dX8_isSo_110 rfl ?_
    refine V.mask [false, false, false, false, false] ?_
    exact vX8_isSo_111 hX hret sx0 ((0 : Int32)) hf
noncomputable def f_X8_isSo (I : HI) (a0 : Nat) (x1 : Int32) (x2 : Int32) : Option (Int32) := gd (vp_in x2 6) (lt1 ((I ((a0 + 14)) x2.toNatClampNeg)) fun x_2 => bd1 (f_X8_noProxy I a0 x_2) fun r_3 => if r_3 = 0 then gd (vp_in x2 6) (if (I ((a0 + 15)) x2.toNatClampNeg) = 0 then bd1 (f_X8_placeOf I ((a0 + 9)) x_2 x1) fun r_8 => if r_8 = (-9 : Int32) then X8_isSo_J92 I a0 x2 ((0 : Int32)) else X8_isSo_J92 I a0 x2 ((1 : Int32)) else gd (vp_in x2 6) (if (I ((a0 + 15)) x2.toNatClampNeg) = (1 : Int32) then bd1 (f_X8_summarySays I a0 ((a0 + 9)) x_2 x1) fun r_13 => X8_isSo_J92 I a0 x2 r_13 else bd1 (f_X8_filterOf I a0 ((a0 + 9)) x_2) fun r_15 => gd (vp_in ((116 : Int32)) 121) (bd1 (f_X8_isSaid I a0 r_15 ((I ((a0 + 9)) ((116 : Int32)).toNatClampNeg)) x1) fun r_18 => X8_isSo_J92 I a0 x2 r_18))) else some ((1 : Int32)))
set_option maxHeartbeats 4000000 in
set_option maxRecDepth 100000 in
theorem k_X8_isSo {G : GX} {l : Launch} {I : HI} {J : HJ} {r : Int32} (hG : OKG G) {a0 : Nat} {x1 : Int32} {x2 : Int32} (hk0 : gK G a0 = 9) (hf : f_X8_isSo I a0 x1 x2 = some r) : Ctr G l yX8_isSo cX8_isSo 5 (some .boolean) 3 71 [.ref a0, .int x1, .int x2] I J (some (.int r)) I J := by
  refine ctr_Zb hG (by decide) [some (.ref a0), some (.int x1), some (.int x2), none, none] rfl rfl fun X e1 e2 hX hret => ?_
  subst e1; subst e2
  unfold f_X8_isSo at hf
  refine r_aload_n hX dX8_isSo_0 rfl ?_
  refine g_8_26 hX fl_X8_60 hk0 dX8_isSo_1 ?_
  refine r_iload_n hX dX8_isSo_4 rfl ?_
  obtain ⟨g_1, hf⟩ := gd_some hf
  refine r_iald (n := 6) hX rfl ((q_9_26 hX hk0)) g_1 dX8_isSo_5 ?_
  obtain ⟨x_2, ex_2, hf⟩ := lt1_some hf
  refine V.topi ex_2 ?_
  refine r_istore_n hX dX8_isSo_6 rfl rfl ?_
  refine r_aload_n hX dX8_isSo_7 rfl ?_
  refine r_iload_n hX dX8_isSo_8 rfl ?_
  obtain ⟨r_3, h_4, hf⟩ := bd1_some hf
  refine r_callV (As := [.int x_2]) (ci := 8) hX (k_X8_noProxy (l := xl X) (J := J) hX.ok hk0 h_4) pk_X8_noProxy ml_X8_200 rfl rfl rfl rfl hk0 rfl rfl rfl (Nat.le_of_ble_eq_true rfl) dX8_isSo_9 ?_
  refine r_if_eq (tgt := 17) hX dX8_isSo_12 (by decide) (fun c_5 => ?_) (fun c_5 => ?_)
  · have hf := hf_t c_5 hf
    refine r_aload_n hX dX8_isSo_17 rfl ?_
    refine g_8_27 hX fl_X8_63 hk0 dX8_isSo_18 ?_
    refine r_iload_n hX dX8_isSo_21 rfl ?_
    obtain ⟨g_6, hf⟩ := gd_some hf
    refine r_iald (n := 6) hX rfl ((q_9_27 hX hk0)) g_6 dX8_isSo_22 ?_
    refine r_if_ne (tgt := 48) hX dX8_isSo_23 (by decide) (fun c_7 => ?_) (fun c_7 => ?_)
    · have hf := hf_t c_7 hf
      refine r_aload_n hX dX8_isSo_26 rfl ?_
      refine g_8_19 hX fl_X8_44 hk0 dX8_isSo_27 ?_
      refine r_iload_n hX dX8_isSo_30 rfl ?_
      refine r_iload_n hX dX8_isSo_31 rfl ?_
      obtain ⟨r_8, h_9, hf⟩ := bd1_some hf
      refine r_callS (As := [.ref ((a0 + 9)), .int x_2, .int x1]) hX (k_X8_placeOf (l := xl X) (J := J) hX.ok ((q_9_19 hX hk0)) h_9) pk_X8_placeOf ml_X8_115 rfl rfl rfl (Nat.le_of_ble_eq_true rfl) dX8_isSo_32 ?_
      refine r_bipush (v := -9) hX dX8_isSo_35 (by decide) ?_
      refine r_icmp_eq (tgt := 44) hX dX8_isSo_37 (by decide) (fun c_10 => ?_) (fun c_10 => ?_)
      · have hf := hf_t c_10 hf
        refine r_iconst (v := 0) hX dX8_isSo_44 rfl ?_
        refine r_goto (tgt := 92) hX dX8_isSo_45 (by decide) ?_
        refine V.mask [true, false, true, false, false] ?_
        exact vX8_isSo_92 hX hret a0 x2 ((0 : Int32)) hk0 hf
      · have hf := hf_f c_10 hf
        refine r_iconst (v := 1) hX dX8_isSo_40 rfl ?_
        refine r_goto (tgt := 92) hX dX8_isSo_41 (by decide) ?_
        refine V.mask [true, false, true, false, false] ?_
        exact vX8_isSo_92 hX hret a0 x2 ((1 : Int32)) hk0 hf
    · have hf := hf_f c_7 hf
      refine r_aload_n hX dX8_isSo_48 rfl ?_
      refine g_8_27 hX fl_X8_63 hk0 dX8_isSo_49 ?_
      refine r_iload_n hX dX8_isSo_52 rfl ?_
      obtain ⟨g_11, hf⟩ := gd_some hf
      refine r_iald (n := 6) hX rfl ((q_9_27 hX hk0)) g_11 dX8_isSo_53 ?_
      refine r_iconst (v := 1) hX dX8_isSo_54 rfl ?_
      refine r_icmp_ne (tgt := 71) hX dX8_isSo_55 (by decide) (fun c_12 => ?_) (fun c_12 => ?_)
      · have hf := hf_t c_12 hf
        refine r_aload_n hX dX8_isSo_58 rfl ?_
        refine r_aload_n hX dX8_isSo_59 rfl ?_
        refine g_8_19 hX fl_X8_44 hk0 dX8_isSo_60 ?_
        refine r_iload_n hX dX8_isSo_63 rfl ?_
        refine r_iload_n hX dX8_isSo_64 rfl ?_
        obtain ⟨r_13, h_14, hf⟩ := bd1_some hf
        refine r_callV (As := [.ref ((a0 + 9)), .int x_2, .int x1]) (ci := 8) hX (k_X8_summarySays (l := xl X) (J := J) hX.ok hk0 ((q_9_19 hX hk0)) h_14) pk_X8_summarySays ml_X8_190 rfl rfl rfl rfl hk0 rfl rfl rfl (Nat.le_of_ble_eq_true rfl) dX8_isSo_65 ?_
        refine r_goto (tgt := 92) hX dX8_isSo_68 (by decide) ?_
        refine V.mask [true, false, true, false, false] ?_
        exact vX8_isSo_92 hX hret a0 x2 r_13 hk0 hf
      · have hf := hf_f c_12 hf
        refine r_aload_n hX dX8_isSo_71 rfl ?_
        refine r_aload_n hX dX8_isSo_72 rfl ?_
        refine r_aload_n hX dX8_isSo_73 rfl ?_
        refine g_8_19 hX fl_X8_44 hk0 dX8_isSo_74 ?_
        refine r_iload_n hX dX8_isSo_77 rfl ?_
        obtain ⟨r_15, h_16, hf⟩ := bd1_some hf
        refine r_callV (As := [.ref ((a0 + 9)), .int x_2]) (ci := 8) hX (k_X8_filterOf (l := xl X) (J := J) hX.ok hk0 ((q_9_19 hX hk0)) h_16) pk_X8_filterOf ml_X8_155 rfl rfl rfl rfl hk0 rfl rfl rfl (Nat.le_of_ble_eq_true rfl) dX8_isSo_78 ?_
        refine r_aload_n hX dX8_isSo_81 rfl ?_
        refine g_8_19 hX fl_X8_44 hk0 dX8_isSo_82 ?_
        refine r_bipush (v := 116) hX dX8_isSo_85 (by decide) ?_
        obtain ⟨g_17, hf⟩ := gd_some hf
        refine r_iald (n := 121) hX rfl ((q_9_19 hX hk0)) g_17 dX8_isSo_87 ?_
        refine r_iload_n hX dX8_isSo_88 rfl ?_
        obtain ⟨r_18, h_19, hf⟩ := bd1_some hf
        refine r_callV (As := [.int r_15, .int ((I ((a0 + 9)) ((116 : Int32)).toNatClampNeg)), .int x1]) (ci := 8) hX (k_X8_isSaid (l := xl X) (J := J) hX.ok hk0 h_19) pk_X8_isSaid ml_X8_169 rfl rfl rfl rfl hk0 rfl rfl rfl (Nat.le_of_ble_eq_true rfl) dX8_isSo_89 ?_
        refine V.mask [true, false, true, false, false] ?_
        exact vX8_isSo_92 hX hret a0 x2 r_18 hk0 hf
  · have hf := hf_f c_5 hf
    refine r_iconst (v := 1) hX dX8_isSo_15 rfl ?_
    cases hf
    exact hret _ _ zb_1 dX8_isSo_16
noncomputable def X8_which_J48 (I : HI) (a0 : Nat) (x1 : Int32) (x2 : Int32) (x4 : Int32) (sx0 : Int32) (k9 : Int32 → Int32 → Option (Int32 × HI)) (k20 : Int32 → Int32 → Option (Int32 × HI)) : Option (Int32 × HI) := lt1 (x4 + (1 : Int32)) fun x_9 => k20 sx0 x_9
set_option maxHeartbeats 4000000 in
set_option maxRecDepth 100000 in
theorem vX8_which_48 {X : CX} {I' : HI} {r : Int32} {I : HI} {J : HJ} (hX : OKX X cX8_which RX8 4 95 5) (hret : RetI X cX8_which r I' J) (a0 : Nat) (x1 : Int32) (x2 : Int32) (x4 : Int32) (sx0 : Int32) (hk0 : gK (xG X) a0 = 9) (k9 : Int32 → Int32 → Option (Int32 × HI)) (k20 : Int32 → Int32 → Option (Int32 × HI)) (hc9 : ∀ (x1 : Int32) (x2 : Int32), k9 x1 x2 = some (r, I') → V X I J 9 [some (.ref a0), some (.int x1), some (.int x2), none, none] []) (hc20 : ∀ (x3 : Int32) (x4 : Int32), k20 x3 x4 = some (r, I') → V X I J 20 [some (.ref a0), some (.int x1), some (.int x2), some (.int x3), some (.int x4)] []) (hf : X8_which_J48 I a0 x1 x2 x4 sx0 k9 k20 = some (r, I')) : V X I J 48 [some (.ref a0), some (.int x1), some (.int x2), none, some (.int x4)] [.int sx0] := by
  unfold X8_which_J48 at hf
  refine r_istore_n hX dX8_which_48 rfl rfl ?_
  obtain ⟨x_9, ex_9, hf⟩ := lt1_some hf
  refine r_iincE (n' := 1) ex_9 hX dX8_which_49 rfl rfl rfl rfl ?_
  refine r_goto (tgt := 20) hX dX8_which_52 (by decide) ?_
  refine V.mask [true, true, true, true, true] ?_
  exact hc20 sx0 x_9 hf
noncomputable def X8_which_J47 (I : HI) (a0 : Nat) (x1 : Int32) (x2 : Int32) (x4 : Int32) (k9 : Int32 → Int32 → Option (Int32 × HI)) (k20 : Int32 → Int32 → Option (Int32 × HI)) : Option (Int32 × HI) := X8_which_J48 I a0 x1 x2 x4 ((0 : Int32)) k9 k20
set_option maxHeartbeats 4000000 in
set_option maxRecDepth 100000 in
theorem vX8_which_47 {X : CX} {I' : HI} {r : Int32} {I : HI} {J : HJ} (hX : OKX X cX8_which RX8 4 95 5) (hret : RetI X cX8_which r I' J) (a0 : Nat) (x1 : Int32) (x2 : Int32) (x4 : Int32) (hk0 : gK (xG X) a0 = 9) (k9 : Int32 → Int32 → Option (Int32 × HI)) (k20 : Int32 → Int32 → Option (Int32 × HI)) (hc9 : ∀ (x1 : Int32) (x2 : Int32), k9 x1 x2 = some (r, I') → V X I J 9 [some (.ref a0), some (.int x1), some (.int x2), none, none] []) (hc20 : ∀ (x3 : Int32) (x4 : Int32), k20 x3 x4 = some (r, I') → V X I J 20 [some (.ref a0), some (.int x1), some (.int x2), some (.int x3), some (.int x4)] []) (hf : X8_which_J47 I a0 x1 x2 x4 k9 k20 = some (r, I')) : V X I J 47 [some (.ref a0), some (.int x1), some (.int x2), none, some (.int x4)] [] := by
  unfold X8_which_J47 at hf
  refine r_iconst (v := 0) hX dX8_which_47 rfl ?_
  refine V.mask [true, true, true, false, true] ?_
  exact vX8_which_48 hX hret a0 x1 x2 x4 ((0 : Int32)) hk0 k9 k20 hc9 hc20 hf
noncomputable def X8_which_J67 (I : HI) (a0 : Nat) (x2 : Int32) (sx0 : Int32) (sx1 : Int32) (k9 : Int32 → Int32 → Option (Int32 × HI)) : Option (Int32 × HI) := lt1 ((sx0 ||| sx1)) fun x_10 => lt1 (x2 + (1 : Int32)) fun x_11 => k9 x_10 x_11
set_option maxHeartbeats 4000000 in
set_option maxRecDepth 100000 in
theorem vX8_which_67 {X : CX} {I' : HI} {r : Int32} {I : HI} {J : HJ} (hX : OKX X cX8_which RX8 4 95 5) (hret : RetI X cX8_which r I' J) (a0 : Nat) (x2 : Int32) (sx0 : Int32) (sx1 : Int32) (hk0 : gK (xG X) a0 = 9) (k9 : Int32 → Int32 → Option (Int32 × HI)) (hc9 : ∀ (x1 : Int32) (x2 : Int32), k9 x1 x2 = some (r, I') → V X I J 9 [some (.ref a0), some (.int x1), some (.int x2), none, none] []) (hf : X8_which_J67 I a0 x2 sx0 sx1 k9 = some (r, I')) : V X I J 67 [some (.ref a0), none, some (.int x2), none, none] [.int sx1, .int sx0] := by
  unfold X8_which_J67 at hf
  refine r_ior hX dX8_which_67 ?_
  obtain ⟨x_10, ex_10, hf⟩ := lt1_some hf
  refine V.topi ex_10 ?_
  refine r_istore_n hX dX8_which_68 rfl rfl ?_
  obtain ⟨x_11, ex_11, hf⟩ := lt1_some hf
  refine r_iincE (n' := 1) ex_11 hX dX8_which_69 rfl rfl rfl rfl ?_
  refine r_goto (tgt := 9) hX dX8_which_72 (by decide) ?_
  refine V.mask [true, true, true, false, false] ?_
  exact hc9 x_10 x_11 hf
noncomputable def X8_which_B20 (I : HI) (a0 : Nat) (x1 : Int32) (x2 : Int32) (k9 : Int32 → Int32 → Option (Int32 × HI)) (k20 : Int32 → Int32 → Option (Int32 × HI)) (x3 : Int32) (x4 : Int32) : Option (Int32 × HI) := if x4 < (I a0 25) then if x3 = 0 then X8_which_J47 I a0 x1 x2 x4 k9 k20 else bd1 (f_X8_isSo I a0 x2 x4) fun r_5 => if r_5 = 0 then X8_which_J47 I a0 x1 x2 x4 k9 k20 else X8_which_J48 I a0 x1 x2 x4 ((1 : Int32)) k9 k20 else if x3 = 0 then X8_which_J67 I a0 x2 x1 ((0 : Int32)) k9 else X8_which_J67 I a0 x2 x1 (((1 : Int32) <<< (x2 &&& 31))) k9
set_option maxHeartbeats 4000000 in
set_option maxRecDepth 100000 in
theorem vX8_which_20 {X : CX} {I' : HI} {r : Int32} {I : HI} {J : HJ} (hX : OKX X cX8_which RX8 4 95 5) (hret : RetI X cX8_which r I' J) (a0 : Nat) (x1 : Int32) (x2 : Int32) (hk0 : gK (xG X) a0 = 9) (k9 : Int32 → Int32 → Option (Int32 × HI)) (hc9 : ∀ (x1 : Int32) (x2 : Int32), k9 x1 x2 = some (r, I') → V X I J 9 [some (.ref a0), some (.int x1), some (.int x2), none, none] []) : ∀ (n : Nat) (x3 : Int32) (x4 : Int32), wl2 (X8_which_B20 I a0 x1 x2 k9) n x3 x4 = some (r, I') → V X I J 20 [some (.ref a0), some (.int x1), some (.int x2), some (.int x3), some (.int x4)] [] := by
  refine wl2_V (P := fun (x3 : Int32) (x4 : Int32) => V X I J 20 [some (.ref a0), some (.int x1), some (.int x2), some (.int x3), some (.int x4)] []) ?_
  intro k20 hc20 x3 x4 hf
  unfold X8_which_B20 at hf
  refine r_iload hX dX8_which_20 rfl ?_
  refine r_aload_n hX dX8_which_22 rfl ?_
  refine g_8_25 hX fl_X8_275 hk0 dX8_which_23 ?_
  refine r_icmp_ge (tgt := 55) hX dX8_which_26 (by decide) (fun c_3 => ?_) (fun c_3 => ?_)
  · have hf := hf_t c_3 hf
    refine r_iload_n hX dX8_which_29 rfl ?_
    refine r_if_eq (tgt := 47) hX dX8_which_30 (by decide) (fun c_4 => ?_) (fun c_4 => ?_)
    · have hf := hf_t c_4 hf
      refine V.mask [true, true, true, false, true] ?_
      exact vX8_which_47 hX hret a0 x1 x2 x4 hk0 k9 k20 hc9 hc20 hf
    · have hf := hf_f c_4 hf
      refine r_aload_n hX dX8_which_33 rfl ?_
      refine r_iload_n hX dX8_which_34 rfl ?_
      refine r_iload hX dX8_which_35 rfl ?_
      obtain ⟨r_5, h_6, hf⟩ := bd1_some hf
      refine r_callV (As := [.int x2, .int x4]) (ci := 8) hX (k_X8_isSo (l := xl X) (J := J) hX.ok hk0 h_6) pk_X8_isSo ml_X8_278 rfl rfl rfl rfl hk0 rfl rfl rfl (Nat.le_of_ble_eq_true rfl) dX8_which_37 ?_
      refine r_if_eq (tgt := 47) hX dX8_which_40 (by decide) (fun c_7 => ?_) (fun c_7 => ?_)
      · have hf := hf_t c_7 hf
        refine V.mask [true, true, true, false, true] ?_
        exact vX8_which_47 hX hret a0 x1 x2 x4 hk0 k9 k20 hc9 hc20 hf
      · have hf := hf_f c_7 hf
        refine r_iconst (v := 1) hX dX8_which_43 rfl ?_
        refine r_goto (tgt := 48) hX dX8_which_44 (by decide) ?_
        refine V.mask [true, true, true, false, true] ?_
        exact vX8_which_48 hX hret a0 x1 x2 x4 ((1 : Int32)) hk0 k9 k20 hc9 hc20 hf
  · have hf := hf_f c_3 hf
    refine r_iload_n hX dX8_which_55 rfl ?_
    refine r_iload_n hX dX8_which_56 rfl ?_
    refine r_if_eq (tgt := 66) hX dX8_which_57 (by decide) (fun c_8 => ?_) (fun c_8 => ?_)
    · have hf := hf_t c_8 hf
      refine r_iconst (v := 0) hX dX8_which_66 rfl ?_
      refine V.mask [true, false, true, false, false] ?_
      exact vX8_which_67 hX hret a0 x2 x1 ((0 : Int32)) hk0 k9 hc9 hf
    · have hf := hf_f c_8 hf
      refine r_iconst (v := 1) hX dX8_which_60 rfl ?_
      refine r_iload_n hX dX8_which_61 rfl ?_
      refine r_ishl hX dX8_which_62 ?_
      refine r_goto (tgt := 67) hX dX8_which_63 (by decide) ?_
      refine V.mask [true, false, true, false, false] ?_
      exact vX8_which_67 hX hret a0 x2 x1 (((1 : Int32) <<< (x2 &&& 31))) hk0 k9 hc9 hf
noncomputable def X8_which_B9 (I : HI) (a0 : Nat) (k9 : Int32 → Int32 → Option (Int32 × HI)) (x1 : Int32) (x2 : Int32) : Option (Int32 × HI) := if x2 < (32 : Int32) then wl2 (X8_which_B20 I a0 x1 x2 k9) 5000 ((1 : Int32)) ((0 : Int32)) else some (x1, I)
set_option maxHeartbeats 4000000 in
set_option maxRecDepth 100000 in
theorem vX8_which_9 {X : CX} {I' : HI} {r : Int32} {I : HI} {J : HJ} (hX : OKX X cX8_which RX8 4 95 5) (hret : RetI X cX8_which r I' J) (a0 : Nat) (hk0 : gK (xG X) a0 = 9)   : ∀ (n : Nat) (x1 : Int32) (x2 : Int32), wl2 (X8_which_B9 I a0) n x1 x2 = some (r, I') → V X I J 9 [some (.ref a0), some (.int x1), some (.int x2), none, none] [] := by
  refine wl2_V (P := fun (x1 : Int32) (x2 : Int32) => V X I J 9 [some (.ref a0), some (.int x1), some (.int x2), none, none] []) ?_
  intro k9 hc9 x1 x2 hf
  unfold X8_which_B9 at hf
  refine r_iload_n hX dX8_which_9 rfl ?_
  refine r_bipush (v := 32) hX dX8_which_10 (by decide) ?_
  refine r_icmp_ge (tgt := 75) hX dX8_which_12 (by decide) (fun c_2 => ?_) (fun c_2 => ?_)
  · have hf := hf_t c_2 hf
    refine r_iconst (v := 1) hX dX8_which_15 rfl ?_
    refine r_istore_n hX dX8_which_16 rfl rfl ?_
    refine r_iconst (v := 0) hX dX8_which_17 rfl ?_
    refine r_istore hX dX8_which_18 rfl rfl ?_
    refine V.mask [true, true, true, true, true] ?_
    exact vX8_which_20 hX hret a0 x1 x2 hk0 k9 hc9 5000 ((1 : Int32)) ((0 : Int32)) hf
  · have hf := hf_f c_2 hf
    refine r_iload_n hX dX8_which_75 rfl ?_
    cases hf
    exact hret _ _ dX8_which_76
noncomputable def f_X8_which (I : HI) (a0 : Nat) : Option (Int32 × HI) := lt1 (sI I a0 0 ((0 : Int32))) fun I_1 => wl2 (X8_which_B9 I_1 a0) 5000 ((0 : Int32)) ((0 : Int32))
set_option maxHeartbeats 4000000 in
set_option maxRecDepth 100000 in
theorem k_X8_which {G : GX} {l : Launch} {I : HI} {J : HJ} {I' : HI} {r : Int32} (hG : OKG G) {a0 : Nat} (hk0 : gK G a0 = 9) (hf : f_X8_which I a0 = some (r, I')) : Ctr G l yX8_which cX8_which 5 (some .int) 4 95 [.ref a0] I J (some (.int r)) I' J := by
  refine ctr_I hG (by decide) [some (.ref a0), none, none, none, none] rfl rfl fun X e1 e2 hX hret => ?_
  subst e1; subst e2
  unfold f_X8_which at hf
  refine r_aload_n hX dX8_which_0 rfl ?_
  refine r_iconst (v := 0) hX dX8_which_1 rfl ?_
  obtain ⟨I_1, eI_1, hf⟩ := lt1_some hf
  refine p_8_0 eI_1 hX fl_X8_75 hk0 dX8_which_2 ?_
  refine r_iconst (v := 0) hX dX8_which_5 rfl ?_
  refine r_istore_n hX dX8_which_6 rfl rfl ?_
  refine r_iconst (v := 0) hX dX8_which_7 rfl ?_
  refine r_istore_n hX dX8_which_8 rfl rfl ?_
  refine V.mask [true, true, true, false, false] ?_
  exact vX8_which_9 hX hret a0 hk0 5000 ((0 : Int32)) ((0 : Int32)) hf
noncomputable def X8_divisor_B13  (k13 : Int32 → Int32 → Option (Int32)) (x2 : Int32) (x3 : Int32) : Option (Int32) := if x3 = 0 then some x2 else gd (¬ x3 = 0) (lt1 ((jrem x2 x3)) fun x_4 => k13 x3 x_4)
set_option maxHeartbeats 4000000 in
set_option maxRecDepth 100000 in
theorem vX8_divisor_13 {X : CX} {r : Int32} {I : HI} {J : HJ} (hX : OKX X cX8_divisor RX8 0 0 5) (hret : RetI X cX8_divisor r I J)     : ∀ (n : Nat) (x2 : Int32) (x3 : Int32), wl2 (X8_divisor_B13) n x2 x3 = some r → V X I J 13 [none, none, some (.int x2), some (.int x3), none] [] := by
  refine wl2_V (P := fun (x2 : Int32) (x3 : Int32) => V X I J 13 [none, none, some (.int x2), some (.int x3), none] []) ?_
  intro k13 hc13 x2 x3 hf
  unfold X8_divisor_B13 at hf
  refine r_iload_n hX dX8_divisor_13 rfl ?_
  refine r_if_eq (tgt := 30) hX dX8_divisor_14 (by decide) (fun c_2 => ?_) (fun c_2 => ?_)
  · have hf := hf_t c_2 hf
    refine r_iload_n hX dX8_divisor_30 rfl ?_
    cases hf
    exact hret _ _ dX8_divisor_31
  · have hf := hf_f c_2 hf
    refine r_iload_n hX dX8_divisor_17 rfl ?_
    refine r_iload_n hX dX8_divisor_18 rfl ?_
    obtain ⟨g_3, hf⟩ := gd_some hf
    refine r_irem hX dX8_divisor_19 g_3 ?_
    obtain ⟨x_4, ex_4, hf⟩ := lt1_some hf
    refine V.topi ex_4 ?_
    refine r_istore hX dX8_divisor_20 rfl rfl ?_
    refine r_iload_n hX dX8_divisor_22 rfl ?_
    refine r_istore_n hX dX8_divisor_23 rfl rfl ?_
    refine r_iload hX dX8_divisor_24 rfl ?_
    refine r_istore_n hX dX8_divisor_26 rfl rfl ?_
    refine r_goto (tgt := 13) hX dX8_divisor_27 (by decide) ?_
    refine V.mask [false, false, true, true, false] ?_
    exact hc13 x3 x_4 hf
noncomputable def X8_divisor_J10 (x1 : Int32) (sx0 : Int32) : Option (Int32) := wl2 (X8_divisor_B13 ) 5000 sx0 x1
set_option maxHeartbeats 4000000 in
set_option maxRecDepth 100000 in
theorem vX8_divisor_10 {X : CX} {r : Int32} {I : HI} {J : HJ} (hX : OKX X cX8_divisor RX8 0 0 5) (hret : RetI X cX8_divisor r I J) (x1 : Int32) (sx0 : Int32)    (hf : X8_divisor_J10 x1 sx0 = some r) : V X I J 10 [none, some (.int x1), none, none, none] [.int sx0] := by
  unfold X8_divisor_J10 at hf
  refine r_istore_n hX dX8_divisor_10 rfl rfl ?_
  refine r_iload_n hX dX8_divisor_11 rfl ?_
  refine r_istore_n hX dX8_divisor_12 rfl rfl ?_
  refine V.mask [false, false, true, true, false] ?_
  exact vX8_divisor_13 hX hret  5000 sx0 x1 hf
noncomputable def f_X8_divisor (x0 : Int32) (x1 : Int32) : Option (Int32) := if x0 < 0 then X8_divisor_J10 x1 ((-x0)) else X8_divisor_J10 x1 x0
set_option maxHeartbeats 4000000 in
set_option maxRecDepth 100000 in
theorem k_X8_divisor {G : GX} {l : Launch} {I : HI} {J : HJ} {r : Int32} (hG : OKG G) {x0 : Int32} {x1 : Int32}  (hf : f_X8_divisor x0 x1 = some r) : Ctr G l yX8_divisor cX8_divisor 5 (some .int) 0 0 [.int x0, .int x1] I J (some (.int r)) I J := by
  refine ctr_I hG (by decide) [some (.int x0), some (.int x1), none, none, none] rfl rfl fun X e1 e2 hX hret => ?_
  subst e1; subst e2
  unfold f_X8_divisor at hf
  refine r_iload_n hX dX8_divisor_0 rfl ?_
  refine r_if_ge (tgt := 9) hX dX8_divisor_1 (by decide) (fun c_1 => ?_) (fun c_1 => ?_)
  · have hf := hf_t c_1 hf
    refine r_iload_n hX dX8_divisor_4 rfl ?_
    refine r_ineg hX dX8_divisor_5 ?_
    refine r_goto (tgt := 10) hX dX8_divisor_6 (by decide) ?_
    refine V.mask [false, true, false, false, false] ?_
    exact vX8_divisor_10 hX hret x1 ((-x0)) hf
  · have hf := hf_f c_1 hf
    refine r_iload_n hX dX8_divisor_9 rfl ?_
    refine V.mask [false, true, false, false, false] ?_
    exact vX8_divisor_10 hX hret x1 x0 hf
noncomputable def f_X8_fraction (x0 : Int32) (x1 : Int32) (x2 : Int32) : Option (Int32) := bd1 (f_X8_divisor x0 x1) fun r_1 => if x2 = 0 then gd (¬ r_1 = 0) (some ((x1 / r_1))) else gd (¬ r_1 = 0) (some ((x0 / r_1)))
set_option maxHeartbeats 4000000 in
set_option maxRecDepth 100000 in
theorem k_X8_fraction {G : GX} {l : Launch} {I : HI} {J : HJ} {r : Int32} (hG : OKG G) {x0 : Int32} {x1 : Int32} {x2 : Int32}  (hf : f_X8_fraction x0 x1 x2 = some r) : Ctr G l yX8_fraction cX8_fraction 4 (some .int) 1 24 [.int x0, .int x1, .int x2] I J (some (.int r)) I J := by
  refine ctr_I hG (by decide) [some (.int x0), some (.int x1), some (.int x2), none] rfl rfl fun X e1 e2 hX hret => ?_
  subst e1; subst e2
  unfold f_X8_fraction at hf
  refine r_iload_n hX dX8_fraction_0 rfl ?_
  refine r_iload_n hX dX8_fraction_1 rfl ?_
  obtain ⟨r_1, h_2, hf⟩ := bd1_some hf
  refine r_callS (As := [.int x0, .int x1]) hX (k_X8_divisor (l := xl X) (I := I) (J := J) hX.ok  h_2) pk_X8_divisor ml_X8_281 rfl rfl rfl (Nat.le_of_ble_eq_true rfl) dX8_fraction_2 ?_
  refine r_istore_n hX dX8_fraction_5 rfl rfl ?_
  refine r_iload_n hX dX8_fraction_6 rfl ?_
  refine r_if_eq (tgt := 16) hX dX8_fraction_7 (by decide) (fun c_3 => ?_) (fun c_3 => ?_)
  · have hf := hf_t c_3 hf
    refine r_iload_n hX dX8_fraction_16 rfl ?_
    refine r_iload_n hX dX8_fraction_17 rfl ?_
    obtain ⟨g_4, hf⟩ := gd_some hf
    refine r_idiv hX dX8_fraction_18 g_4 ?_
    cases hf
    exact hret _ _ dX8_fraction_19
  · have hf := hf_f c_3 hf
    refine r_iload_n hX dX8_fraction_10 rfl ?_
    refine r_iload_n hX dX8_fraction_11 rfl ?_
    obtain ⟨g_5, hf⟩ := gd_some hf
    refine r_idiv hX dX8_fraction_12 g_5 ?_
    refine r_goto (tgt := 19) hX dX8_fraction_13 (by decide) ?_
    cases hf
    exact hret _ _ dX8_fraction_19
noncomputable def X8_factorial_B4 (x0 : Int32) (k4 : Int32 → Int32 → Option (Int32)) (x1 : Int32) (x2 : Int32) : Option (Int32) := if x0 < x2 then some x1 else lt1 ((x1 * x2)) fun x_2 => lt1 (x2 + (1 : Int32)) fun x_3 => k4 x_2 x_3
set_option maxHeartbeats 4000000 in
set_option maxRecDepth 100000 in
theorem vX8_factorial_4 {X : CX} {r : Int32} {I : HI} {J : HJ} (hX : OKX X cX8_factorial RX8 0 0 3) (hret : RetI X cX8_factorial r I J) (x0 : Int32)    : ∀ (n : Nat) (x1 : Int32) (x2 : Int32), wl2 (X8_factorial_B4 x0) n x1 x2 = some r → V X I J 4 [some (.int x0), some (.int x1), some (.int x2)] [] := by
  refine wl2_V (P := fun (x1 : Int32) (x2 : Int32) => V X I J 4 [some (.int x0), some (.int x1), some (.int x2)] []) ?_
  intro k4 hc4 x1 x2 hf
  unfold X8_factorial_B4 at hf
  refine r_iload_n hX dX8_factorial_4 rfl ?_
  refine r_iload_n hX dX8_factorial_5 rfl ?_
  refine r_icmp_gt (tgt := 19) hX dX8_factorial_6 (by decide) (fun c_1 => ?_) (fun c_1 => ?_)
  · have hf := hf_t c_1 hf
    refine r_iload_n hX dX8_factorial_19 rfl ?_
    cases hf
    exact hret _ _ dX8_factorial_20
  · have hf := hf_f c_1 hf
    refine r_iload_n hX dX8_factorial_9 rfl ?_
    refine r_iload_n hX dX8_factorial_10 rfl ?_
    refine r_imul hX dX8_factorial_11 ?_
    obtain ⟨x_2, ex_2, hf⟩ := lt1_some hf
    refine V.topi ex_2 ?_
    refine r_istore_n hX dX8_factorial_12 rfl rfl ?_
    obtain ⟨x_3, ex_3, hf⟩ := lt1_some hf
    refine r_iincE (n' := 1) ex_3 hX dX8_factorial_13 rfl rfl rfl rfl ?_
    refine r_goto (tgt := 4) hX dX8_factorial_16 (by decide) ?_
    refine V.mask [true, true, true] ?_
    exact hc4 x_2 x_3 hf
noncomputable def f_X8_factorial (x0 : Int32) : Option (Int32) := wl2 (X8_factorial_B4 x0) 5000 ((1 : Int32)) ((2 : Int32))
set_option maxHeartbeats 4000000 in
set_option maxRecDepth 100000 in
theorem k_X8_factorial {G : GX} {l : Launch} {I : HI} {J : HJ} {r : Int32} (hG : OKG G) {x0 : Int32}  (hf : f_X8_factorial x0 = some r) : Ctr G l yX8_factorial cX8_factorial 3 (some .int) 0 0 [.int x0] I J (some (.int r)) I J := by
  refine ctr_I hG (by decide) [some (.int x0), none, none] rfl rfl fun X e1 e2 hX hret => ?_
  subst e1; subst e2
  unfold f_X8_factorial at hf
  refine r_iconst (v := 1) hX dX8_factorial_0 rfl ?_
  refine r_istore_n hX dX8_factorial_1 rfl rfl ?_
  refine r_iconst (v := 2) hX dX8_factorial_2 rfl ?_
  refine r_istore_n hX dX8_factorial_3 rfl rfl ?_
  refine V.mask [true, true, true] ?_
  exact vX8_factorial_4 hX hret x0 5000 ((1 : Int32)) ((2 : Int32)) hf
noncomputable def X8_hadBy_J33 (I : HI) (a0 : Nat) (x1 : Int32) (x3 : Int32) (sx0 : Int32) (sx1 : Int32) (k4 : Int32 → Int32 → Option (Int32)) : Option (Int32) := lt1 ((sx0 ||| sx1)) fun x_9 => lt1 (x3 + (1 : Int32)) fun x_10 => k4 x_9 x_10
set_option maxHeartbeats 4000000 in
set_option maxRecDepth 100000 in
theorem vX8_hadBy_33 {X : CX} {r : Int32} {I : HI} {J : HJ} (hX : OKX X cX8_hadBy RX8 1 23 4) (hret : RetI X cX8_hadBy r I J) (a0 : Nat) (x1 : Int32) (x3 : Int32) (sx0 : Int32) (sx1 : Int32) (hk0 : gK (xG X) a0 = 9) (k4 : Int32 → Int32 → Option (Int32)) (hc4 : ∀ (x2 : Int32) (x3 : Int32), k4 x2 x3 = some r → V X I J 4 [some (.ref a0), some (.int x1), some (.int x2), some (.int x3)] []) (hf : X8_hadBy_J33 I a0 x1 x3 sx0 sx1 k4 = some r) : V X I J 33 [some (.ref a0), some (.int x1), none, some (.int x3)] [.int sx1, .int sx0] := by
  unfold X8_hadBy_J33 at hf
  refine r_ior hX dX8_hadBy_33 ?_
  obtain ⟨x_9, ex_9, hf⟩ := lt1_some hf
  refine V.topi ex_9 ?_
  refine r_istore_n hX dX8_hadBy_34 rfl rfl ?_
  obtain ⟨x_10, ex_10, hf⟩ := lt1_some hf
  refine r_iincE (n' := 1) ex_10 hX dX8_hadBy_35 rfl rfl rfl rfl ?_
  refine r_goto (tgt := 4) hX dX8_hadBy_38 (by decide) ?_
  refine V.mask [true, true, true, true] ?_
  exact hc4 x_9 x_10 hf
noncomputable def X8_hadBy_B4 (I : HI) (a0 : Nat) (x1 : Int32) (k4 : Int32 → Int32 → Option (Int32)) (x2 : Int32) (x3 : Int32) : Option (Int32) := if x3 < (I a0 9) then bd1 (f_X8_has x1 x3) fun r_2 => if r_2 = 0 then X8_hadBy_J33 I a0 x1 x3 x2 ((0 : Int32)) k4 else bd1 (f_X8_shelfOf I ((a0 + 9)) x3) fun r_5 => X8_hadBy_J33 I a0 x1 x3 x2 r_5 k4 else bd1 (f_X8_ones x2) fun r_7 => some r_7
set_option maxHeartbeats 4000000 in
set_option maxRecDepth 100000 in
theorem vX8_hadBy_4 {X : CX} {r : Int32} {I : HI} {J : HJ} (hX : OKX X cX8_hadBy RX8 1 23 4) (hret : RetI X cX8_hadBy r I J) (a0 : Nat) (x1 : Int32) (hk0 : gK (xG X) a0 = 9)   : ∀ (n : Nat) (x2 : Int32) (x3 : Int32), wl2 (X8_hadBy_B4 I a0 x1) n x2 x3 = some r → V X I J 4 [some (.ref a0), some (.int x1), some (.int x2), some (.int x3)] [] := by
  refine wl2_V (P := fun (x2 : Int32) (x3 : Int32) => V X I J 4 [some (.ref a0), some (.int x1), some (.int x2), some (.int x3)] []) ?_
  intro k4 hc4 x2 x3 hf
  unfold X8_hadBy_B4 at hf
  refine r_iload_n hX dX8_hadBy_4 rfl ?_
  refine r_aload_n hX dX8_hadBy_5 rfl ?_
  refine g_8_9 hX fl_X8_78 hk0 dX8_hadBy_6 ?_
  refine r_icmp_ge (tgt := 41) hX dX8_hadBy_9 (by decide) (fun c_1 => ?_) (fun c_1 => ?_)
  · have hf := hf_t c_1 hf
    refine r_iload_n hX dX8_hadBy_12 rfl ?_
    refine r_iload_n hX dX8_hadBy_13 rfl ?_
    refine r_iload_n hX dX8_hadBy_14 rfl ?_
    obtain ⟨r_2, h_3, hf⟩ := bd1_some hf
    refine r_callS (As := [.int x1, .int x3]) hX (k_X8_has (l := xl X) (I := I) (J := J) hX.ok  h_3) pk_X8_has ml_X8_166 rfl rfl rfl (Nat.le_of_ble_eq_true rfl) dX8_hadBy_15 ?_
    refine r_if_eq (tgt := 32) hX dX8_hadBy_18 (by decide) (fun c_4 => ?_) (fun c_4 => ?_)
    · have hf := hf_t c_4 hf
      refine r_iconst (v := 0) hX dX8_hadBy_32 rfl ?_
      refine V.mask [true, true, false, true] ?_
      exact vX8_hadBy_33 hX hret a0 x1 x3 x2 ((0 : Int32)) hk0 k4 hc4 hf
    · have hf := hf_f c_4 hf
      refine r_aload_n hX dX8_hadBy_21 rfl ?_
      refine g_8_19 hX fl_X8_44 hk0 dX8_hadBy_22 ?_
      refine r_iload_n hX dX8_hadBy_25 rfl ?_
      obtain ⟨r_5, h_6, hf⟩ := bd1_some hf
      refine r_callS (As := [.ref ((a0 + 9)), .int x3]) hX (k_X8_shelfOf (l := xl X) (J := J) hX.ok ((q_9_19 hX hk0)) h_6) pk_X8_shelfOf ml_X8_197 rfl rfl rfl (Nat.le_of_ble_eq_true rfl) dX8_hadBy_26 ?_
      refine r_goto (tgt := 33) hX dX8_hadBy_29 (by decide) ?_
      refine V.mask [true, true, false, true] ?_
      exact vX8_hadBy_33 hX hret a0 x1 x3 x2 r_5 hk0 k4 hc4 hf
  · have hf := hf_f c_1 hf
    refine r_iload_n hX dX8_hadBy_41 rfl ?_
    obtain ⟨r_7, h_8, hf⟩ := bd1_some hf
    refine r_callS (As := [.int x2]) hX (k_X8_ones (l := xl X) (I := I) (J := J) hX.ok  h_8) pk_X8_ones ml_X8_226 rfl rfl rfl (Nat.le_of_ble_eq_true rfl) dX8_hadBy_42 ?_
    cases hf
    exact hret _ _ dX8_hadBy_45
noncomputable def f_X8_hadBy (I : HI) (a0 : Nat) (x1 : Int32) : Option (Int32) := wl2 (X8_hadBy_B4 I a0 x1) 5000 ((0 : Int32)) ((0 : Int32))
set_option maxHeartbeats 4000000 in
set_option maxRecDepth 100000 in
theorem k_X8_hadBy {G : GX} {l : Launch} {I : HI} {J : HJ} {r : Int32} (hG : OKG G) {a0 : Nat} {x1 : Int32} (hk0 : gK G a0 = 9) (hf : f_X8_hadBy I a0 x1 = some r) : Ctr G l yX8_hadBy cX8_hadBy 4 (some .int) 1 23 [.ref a0, .int x1] I J (some (.int r)) I J := by
  refine ctr_I hG (by decide) [some (.ref a0), some (.int x1), none, none] rfl rfl fun X e1 e2 hX hret => ?_
  subst e1; subst e2
  unfold f_X8_hadBy at hf
  refine r_iconst (v := 0) hX dX8_hadBy_0 rfl ?_
  refine r_istore_n hX dX8_hadBy_1 rfl rfl ?_
  refine r_iconst (v := 0) hX dX8_hadBy_2 rfl ?_
  refine r_istore_n hX dX8_hadBy_3 rfl rfl ?_
  refine V.mask [true, true, true, true] ?_
  exact vX8_hadBy_4 hX hret a0 x1 hk0 5000 ((0 : Int32)) ((0 : Int32)) hf
noncomputable def X8_share_J88 (I : HI) (a0 : Nat) (x1 : Int32) (x2 : Int32) (x4 : Int32) (sx0 : Int32) (sx1 : Int32) (k20 : Int32 → Int32 → Option (Int32 × HI)) : Option (Int32 × HI) := lt1 ((sx0 + sx1)) fun x_23 => lt1 (x4 + (1 : Int32)) fun x_24 => k20 x_23 x_24
set_option maxHeartbeats 4000000 in
set_option maxRecDepth 100000 in
theorem vX8_share_88 {X : CX} {I' : HI} {r : Int32} {I : HI} {J : HJ} (hX : OKX X cX8_share RX8 2 47 6) (hret : RetI X cX8_share r I' J) (a0 : Nat) (x1 : Int32) (x2 : Int32) (x4 : Int32) (sx0 : Int32) (sx1 : Int32) (hk0 : gK (xG X) a0 = 9) (k20 : Int32 → Int32 → Option (Int32 × HI)) (hc20 : ∀ (x3 : Int32) (x4 : Int32), k20 x3 x4 = some (r, I') → V X I J 20 [some (.ref a0), some (.int x1), some (.int x2), some (.int x3), some (.int x4), none] []) (hf : X8_share_J88 I a0 x1 x2 x4 sx0 sx1 k20 = some (r, I')) : V X I J 88 [some (.ref a0), some (.int x1), some (.int x2), none, some (.int x4), none] [.int sx1, .int sx0] := by
  unfold X8_share_J88 at hf
  refine r_iadd hX dX8_share_88 ?_
  obtain ⟨x_23, ex_23, hf⟩ := lt1_some hf
  refine V.topi ex_23 ?_
  refine r_istore_n hX dX8_share_89 rfl rfl ?_
  obtain ⟨x_24, ex_24, hf⟩ := lt1_some hf
  refine r_iincE (n' := 1) ex_24 hX dX8_share_90 rfl rfl rfl rfl ?_
  refine r_goto (tgt := 20) hX dX8_share_93 (by decide) ?_
  refine V.mask [true, true, true, true, true, false] ?_
  exact hc20 x_23 x_24 hf
noncomputable def X8_share_B20 (I : HI) (a0 : Nat) (x1 : Int32) (x2 : Int32) (k20 : Int32 → Int32 → Option (Int32 × HI)) (x3 : Int32) (x4 : Int32) : Option (Int32 × HI) := if x4 < ((1 : Int32) <<< ((I a0 9) &&& 31)) then bd1 (f_X8_ones x4) fun r_6 => bd1 (f_X8_has x4 x1) fun r_8 => if r_8 = 0 then bd1 (f_X8_factorial r_6) fun r_11 => bd1 (f_X8_factorial ((((I a0 9) - (1 : Int32)) - r_6))) fun r_13 => bd1 (f_X8_hadBy I a0 ((x4 ||| ((1 : Int32) <<< (x1 &&& 31))))) fun r_15 => bd1 (f_X8_hadBy I a0 x4) fun r_17 => X8_share_J88 I a0 x1 x2 x4 x3 (((r_11 * r_13) * (r_15 - r_17))) k20 else X8_share_J88 I a0 x1 x2 x4 x3 ((0 : Int32)) k20 else bd1 (f_X8_factorial ((I a0 9))) fun r_19 => bd1 (f_X8_fraction x3 r_19 x2) fun r_21 => some (r_21, I)
set_option maxHeartbeats 4000000 in
set_option maxRecDepth 100000 in
theorem vX8_share_20 {X : CX} {I' : HI} {r : Int32} {I : HI} {J : HJ} (hX : OKX X cX8_share RX8 2 47 6) (hret : RetI X cX8_share r I' J) (a0 : Nat) (x1 : Int32) (x2 : Int32) (hk0 : gK (xG X) a0 = 9)   : ∀ (n : Nat) (x3 : Int32) (x4 : Int32), wl2 (X8_share_B20 I a0 x1 x2) n x3 x4 = some (r, I') → V X I J 20 [some (.ref a0), some (.int x1), some (.int x2), some (.int x3), some (.int x4), none] [] := by
  refine wl2_V (P := fun (x3 : Int32) (x4 : Int32) => V X I J 20 [some (.ref a0), some (.int x1), some (.int x2), some (.int x3), some (.int x4), none] []) ?_
  intro k20 hc20 x3 x4 hf
  unfold X8_share_B20 at hf
  refine r_iload hX dX8_share_20 rfl ?_
  refine r_iconst (v := 1) hX dX8_share_22 rfl ?_
  refine r_aload_n hX dX8_share_23 rfl ?_
  refine g_8_9 hX fl_X8_78 hk0 dX8_share_24 ?_
  refine r_ishl hX dX8_share_27 ?_
  refine r_icmp_ge (tgt := 96) hX dX8_share_28 (by decide) (fun c_5 => ?_) (fun c_5 => ?_)
  · have hf := hf_t c_5 hf
    refine r_iload hX dX8_share_31 rfl ?_
    obtain ⟨r_6, h_7, hf⟩ := bd1_some hf
    refine r_callS (As := [.int x4]) hX (k_X8_ones (l := xl X) (I := I) (J := J) hX.ok  h_7) pk_X8_ones ml_X8_226 rfl rfl rfl (Nat.le_of_ble_eq_true rfl) dX8_share_33 ?_
    refine r_istore hX dX8_share_36 rfl rfl ?_
    refine r_iload_n hX dX8_share_38 rfl ?_
    refine r_iload hX dX8_share_39 rfl ?_
    refine r_iload_n hX dX8_share_41 rfl ?_
    obtain ⟨r_8, h_9, hf⟩ := bd1_some hf
    refine r_callS (As := [.int x4, .int x1]) hX (k_X8_has (l := xl X) (I := I) (J := J) hX.ok  h_9) pk_X8_has ml_X8_166 rfl rfl rfl (Nat.le_of_ble_eq_true rfl) dX8_share_42 ?_
    refine r_if_eq (tgt := 52) hX dX8_share_45 (by decide) (fun c_10 => ?_) (fun c_10 => ?_)
    · have hf := hf_t c_10 hf
      refine r_iload hX dX8_share_52 rfl ?_
      obtain ⟨r_11, h_12, hf⟩ := bd1_some hf
      refine r_callS (As := [.int r_6]) hX (k_X8_factorial (l := xl X) (I := I) (J := J) hX.ok  h_12) pk_X8_factorial ml_X8_284 rfl rfl rfl (Nat.le_of_ble_eq_true rfl) dX8_share_54 ?_
      refine r_aload_n hX dX8_share_57 rfl ?_
      refine g_8_9 hX fl_X8_78 hk0 dX8_share_58 ?_
      refine r_iconst (v := 1) hX dX8_share_61 rfl ?_
      refine r_isub hX dX8_share_62 ?_
      refine r_iload hX dX8_share_63 rfl ?_
      refine r_isub hX dX8_share_65 ?_
      obtain ⟨r_13, h_14, hf⟩ := bd1_some hf
      refine r_callS (As := [.int ((((I a0 9) - (1 : Int32)) - r_6))]) hX (k_X8_factorial (l := xl X) (I := I) (J := J) hX.ok  h_14) pk_X8_factorial ml_X8_284 rfl rfl rfl (Nat.le_of_ble_eq_true rfl) dX8_share_66 ?_
      refine r_imul hX dX8_share_69 ?_
      refine r_aload_n hX dX8_share_70 rfl ?_
      refine r_iload hX dX8_share_71 rfl ?_
      refine r_iconst (v := 1) hX dX8_share_73 rfl ?_
      refine r_iload_n hX dX8_share_74 rfl ?_
      refine r_ishl hX dX8_share_75 ?_
      refine r_ior hX dX8_share_76 ?_
      obtain ⟨r_15, h_16, hf⟩ := bd1_some hf
      refine r_callV (As := [.int ((x4 ||| ((1 : Int32) <<< (x1 &&& 31))))]) (ci := 8) hX (k_X8_hadBy (l := xl X) (J := J) hX.ok hk0 h_16) pk_X8_hadBy ml_X8_287 rfl rfl rfl rfl hk0 rfl rfl rfl (Nat.le_of_ble_eq_true rfl) dX8_share_77 ?_
      refine r_aload_n hX dX8_share_80 rfl ?_
      refine r_iload hX dX8_share_81 rfl ?_
      obtain ⟨r_17, h_18, hf⟩ := bd1_some hf
      refine r_callV (As := [.int x4]) (ci := 8) hX (k_X8_hadBy (l := xl X) (J := J) hX.ok hk0 h_18) pk_X8_hadBy ml_X8_287 rfl rfl rfl rfl hk0 rfl rfl rfl (Nat.le_of_ble_eq_true rfl) dX8_share_83 ?_
      refine r_isub hX dX8_share_86 ?_
      refine r_imul hX dX8_share_87 ?_
      refine V.mask [true, true, true, false, true, false] ?_
      exact vX8_share_88 hX hret a0 x1 x2 x4 x3 (((r_11 * r_13) * (r_15 - r_17))) hk0 k20 hc20 hf
    · have hf := hf_f c_10 hf
      refine r_iconst (v := 0) hX dX8_share_48 rfl ?_
      refine r_goto (tgt := 88) hX dX8_share_49 (by decide) ?_
      refine V.mask [true, true, true, false, true, false] ?_
      exact vX8_share_88 hX hret a0 x1 x2 x4 x3 ((0 : Int32)) hk0 k20 hc20 hf
  · have hf := hf_f c_5 hf
    refine r_iload_n hX dX8_share_96 rfl ?_
    refine r_aload_n hX dX8_share_97 rfl ?_
    refine g_8_9 hX fl_X8_78 hk0 dX8_share_98 ?_
    obtain ⟨r_19, h_20, hf⟩ := bd1_some hf
    refine r_callS (As := [.int ((I a0 9))]) hX (k_X8_factorial (l := xl X) (I := I) (J := J) hX.ok  h_20) pk_X8_factorial ml_X8_284 rfl rfl rfl (Nat.le_of_ble_eq_true rfl) dX8_share_101 ?_
    refine r_iload_n hX dX8_share_104 rfl ?_
    obtain ⟨r_21, h_22, hf⟩ := bd1_some hf
    refine r_callS (As := [.int x3, .int r_19, .int x2]) hX (k_X8_fraction (l := xl X) (I := I) (J := J) hX.ok  h_22) pk_X8_fraction ml_X8_290 rfl rfl rfl (Nat.le_of_ble_eq_true rfl) dX8_share_105 ?_
    cases hf
    exact hret _ _ dX8_share_108
noncomputable def f_X8_share (I : HI) (a0 : Nat) (x1 : Int32) (x2 : Int32) : Option (Int32 × HI) := lt1 (sI I a0 0 ((0 : Int32))) fun I_1 => bd1 (f_X8_noProxy I_1 a0 x1) fun r_2 => if r_2 = 0 then wl2 (X8_share_B20 I_1 a0 x1 x2) 5000 ((0 : Int32)) ((0 : Int32)) else some ((-1 : Int32), I_1)
set_option maxHeartbeats 4000000 in
set_option maxRecDepth 100000 in
theorem k_X8_share {G : GX} {l : Launch} {I : HI} {J : HJ} {I' : HI} {r : Int32} (hG : OKG G) {a0 : Nat} {x1 : Int32} {x2 : Int32} (hk0 : gK G a0 = 9) (hf : f_X8_share I a0 x1 x2 = some (r, I')) : Ctr G l yX8_share cX8_share 6 (some .int) 2 47 [.ref a0, .int x1, .int x2] I J (some (.int r)) I' J := by
  refine ctr_I hG (by decide) [some (.ref a0), some (.int x1), some (.int x2), none, none, none] rfl rfl fun X e1 e2 hX hret => ?_
  subst e1; subst e2
  unfold f_X8_share at hf
  refine r_aload_n hX dX8_share_0 rfl ?_
  refine r_iconst (v := 0) hX dX8_share_1 rfl ?_
  obtain ⟨I_1, eI_1, hf⟩ := lt1_some hf
  refine p_8_0 eI_1 hX fl_X8_75 hk0 dX8_share_2 ?_
  refine r_aload_n hX dX8_share_5 rfl ?_
  refine r_iload_n hX dX8_share_6 rfl ?_
  obtain ⟨r_2, h_3, hf⟩ := bd1_some hf
  refine r_callV (As := [.int x1]) (ci := 8) hX (k_X8_noProxy (l := xl X) (J := J) hX.ok hk0 h_3) pk_X8_noProxy ml_X8_200 rfl rfl rfl rfl hk0 rfl rfl rfl (Nat.le_of_ble_eq_true rfl) dX8_share_7 ?_
  refine r_if_eq (tgt := 15) hX dX8_share_10 (by decide) (fun c_4 => ?_) (fun c_4 => ?_)
  · have hf := hf_t c_4 hf
    refine r_iconst (v := 0) hX dX8_share_15 rfl ?_
    refine r_istore_n hX dX8_share_16 rfl rfl ?_
    refine r_iconst (v := 0) hX dX8_share_17 rfl ?_
    refine r_istore hX dX8_share_18 rfl rfl ?_
    refine V.mask [true, true, true, true, true, false] ?_
    exact vX8_share_20 hX hret a0 x1 x2 hk0 5000 ((0 : Int32)) ((0 : Int32)) hf
  · have hf := hf_f c_4 hf
    refine r_iconst (v := -1) hX dX8_share_13 rfl ?_
    cases hf
    exact hret _ _ dX8_share_14
noncomputable def X8_isRight_J71 (I : HI) (a0 : Nat) (x1 : Int32) (x2 : Int32) (x3 : Int32) (x4 : Int32) (x5 : Int32) (k10 : HI → Int32 → Int32 → Option (Int32 × HI)) : Option (Int32 × HI) := lt1 (x5 + (1 : Int32)) fun x_24 => k10 I x4 x_24
set_option maxHeartbeats 4000000 in
set_option maxRecDepth 100000 in
theorem vX8_isRight_71 {X : CX} {I' : HI} {r : Int32} {I : HI} {J : HJ} (hX : OKX X cX8_isRight RX8 5 123 7) (hret : RetZ X cX8_isRight r I' J) (a0 : Nat) (x1 : Int32) (x2 : Int32) (x3 : Int32) (x4 : Int32) (x5 : Int32) (hk0 : gK (xG X) a0 = 9) (k10 : HI → Int32 → Int32 → Option (Int32 × HI)) (hc10 : ∀ (I : HI) (x4 : Int32) (x5 : Int32), k10 I x4 x5 = some (r, I') → V X I J 10 [some (.ref a0), some (.int x1), some (.int x2), some (.int x3), some (.int x4), some (.int x5), none] []) (hf : X8_isRight_J71 I a0 x1 x2 x3 x4 x5 k10 = some (r, I')) : V X I J 71 [some (.ref a0), some (.int x1), some (.int x2), some (.int x3), some (.int x4), some (.int x5), none] [] := by
  unfold X8_isRight_J71 at hf
  obtain ⟨x_24, ex_24, hf⟩ := lt1_some hf
  refine r_iincE (n' := 1) ex_24 hX dX8_isRight_71 rfl rfl rfl rfl ?_
  refine r_goto (tgt := 10) hX dX8_isRight_74 (by decide) ?_
  refine V.mask [true, true, true, true, true, true, false] ?_
  exact hc10 I x4 x_24 hf
noncomputable def X8_isRight_J50 (I : HI) (a0 : Nat) (x1 : Int32) (x2 : Int32) (x3 : Int32) (x5 : Int32) (sx0 : Int32) (k10 : HI → Int32 → Int32 → Option (Int32 × HI)) : Option (Int32 × HI) := bd1 (f_X8_has x3 x5) fun r_19 => if r_19 = 0 then bd1 (f_X8_sendOn I a0 ((a0 + 10)) x5) fun I_22 => X8_isRight_J71 I_22 a0 x1 x2 x3 sx0 x5 k10 else X8_isRight_J71 I a0 x1 x2 x3 sx0 x5 k10
set_option maxHeartbeats 4000000 in
set_option maxRecDepth 100000 in
theorem vX8_isRight_50 {X : CX} {I' : HI} {r : Int32} {I : HI} {J : HJ} (hX : OKX X cX8_isRight RX8 5 123 7) (hret : RetZ X cX8_isRight r I' J) (a0 : Nat) (x1 : Int32) (x2 : Int32) (x3 : Int32) (x5 : Int32) (sx0 : Int32) (hk0 : gK (xG X) a0 = 9) (k10 : HI → Int32 → Int32 → Option (Int32 × HI)) (hc10 : ∀ (I : HI) (x4 : Int32) (x5 : Int32), k10 I x4 x5 = some (r, I') → V X I J 10 [some (.ref a0), some (.int x1), some (.int x2), some (.int x3), some (.int x4), some (.int x5), none] []) (hf : X8_isRight_J50 I a0 x1 x2 x3 x5 sx0 k10 = some (r, I')) : V X I J 50 [some (.ref a0), some (.int x1), some (.int x2), some (.int x3), none, some (.int x5), none] [.int sx0] := by
  unfold X8_isRight_J50 at hf
  refine r_istore hX dX8_isRight_50 rfl rfl ?_
  refine r_iload_n hX dX8_isRight_52 rfl ?_
  refine r_iload hX dX8_isRight_53 rfl ?_
  obtain ⟨r_19, h_20, hf⟩ := bd1_some hf
  refine r_callS (As := [.int x3, .int x5]) hX (k_X8_has (l := xl X) (I := I) (J := J) hX.ok  h_20) pk_X8_has ml_X8_166 rfl rfl rfl (Nat.le_of_ble_eq_true rfl) dX8_isRight_55 ?_
  refine r_if_ne (tgt := 71) hX dX8_isRight_58 (by decide) (fun c_21 => ?_) (fun c_21 => ?_)
  · have hf := hf_t c_21 hf
    refine r_aload_n hX dX8_isRight_61 rfl ?_
    refine r_aload_n hX dX8_isRight_62 rfl ?_
    refine g_8_20 hX fl_X8_47 hk0 dX8_isRight_63 ?_
    refine r_iload hX dX8_isRight_66 rfl ?_
    obtain ⟨I_22, h_23, hf⟩ := bd1_some hf
    refine r_callV (As := [.ref ((a0 + 10)), .int x5]) (ci := 8) hX (k_X8_sendOn (l := xl X) (J := J) hX.ok hk0 ((q_9_20 hX hk0)) h_23) pk_X8_sendOn ml_X8_183 rfl rfl rfl rfl hk0 rfl rfl rfl (Nat.le_of_ble_eq_true rfl) dX8_isRight_68 ?_
    refine V.mask [true, true, true, true, true, true, false] ?_
    exact vX8_isRight_71 hX hret a0 x1 x2 x3 sx0 x5 hk0 k10 hc10 hf
  · have hf := hf_f c_21 hf
    refine V.mask [true, true, true, true, true, true, false] ?_
    exact vX8_isRight_71 hX hret a0 x1 x2 x3 sx0 x5 hk0 k10 hc10 hf
noncomputable def X8_isRight_J45 (I : HI) (a0 : Nat) (x1 : Int32) (x2 : Int32) (x3 : Int32) (x5 : Int32) (k10 : HI → Int32 → Int32 → Option (Int32 × HI)) : Option (Int32 × HI) := X8_isRight_J50 I a0 x1 x2 x3 x5 ((1 : Int32)) k10
set_option maxHeartbeats 4000000 in
set_option maxRecDepth 100000 in
theorem vX8_isRight_45 {X : CX} {I' : HI} {r : Int32} {I : HI} {J : HJ} (hX : OKX X cX8_isRight RX8 5 123 7) (hret : RetZ X cX8_isRight r I' J) (a0 : Nat) (x1 : Int32) (x2 : Int32) (x3 : Int32) (x5 : Int32) (hk0 : gK (xG X) a0 = 9) (k10 : HI → Int32 → Int32 → Option (Int32 × HI)) (hc10 : ∀ (I : HI) (x4 : Int32) (x5 : Int32), k10 I x4 x5 = some (r, I') → V X I J 10 [some (.ref a0), some (.int x1), some (.int x2), some (.int x3), some (.int x4), some (.int x5), none] []) (hf : X8_isRight_J45 I a0 x1 x2 x3 x5 k10 = some (r, I')) : V X I J 45 [some (.ref a0), some (.int x1), some (.int x2), some (.int x3), none, some (.int x5), none] [] := by
  unfold X8_isRight_J45 at hf
  refine r_iconst (v := 1) hX dX8_isRight_45 rfl ?_
  refine r_goto (tgt := 50) hX dX8_isRight_46 (by decide) ?_
  refine V.mask [true, true, true, true, false, true, false] ?_
  exact vX8_isRight_50 hX hret a0 x1 x2 x3 x5 ((1 : Int32)) hk0 k10 hc10 hf
noncomputable def X8_isRight_J49 (I : HI) (a0 : Nat) (x1 : Int32) (x2 : Int32) (x3 : Int32) (x5 : Int32) (k10 : HI → Int32 → Int32 → Option (Int32 × HI)) : Option (Int32 × HI) := X8_isRight_J50 I a0 x1 x2 x3 x5 ((0 : Int32)) k10
set_option maxHeartbeats 4000000 in
set_option maxRecDepth 100000 in
theorem vX8_isRight_49 {X : CX} {I' : HI} {r : Int32} {I : HI} {J : HJ} (hX : OKX X cX8_isRight RX8 5 123 7) (hret : RetZ X cX8_isRight r I' J) (a0 : Nat) (x1 : Int32) (x2 : Int32) (x3 : Int32) (x5 : Int32) (hk0 : gK (xG X) a0 = 9) (k10 : HI → Int32 → Int32 → Option (Int32 × HI)) (hc10 : ∀ (I : HI) (x4 : Int32) (x5 : Int32), k10 I x4 x5 = some (r, I') → V X I J 10 [some (.ref a0), some (.int x1), some (.int x2), some (.int x3), some (.int x4), some (.int x5), none] []) (hf : X8_isRight_J49 I a0 x1 x2 x3 x5 k10 = some (r, I')) : V X I J 49 [some (.ref a0), some (.int x1), some (.int x2), some (.int x3), none, some (.int x5), none] [] := by
  unfold X8_isRight_J49 at hf
  refine r_iconst (v := 0) hX dX8_isRight_49 rfl ?_
  refine V.mask [true, true, true, true, false, true, false] ?_
  exact vX8_isRight_50 hX hret a0 x1 x2 x3 x5 ((0 : Int32)) hk0 k10 hc10 hf
noncomputable def X8_isRight_B10 (a0 : Nat) (x1 : Int32) (x2 : Int32) (x3 : Int32) (k10 : HI → Int32 → Int32 → Option (Int32 × HI)) (I : HI) (x4 : Int32) (x5 : Int32) : Option (Int32 × HI) := if x5 < (I a0 9) then if x4 = 0 then if x5 = x1 then X8_isRight_J49 I a0 x1 x2 x3 x5 k10 else bd1 (f_X8_placeOf I ((a0 + 9)) x5 x2) fun r_6 => if r_6 = (-9 : Int32) then X8_isRight_J49 I a0 x1 x2 x3 x5 k10 else X8_isRight_J45 I a0 x1 x2 x3 x5 k10 else X8_isRight_J45 I a0 x1 x2 x3 x5 k10 else gd (vp_in ((118 : Int32)) 121) (lt1 ((I ((a0 + 10)) ((118 : Int32)).toNatClampNeg)) fun x_10 => bd2 (f_X8_askOn I a0 ((a0 + 10)) x1 x2) fun r_11 I_12 => if r_11 = (10 : Int32) then some ((1 : Int32), I_12) else gd (vp_in ((118 : Int32)) 121) (if (I_12 ((a0 + 10)) ((118 : Int32)).toNatClampNeg) = x_10 then if r_11 = (-9 : Int32) then if x4 = 0 then some ((1 : Int32), I_12) else some ((0 : Int32), I_12) else some ((1 : Int32), I_12) else some ((0 : Int32), I_12)))
set_option maxHeartbeats 4000000 in
set_option maxRecDepth 100000 in
theorem vX8_isRight_10 {X : CX} {I' : HI} {r : Int32} {J : HJ} (hX : OKX X cX8_isRight RX8 5 123 7) (hret : RetZ X cX8_isRight r I' J) (a0 : Nat) (x1 : Int32) (x2 : Int32) (x3 : Int32) (hk0 : gK (xG X) a0 = 9)   : ∀ (n : Nat) (I : HI) (x4 : Int32) (x5 : Int32), wl3 (X8_isRight_B10 a0 x1 x2 x3) n I x4 x5 = some (r, I') → V X I J 10 [some (.ref a0), some (.int x1), some (.int x2), some (.int x3), some (.int x4), some (.int x5), none] [] := by
  refine wl3_V (P := fun (I : HI) (x4 : Int32) (x5 : Int32) => V X I J 10 [some (.ref a0), some (.int x1), some (.int x2), some (.int x3), some (.int x4), some (.int x5), none] []) ?_
  intro k10 hc10 I x4 x5 hf
  unfold X8_isRight_B10 at hf
  refine r_iload hX dX8_isRight_10 rfl ?_
  refine r_aload_n hX dX8_isRight_12 rfl ?_
  refine g_8_9 hX fl_X8_78 hk0 dX8_isRight_13 ?_
  refine r_icmp_ge (tgt := 77) hX dX8_isRight_16 (by decide) (fun c_3 => ?_) (fun c_3 => ?_)
  · have hf := hf_t c_3 hf
    refine r_iload hX dX8_isRight_19 rfl ?_
    refine r_if_ne (tgt := 45) hX dX8_isRight_21 (by decide) (fun c_4 => ?_) (fun c_4 => ?_)
    · have hf := hf_t c_4 hf
      refine r_iload hX dX8_isRight_24 rfl ?_
      refine r_iload_n hX dX8_isRight_26 rfl ?_
      refine r_icmp_eq (tgt := 49) hX dX8_isRight_27 (by decide) (fun c_5 => ?_) (fun c_5 => ?_)
      · have hf := hf_t c_5 hf
        refine V.mask [true, true, true, true, false, true, false] ?_
        exact vX8_isRight_49 hX hret a0 x1 x2 x3 x5 hk0 k10 hc10 hf
      · have hf := hf_f c_5 hf
        refine r_aload_n hX dX8_isRight_30 rfl ?_
        refine g_8_19 hX fl_X8_44 hk0 dX8_isRight_31 ?_
        refine r_iload hX dX8_isRight_34 rfl ?_
        refine r_iload_n hX dX8_isRight_36 rfl ?_
        obtain ⟨r_6, h_7, hf⟩ := bd1_some hf
        refine r_callS (As := [.ref ((a0 + 9)), .int x5, .int x2]) hX (k_X8_placeOf (l := xl X) (J := J) hX.ok ((q_9_19 hX hk0)) h_7) pk_X8_placeOf ml_X8_115 rfl rfl rfl (Nat.le_of_ble_eq_true rfl) dX8_isRight_37 ?_
        refine r_bipush (v := -9) hX dX8_isRight_40 (by decide) ?_
        refine r_icmp_eq (tgt := 49) hX dX8_isRight_42 (by decide) (fun c_8 => ?_) (fun c_8 => ?_)
        · have hf := hf_t c_8 hf
          refine V.mask [true, true, true, true, false, true, false] ?_
          exact vX8_isRight_49 hX hret a0 x1 x2 x3 x5 hk0 k10 hc10 hf
        · have hf := hf_f c_8 hf
          refine V.mask [true, true, true, true, false, true, false] ?_
          exact vX8_isRight_45 hX hret a0 x1 x2 x3 x5 hk0 k10 hc10 hf
    · have hf := hf_f c_4 hf
      refine V.mask [true, true, true, true, false, true, false] ?_
      exact vX8_isRight_45 hX hret a0 x1 x2 x3 x5 hk0 k10 hc10 hf
  · have hf := hf_f c_3 hf
    refine r_aload_n hX dX8_isRight_77 rfl ?_
    refine g_8_20 hX fl_X8_47 hk0 dX8_isRight_78 ?_
    refine r_bipush (v := 118) hX dX8_isRight_81 (by decide) ?_
    obtain ⟨g_9, hf⟩ := gd_some hf
    refine r_iald (n := 121) hX rfl ((q_9_20 hX hk0)) g_9 dX8_isRight_83 ?_
    obtain ⟨x_10, ex_10, hf⟩ := lt1_some hf
    refine V.topi ex_10 ?_
    refine r_istore hX dX8_isRight_84 rfl rfl ?_
    refine r_aload_n hX dX8_isRight_86 rfl ?_
    refine r_aload_n hX dX8_isRight_87 rfl ?_
    refine g_8_20 hX fl_X8_47 hk0 dX8_isRight_88 ?_
    refine r_iload_n hX dX8_isRight_91 rfl ?_
    refine r_iload_n hX dX8_isRight_92 rfl ?_
    obtain ⟨r_11, I_12, h_13, hf⟩ := bd2_some hf
    refine r_callV (As := [.ref ((a0 + 10)), .int x1, .int x2]) (ci := 8) hX (k_X8_askOn (l := xl X) (J := J) hX.ok hk0 ((q_9_20 hX hk0)) h_13) pk_X8_askOn ml_X8_217 rfl rfl rfl rfl hk0 rfl rfl rfl (Nat.le_of_ble_eq_true rfl) dX8_isRight_93 ?_
    refine r_istore hX dX8_isRight_96 rfl rfl ?_
    refine r_iload hX dX8_isRight_98 rfl ?_
    refine r_bipush (v := 10) hX dX8_isRight_100 (by decide) ?_
    refine r_icmp_eq (tgt := 129) hX dX8_isRight_102 (by decide) (fun c_14 => ?_) (fun c_14 => ?_)
    · have hf := hf_t c_14 hf
      refine r_iconst (v := 1) hX dX8_isRight_129 rfl ?_
      refine r_goto (tgt := 134) hX dX8_isRight_130 (by decide) ?_
      cases hf
      exact hret _ _ zb_1 dX8_isRight_134
    · have hf := hf_f c_14 hf
      refine r_aload_n hX dX8_isRight_105 rfl ?_
      refine g_8_20 hX fl_X8_47 hk0 dX8_isRight_106 ?_
      refine r_bipush (v := 118) hX dX8_isRight_109 (by decide) ?_
      obtain ⟨g_15, hf⟩ := gd_some hf
      refine r_iald (n := 121) hX rfl ((q_9_20 hX hk0)) g_15 dX8_isRight_111 ?_
      refine r_iload hX dX8_isRight_112 rfl ?_
      refine r_icmp_ne (tgt := 133) hX dX8_isRight_114 (by decide) (fun c_16 => ?_) (fun c_16 => ?_)
      · have hf := hf_t c_16 hf
        refine r_iload hX dX8_isRight_117 rfl ?_
        refine r_bipush (v := -9) hX dX8_isRight_119 (by decide) ?_
        refine r_icmp_ne (tgt := 129) hX dX8_isRight_121 (by decide) (fun c_17 => ?_) (fun c_17 => ?_)
        · have hf := hf_t c_17 hf
          refine r_iload hX dX8_isRight_124 rfl ?_
          refine r_if_ne (tgt := 133) hX dX8_isRight_126 (by decide) (fun c_18 => ?_) (fun c_18 => ?_)
          · have hf := hf_t c_18 hf
            refine r_iconst (v := 1) hX dX8_isRight_129 rfl ?_
            refine r_goto (tgt := 134) hX dX8_isRight_130 (by decide) ?_
            cases hf
            exact hret _ _ zb_1 dX8_isRight_134
          · have hf := hf_f c_18 hf
            refine r_iconst (v := 0) hX dX8_isRight_133 rfl ?_
            cases hf
            exact hret _ _ zb_0 dX8_isRight_134
        · have hf := hf_f c_17 hf
          refine r_iconst (v := 1) hX dX8_isRight_129 rfl ?_
          refine r_goto (tgt := 134) hX dX8_isRight_130 (by decide) ?_
          cases hf
          exact hret _ _ zb_1 dX8_isRight_134
      · have hf := hf_f c_16 hf
        refine r_iconst (v := 0) hX dX8_isRight_133 rfl ?_
        cases hf
        exact hret _ _ zb_0 dX8_isRight_134
noncomputable def f_X8_isRight (I : HI) (a0 : Nat) (x1 : Int32) (x2 : Int32) (x3 : Int32) : Option (Int32 × HI) := bd1 (f_X8_layTrial I a0) fun I_1 => wl3 (X8_isRight_B10 a0 x1 x2 x3) 5000 I_1 ((0 : Int32)) ((0 : Int32))
set_option maxHeartbeats 4000000 in
set_option maxRecDepth 100000 in
theorem k_X8_isRight {G : GX} {l : Launch} {I : HI} {J : HJ} {I' : HI} {r : Int32} (hG : OKG G) {a0 : Nat} {x1 : Int32} {x2 : Int32} {x3 : Int32} (hk0 : gK G a0 = 9) (hf : f_X8_isRight I a0 x1 x2 x3 = some (r, I')) : Ctr G l yX8_isRight cX8_isRight 7 (some .boolean) 5 123 [.ref a0, .int x1, .int x2, .int x3] I J (some (.int r)) I' J := by
  refine ctr_Zb hG (by decide) [some (.ref a0), some (.int x1), some (.int x2), some (.int x3), none, none, none] rfl rfl fun X e1 e2 hX hret => ?_
  subst e1; subst e2
  unfold f_X8_isRight at hf
  refine r_aload_n hX dX8_isRight_0 rfl ?_
  obtain ⟨I_1, h_2, hf⟩ := bd1_some hf
  refine r_callV (As := []) (ci := 8) hX (k_X8_layTrial (l := xl X) (J := J) hX.ok hk0 h_2) pk_X8_layTrial ml_X8_244 rfl rfl rfl rfl hk0 rfl rfl rfl (Nat.le_of_ble_eq_true rfl) dX8_isRight_1 ?_
  refine r_iconst (v := 0) hX dX8_isRight_4 rfl ?_
  refine r_istore hX dX8_isRight_5 rfl rfl ?_
  refine r_iconst (v := 0) hX dX8_isRight_7 rfl ?_
  refine r_istore hX dX8_isRight_8 rfl rfl ?_
  refine V.mask [true, true, true, true, true, true, false] ?_
  exact vX8_isRight_10 hX hret a0 x1 x2 x3 hk0 5000 I_1 ((0 : Int32)) ((0 : Int32)) hf
noncomputable def X8_lost_J98 (I : HI) (a0 : Nat) (x1 : Int32) (x2 : Int32) (x3 : Int32) (x4 : Int32) (x6 : Int32) (sx0 : Int32) (sx1 : Int32) (k43 : HI → Int32 → Int32 → Option (Int32 × HI)) : Option (Int32 × HI) := lt1 ((sx0 + sx1)) fun x_28 => lt1 (x6 + (1 : Int32)) fun x_29 => k43 I x_28 x_29
set_option maxHeartbeats 4000000 in
set_option maxRecDepth 100000 in
theorem vX8_lost_98 {X : CX} {I' : HI} {r : Int32} {I : HI} {J : HJ} (hX : OKX X cX8_lost RX8 6 149 7) (hret : RetI X cX8_lost r I' J) (a0 : Nat) (x1 : Int32) (x2 : Int32) (x3 : Int32) (x4 : Int32) (x6 : Int32) (sx0 : Int32) (sx1 : Int32) (hk0 : gK (xG X) a0 = 9) (k43 : HI → Int32 → Int32 → Option (Int32 × HI)) (hc43 : ∀ (I : HI) (x5 : Int32) (x6 : Int32), k43 I x5 x6 = some (r, I') → V X I J 43 [some (.ref a0), some (.int x1), some (.int x2), some (.int x3), some (.int x4), some (.int x5), some (.int x6)] []) (hf : X8_lost_J98 I a0 x1 x2 x3 x4 x6 sx0 sx1 k43 = some (r, I')) : V X I J 98 [some (.ref a0), some (.int x1), some (.int x2), some (.int x3), some (.int x4), none, some (.int x6)] [.int sx1, .int sx0] := by
  unfold X8_lost_J98 at hf
  refine r_iadd hX dX8_lost_98 ?_
  obtain ⟨x_28, ex_28, hf⟩ := lt1_some hf
  refine V.topi ex_28 ?_
  refine r_istore hX dX8_lost_99 rfl rfl ?_
  obtain ⟨x_29, ex_29, hf⟩ := lt1_some hf
  refine r_iincE (n' := 1) ex_29 hX dX8_lost_101 rfl rfl rfl rfl ?_
  refine r_goto (tgt := 43) hX dX8_lost_104 (by decide) ?_
  refine V.mask [true, true, true, true, true, true, true] ?_
  exact hc43 I x_28 x_29 hf
noncomputable def X8_lost_B43 (a0 : Nat) (x1 : Int32) (x2 : Int32) (x3 : Int32) (x4 : Int32) (k43 : HI → Int32 → Int32 → Option (Int32 × HI)) (I : HI) (x5 : Int32) (x6 : Int32) : Option (Int32 × HI) := if x6 < ((1 : Int32) <<< ((I a0 9) &&& 31)) then bd2 (f_X8_isRight I a0 x1 x2 x6) fun r_12 I_13 => if r_12 = 0 then X8_lost_J98 I_13 a0 x1 x2 x3 x4 x6 x5 ((0 : Int32)) k43 else bd1 (f_X8_ones x6) fun r_16 => bd1 (f_X8_power x3 r_16) fun r_18 => bd1 (f_X8_ones x6) fun r_20 => bd1 (f_X8_power (((10 : Int32) - x3)) (((I_13 a0 9) - r_20))) fun r_22 => X8_lost_J98 I_13 a0 x1 x2 x3 x4 x6 x5 ((r_18 * r_22)) k43 else bd1 (f_X8_power ((10 : Int32)) ((I a0 9))) fun r_24 => bd1 (f_X8_fraction x5 r_24 x4) fun r_26 => some (r_26, I)
set_option maxHeartbeats 4000000 in
set_option maxRecDepth 100000 in
theorem vX8_lost_43 {X : CX} {I' : HI} {r : Int32} {J : HJ} (hX : OKX X cX8_lost RX8 6 149 7) (hret : RetI X cX8_lost r I' J) (a0 : Nat) (x1 : Int32) (x2 : Int32) (x3 : Int32) (x4 : Int32) (hk0 : gK (xG X) a0 = 9)   : ∀ (n : Nat) (I : HI) (x5 : Int32) (x6 : Int32), wl3 (X8_lost_B43 a0 x1 x2 x3 x4) n I x5 x6 = some (r, I') → V X I J 43 [some (.ref a0), some (.int x1), some (.int x2), some (.int x3), some (.int x4), some (.int x5), some (.int x6)] [] := by
  refine wl3_V (P := fun (I : HI) (x5 : Int32) (x6 : Int32) => V X I J 43 [some (.ref a0), some (.int x1), some (.int x2), some (.int x3), some (.int x4), some (.int x5), some (.int x6)] []) ?_
  intro k43 hc43 I x5 x6 hf
  unfold X8_lost_B43 at hf
  refine r_iload hX dX8_lost_43 rfl ?_
  refine r_iconst (v := 1) hX dX8_lost_45 rfl ?_
  refine r_aload_n hX dX8_lost_46 rfl ?_
  refine g_8_9 hX fl_X8_78 hk0 dX8_lost_47 ?_
  refine r_ishl hX dX8_lost_50 ?_
  refine r_icmp_ge (tgt := 107) hX dX8_lost_51 (by decide) (fun c_11 => ?_) (fun c_11 => ?_)
  · have hf := hf_t c_11 hf
    refine r_iload hX dX8_lost_54 rfl ?_
    refine r_aload_n hX dX8_lost_56 rfl ?_
    refine r_iload_n hX dX8_lost_57 rfl ?_
    refine r_iload_n hX dX8_lost_58 rfl ?_
    refine r_iload hX dX8_lost_59 rfl ?_
    obtain ⟨r_12, I_13, h_14, hf⟩ := bd2_some hf
    refine r_callV (As := [.int x1, .int x2, .int x6]) (ci := 8) hX (k_X8_isRight (l := xl X) (J := J) hX.ok hk0 h_14) pk_X8_isRight ml_X8_296 rfl rfl rfl rfl hk0 rfl rfl rfl (Nat.le_of_ble_eq_true rfl) dX8_lost_61 ?_
    refine r_if_eq (tgt := 97) hX dX8_lost_64 (by decide) (fun c_15 => ?_) (fun c_15 => ?_)
    · have hf := hf_t c_15 hf
      refine r_iconst (v := 0) hX dX8_lost_97 rfl ?_
      refine V.mask [true, true, true, true, true, false, true] ?_
      exact vX8_lost_98 hX hret a0 x1 x2 x3 x4 x6 x5 ((0 : Int32)) hk0 k43 hc43 hf
    · have hf := hf_f c_15 hf
      refine r_iload_n hX dX8_lost_67 rfl ?_
      refine r_iload hX dX8_lost_68 rfl ?_
      obtain ⟨r_16, h_17, hf⟩ := bd1_some hf
      refine r_callS (As := [.int x6]) hX (k_X8_ones (l := xl X) (I := I_13) (J := J) hX.ok  h_17) pk_X8_ones ml_X8_226 rfl rfl rfl (Nat.le_of_ble_eq_true rfl) dX8_lost_70 ?_
      obtain ⟨r_18, h_19, hf⟩ := bd1_some hf
      refine r_callS (As := [.int x3, .int r_16]) hX (k_X8_power (l := xl X) (I := I_13) (J := J) hX.ok  h_19) pk_X8_power ml_X8_241 rfl rfl rfl (Nat.le_of_ble_eq_true rfl) dX8_lost_73 ?_
      refine r_bipush (v := 10) hX dX8_lost_76 (by decide) ?_
      refine r_iload_n hX dX8_lost_78 rfl ?_
      refine r_isub hX dX8_lost_79 ?_
      refine r_aload_n hX dX8_lost_80 rfl ?_
      refine g_8_9 hX fl_X8_78 hk0 dX8_lost_81 ?_
      refine r_iload hX dX8_lost_84 rfl ?_
      obtain ⟨r_20, h_21, hf⟩ := bd1_some hf
      refine r_callS (As := [.int x6]) hX (k_X8_ones (l := xl X) (I := I_13) (J := J) hX.ok  h_21) pk_X8_ones ml_X8_226 rfl rfl rfl (Nat.le_of_ble_eq_true rfl) dX8_lost_86 ?_
      refine r_isub hX dX8_lost_89 ?_
      obtain ⟨r_22, h_23, hf⟩ := bd1_some hf
      refine r_callS (As := [.int (((10 : Int32) - x3)), .int (((I_13 a0 9) - r_20))]) hX (k_X8_power (l := xl X) (I := I_13) (J := J) hX.ok  h_23) pk_X8_power ml_X8_241 rfl rfl rfl (Nat.le_of_ble_eq_true rfl) dX8_lost_90 ?_
      refine r_imul hX dX8_lost_93 ?_
      refine r_goto (tgt := 98) hX dX8_lost_94 (by decide) ?_
      refine V.mask [true, true, true, true, true, false, true] ?_
      exact vX8_lost_98 hX hret a0 x1 x2 x3 x4 x6 x5 ((r_18 * r_22)) hk0 k43 hc43 hf
  · have hf := hf_f c_11 hf
    refine r_iload hX dX8_lost_107 rfl ?_
    refine r_bipush (v := 10) hX dX8_lost_109 (by decide) ?_
    refine r_aload_n hX dX8_lost_111 rfl ?_
    refine g_8_9 hX fl_X8_78 hk0 dX8_lost_112 ?_
    obtain ⟨r_24, h_25, hf⟩ := bd1_some hf
    refine r_callS (As := [.int ((10 : Int32)), .int ((I a0 9))]) hX (k_X8_power (l := xl X) (I := I) (J := J) hX.ok  h_25) pk_X8_power ml_X8_241 rfl rfl rfl (Nat.le_of_ble_eq_true rfl) dX8_lost_115 ?_
    refine r_iload hX dX8_lost_118 rfl ?_
    obtain ⟨r_26, h_27, hf⟩ := bd1_some hf
    refine r_callS (As := [.int x5, .int r_24, .int x4]) hX (k_X8_fraction (l := xl X) (I := I) (J := J) hX.ok  h_27) pk_X8_fraction ml_X8_290 rfl rfl rfl (Nat.le_of_ble_eq_true rfl) dX8_lost_120 ?_
    cases hf
    exact hret _ _ dX8_lost_123
noncomputable def f_X8_lost (I : HI) (a0 : Nat) (x1 : Int32) (x2 : Int32) (x3 : Int32) (x4 : Int32) : Option (Int32 × HI) := lt1 (sI I a0 0 ((0 : Int32))) fun I_1 => bd1 (f_X8_noProxy I_1 a0 x1) fun r_2 => if r_2 = 0 then bd1 (f_X8_noPage x2) fun r_5 => if r_5 = 0 then bd1 (f_X8_in x3.toInt64 ((0 : Int64)) ((10 : Int64))) fun r_8 => if r_8 = 0 then some ((-2 : Int32), I_1) else wl3 (X8_lost_B43 a0 x1 x2 x3 x4) 5000 I_1 ((0 : Int32)) ((0 : Int32)) else some ((-1 : Int32), I_1) else some ((-1 : Int32), I_1)
set_option maxHeartbeats 4000000 in
set_option maxRecDepth 100000 in
theorem k_X8_lost {G : GX} {l : Launch} {I : HI} {J : HJ} {I' : HI} {r : Int32} (hG : OKG G) {a0 : Nat} {x1 : Int32} {x2 : Int32} {x3 : Int32} {x4 : Int32} (hk0 : gK G a0 = 9) (hf : f_X8_lost I a0 x1 x2 x3 x4 = some (r, I')) : Ctr G l yX8_lost cX8_lost 7 (some .int) 6 149 [.ref a0, .int x1, .int x2, .int x3, .int x4] I J (some (.int r)) I' J := by
  refine ctr_I hG (by decide) [some (.ref a0), some (.int x1), some (.int x2), some (.int x3), some (.int x4), none, none] rfl rfl fun X e1 e2 hX hret => ?_
  subst e1; subst e2
  unfold f_X8_lost at hf
  refine r_aload_n hX dX8_lost_0 rfl ?_
  refine r_iconst (v := 0) hX dX8_lost_1 rfl ?_
  obtain ⟨I_1, eI_1, hf⟩ := lt1_some hf
  refine p_8_0 eI_1 hX fl_X8_75 hk0 dX8_lost_2 ?_
  refine r_aload_n hX dX8_lost_5 rfl ?_
  refine r_iload_n hX dX8_lost_6 rfl ?_
  obtain ⟨r_2, h_3, hf⟩ := bd1_some hf
  refine r_callV (As := [.int x1]) (ci := 8) hX (k_X8_noProxy (l := xl X) (J := J) hX.ok hk0 h_3) pk_X8_noProxy ml_X8_200 rfl rfl rfl rfl hk0 rfl rfl rfl (Nat.le_of_ble_eq_true rfl) dX8_lost_7 ?_
  refine r_if_ne (tgt := 20) hX dX8_lost_10 (by decide) (fun c_4 => ?_) (fun c_4 => ?_)
  · have hf := hf_t c_4 hf
    refine r_iload_n hX dX8_lost_13 rfl ?_
    obtain ⟨r_5, h_6, hf⟩ := bd1_some hf
    refine r_callS (As := [.int x2]) hX (k_X8_noPage (l := xl X) (I := I_1) (J := J) hX.ok  h_6) pk_X8_noPage ml_X8_211 rfl rfl rfl (Nat.le_of_ble_eq_true rfl) dX8_lost_14 ?_
    refine r_if_eq (tgt := 22) hX dX8_lost_17 (by decide) (fun c_7 => ?_) (fun c_7 => ?_)
    · have hf := hf_t c_7 hf
      refine r_iload_n hX dX8_lost_22 rfl ?_
      refine r_i2l hX dX8_lost_23 ?_
      refine r_lconst (v := 0) hX dX8_lost_24 rfl ?_
      refine r_ldc2 hX dX8_lost_25 cn_X8_294 ?_
      obtain ⟨r_8, h_9, hf⟩ := bd1_some hf
      refine r_callS (As := [.long x3.toInt64, .long ((0 : Int64)), .long ((10 : Int64))]) hX (k_X8_in (l := xl X) (I := I_1) (J := J) hX.ok  h_9) pk_X8_in ml_X8_81 rfl rfl rfl (Nat.le_of_ble_eq_true rfl) dX8_lost_28 ?_
      refine r_if_ne (tgt := 37) hX dX8_lost_31 (by decide) (fun c_10 => ?_) (fun c_10 => ?_)
      · have hf := hf_t c_10 hf
        refine r_bipush (v := -2) hX dX8_lost_34 (by decide) ?_
        cases hf
        exact hret _ _ dX8_lost_36
      · have hf := hf_f c_10 hf
        refine r_iconst (v := 0) hX dX8_lost_37 rfl ?_
        refine r_istore hX dX8_lost_38 rfl rfl ?_
        refine r_iconst (v := 0) hX dX8_lost_40 rfl ?_
        refine r_istore hX dX8_lost_41 rfl rfl ?_
        refine V.mask [true, true, true, true, true, true, true] ?_
        exact vX8_lost_43 hX hret a0 x1 x2 x3 x4 hk0 5000 I_1 ((0 : Int32)) ((0 : Int32)) hf
    · have hf := hf_f c_7 hf
      refine r_iconst (v := -1) hX dX8_lost_20 rfl ?_
      cases hf
      exact hret _ _ dX8_lost_21
  · have hf := hf_f c_4 hf
    refine r_iconst (v := -1) hX dX8_lost_20 rfl ?_
    cases hf
    exact hret _ _ dX8_lost_21
noncomputable def f_X8_seed (I : HI) (J : HJ) (a0 : Nat) (y1 : Int64) : Option (Int64 × HI × HJ) := lt1 (sI I a0 0 ((0 : Int32))) fun I_1 => lt1 ((J a0)) fun y_2 => lt1 (sJ J a0 y1) fun J_3 => some (y_2, I_1, J_3)
set_option maxHeartbeats 4000000 in
set_option maxRecDepth 100000 in
theorem k_X8_seed {G : GX} {l : Launch} {I : HI} {J : HJ} {I' : HI} {J' : HJ} {r : Int64} (hG : OKG G) {a0 : Nat} {y1 : Int64} (hk0 : gK G a0 = 9) (hf : f_X8_seed I J a0 y1 = some (r, I', J')) : Ctr G l yX8_seed cX8_seed 5 (some .long) 0 0 [.ref a0, .long y1] I J (some (.long r)) I' J' := by
  refine ctr_L hG (by decide) [some (.ref a0), some (.long y1), none, none, none] rfl rfl fun X e1 e2 hX hret => ?_
  subst e1; subst e2
  unfold f_X8_seed at hf
  refine r_aload_n hX dX8_seed_0 rfl ?_
  refine r_iconst (v := 0) hX dX8_seed_1 rfl ?_
  obtain ⟨I_1, eI_1, hf⟩ := lt1_some hf
  refine p_8_0 eI_1 hX fl_X8_75 hk0 dX8_seed_2 ?_
  refine r_aload_n hX dX8_seed_5 rfl ?_
  refine g_8_29 hX fl_X8_299 hk0 dX8_seed_6 ?_
  obtain ⟨y_2, ey_2, hf⟩ := lt1_some hf
  refine V.topl ey_2 ?_
  refine r_lstore_n hX dX8_seed_9 rfl rfl ?_
  refine r_aload_n hX dX8_seed_10 rfl ?_
  refine r_lload_n hX dX8_seed_11 rfl ?_
  obtain ⟨J_3, eJ_3, hf⟩ := lt1_some hf
  refine p_8_29 eJ_3 hX fl_X8_299 hk0 dX8_seed_12 ?_
  refine r_lload_n hX dX8_seed_15 rfl ?_
  cases hf
  exact hret _ _ dX8_seed_16
noncomputable def X8_drawn_J85 (I : HI) (J : HJ) (a0 : Nat) (x1 : Int32) (x2 : Int32) (k26 : HI → HJ → Int32 → Option (Int32 × HI × HJ)) : Option (Int32 × HI × HJ) := lt1 (x2 + (1 : Int32)) fun x_19 => k26 I J x_19
set_option maxHeartbeats 4000000 in
set_option maxRecDepth 100000 in
theorem vX8_drawn_85 {X : CX} {I' : HI} {J' : HJ} {r : Int32} {I : HI} {J : HJ} (hX : OKX X cX8_drawn RX8 5 123 4) (hret : RetI X cX8_drawn r I' J') (a0 : Nat) (x1 : Int32) (x2 : Int32) (hk0 : gK (xG X) a0 = 9) (k26 : HI → HJ → Int32 → Option (Int32 × HI × HJ)) (hc26 : ∀ (I : HI) (J : HJ) (x2 : Int32), k26 I J x2 = some (r, I', J') → V X I J 26 [some (.ref a0), some (.int x1), some (.int x2), none] []) (hf : X8_drawn_J85 I J a0 x1 x2 k26 = some (r, I', J')) : V X I J 85 [some (.ref a0), some (.int x1), some (.int x2), none] [] := by
  unfold X8_drawn_J85 at hf
  obtain ⟨x_19, ex_19, hf⟩ := lt1_some hf
  refine r_iincE (n' := 1) ex_19 hX dX8_drawn_85 rfl rfl rfl rfl ?_
  refine r_goto (tgt := 26) hX dX8_drawn_88 (by decide) ?_
  refine V.mask [true, true, true, false] ?_
  exact hc26 I J x_19 hf
noncomputable def X8_drawn_B26 (a0 : Nat) (x1 : Int32) (k26 : HI → HJ → Int32 → Option (Int32 × HI × HJ)) (I : HI) (J : HJ) (x2 : Int32) : Option (Int32 × HI × HJ) := if x2 < x1 then lt1 (sJ J a0 ((((J a0) * (6364136223846793005 : Int64)) + (1442695040888963407 : Int64)))) fun J_8 => lt1 ((((((J_8 a0)).toUInt64 >>> (((33 : Int32)).toInt64.toUInt64 &&& Int64.toUInt64 63)).toInt64)).toInt32) fun x_9 => if 0 < (I a0 9) then gd (¬ (I a0 9) = 0) (bd2 (f_X8_askOn I a0 ((a0 + 10)) ((jrem x_9 ((I a0 9)))) ((jrem ((x_9 / (8 : Int32))) ((32 : Int32))))) fun r_12 I_13 => X8_drawn_J85 I_13 J_8 a0 x1 x2 k26) else X8_drawn_J85 I J_8 a0 x1 x2 k26 else bd1 (f_X8_costOf I ((a0 + 10))) fun r_15 => bd1 (f_X8_costOf I ((a0 + 9))) fun r_17 => some ((r_15 - r_17), I, J)
set_option maxHeartbeats 4000000 in
set_option maxRecDepth 100000 in
theorem vX8_drawn_26 {X : CX} {I' : HI} {J' : HJ} {r : Int32} (hX : OKX X cX8_drawn RX8 5 123 4) (hret : RetI X cX8_drawn r I' J') (a0 : Nat) (x1 : Int32) (hk0 : gK (xG X) a0 = 9)   : ∀ (n : Nat) (I : HI) (J : HJ) (x2 : Int32), wl3 (X8_drawn_B26 a0 x1) n I J x2 = some (r, I', J') → V X I J 26 [some (.ref a0), some (.int x1), some (.int x2), none] [] := by
  refine wl3_V (P := fun (I : HI) (J : HJ) (x2 : Int32) => V X I J 26 [some (.ref a0), some (.int x1), some (.int x2), none] []) ?_
  intro k26 hc26 I J x2 hf
  unfold X8_drawn_B26 at hf
  refine r_iload_n hX dX8_drawn_26 rfl ?_
  refine r_iload_n hX dX8_drawn_27 rfl ?_
  refine r_icmp_ge (tgt := 91) hX dX8_drawn_28 (by decide) (fun c_7 => ?_) (fun c_7 => ?_)
  · have hf := hf_t c_7 hf
    refine r_aload_n hX dX8_drawn_31 rfl ?_
    refine r_aload_n hX dX8_drawn_32 rfl ?_
    refine g_8_29 hX fl_X8_299 hk0 dX8_drawn_33 ?_
    refine r_ldc2 hX dX8_drawn_36 cn_X8_305 ?_
    refine r_lmul hX dX8_drawn_39 ?_
    refine r_ldc2 hX dX8_drawn_40 cn_X8_307 ?_
    refine r_ladd hX dX8_drawn_43 ?_
    obtain ⟨J_8, eJ_8, hf⟩ := lt1_some hf
    refine p_8_29 eJ_8 hX fl_X8_299 hk0 dX8_drawn_44 ?_
    refine r_aload_n hX dX8_drawn_47 rfl ?_
    refine g_8_29 hX fl_X8_299 hk0 dX8_drawn_48 ?_
    refine r_bipush (v := 33) hX dX8_drawn_51 (by decide) ?_
    refine r_lushr hX dX8_drawn_53 ?_
    refine r_l2i hX dX8_drawn_54 ?_
    obtain ⟨x_9, ex_9, hf⟩ := lt1_some hf
    refine V.topi ex_9 ?_
    refine r_istore_n hX dX8_drawn_55 rfl rfl ?_
    refine r_aload_n hX dX8_drawn_56 rfl ?_
    refine g_8_9 hX fl_X8_78 hk0 dX8_drawn_57 ?_
    refine r_if_le (tgt := 85) hX dX8_drawn_60 (by decide) (fun c_10 => ?_) (fun c_10 => ?_)
    · have hf := hf_t c_10 hf
      refine r_aload_n hX dX8_drawn_63 rfl ?_
      refine r_aload_n hX dX8_drawn_64 rfl ?_
      refine g_8_20 hX fl_X8_47 hk0 dX8_drawn_65 ?_
      refine r_iload_n hX dX8_drawn_68 rfl ?_
      refine r_aload_n hX dX8_drawn_69 rfl ?_
      refine g_8_9 hX fl_X8_78 hk0 dX8_drawn_70 ?_
      obtain ⟨g_11, hf⟩ := gd_some hf
      refine r_irem hX dX8_drawn_73 g_11 ?_
      refine r_iload_n hX dX8_drawn_74 rfl ?_
      refine r_bipush (v := 8) hX dX8_drawn_75 (by decide) ?_
      refine r_idiv hX dX8_drawn_77 (by decide) ?_
      refine r_bipush (v := 32) hX dX8_drawn_78 (by decide) ?_
      refine r_irem hX dX8_drawn_80 (by decide) ?_
      obtain ⟨r_12, I_13, h_14, hf⟩ := bd2_some hf
      refine r_callV (As := [.ref ((a0 + 10)), .int ((jrem x_9 ((I a0 9)))), .int ((jrem ((x_9 / (8 : Int32))) ((32 : Int32))))]) (ci := 8) hX (k_X8_askOn (l := xl X) (J := J_8) hX.ok hk0 ((q_9_20 hX hk0)) h_14) pk_X8_askOn ml_X8_217 rfl rfl rfl rfl hk0 rfl rfl rfl (Nat.le_of_ble_eq_true rfl) dX8_drawn_81 ?_
      refine r_pop hX dX8_drawn_84 rfl ?_
      refine V.mask [true, true, true, false] ?_
      exact vX8_drawn_85 hX hret a0 x1 x2 hk0 k26 hc26 hf
    · have hf := hf_f c_10 hf
      refine V.mask [true, true, true, false] ?_
      exact vX8_drawn_85 hX hret a0 x1 x2 hk0 k26 hc26 hf
  · have hf := hf_f c_7 hf
    refine r_aload_n hX dX8_drawn_91 rfl ?_
    refine g_8_20 hX fl_X8_47 hk0 dX8_drawn_92 ?_
    obtain ⟨r_15, h_16, hf⟩ := bd1_some hf
    refine r_callS (As := [.ref ((a0 + 10))]) hX (k_X8_costOf (l := xl X) (J := J) hX.ok ((q_9_20 hX hk0)) h_16) pk_X8_costOf ml_X8_247 rfl rfl rfl (Nat.le_of_ble_eq_true rfl) dX8_drawn_95 ?_
    refine r_aload_n hX dX8_drawn_98 rfl ?_
    refine g_8_19 hX fl_X8_44 hk0 dX8_drawn_99 ?_
    obtain ⟨r_17, h_18, hf⟩ := bd1_some hf
    refine r_callS (As := [.ref ((a0 + 9))]) hX (k_X8_costOf (l := xl X) (J := J) hX.ok ((q_9_19 hX hk0)) h_18) pk_X8_costOf ml_X8_247 rfl rfl rfl (Nat.le_of_ble_eq_true rfl) dX8_drawn_102 ?_
    refine r_isub hX dX8_drawn_105 ?_
    cases hf
    exact hret _ _ dX8_drawn_106
noncomputable def f_X8_drawn (I : HI) (J : HJ) (a0 : Nat) (x1 : Int32) : Option (Int32 × HI × HJ) := lt1 (sI I a0 0 ((0 : Int32))) fun I_1 => bd1 (f_X8_in x1.toInt64 ((1 : Int64)) ((20 : Int64))) fun r_2 => if r_2 = 0 then some ((-2 : Int32), I_1, J) else bd1 (f_X8_layTrial I_1 a0) fun I_5 => wl3 (X8_drawn_B26 a0 x1) 5000 I_5 J ((0 : Int32))
set_option maxHeartbeats 4000000 in
set_option maxRecDepth 100000 in
theorem k_X8_drawn {G : GX} {l : Launch} {I : HI} {J : HJ} {I' : HI} {J' : HJ} {r : Int32} (hG : OKG G) {a0 : Nat} {x1 : Int32} (hk0 : gK G a0 = 9) (hf : f_X8_drawn I J a0 x1 = some (r, I', J')) : Ctr G l yX8_drawn cX8_drawn 4 (some .int) 5 123 [.ref a0, .int x1] I J (some (.int r)) I' J' := by
  refine ctr_I hG (by decide) [some (.ref a0), some (.int x1), none, none] rfl rfl fun X e1 e2 hX hret => ?_
  subst e1; subst e2
  unfold f_X8_drawn at hf
  refine r_aload_n hX dX8_drawn_0 rfl ?_
  refine r_iconst (v := 0) hX dX8_drawn_1 rfl ?_
  obtain ⟨I_1, eI_1, hf⟩ := lt1_some hf
  refine p_8_0 eI_1 hX fl_X8_75 hk0 dX8_drawn_2 ?_
  refine r_iload_n hX dX8_drawn_5 rfl ?_
  refine r_i2l hX dX8_drawn_6 ?_
  refine r_lconst (v := 1) hX dX8_drawn_7 rfl ?_
  refine r_ldc2 hX dX8_drawn_8 cn_X8_303 ?_
  obtain ⟨r_2, h_3, hf⟩ := bd1_some hf
  refine r_callS (As := [.long x1.toInt64, .long ((1 : Int64)), .long ((20 : Int64))]) hX (k_X8_in (l := xl X) (I := I_1) (J := J) hX.ok  h_3) pk_X8_in ml_X8_81 rfl rfl rfl (Nat.le_of_ble_eq_true rfl) dX8_drawn_11 ?_
  refine r_if_ne (tgt := 20) hX dX8_drawn_14 (by decide) (fun c_4 => ?_) (fun c_4 => ?_)
  · have hf := hf_t c_4 hf
    refine r_bipush (v := -2) hX dX8_drawn_17 (by decide) ?_
    cases hf
    exact hret _ _ dX8_drawn_19
  · have hf := hf_f c_4 hf
    refine r_aload_n hX dX8_drawn_20 rfl ?_
    obtain ⟨I_5, h_6, hf⟩ := bd1_some hf
    refine r_callV (As := []) (ci := 8) hX (k_X8_layTrial (l := xl X) (J := J) hX.ok hk0 h_6) pk_X8_layTrial ml_X8_244 rfl rfl rfl rfl hk0 rfl rfl rfl (Nat.le_of_ble_eq_true rfl) dX8_drawn_21 ?_
    refine r_iconst (v := 0) hX dX8_drawn_24 rfl ?_
    refine r_istore_n hX dX8_drawn_25 rfl rfl ?_
    refine V.mask [true, true, true, false] ?_
    exact vX8_drawn_26 hX hret a0 x1 hk0 5000 I_5 J ((0 : Int32)) hf
noncomputable def X8_keep_B26 (a0 : Nat) (x1 : Int32) (k26 : HI → Int32 → Option (Int32 × HI)) (I : HI) (x2 : Int32) : Option (Int32 × HI) := if x2 < (121 : Int32) then gd (vp_in x2 121) (gd (vp_in ((((121 : Int32) * x1) + x2)) 242) (lt1 (sI I ((a0 + 12)) ((((121 : Int32) * x1) + x2)).toNatClampNeg ((I ((a0 + 9)) x2.toNatClampNeg))) fun I_10 => lt1 (x2 + (1 : Int32)) fun x_11 => k26 I_10 x_11)) else some ((I a0 9), I)
set_option maxHeartbeats 4000000 in
set_option maxRecDepth 100000 in
theorem vX8_keep_26 {X : CX} {I' : HI} {r : Int32} {J : HJ} (hX : OKX X cX8_keep RX8 1 25 3) (hret : RetI X cX8_keep r I' J) (a0 : Nat) (x1 : Int32) (hk0 : gK (xG X) a0 = 9)   : ∀ (n : Nat) (I : HI) (x2 : Int32), wl2 (X8_keep_B26 a0 x1) n I x2 = some (r, I') → V X I J 26 [some (.ref a0), some (.int x1), some (.int x2)] [] := by
  refine wl2_V (P := fun (I : HI) (x2 : Int32) => V X I J 26 [some (.ref a0), some (.int x1), some (.int x2)] []) ?_
  intro k26 hc26 I x2 hf
  unfold X8_keep_B26 at hf
  refine r_iload_n hX dX8_keep_26 rfl ?_
  refine r_bipush (v := 121) hX dX8_keep_27 (by decide) ?_
  refine r_icmp_ge (tgt := 55) hX dX8_keep_29 (by decide) (fun c_7 => ?_) (fun c_7 => ?_)
  · have hf := hf_t c_7 hf
    refine r_aload_n hX dX8_keep_32 rfl ?_
    refine g_8_23 hX fl_X8_53 hk0 dX8_keep_33 ?_
    refine r_bipush (v := 121) hX dX8_keep_36 (by decide) ?_
    refine r_iload_n hX dX8_keep_38 rfl ?_
    refine r_imul hX dX8_keep_39 ?_
    refine r_iload_n hX dX8_keep_40 rfl ?_
    refine r_iadd hX dX8_keep_41 ?_
    refine r_aload_n hX dX8_keep_42 rfl ?_
    refine g_8_19 hX fl_X8_44 hk0 dX8_keep_43 ?_
    refine r_iload_n hX dX8_keep_46 rfl ?_
    obtain ⟨g_8, hf⟩ := gd_some hf
    refine r_iald (n := 121) hX rfl ((q_9_19 hX hk0)) g_8 dX8_keep_47 ?_
    obtain ⟨g_9, hf⟩ := gd_some hf
    obtain ⟨I_10, eI_10, hf⟩ := lt1_some hf
    refine r_iastE (n := 242) eI_10 hX rfl ((q_9_23 hX hk0)) g_9 dX8_keep_48 ?_
    obtain ⟨x_11, ex_11, hf⟩ := lt1_some hf
    refine r_iincE (n' := 1) ex_11 hX dX8_keep_49 rfl rfl rfl rfl ?_
    refine r_goto (tgt := 26) hX dX8_keep_52 (by decide) ?_
    refine V.mask [true, true, true] ?_
    exact hc26 I_10 x_11 hf
  · have hf := hf_f c_7 hf
    refine r_aload_n hX dX8_keep_55 rfl ?_
    refine g_8_9 hX fl_X8_78 hk0 dX8_keep_56 ?_
    cases hf
    exact hret _ _ dX8_keep_59
noncomputable def f_X8_keep (I : HI) (a0 : Nat) (x1 : Int32) : Option (Int32 × HI) := lt1 (sI I a0 0 ((0 : Int32))) fun I_1 => bd1 (f_X8_in x1.toInt64 ((0 : Int64)) ((1 : Int64))) fun r_2 => if r_2 = 0 then some ((-1 : Int32), I_1) else gd (vp_in x1 2) (lt1 (sI I_1 ((a0 + 13)) x1.toNatClampNeg ((1 : Int32))) fun I_6 => wl2 (X8_keep_B26 a0 x1) 5000 I_6 ((0 : Int32)))
set_option maxHeartbeats 4000000 in
set_option maxRecDepth 100000 in
theorem k_X8_keep {G : GX} {l : Launch} {I : HI} {J : HJ} {I' : HI} {r : Int32} (hG : OKG G) {a0 : Nat} {x1 : Int32} (hk0 : gK G a0 = 9) (hf : f_X8_keep I a0 x1 = some (r, I')) : Ctr G l yX8_keep cX8_keep 3 (some .int) 1 25 [.ref a0, .int x1] I J (some (.int r)) I' J := by
  refine ctr_I hG (by decide) [some (.ref a0), some (.int x1), none] rfl rfl fun X e1 e2 hX hret => ?_
  subst e1; subst e2
  unfold f_X8_keep at hf
  refine r_aload_n hX dX8_keep_0 rfl ?_
  refine r_iconst (v := 0) hX dX8_keep_1 rfl ?_
  obtain ⟨I_1, eI_1, hf⟩ := lt1_some hf
  refine p_8_0 eI_1 hX fl_X8_75 hk0 dX8_keep_2 ?_
  refine r_iload_n hX dX8_keep_5 rfl ?_
  refine r_i2l hX dX8_keep_6 ?_
  refine r_lconst (v := 0) hX dX8_keep_7 rfl ?_
  refine r_lconst (v := 1) hX dX8_keep_8 rfl ?_
  obtain ⟨r_2, h_3, hf⟩ := bd1_some hf
  refine r_callS (As := [.long x1.toInt64, .long ((0 : Int64)), .long ((1 : Int64))]) hX (k_X8_in (l := xl X) (I := I_1) (J := J) hX.ok  h_3) pk_X8_in ml_X8_81 rfl rfl rfl (Nat.le_of_ble_eq_true rfl) dX8_keep_9 ?_
  refine r_if_ne (tgt := 17) hX dX8_keep_12 (by decide) (fun c_4 => ?_) (fun c_4 => ?_)
  · have hf := hf_t c_4 hf
    refine r_iconst (v := -1) hX dX8_keep_15 rfl ?_
    cases hf
    exact hret _ _ dX8_keep_16
  · have hf := hf_f c_4 hf
    refine r_aload_n hX dX8_keep_17 rfl ?_
    refine g_8_24 hX fl_X8_56 hk0 dX8_keep_18 ?_
    refine r_iload_n hX dX8_keep_21 rfl ?_
    refine r_iconst (v := 1) hX dX8_keep_22 rfl ?_
    obtain ⟨g_5, hf⟩ := gd_some hf
    obtain ⟨I_6, eI_6, hf⟩ := lt1_some hf
    refine r_zastE (n := 2) eI_6 hX rfl rfl ((q_9_24 hX hk0)) g_5 zb_1 dX8_keep_23 ?_
    refine r_iconst (v := 0) hX dX8_keep_24 rfl ?_
    refine r_istore_n hX dX8_keep_25 rfl rfl ?_
    refine V.mask [true, true, true] ?_
    exact vX8_keep_26 hX hret a0 x1 hk0 5000 I_6 ((0 : Int32)) hf

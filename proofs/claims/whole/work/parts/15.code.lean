noncomputable def X8_useOn_B29 (a0 : Nat) (a1 : Nat) (k29 : HI → Int32 → Option (HI)) (I : HI) (x3 : Int32) : Option (HI) := if x3 < (I a0 9) then bd1 (f_X8_sendOn I a0 a1 x3) fun I_8 => lt1 (x3 + (1 : Int32)) fun x_10 => k29 I_8 x_10 else some I
set_option maxHeartbeats 4000000 in
set_option maxRecDepth 100000 in
theorem vX8_useOn_29 {X : CX} {I' : HI} {J : HJ} (hX : OKX X cX8_useOn RX8 3 72 4) (hret : RetV X cX8_useOn I' J) (a0 : Nat) (a1 : Nat) (hk0 : gK (xG X) a0 = 9) (hk1 : gK (xG X) a1 = 221)   : ∀ (n : Nat) (I : HI) (x3 : Int32), wl2 (X8_useOn_B29 a0 a1) n I x3 = some I' → V X I J 29 [some (.ref a0), some (.ref a1), none, some (.int x3)] [] := by
  refine wl2_V (P := fun (I : HI) (x3 : Int32) => V X I J 29 [some (.ref a0), some (.ref a1), none, some (.int x3)] []) ?_
  intro k29 hc29 I x3 hf
  unfold X8_useOn_B29 at hf
  refine r_iload_n hX dX8_useOn_29 rfl ?_
  refine r_aload_n hX dX8_useOn_30 rfl ?_
  refine g_8_9 hX fl_X8_78 hk0 dX8_useOn_31 ?_
  refine r_icmp_ge (tgt := 49) hX dX8_useOn_34 (by decide) (fun c_7 => ?_) (fun c_7 => ?_)
  · have hf := hf_t c_7 hf
    refine r_aload_n hX dX8_useOn_37 rfl ?_
    refine r_aload_n hX dX8_useOn_38 rfl ?_
    refine r_iload_n hX dX8_useOn_39 rfl ?_
    obtain ⟨I_8, h_9, hf⟩ := bd1_some hf
    refine r_callV (As := [.ref a1, .int x3]) (ci := 8) hX (k_X8_sendOn (l := xl X) (J := J) hX.ok hk0 hk1 h_9) pk_X8_sendOn ml_X8_183 rfl rfl rfl rfl hk0 rfl rfl rfl (Nat.le_of_ble_eq_true rfl) dX8_useOn_40 ?_
    obtain ⟨x_10, ex_10, hf⟩ := lt1_some hf
    refine r_iincE (n' := 1) ex_10 hX dX8_useOn_43 rfl rfl rfl rfl ?_
    refine r_goto (tgt := 29) hX dX8_useOn_46 (by decide) ?_
    refine V.mask [true, true, false, true] ?_
    exact hc29 I_8 x_10 hf
  · have hf := hf_f c_7 hf
    cases hf
    exact hret _ _ dX8_useOn_49
noncomputable def X8_useOn_B7 (a0 : Nat) (a1 : Nat) (k7 : HI → Int32 → Option (HI)) (I : HI) (x3 : Int32) : Option (HI) := if x3 < (I a0 9) then bd1 (f_X8_makeAnew I a0 a1 x3) fun I_4 => lt1 (x3 + (1 : Int32)) fun x_6 => k7 I_4 x_6 else wl2 (X8_useOn_B29 a0 a1) 5000 I ((0 : Int32))
set_option maxHeartbeats 4000000 in
set_option maxRecDepth 100000 in
theorem vX8_useOn_7 {X : CX} {I' : HI} {J : HJ} (hX : OKX X cX8_useOn RX8 3 72 4) (hret : RetV X cX8_useOn I' J) (a0 : Nat) (a1 : Nat) (hk0 : gK (xG X) a0 = 9) (hk1 : gK (xG X) a1 = 221)   : ∀ (n : Nat) (I : HI) (x3 : Int32), wl2 (X8_useOn_B7 a0 a1) n I x3 = some I' → V X I J 7 [some (.ref a0), some (.ref a1), none, some (.int x3)] [] := by
  refine wl2_V (P := fun (I : HI) (x3 : Int32) => V X I J 7 [some (.ref a0), some (.ref a1), none, some (.int x3)] []) ?_
  intro k7 hc7 I x3 hf
  unfold X8_useOn_B7 at hf
  refine r_iload_n hX dX8_useOn_7 rfl ?_
  refine r_aload_n hX dX8_useOn_8 rfl ?_
  refine g_8_9 hX fl_X8_78 hk0 dX8_useOn_9 ?_
  refine r_icmp_ge (tgt := 27) hX dX8_useOn_12 (by decide) (fun c_3 => ?_) (fun c_3 => ?_)
  · have hf := hf_t c_3 hf
    refine r_aload_n hX dX8_useOn_15 rfl ?_
    refine r_aload_n hX dX8_useOn_16 rfl ?_
    refine r_iload_n hX dX8_useOn_17 rfl ?_
    obtain ⟨I_4, h_5, hf⟩ := bd1_some hf
    refine r_callV (As := [.ref a1, .int x3]) (ci := 8) hX (k_X8_makeAnew (l := xl X) (J := J) hX.ok hk0 hk1 h_5) pk_X8_makeAnew ml_X8_151 rfl rfl rfl rfl hk0 rfl rfl rfl (Nat.le_of_ble_eq_true rfl) dX8_useOn_18 ?_
    obtain ⟨x_6, ex_6, hf⟩ := lt1_some hf
    refine r_iincE (n' := 1) ex_6 hX dX8_useOn_21 rfl rfl rfl rfl ?_
    refine r_goto (tgt := 7) hX dX8_useOn_24 (by decide) ?_
    refine V.mask [true, true, false, true] ?_
    exact hc7 I_4 x_6 hf
  · have hf := hf_f c_3 hf
    refine r_iconst (v := 0) hX dX8_useOn_27 rfl ?_
    refine r_istore_n hX dX8_useOn_28 rfl rfl ?_
    refine V.mask [true, true, false, true] ?_
    exact vX8_useOn_29 hX hret a0 a1 hk0 hk1 5000 I ((0 : Int32)) hf
noncomputable def f_X8_useOn (I : HI) (a0 : Nat) (a1 : Nat) (x2 : Int32) : Option (HI) := gd (vp_in ((116 : Int32)) 121) (lt1 (sI I a1 ((116 : Int32)).toNatClampNeg x2) fun I_2 => wl2 (X8_useOn_B7 a0 a1) 5000 I_2 ((0 : Int32)))
set_option maxHeartbeats 4000000 in
set_option maxRecDepth 100000 in
theorem k_X8_useOn {G : GX} {l : Launch} {I : HI} {J : HJ} {I' : HI} (hG : OKG G) {a0 : Nat} {a1 : Nat} {x2 : Int32} (hk0 : gK G a0 = 9) (hk1 : gK G a1 = 221) (hf : f_X8_useOn I a0 a1 x2 = some I') : Ctr G l yX8_useOn cX8_useOn 4 none 3 72 [.ref a0, .ref a1, .int x2] I J none I' J := by
  refine ctr_V hG (by decide) [some (.ref a0), some (.ref a1), some (.int x2), none] rfl rfl fun X e1 e2 hX hret => ?_
  subst e1; subst e2
  unfold f_X8_useOn at hf
  refine r_aload_n hX dX8_useOn_0 rfl ?_
  refine r_bipush (v := 116) hX dX8_useOn_1 (by decide) ?_
  refine r_iload_n hX dX8_useOn_3 rfl ?_
  obtain ⟨g_1, hf⟩ := gd_some hf
  obtain ⟨I_2, eI_2, hf⟩ := lt1_some hf
  refine r_iastE (n := 121) eI_2 hX rfl hk1 g_1 dX8_useOn_4 ?_
  refine r_iconst (v := 0) hX dX8_useOn_5 rfl ?_
  refine r_istore_n hX dX8_useOn_6 rfl rfl ?_
  refine V.mask [true, true, false, true] ?_
  exact vX8_useOn_7 hX hret a0 a1 hk0 hk1 5000 I_2 ((0 : Int32)) hf
noncomputable def X8_shelfOf_B4 (I : HI) (a0 : Nat) (x1 : Int32) (k4 : Int32 → Int32 → Option (Int32)) (x2 : Int32) (x3 : Int32) : Option (Int32) := gd (vp_in ((((29 : Int32) * x1) + (9 : Int32))) 121) (if x3 < (I a0 ((((29 : Int32) * x1) + (9 : Int32))).toNatClampNeg) then gd (vp_in ((((29 : Int32) * x1) + x3)) 121) (lt1 ((x2 ||| ((1 : Int32) <<< ((I a0 ((((29 : Int32) * x1) + x3)).toNatClampNeg) &&& 31)))) fun x_4 => lt1 (x3 + (1 : Int32)) fun x_5 => k4 x_4 x_5) else some x2)
set_option maxHeartbeats 4000000 in
set_option maxRecDepth 100000 in
theorem vX8_shelfOf_4 {X : CX} {r : Int32} {I : HI} {J : HJ} (hX : OKX X cX8_shelfOf RX8 0 0 4) (hret : RetI X cX8_shelfOf r I J) (a0 : Nat) (x1 : Int32) (hk0 : gK (xG X) a0 = 221)   : ∀ (n : Nat) (x2 : Int32) (x3 : Int32), wl2 (X8_shelfOf_B4 I a0 x1) n x2 x3 = some r → V X I J 4 [some (.ref a0), some (.int x1), some (.int x2), some (.int x3)] [] := by
  refine wl2_V (P := fun (x2 : Int32) (x3 : Int32) => V X I J 4 [some (.ref a0), some (.int x1), some (.int x2), some (.int x3)] []) ?_
  intro k4 hc4 x2 x3 hf
  unfold X8_shelfOf_B4 at hf
  refine r_iload_n hX dX8_shelfOf_4 rfl ?_
  refine r_aload_n hX dX8_shelfOf_5 rfl ?_
  refine r_bipush (v := 29) hX dX8_shelfOf_6 (by decide) ?_
  refine r_iload_n hX dX8_shelfOf_8 rfl ?_
  refine r_imul hX dX8_shelfOf_9 ?_
  refine r_bipush (v := 9) hX dX8_shelfOf_10 (by decide) ?_
  refine r_iadd hX dX8_shelfOf_12 ?_
  obtain ⟨g_1, hf⟩ := gd_some hf
  refine r_iald (n := 121) hX rfl hk0 g_1 dX8_shelfOf_13 ?_
  refine r_icmp_ge (tgt := 36) hX dX8_shelfOf_14 (by decide) (fun c_2 => ?_) (fun c_2 => ?_)
  · have hf := hf_t c_2 hf
    refine r_iload_n hX dX8_shelfOf_17 rfl ?_
    refine r_iconst (v := 1) hX dX8_shelfOf_18 rfl ?_
    refine r_aload_n hX dX8_shelfOf_19 rfl ?_
    refine r_bipush (v := 29) hX dX8_shelfOf_20 (by decide) ?_
    refine r_iload_n hX dX8_shelfOf_22 rfl ?_
    refine r_imul hX dX8_shelfOf_23 ?_
    refine r_iload_n hX dX8_shelfOf_24 rfl ?_
    refine r_iadd hX dX8_shelfOf_25 ?_
    obtain ⟨g_3, hf⟩ := gd_some hf
    refine r_iald (n := 121) hX rfl hk0 g_3 dX8_shelfOf_26 ?_
    refine r_ishl hX dX8_shelfOf_27 ?_
    refine r_ior hX dX8_shelfOf_28 ?_
    obtain ⟨x_4, ex_4, hf⟩ := lt1_some hf
    refine V.topi ex_4 ?_
    refine r_istore_n hX dX8_shelfOf_29 rfl rfl ?_
    obtain ⟨x_5, ex_5, hf⟩ := lt1_some hf
    refine r_iincE (n' := 1) ex_5 hX dX8_shelfOf_30 rfl rfl rfl rfl ?_
    refine r_goto (tgt := 4) hX dX8_shelfOf_33 (by decide) ?_
    refine V.mask [true, true, true, true] ?_
    exact hc4 x_4 x_5 hf
  · have hf := hf_f c_2 hf
    refine r_iload_n hX dX8_shelfOf_36 rfl ?_
    cases hf
    exact hret _ _ dX8_shelfOf_37
noncomputable def f_X8_shelfOf (I : HI) (a0 : Nat) (x1 : Int32) : Option (Int32) := wl2 (X8_shelfOf_B4 I a0 x1) 5000 ((0 : Int32)) ((0 : Int32))
set_option maxHeartbeats 4000000 in
set_option maxRecDepth 100000 in
theorem k_X8_shelfOf {G : GX} {l : Launch} {I : HI} {J : HJ} {r : Int32} (hG : OKG G) {a0 : Nat} {x1 : Int32} (hk0 : gK G a0 = 221) (hf : f_X8_shelfOf I a0 x1 = some r) : Ctr G l yX8_shelfOf cX8_shelfOf 4 (some .int) 0 0 [.ref a0, .int x1] I J (some (.int r)) I J := by
  refine ctr_I hG (by decide) [some (.ref a0), some (.int x1), none, none] rfl rfl fun X e1 e2 hX hret => ?_
  subst e1; subst e2
  unfold f_X8_shelfOf at hf
  refine r_iconst (v := 0) hX dX8_shelfOf_0 rfl ?_
  refine r_istore_n hX dX8_shelfOf_1 rfl rfl ?_
  refine r_iconst (v := 0) hX dX8_shelfOf_2 rfl ?_
  refine r_istore_n hX dX8_shelfOf_3 rfl rfl ?_
  refine V.mask [true, true, true, true] ?_
  exact vX8_shelfOf_4 hX hret a0 x1 hk0 5000 ((0 : Int32)) ((0 : Int32)) hf
noncomputable def X8_falseOnes_J40 (I : HI) (a0 : Nat) (x1 : Int32) (x2 : Int32) (x3 : Int32) (x5 : Int32) (sx0 : Int32) (sx1 : Int32) (k6 : Int32 → Int32 → Option (Int32)) : Option (Int32) := lt1 ((sx0 + sx1)) fun x_8 => lt1 (x5 + (1 : Int32)) fun x_9 => k6 x_8 x_9
set_option maxHeartbeats 4000000 in
set_option maxRecDepth 100000 in
theorem vX8_falseOnes_40 {X : CX} {r : Int32} {I : HI} {J : HJ} (hX : OKX X cX8_falseOnes RX8 2 48 6) (hret : RetI X cX8_falseOnes r I J) (a0 : Nat) (x1 : Int32) (x2 : Int32) (x3 : Int32) (x5 : Int32) (sx0 : Int32) (sx1 : Int32) (hk0 : gK (xG X) a0 = 9) (k6 : Int32 → Int32 → Option (Int32)) (hc6 : ∀ (x4 : Int32) (x5 : Int32), k6 x4 x5 = some r → V X I J 6 [some (.ref a0), some (.int x1), some (.int x2), some (.int x3), some (.int x4), some (.int x5)] []) (hf : X8_falseOnes_J40 I a0 x1 x2 x3 x5 sx0 sx1 k6 = some r) : V X I J 40 [some (.ref a0), some (.int x1), some (.int x2), some (.int x3), none, some (.int x5)] [.int sx1, .int sx0] := by
  unfold X8_falseOnes_J40 at hf
  refine r_iadd hX dX8_falseOnes_40 ?_
  obtain ⟨x_8, ex_8, hf⟩ := lt1_some hf
  refine V.topi ex_8 ?_
  refine r_istore hX dX8_falseOnes_41 rfl rfl ?_
  obtain ⟨x_9, ex_9, hf⟩ := lt1_some hf
  refine r_iincE (n' := 1) ex_9 hX dX8_falseOnes_43 rfl rfl rfl rfl ?_
  refine r_goto (tgt := 6) hX dX8_falseOnes_46 (by decide) ?_
  refine V.mask [true, true, true, true, true, true] ?_
  exact hc6 x_8 x_9 hf
noncomputable def X8_falseOnes_J39 (I : HI) (a0 : Nat) (x1 : Int32) (x2 : Int32) (x3 : Int32) (x5 : Int32) (sx0 : Int32) (k6 : Int32 → Int32 → Option (Int32)) : Option (Int32) := X8_falseOnes_J40 I a0 x1 x2 x3 x5 sx0 ((0 : Int32)) k6
set_option maxHeartbeats 4000000 in
set_option maxRecDepth 100000 in
theorem vX8_falseOnes_39 {X : CX} {r : Int32} {I : HI} {J : HJ} (hX : OKX X cX8_falseOnes RX8 2 48 6) (hret : RetI X cX8_falseOnes r I J) (a0 : Nat) (x1 : Int32) (x2 : Int32) (x3 : Int32) (x5 : Int32) (sx0 : Int32) (hk0 : gK (xG X) a0 = 9) (k6 : Int32 → Int32 → Option (Int32)) (hc6 : ∀ (x4 : Int32) (x5 : Int32), k6 x4 x5 = some r → V X I J 6 [some (.ref a0), some (.int x1), some (.int x2), some (.int x3), some (.int x4), some (.int x5)] []) (hf : X8_falseOnes_J39 I a0 x1 x2 x3 x5 sx0 k6 = some r) : V X I J 39 [some (.ref a0), some (.int x1), some (.int x2), some (.int x3), none, some (.int x5)] [.int sx0] := by
  unfold X8_falseOnes_J39 at hf
  refine r_iconst (v := 0) hX dX8_falseOnes_39 rfl ?_
  refine V.mask [true, true, true, true, false, true] ?_
  exact vX8_falseOnes_40 hX hret a0 x1 x2 x3 x5 sx0 ((0 : Int32)) hk0 k6 hc6 hf
noncomputable def X8_falseOnes_B6 (I : HI) (a0 : Nat) (x1 : Int32) (x2 : Int32) (x3 : Int32) (k6 : Int32 → Int32 → Option (Int32)) (x4 : Int32) (x5 : Int32) : Option (Int32) := if x5 < (32 : Int32) then bd1 (f_X8_has x3 x5) fun r_2 => if r_2 = 0 then bd1 (f_X8_isSaid I a0 x1 x2 x5) fun r_5 => if r_5 = 0 then X8_falseOnes_J39 I a0 x1 x2 x3 x5 x4 k6 else X8_falseOnes_J40 I a0 x1 x2 x3 x5 x4 ((1 : Int32)) k6 else X8_falseOnes_J39 I a0 x1 x2 x3 x5 x4 k6 else some x4
set_option maxHeartbeats 4000000 in
set_option maxRecDepth 100000 in
theorem vX8_falseOnes_6 {X : CX} {r : Int32} {I : HI} {J : HJ} (hX : OKX X cX8_falseOnes RX8 2 48 6) (hret : RetI X cX8_falseOnes r I J) (a0 : Nat) (x1 : Int32) (x2 : Int32) (x3 : Int32) (hk0 : gK (xG X) a0 = 9)   : ∀ (n : Nat) (x4 : Int32) (x5 : Int32), wl2 (X8_falseOnes_B6 I a0 x1 x2 x3) n x4 x5 = some r → V X I J 6 [some (.ref a0), some (.int x1), some (.int x2), some (.int x3), some (.int x4), some (.int x5)] [] := by
  refine wl2_V (P := fun (x4 : Int32) (x5 : Int32) => V X I J 6 [some (.ref a0), some (.int x1), some (.int x2), some (.int x3), some (.int x4), some (.int x5)] []) ?_
  intro k6 hc6 x4 x5 hf
  unfold X8_falseOnes_B6 at hf
  refine r_iload hX dX8_falseOnes_6 rfl ?_
  refine r_bipush (v := 32) hX dX8_falseOnes_8 (by decide) ?_
  refine r_icmp_ge (tgt := 49) hX dX8_falseOnes_10 (by decide) (fun c_1 => ?_) (fun c_1 => ?_)
  · have hf := hf_t c_1 hf
    refine r_iload hX dX8_falseOnes_13 rfl ?_
    refine r_iload_n hX dX8_falseOnes_15 rfl ?_
    refine r_iload hX dX8_falseOnes_16 rfl ?_
    obtain ⟨r_2, h_3, hf⟩ := bd1_some hf
    refine r_callS (As := [.int x3, .int x5]) hX (k_X8_has (l := xl X) (I := I) (J := J) hX.ok  h_3) pk_X8_has ml_X8_166 rfl rfl rfl (Nat.le_of_ble_eq_true rfl) dX8_falseOnes_18 ?_
    refine r_if_ne (tgt := 39) hX dX8_falseOnes_21 (by decide) (fun c_4 => ?_) (fun c_4 => ?_)
    · have hf := hf_t c_4 hf
      refine r_aload_n hX dX8_falseOnes_24 rfl ?_
      refine r_iload_n hX dX8_falseOnes_25 rfl ?_
      refine r_iload_n hX dX8_falseOnes_26 rfl ?_
      refine r_iload hX dX8_falseOnes_27 rfl ?_
      obtain ⟨r_5, h_6, hf⟩ := bd1_some hf
      refine r_callV (As := [.int x1, .int x2, .int x5]) (ci := 8) hX (k_X8_isSaid (l := xl X) (J := J) hX.ok hk0 h_6) pk_X8_isSaid ml_X8_169 rfl rfl rfl rfl hk0 rfl rfl rfl (Nat.le_of_ble_eq_true rfl) dX8_falseOnes_29 ?_
      refine r_if_eq (tgt := 39) hX dX8_falseOnes_32 (by decide) (fun c_7 => ?_) (fun c_7 => ?_)
      · have hf := hf_t c_7 hf
        refine V.mask [true, true, true, true, false, true] ?_
        exact vX8_falseOnes_39 hX hret a0 x1 x2 x3 x5 x4 hk0 k6 hc6 hf
      · have hf := hf_f c_7 hf
        refine r_iconst (v := 1) hX dX8_falseOnes_35 rfl ?_
        refine r_goto (tgt := 40) hX dX8_falseOnes_36 (by decide) ?_
        refine V.mask [true, true, true, true, false, true] ?_
        exact vX8_falseOnes_40 hX hret a0 x1 x2 x3 x5 x4 ((1 : Int32)) hk0 k6 hc6 hf
    · have hf := hf_f c_4 hf
      refine V.mask [true, true, true, true, false, true] ?_
      exact vX8_falseOnes_39 hX hret a0 x1 x2 x3 x5 x4 hk0 k6 hc6 hf
  · have hf := hf_f c_1 hf
    refine r_iload hX dX8_falseOnes_49 rfl ?_
    cases hf
    exact hret _ _ dX8_falseOnes_51
noncomputable def f_X8_falseOnes (I : HI) (a0 : Nat) (x1 : Int32) (x2 : Int32) (x3 : Int32) : Option (Int32) := wl2 (X8_falseOnes_B6 I a0 x1 x2 x3) 5000 ((0 : Int32)) ((0 : Int32))
set_option maxHeartbeats 4000000 in
set_option maxRecDepth 100000 in
theorem k_X8_falseOnes {G : GX} {l : Launch} {I : HI} {J : HJ} {r : Int32} (hG : OKG G) {a0 : Nat} {x1 : Int32} {x2 : Int32} {x3 : Int32} (hk0 : gK G a0 = 9) (hf : f_X8_falseOnes I a0 x1 x2 x3 = some r) : Ctr G l yX8_falseOnes cX8_falseOnes 6 (some .int) 2 48 [.ref a0, .int x1, .int x2, .int x3] I J (some (.int r)) I J := by
  refine ctr_I hG (by decide) [some (.ref a0), some (.int x1), some (.int x2), some (.int x3), none, none] rfl rfl fun X e1 e2 hX hret => ?_
  subst e1; subst e2
  unfold f_X8_falseOnes at hf
  refine r_iconst (v := 0) hX dX8_falseOnes_0 rfl ?_
  refine r_istore hX dX8_falseOnes_1 rfl rfl ?_
  refine r_iconst (v := 0) hX dX8_falseOnes_3 rfl ?_
  refine r_istore hX dX8_falseOnes_4 rfl rfl ?_
  refine V.mask [true, true, true, true, true, true] ?_
  exact vX8_falseOnes_6 hX hret a0 x1 x2 x3 hk0 5000 ((0 : Int32)) ((0 : Int32)) hf
noncomputable def X8_denied_J44 (I : HI) (a0 : Nat) (x1 : Int32) (x3 : Int32) (sx0 : Int32) (sx1 : Int32) (k4 : Int32 → Int32 → Option (Int32)) : Option (Int32) := lt1 ((sx0 + sx1)) fun x_10 => lt1 (x3 + (1 : Int32)) fun x_11 => k4 x_10 x_11
set_option maxHeartbeats 4000000 in
set_option maxRecDepth 100000 in
theorem vX8_denied_44 {X : CX} {r : Int32} {I : HI} {J : HJ} (hX : OKX X cX8_denied RX8 3 71 4) (hret : RetI X cX8_denied r I J) (a0 : Nat) (x1 : Int32) (x3 : Int32) (sx0 : Int32) (sx1 : Int32) (hk0 : gK (xG X) a0 = 9) (k4 : Int32 → Int32 → Option (Int32)) (hc4 : ∀ (x2 : Int32) (x3 : Int32), k4 x2 x3 = some r → V X I J 4 [some (.ref a0), some (.int x1), some (.int x2), some (.int x3)] []) (hf : X8_denied_J44 I a0 x1 x3 sx0 sx1 k4 = some r) : V X I J 44 [some (.ref a0), some (.int x1), none, some (.int x3)] [.int sx1, .int sx0] := by
  unfold X8_denied_J44 at hf
  refine r_iadd hX dX8_denied_44 ?_
  obtain ⟨x_10, ex_10, hf⟩ := lt1_some hf
  refine V.topi ex_10 ?_
  refine r_istore_n hX dX8_denied_45 rfl rfl ?_
  obtain ⟨x_11, ex_11, hf⟩ := lt1_some hf
  refine r_iincE (n' := 1) ex_11 hX dX8_denied_46 rfl rfl rfl rfl ?_
  refine r_goto (tgt := 4) hX dX8_denied_49 (by decide) ?_
  refine V.mask [true, true, true, true] ?_
  exact hc4 x_10 x_11 hf
noncomputable def X8_denied_J43 (I : HI) (a0 : Nat) (x1 : Int32) (x3 : Int32) (sx0 : Int32) (k4 : Int32 → Int32 → Option (Int32)) : Option (Int32) := X8_denied_J44 I a0 x1 x3 sx0 ((0 : Int32)) k4
set_option maxHeartbeats 4000000 in
set_option maxRecDepth 100000 in
theorem vX8_denied_43 {X : CX} {r : Int32} {I : HI} {J : HJ} (hX : OKX X cX8_denied RX8 3 71 4) (hret : RetI X cX8_denied r I J) (a0 : Nat) (x1 : Int32) (x3 : Int32) (sx0 : Int32) (hk0 : gK (xG X) a0 = 9) (k4 : Int32 → Int32 → Option (Int32)) (hc4 : ∀ (x2 : Int32) (x3 : Int32), k4 x2 x3 = some r → V X I J 4 [some (.ref a0), some (.int x1), some (.int x2), some (.int x3)] []) (hf : X8_denied_J43 I a0 x1 x3 sx0 k4 = some r) : V X I J 43 [some (.ref a0), some (.int x1), none, some (.int x3)] [.int sx0] := by
  unfold X8_denied_J43 at hf
  refine r_iconst (v := 0) hX dX8_denied_43 rfl ?_
  refine V.mask [true, true, false, true] ?_
  exact vX8_denied_44 hX hret a0 x1 x3 sx0 ((0 : Int32)) hk0 k4 hc4 hf
noncomputable def X8_denied_B4 (I : HI) (a0 : Nat) (x1 : Int32) (k4 : Int32 → Int32 → Option (Int32)) (x2 : Int32) (x3 : Int32) : Option (Int32) := if x3 < (32 : Int32) then bd1 (f_X8_shelfOf I ((a0 + 9)) x1) fun r_2 => bd1 (f_X8_has r_2 x3) fun r_4 => if r_4 = 0 then X8_denied_J43 I a0 x1 x3 x2 k4 else bd1 (f_X8_summarySays I a0 ((a0 + 9)) x1 x3) fun r_7 => if r_7 = 0 then X8_denied_J44 I a0 x1 x3 x2 ((1 : Int32)) k4 else X8_denied_J43 I a0 x1 x3 x2 k4 else some x2
set_option maxHeartbeats 4000000 in
set_option maxRecDepth 100000 in
theorem vX8_denied_4 {X : CX} {r : Int32} {I : HI} {J : HJ} (hX : OKX X cX8_denied RX8 3 71 4) (hret : RetI X cX8_denied r I J) (a0 : Nat) (x1 : Int32) (hk0 : gK (xG X) a0 = 9)   : ∀ (n : Nat) (x2 : Int32) (x3 : Int32), wl2 (X8_denied_B4 I a0 x1) n x2 x3 = some r → V X I J 4 [some (.ref a0), some (.int x1), some (.int x2), some (.int x3)] [] := by
  refine wl2_V (P := fun (x2 : Int32) (x3 : Int32) => V X I J 4 [some (.ref a0), some (.int x1), some (.int x2), some (.int x3)] []) ?_
  intro k4 hc4 x2 x3 hf
  unfold X8_denied_B4 at hf
  refine r_iload_n hX dX8_denied_4 rfl ?_
  refine r_bipush (v := 32) hX dX8_denied_5 (by decide) ?_
  refine r_icmp_ge (tgt := 52) hX dX8_denied_7 (by decide) (fun c_1 => ?_) (fun c_1 => ?_)
  · have hf := hf_t c_1 hf
    refine r_iload_n hX dX8_denied_10 rfl ?_
    refine r_aload_n hX dX8_denied_11 rfl ?_
    refine g_8_19 hX fl_X8_44 hk0 dX8_denied_12 ?_
    refine r_iload_n hX dX8_denied_15 rfl ?_
    obtain ⟨r_2, h_3, hf⟩ := bd1_some hf
    refine r_callS (As := [.ref ((a0 + 9)), .int x1]) hX (k_X8_shelfOf (l := xl X) (J := J) hX.ok ((q_9_19 hX hk0)) h_3) pk_X8_shelfOf ml_X8_197 rfl rfl rfl (Nat.le_of_ble_eq_true rfl) dX8_denied_16 ?_
    refine r_iload_n hX dX8_denied_19 rfl ?_
    obtain ⟨r_4, h_5, hf⟩ := bd1_some hf
    refine r_callS (As := [.int r_2, .int x3]) hX (k_X8_has (l := xl X) (I := I) (J := J) hX.ok  h_5) pk_X8_has ml_X8_166 rfl rfl rfl (Nat.le_of_ble_eq_true rfl) dX8_denied_20 ?_
    refine r_if_eq (tgt := 43) hX dX8_denied_23 (by decide) (fun c_6 => ?_) (fun c_6 => ?_)
    · have hf := hf_t c_6 hf
      refine V.mask [true, true, false, true] ?_
      exact vX8_denied_43 hX hret a0 x1 x3 x2 hk0 k4 hc4 hf
    · have hf := hf_f c_6 hf
      refine r_aload_n hX dX8_denied_26 rfl ?_
      refine r_aload_n hX dX8_denied_27 rfl ?_
      refine g_8_19 hX fl_X8_44 hk0 dX8_denied_28 ?_
      refine r_iload_n hX dX8_denied_31 rfl ?_
      refine r_iload_n hX dX8_denied_32 rfl ?_
      obtain ⟨r_7, h_8, hf⟩ := bd1_some hf
      refine r_callV (As := [.ref ((a0 + 9)), .int x1, .int x3]) (ci := 8) hX (k_X8_summarySays (l := xl X) (J := J) hX.ok hk0 ((q_9_19 hX hk0)) h_8) pk_X8_summarySays ml_X8_190 rfl rfl rfl rfl hk0 rfl rfl rfl (Nat.le_of_ble_eq_true rfl) dX8_denied_33 ?_
      refine r_if_ne (tgt := 43) hX dX8_denied_36 (by decide) (fun c_9 => ?_) (fun c_9 => ?_)
      · have hf := hf_t c_9 hf
        refine r_iconst (v := 1) hX dX8_denied_39 rfl ?_
        refine r_goto (tgt := 44) hX dX8_denied_40 (by decide) ?_
        refine V.mask [true, true, false, true] ?_
        exact vX8_denied_44 hX hret a0 x1 x3 x2 ((1 : Int32)) hk0 k4 hc4 hf
      · have hf := hf_f c_9 hf
        refine V.mask [true, true, false, true] ?_
        exact vX8_denied_43 hX hret a0 x1 x3 x2 hk0 k4 hc4 hf
  · have hf := hf_f c_1 hf
    refine r_iload_n hX dX8_denied_52 rfl ?_
    cases hf
    exact hret _ _ dX8_denied_53
noncomputable def f_X8_denied (I : HI) (a0 : Nat) (x1 : Int32) : Option (Int32) := wl2 (X8_denied_B4 I a0 x1) 5000 ((0 : Int32)) ((0 : Int32))
set_option maxHeartbeats 4000000 in
set_option maxRecDepth 100000 in
theorem k_X8_denied {G : GX} {l : Launch} {I : HI} {J : HJ} {r : Int32} (hG : OKG G) {a0 : Nat} {x1 : Int32} (hk0 : gK G a0 = 9) (hf : f_X8_denied I a0 x1 = some r) : Ctr G l yX8_denied cX8_denied 4 (some .int) 3 71 [.ref a0, .int x1] I J (some (.int r)) I J := by
  refine ctr_I hG (by decide) [some (.ref a0), some (.int x1), none, none] rfl rfl fun X e1 e2 hX hret => ?_
  subst e1; subst e2
  unfold f_X8_denied at hf
  refine r_iconst (v := 0) hX dX8_denied_0 rfl ?_
  refine r_istore_n hX dX8_denied_1 rfl rfl ?_
  refine r_iconst (v := 0) hX dX8_denied_2 rfl ?_
  refine r_istore_n hX dX8_denied_3 rfl rfl ?_
  refine V.mask [true, true, true, true] ?_
  exact vX8_denied_4 hX hret a0 x1 hk0 5000 ((0 : Int32)) ((0 : Int32)) hf
noncomputable def f_X8_proxy (I : HI) (a0 : Nat) (x1 : Int32) (x2 : Int32) : Option (Int32 × HI) := lt1 (sI I a0 0 ((0 : Int32))) fun I_1 => bd1 (f_X8_noProxy I_1 a0 x1) fun r_2 => if r_2 = 0 then lt1 (((29 : Int32) * x1)) fun x_5 => if x2 = 0 then gd (vp_in x1 4) (some ((I_1 ((a0 + 4)) x1.toNatClampNeg), I_1)) else if x2 = 1 then gd (vp_in ((x_5 + (28 : Int32))) 121) (some ((I_1 ((a0 + 9)) ((x_5 + (28 : Int32))).toNatClampNeg), I_1)) else if x2 = 2 then gd (vp_in ((x_5 + (9 : Int32))) 121) (some ((I_1 ((a0 + 9)) ((x_5 + (9 : Int32))).toNatClampNeg), I_1)) else if x2 = 3 then gd (vp_in ((x_5 + (27 : Int32))) 121) (some ((I_1 ((a0 + 9)) ((x_5 + (27 : Int32))).toNatClampNeg), I_1)) else if x2 = 4 then gd (vp_in ((x_5 + (26 : Int32))) 121) (some ((I_1 ((a0 + 9)) ((x_5 + (26 : Int32))).toNatClampNeg), I_1)) else if x2 = 5 then gd (vp_in ((x_5 + (26 : Int32))) 121) (gd (vp_in ((116 : Int32)) 121) (bd1 (f_X8_shelfOf I_1 ((a0 + 9)) x1) fun r_19 => bd1 (f_X8_falseOnes I_1 a0 ((I_1 ((a0 + 9)) ((x_5 + (26 : Int32))).toNatClampNeg)) ((I_1 ((a0 + 9)) ((116 : Int32)).toNatClampNeg)) r_19) fun r_21 => some (r_21, I_1))) else if x2 = 6 then bd1 (f_X8_denied I_1 a0 x1) fun r_24 => some (r_24, I_1) else if x2 = 7 then bd1 (f_X8_shelfOf I_1 ((a0 + 9)) x1) fun r_27 => some (r_27, I_1) else some ((-2 : Int32), I_1) else some ((-1 : Int32), I_1)
set_option maxHeartbeats 4000000 in
set_option maxRecDepth 100000 in
theorem k_X8_proxy {G : GX} {l : Launch} {I : HI} {J : HJ} {I' : HI} {r : Int32} (hG : OKG G) {a0 : Nat} {x1 : Int32} {x2 : Int32} (hk0 : gK G a0 = 9) (hf : f_X8_proxy I a0 x1 x2 = some (r, I')) : Ctr G l yX8_proxy cX8_proxy 4 (some .int) 4 94 [.ref a0, .int x1, .int x2] I J (some (.int r)) I' J := by
  refine ctr_I hG (by decide) [some (.ref a0), some (.int x1), some (.int x2), none] rfl rfl fun X e1 e2 hX hret => ?_
  subst e1; subst e2
  unfold f_X8_proxy at hf
  refine r_aload_n hX dX8_proxy_0 rfl ?_
  refine r_iconst (v := 0) hX dX8_proxy_1 rfl ?_
  obtain ⟨I_1, eI_1, hf⟩ := lt1_some hf
  refine p_8_0 eI_1 hX fl_X8_75 hk0 dX8_proxy_2 ?_
  refine r_aload_n hX dX8_proxy_5 rfl ?_
  refine r_iload_n hX dX8_proxy_6 rfl ?_
  obtain ⟨r_2, h_3, hf⟩ := bd1_some hf
  refine r_callV (As := [.int x1]) (ci := 8) hX (k_X8_noProxy (l := xl X) (J := J) hX.ok hk0 h_3) pk_X8_noProxy ml_X8_200 rfl rfl rfl rfl hk0 rfl rfl rfl (Nat.le_of_ble_eq_true rfl) dX8_proxy_7 ?_
  refine r_if_eq (tgt := 15) hX dX8_proxy_10 (by decide) (fun c_4 => ?_) (fun c_4 => ?_)
  · have hf := hf_t c_4 hf
    refine r_bipush (v := 29) hX dX8_proxy_15 (by decide) ?_
    refine r_iload_n hX dX8_proxy_17 rfl ?_
    refine r_imul hX dX8_proxy_18 ?_
    obtain ⟨x_5, ex_5, hf⟩ := lt1_some hf
    refine V.topi ex_5 ?_
    refine r_istore_n hX dX8_proxy_19 rfl rfl ?_
    refine r_iload_n hX dX8_proxy_20 rfl ?_
    by_cases c_6 : x2 = 0
    · have hf := hf_t c_6 hf
      refine r_tsw (off := 47) (tgt := 68) hX 0 dX8_proxy_21 c_6 (by decide) (by decide) (by decide) (by decide) ?_
      refine r_aload_n hX dX8_proxy_68 rfl ?_
      refine g_8_10 hX fl_X8_29 hk0 dX8_proxy_69 ?_
      refine r_iload_n hX dX8_proxy_72 rfl ?_
      obtain ⟨g_7, hf⟩ := gd_some hf
      refine r_iald (n := 4) hX rfl ((q_9_10 hX hk0)) g_7 dX8_proxy_73 ?_
      cases hf
      exact hret _ _ dX8_proxy_74
    have hf := hf_f c_6 hf
    by_cases c_8 : x2 = 1
    · have hf := hf_t c_8 hf
      refine r_tsw (off := 54) (tgt := 75) hX 1 dX8_proxy_21 c_8 (by decide) (by decide) (by decide) (by decide) ?_
      refine r_aload_n hX dX8_proxy_75 rfl ?_
      refine g_8_19 hX fl_X8_44 hk0 dX8_proxy_76 ?_
      refine r_iload_n hX dX8_proxy_79 rfl ?_
      refine r_bipush (v := 28) hX dX8_proxy_80 (by decide) ?_
      refine r_iadd hX dX8_proxy_82 ?_
      obtain ⟨g_9, hf⟩ := gd_some hf
      refine r_iald (n := 121) hX rfl ((q_9_19 hX hk0)) g_9 dX8_proxy_83 ?_
      cases hf
      exact hret _ _ dX8_proxy_84
    have hf := hf_f c_8 hf
    by_cases c_10 : x2 = 2
    · have hf := hf_t c_10 hf
      refine r_tsw (off := 64) (tgt := 85) hX 2 dX8_proxy_21 c_10 (by decide) (by decide) (by decide) (by decide) ?_
      refine r_aload_n hX dX8_proxy_85 rfl ?_
      refine g_8_19 hX fl_X8_44 hk0 dX8_proxy_86 ?_
      refine r_iload_n hX dX8_proxy_89 rfl ?_
      refine r_bipush (v := 9) hX dX8_proxy_90 (by decide) ?_
      refine r_iadd hX dX8_proxy_92 ?_
      obtain ⟨g_11, hf⟩ := gd_some hf
      refine r_iald (n := 121) hX rfl ((q_9_19 hX hk0)) g_11 dX8_proxy_93 ?_
      cases hf
      exact hret _ _ dX8_proxy_94
    have hf := hf_f c_10 hf
    by_cases c_12 : x2 = 3
    · have hf := hf_t c_12 hf
      refine r_tsw (off := 74) (tgt := 95) hX 3 dX8_proxy_21 c_12 (by decide) (by decide) (by decide) (by decide) ?_
      refine r_aload_n hX dX8_proxy_95 rfl ?_
      refine g_8_19 hX fl_X8_44 hk0 dX8_proxy_96 ?_
      refine r_iload_n hX dX8_proxy_99 rfl ?_
      refine r_bipush (v := 27) hX dX8_proxy_100 (by decide) ?_
      refine r_iadd hX dX8_proxy_102 ?_
      obtain ⟨g_13, hf⟩ := gd_some hf
      refine r_iald (n := 121) hX rfl ((q_9_19 hX hk0)) g_13 dX8_proxy_103 ?_
      cases hf
      exact hret _ _ dX8_proxy_104
    have hf := hf_f c_12 hf
    by_cases c_14 : x2 = 4
    · have hf := hf_t c_14 hf
      refine r_tsw (off := 84) (tgt := 105) hX 4 dX8_proxy_21 c_14 (by decide) (by decide) (by decide) (by decide) ?_
      refine r_aload_n hX dX8_proxy_105 rfl ?_
      refine g_8_19 hX fl_X8_44 hk0 dX8_proxy_106 ?_
      refine r_iload_n hX dX8_proxy_109 rfl ?_
      refine r_bipush (v := 26) hX dX8_proxy_110 (by decide) ?_
      refine r_iadd hX dX8_proxy_112 ?_
      obtain ⟨g_15, hf⟩ := gd_some hf
      refine r_iald (n := 121) hX rfl ((q_9_19 hX hk0)) g_15 dX8_proxy_113 ?_
      cases hf
      exact hret _ _ dX8_proxy_114
    have hf := hf_f c_14 hf
    by_cases c_16 : x2 = 5
    · have hf := hf_t c_16 hf
      refine r_tsw (off := 94) (tgt := 115) hX 5 dX8_proxy_21 c_16 (by decide) (by decide) (by decide) (by decide) ?_
      refine r_aload_n hX dX8_proxy_115 rfl ?_
      refine r_aload_n hX dX8_proxy_116 rfl ?_
      refine g_8_19 hX fl_X8_44 hk0 dX8_proxy_117 ?_
      refine r_iload_n hX dX8_proxy_120 rfl ?_
      refine r_bipush (v := 26) hX dX8_proxy_121 (by decide) ?_
      refine r_iadd hX dX8_proxy_123 ?_
      obtain ⟨g_17, hf⟩ := gd_some hf
      refine r_iald (n := 121) hX rfl ((q_9_19 hX hk0)) g_17 dX8_proxy_124 ?_
      refine r_aload_n hX dX8_proxy_125 rfl ?_
      refine g_8_19 hX fl_X8_44 hk0 dX8_proxy_126 ?_
      refine r_bipush (v := 116) hX dX8_proxy_129 (by decide) ?_
      obtain ⟨g_18, hf⟩ := gd_some hf
      refine r_iald (n := 121) hX rfl ((q_9_19 hX hk0)) g_18 dX8_proxy_131 ?_
      refine r_aload_n hX dX8_proxy_132 rfl ?_
      refine g_8_19 hX fl_X8_44 hk0 dX8_proxy_133 ?_
      refine r_iload_n hX dX8_proxy_136 rfl ?_
      obtain ⟨r_19, h_20, hf⟩ := bd1_some hf
      refine r_callS (As := [.ref ((a0 + 9)), .int x1]) hX (k_X8_shelfOf (l := xl X) (J := J) hX.ok ((q_9_19 hX hk0)) h_20) pk_X8_shelfOf ml_X8_197 rfl rfl rfl (Nat.le_of_ble_eq_true rfl) dX8_proxy_137 ?_
      obtain ⟨r_21, h_22, hf⟩ := bd1_some hf
      refine r_callV (As := [.int ((I_1 ((a0 + 9)) ((x_5 + (26 : Int32))).toNatClampNeg)), .int ((I_1 ((a0 + 9)) ((116 : Int32)).toNatClampNeg)), .int r_19]) (ci := 8) hX (k_X8_falseOnes (l := xl X) (J := J) hX.ok hk0 h_22) pk_X8_falseOnes ml_X8_203 rfl rfl rfl rfl hk0 rfl rfl rfl (Nat.le_of_ble_eq_true rfl) dX8_proxy_140 ?_
      cases hf
      exact hret _ _ dX8_proxy_143
    have hf := hf_f c_16 hf
    by_cases c_23 : x2 = 6
    · have hf := hf_t c_23 hf
      refine r_tsw (off := 123) (tgt := 144) hX 6 dX8_proxy_21 c_23 (by decide) (by decide) (by decide) (by decide) ?_
      refine r_aload_n hX dX8_proxy_144 rfl ?_
      refine r_iload_n hX dX8_proxy_145 rfl ?_
      obtain ⟨r_24, h_25, hf⟩ := bd1_some hf
      refine r_callV (As := [.int x1]) (ci := 8) hX (k_X8_denied (l := xl X) (J := J) hX.ok hk0 h_25) pk_X8_denied ml_X8_206 rfl rfl rfl rfl hk0 rfl rfl rfl (Nat.le_of_ble_eq_true rfl) dX8_proxy_146 ?_
      cases hf
      exact hret _ _ dX8_proxy_149
    have hf := hf_f c_23 hf
    by_cases c_26 : x2 = 7
    · have hf := hf_t c_26 hf
      refine r_tsw (off := 129) (tgt := 150) hX 7 dX8_proxy_21 c_26 (by decide) (by decide) (by decide) (by decide) ?_
      refine r_aload_n hX dX8_proxy_150 rfl ?_
      refine g_8_19 hX fl_X8_44 hk0 dX8_proxy_151 ?_
      refine r_iload_n hX dX8_proxy_154 rfl ?_
      obtain ⟨r_27, h_28, hf⟩ := bd1_some hf
      refine r_callS (As := [.ref ((a0 + 9)), .int x1]) hX (k_X8_shelfOf (l := xl X) (J := J) hX.ok ((q_9_19 hX hk0)) h_28) pk_X8_shelfOf ml_X8_197 rfl rfl rfl (Nat.le_of_ble_eq_true rfl) dX8_proxy_155 ?_
      cases hf
      exact hret _ _ dX8_proxy_158
    have hf := hf_f c_26 hf
    refine r_tswD (tgt := 159) hX dX8_proxy_21 [0, 1, 2, 3, 4, 5, 6, 7] (by decide) (List.forall_mem_cons.mpr ⟨c_6, List.forall_mem_cons.mpr ⟨c_8, List.forall_mem_cons.mpr ⟨c_10, List.forall_mem_cons.mpr ⟨c_12, List.forall_mem_cons.mpr ⟨c_14, List.forall_mem_cons.mpr ⟨c_16, List.forall_mem_cons.mpr ⟨c_23, List.forall_mem_cons.mpr ⟨c_26, (fun _ h => absurd h List.not_mem_nil)⟩⟩⟩⟩⟩⟩⟩⟩) (by decide) ?_
    refine r_bipush (v := -2) hX dX8_proxy_159 (by decide) ?_
    cases hf
    exact hret _ _ dX8_proxy_161
  · have hf := hf_f c_4 hf
    refine r_iconst (v := -1) hX dX8_proxy_13 rfl ?_
    cases hf
    exact hret _ _ dX8_proxy_14
noncomputable def f_X8_page (I : HI) (a0 : Nat) (x1 : Int32) (x2 : Int32) : Option (Int32 × HI) := lt1 (sI I a0 0 ((0 : Int32))) fun I_1 => bd1 (f_X8_noProxy I_1 a0 x1) fun r_2 => if r_2 = 0 then bd1 (f_X8_in x2.toInt64 ((0 : Int64)) ((8 : Int64))) fun r_5 => if r_5 = 0 then some ((-2 : Int32), I_1) else gd (vp_in ((((29 : Int32) * x1) + (9 : Int32))) 121) (if x2 < (I_1 ((a0 + 9)) ((((29 : Int32) * x1) + (9 : Int32))).toNatClampNeg) then gd (vp_in ((((29 : Int32) * x1) + x2)) 121) (some ((I_1 ((a0 + 9)) ((((29 : Int32) * x1) + x2)).toNatClampNeg), I_1)) else some ((-9 : Int32), I_1)) else some ((-1 : Int32), I_1)
set_option maxHeartbeats 4000000 in
set_option maxRecDepth 100000 in
theorem k_X8_page {G : GX} {l : Launch} {I : HI} {J : HJ} {I' : HI} {r : Int32} (hG : OKG G) {a0 : Nat} {x1 : Int32} {x2 : Int32} (hk0 : gK G a0 = 9) (hf : f_X8_page I a0 x1 x2 = some (r, I')) : Ctr G l yX8_page cX8_page 3 (some .int) 2 46 [.ref a0, .int x1, .int x2] I J (some (.int r)) I' J := by
  refine ctr_I hG (by decide) [some (.ref a0), some (.int x1), some (.int x2)] rfl rfl fun X e1 e2 hX hret => ?_
  subst e1; subst e2
  unfold f_X8_page at hf
  refine r_aload_n hX dX8_page_0 rfl ?_
  refine r_iconst (v := 0) hX dX8_page_1 rfl ?_
  obtain ⟨I_1, eI_1, hf⟩ := lt1_some hf
  refine p_8_0 eI_1 hX fl_X8_75 hk0 dX8_page_2 ?_
  refine r_aload_n hX dX8_page_5 rfl ?_
  refine r_iload_n hX dX8_page_6 rfl ?_
  obtain ⟨r_2, h_3, hf⟩ := bd1_some hf
  refine r_callV (As := [.int x1]) (ci := 8) hX (k_X8_noProxy (l := xl X) (J := J) hX.ok hk0 h_3) pk_X8_noProxy ml_X8_200 rfl rfl rfl rfl hk0 rfl rfl rfl (Nat.le_of_ble_eq_true rfl) dX8_page_7 ?_
  refine r_if_eq (tgt := 15) hX dX8_page_10 (by decide) (fun c_4 => ?_) (fun c_4 => ?_)
  · have hf := hf_t c_4 hf
    refine r_iload_n hX dX8_page_15 rfl ?_
    refine r_i2l hX dX8_page_16 ?_
    refine r_lconst (v := 0) hX dX8_page_17 rfl ?_
    refine r_ldc2 hX dX8_page_18 cn_X8_209 ?_
    obtain ⟨r_5, h_6, hf⟩ := bd1_some hf
    refine r_callS (As := [.long x2.toInt64, .long ((0 : Int64)), .long ((8 : Int64))]) hX (k_X8_in (l := xl X) (I := I_1) (J := J) hX.ok  h_6) pk_X8_in ml_X8_81 rfl rfl rfl (Nat.le_of_ble_eq_true rfl) dX8_page_21 ?_
    refine r_if_ne (tgt := 30) hX dX8_page_24 (by decide) (fun c_7 => ?_) (fun c_7 => ?_)
    · have hf := hf_t c_7 hf
      refine r_bipush (v := -2) hX dX8_page_27 (by decide) ?_
      cases hf
      exact hret _ _ dX8_page_29
    · have hf := hf_f c_7 hf
      refine r_iload_n hX dX8_page_30 rfl ?_
      refine r_aload_n hX dX8_page_31 rfl ?_
      refine g_8_19 hX fl_X8_44 hk0 dX8_page_32 ?_
      refine r_bipush (v := 29) hX dX8_page_35 (by decide) ?_
      refine r_iload_n hX dX8_page_37 rfl ?_
      refine r_imul hX dX8_page_38 ?_
      refine r_bipush (v := 9) hX dX8_page_39 (by decide) ?_
      refine r_iadd hX dX8_page_41 ?_
      obtain ⟨g_8, hf⟩ := gd_some hf
      refine r_iald (n := 121) hX rfl ((q_9_19 hX hk0)) g_8 dX8_page_42 ?_
      refine r_icmp_ge (tgt := 60) hX dX8_page_43 (by decide) (fun c_9 => ?_) (fun c_9 => ?_)
      · have hf := hf_t c_9 hf
        refine r_aload_n hX dX8_page_46 rfl ?_
        refine g_8_19 hX fl_X8_44 hk0 dX8_page_47 ?_
        refine r_bipush (v := 29) hX dX8_page_50 (by decide) ?_
        refine r_iload_n hX dX8_page_52 rfl ?_
        refine r_imul hX dX8_page_53 ?_
        refine r_iload_n hX dX8_page_54 rfl ?_
        refine r_iadd hX dX8_page_55 ?_
        obtain ⟨g_10, hf⟩ := gd_some hf
        refine r_iald (n := 121) hX rfl ((q_9_19 hX hk0)) g_10 dX8_page_56 ?_
        refine r_goto (tgt := 62) hX dX8_page_57 (by decide) ?_
        cases hf
        exact hret _ _ dX8_page_62
      · have hf := hf_f c_9 hf
        refine r_bipush (v := -9) hX dX8_page_60 (by decide) ?_
        cases hf
        exact hret _ _ dX8_page_62
  · have hf := hf_f c_4 hf
    refine r_iconst (v := -1) hX dX8_page_13 rfl ?_
    cases hf
    exact hret _ _ dX8_page_14
noncomputable def f_X8_counter (I : HI) (a0 : Nat) (x1 : Int32) (x2 : Int32) : Option (Int32 × HI) := lt1 (sI I a0 0 ((0 : Int32))) fun I_1 => bd1 (f_X8_noProxy I_1 a0 x1) fun r_2 => if r_2 = 0 then bd1 (f_X8_in x2.toInt64 ((0 : Int64)) ((((I_1 a0 4) - (1 : Int32))).toInt64)) fun r_5 => if r_5 = 0 then some ((-1 : Int32), I_1) else gd (vp_in (((((29 : Int32) * x1) + (10 : Int32)) + x2)) 121) (some ((I_1 ((a0 + 9)) (((((29 : Int32) * x1) + (10 : Int32)) + x2)).toNatClampNeg), I_1)) else some ((-1 : Int32), I_1)
set_option maxHeartbeats 4000000 in
set_option maxRecDepth 100000 in
theorem k_X8_counter {G : GX} {l : Launch} {I : HI} {J : HJ} {I' : HI} {r : Int32} (hG : OKG G) {a0 : Nat} {x1 : Int32} {x2 : Int32} (hk0 : gK G a0 = 9) (hf : f_X8_counter I a0 x1 x2 = some (r, I')) : Ctr G l yX8_counter cX8_counter 3 (some .int) 2 46 [.ref a0, .int x1, .int x2] I J (some (.int r)) I' J := by
  refine ctr_I hG (by decide) [some (.ref a0), some (.int x1), some (.int x2)] rfl rfl fun X e1 e2 hX hret => ?_
  subst e1; subst e2
  unfold f_X8_counter at hf
  refine r_aload_n hX dX8_counter_0 rfl ?_
  refine r_iconst (v := 0) hX dX8_counter_1 rfl ?_
  obtain ⟨I_1, eI_1, hf⟩ := lt1_some hf
  refine p_8_0 eI_1 hX fl_X8_75 hk0 dX8_counter_2 ?_
  refine r_aload_n hX dX8_counter_5 rfl ?_
  refine r_iload_n hX dX8_counter_6 rfl ?_
  obtain ⟨r_2, h_3, hf⟩ := bd1_some hf
  refine r_callV (As := [.int x1]) (ci := 8) hX (k_X8_noProxy (l := xl X) (J := J) hX.ok hk0 h_3) pk_X8_noProxy ml_X8_200 rfl rfl rfl rfl hk0 rfl rfl rfl (Nat.le_of_ble_eq_true rfl) dX8_counter_7 ?_
  refine r_if_ne (tgt := 29) hX dX8_counter_10 (by decide) (fun c_4 => ?_) (fun c_4 => ?_)
  · have hf := hf_t c_4 hf
    refine r_iload_n hX dX8_counter_13 rfl ?_
    refine r_i2l hX dX8_counter_14 ?_
    refine r_lconst (v := 0) hX dX8_counter_15 rfl ?_
    refine r_aload_n hX dX8_counter_16 rfl ?_
    refine g_8_4 hX fl_X8_13 hk0 dX8_counter_17 ?_
    refine r_iconst (v := 1) hX dX8_counter_20 rfl ?_
    refine r_isub hX dX8_counter_21 ?_
    refine r_i2l hX dX8_counter_22 ?_
    obtain ⟨r_5, h_6, hf⟩ := bd1_some hf
    refine r_callS (As := [.long x2.toInt64, .long ((0 : Int64)), .long ((((I_1 a0 4) - (1 : Int32))).toInt64)]) hX (k_X8_in (l := xl X) (I := I_1) (J := J) hX.ok  h_6) pk_X8_in ml_X8_81 rfl rfl rfl (Nat.le_of_ble_eq_true rfl) dX8_counter_23 ?_
    refine r_if_ne (tgt := 33) hX dX8_counter_26 (by decide) (fun c_7 => ?_) (fun c_7 => ?_)
    · have hf := hf_t c_7 hf
      refine r_iconst (v := -1) hX dX8_counter_29 rfl ?_
      refine r_goto (tgt := 47) hX dX8_counter_30 (by decide) ?_
      cases hf
      exact hret _ _ dX8_counter_47
    · have hf := hf_f c_7 hf
      refine r_aload_n hX dX8_counter_33 rfl ?_
      refine g_8_19 hX fl_X8_44 hk0 dX8_counter_34 ?_
      refine r_bipush (v := 29) hX dX8_counter_37 (by decide) ?_
      refine r_iload_n hX dX8_counter_39 rfl ?_
      refine r_imul hX dX8_counter_40 ?_
      refine r_bipush (v := 10) hX dX8_counter_41 (by decide) ?_
      refine r_iadd hX dX8_counter_43 ?_
      refine r_iload_n hX dX8_counter_44 rfl ?_
      refine r_iadd hX dX8_counter_45 ?_
      obtain ⟨g_8, hf⟩ := gd_some hf
      refine r_iald (n := 121) hX rfl ((q_9_19 hX hk0)) g_8 dX8_counter_46 ?_
      cases hf
      exact hret _ _ dX8_counter_47
  · have hf := hf_f c_4 hf
    refine r_iconst (v := -1) hX dX8_counter_29 rfl ?_
    refine r_goto (tgt := 47) hX dX8_counter_30 (by decide) ?_
    cases hf
    exact hret _ _ dX8_counter_47
noncomputable def f_X8_hash (I : HI) (a0 : Nat) (x1 : Int32) (x2 : Int32) (x3 : Int32) : Option (Int32 × HI) := lt1 (sI I a0 0 ((0 : Int32))) fun I_1 => bd1 (f_X8_in x1.toInt64 ((0 : Int64)) ((((I_1 a0 6) - (1 : Int32))).toInt64)) fun r_2 => if r_2 = 0 then some ((-1 : Int32), I_1) else bd1 (f_X8_noPage x2) fun r_5 => if r_5 = 0 then bd1 (f_X8_in x3.toInt64 ((0 : Int64)) ((((I_1 a0 5) - (1 : Int32))).toInt64)) fun r_8 => if r_8 = 0 then some ((-2 : Int32), I_1) else bd1 (f_X8_hashOf I_1 a0 x1 x2 x3) fun r_11 => some (r_11, I_1) else some ((-1 : Int32), I_1)
set_option maxHeartbeats 4000000 in
set_option maxRecDepth 100000 in
theorem k_X8_hash {G : GX} {l : Launch} {I : HI} {J : HJ} {I' : HI} {r : Int32} (hG : OKG G) {a0 : Nat} {x1 : Int32} {x2 : Int32} {x3 : Int32} (hk0 : gK G a0 = 9) (hf : f_X8_hash I a0 x1 x2 x3 = some (r, I')) : Ctr G l yX8_hash cX8_hash 4 (some .int) 2 45 [.ref a0, .int x1, .int x2, .int x3] I J (some (.int r)) I' J := by
  refine ctr_I hG (by decide) [some (.ref a0), some (.int x1), some (.int x2), some (.int x3)] rfl rfl fun X e1 e2 hX hret => ?_
  subst e1; subst e2
  unfold f_X8_hash at hf
  refine r_aload_n hX dX8_hash_0 rfl ?_
  refine r_iconst (v := 0) hX dX8_hash_1 rfl ?_
  obtain ⟨I_1, eI_1, hf⟩ := lt1_some hf
  refine p_8_0 eI_1 hX fl_X8_75 hk0 dX8_hash_2 ?_
  refine r_iload_n hX dX8_hash_5 rfl ?_
  refine r_i2l hX dX8_hash_6 ?_
  refine r_lconst (v := 0) hX dX8_hash_7 rfl ?_
  refine r_aload_n hX dX8_hash_8 rfl ?_
  refine g_8_6 hX fl_X8_20 hk0 dX8_hash_9 ?_
  refine r_iconst (v := 1) hX dX8_hash_12 rfl ?_
  refine r_isub hX dX8_hash_13 ?_
  refine r_i2l hX dX8_hash_14 ?_
  obtain ⟨r_2, h_3, hf⟩ := bd1_some hf
  refine r_callS (As := [.long x1.toInt64, .long ((0 : Int64)), .long ((((I_1 a0 6) - (1 : Int32))).toInt64)]) hX (k_X8_in (l := xl X) (I := I_1) (J := J) hX.ok  h_3) pk_X8_in ml_X8_81 rfl rfl rfl (Nat.le_of_ble_eq_true rfl) dX8_hash_15 ?_
  refine r_if_eq (tgt := 28) hX dX8_hash_18 (by decide) (fun c_4 => ?_) (fun c_4 => ?_)
  · have hf := hf_t c_4 hf
    refine r_iconst (v := -1) hX dX8_hash_28 rfl ?_
    cases hf
    exact hret _ _ dX8_hash_29
  · have hf := hf_f c_4 hf
    refine r_iload_n hX dX8_hash_21 rfl ?_
    obtain ⟨r_5, h_6, hf⟩ := bd1_some hf
    refine r_callS (As := [.int x2]) hX (k_X8_noPage (l := xl X) (I := I_1) (J := J) hX.ok  h_6) pk_X8_noPage ml_X8_211 rfl rfl rfl (Nat.le_of_ble_eq_true rfl) dX8_hash_22 ?_
    refine r_if_eq (tgt := 30) hX dX8_hash_25 (by decide) (fun c_7 => ?_) (fun c_7 => ?_)
    · have hf := hf_t c_7 hf
      refine r_iload_n hX dX8_hash_30 rfl ?_
      refine r_i2l hX dX8_hash_31 ?_
      refine r_lconst (v := 0) hX dX8_hash_32 rfl ?_
      refine r_aload_n hX dX8_hash_33 rfl ?_
      refine g_8_5 hX fl_X8_17 hk0 dX8_hash_34 ?_
      refine r_iconst (v := 1) hX dX8_hash_37 rfl ?_
      refine r_isub hX dX8_hash_38 ?_
      refine r_i2l hX dX8_hash_39 ?_
      obtain ⟨r_8, h_9, hf⟩ := bd1_some hf
      refine r_callS (As := [.long x3.toInt64, .long ((0 : Int64)), .long ((((I_1 a0 5) - (1 : Int32))).toInt64)]) hX (k_X8_in (l := xl X) (I := I_1) (J := J) hX.ok  h_9) pk_X8_in ml_X8_81 rfl rfl rfl (Nat.le_of_ble_eq_true rfl) dX8_hash_40 ?_
      refine r_if_eq (tgt := 56) hX dX8_hash_43 (by decide) (fun c_10 => ?_) (fun c_10 => ?_)
      · have hf := hf_t c_10 hf
        refine r_bipush (v := -2) hX dX8_hash_56 (by decide) ?_
        cases hf
        exact hret _ _ dX8_hash_58
      · have hf := hf_f c_10 hf
        refine r_aload_n hX dX8_hash_46 rfl ?_
        refine r_iload_n hX dX8_hash_47 rfl ?_
        refine r_iload_n hX dX8_hash_48 rfl ?_
        refine r_iload_n hX dX8_hash_49 rfl ?_
        obtain ⟨r_11, h_12, hf⟩ := bd1_some hf
        refine r_callV (As := [.int x1, .int x2, .int x3]) (ci := 8) hX (k_X8_hashOf (l := xl X) (J := J) hX.ok hk0 h_12) pk_X8_hashOf ml_X8_162 rfl rfl rfl rfl hk0 rfl rfl rfl (Nat.le_of_ble_eq_true rfl) dX8_hash_50 ?_
        refine r_goto (tgt := 58) hX dX8_hash_53 (by decide) ?_
        cases hf
        exact hret _ _ dX8_hash_58
    · have hf := hf_f c_7 hf
      refine r_iconst (v := -1) hX dX8_hash_28 rfl ?_
      cases hf
      exact hret _ _ dX8_hash_29
noncomputable def X8_says_J51 (I : HI) (a0 : Nat) (x2 : Int32) (sa0 : Nat) (sx1 : Int32) : Option (Int32 × HI) := gd (vp_in ((116 : Int32)) 121) (bd1 (f_X8_isSaid I sa0 sx1 ((I ((a0 + 9)) ((116 : Int32)).toNatClampNeg)) x2) fun r_13 => if r_13 = 0 then some ((0 : Int32), I) else some ((1 : Int32), I))
set_option maxHeartbeats 4000000 in
set_option maxRecDepth 100000 in
theorem vX8_says_51 {X : CX} {I' : HI} {r : Int32} {I : HI} {J : HJ} (hX : OKX X cX8_says RX8 2 48 4) (hret : RetI X cX8_says r I' J) (a0 : Nat) (x2 : Int32) (sa0 : Nat) (sx1 : Int32) (hk0 : gK (xG X) a0 = 9) (hs0 : gK (xG X) sa0 = 9)   (hf : X8_says_J51 I a0 x2 sa0 sx1 = some (r, I')) : V X I J 51 [some (.ref a0), none, some (.int x2), none] [.int sx1, .ref sa0] := by
  unfold X8_says_J51 at hf
  refine r_aload_n hX dX8_says_51 rfl ?_
  refine g_8_19 hX fl_X8_44 hk0 dX8_says_52 ?_
  refine r_bipush (v := 116) hX dX8_says_55 (by decide) ?_
  obtain ⟨g_12, hf⟩ := gd_some hf
  refine r_iald (n := 121) hX rfl ((q_9_19 hX hk0)) g_12 dX8_says_57 ?_
  refine r_iload_n hX dX8_says_58 rfl ?_
  obtain ⟨r_13, h_14, hf⟩ := bd1_some hf
  refine r_callV (As := [.int sx1, .int ((I ((a0 + 9)) ((116 : Int32)).toNatClampNeg)), .int x2]) (ci := 8) hX (k_X8_isSaid (l := xl X) (J := J) hX.ok hs0 h_14) pk_X8_isSaid ml_X8_169 rfl rfl rfl rfl hs0 rfl rfl rfl (Nat.le_of_ble_eq_true rfl) dX8_says_59 ?_
  refine r_if_eq (tgt := 69) hX dX8_says_62 (by decide) (fun c_15 => ?_) (fun c_15 => ?_)
  · have hf := hf_t c_15 hf
    refine r_iconst (v := 0) hX dX8_says_69 rfl ?_
    cases hf
    exact hret _ _ dX8_says_70
  · have hf := hf_f c_15 hf
    refine r_iconst (v := 1) hX dX8_says_65 rfl ?_
    refine r_goto (tgt := 70) hX dX8_says_66 (by decide) ?_
    cases hf
    exact hret _ _ dX8_says_70
noncomputable def f_X8_says (I : HI) (a0 : Nat) (x1 : Int32) (x2 : Int32) (x3 : Int32) : Option (Int32 × HI) := lt1 (sI I a0 0 ((0 : Int32))) fun I_1 => bd1 (f_X8_noProxy I_1 a0 x1) fun r_2 => if r_2 = 0 then bd1 (f_X8_noPage x2) fun r_5 => if r_5 = 0 then if x3 = 0 then gd (vp_in ((((29 : Int32) * x1) + (26 : Int32))) 121) (X8_says_J51 I_1 a0 x2 a0 ((I_1 ((a0 + 9)) ((((29 : Int32) * x1) + (26 : Int32))).toNatClampNeg))) else bd1 (f_X8_filterOf I_1 a0 ((a0 + 9)) x1) fun r_10 => X8_says_J51 I_1 a0 x2 a0 r_10 else some ((-1 : Int32), I_1) else some ((-1 : Int32), I_1)
set_option maxHeartbeats 4000000 in
set_option maxRecDepth 100000 in
theorem k_X8_says {G : GX} {l : Launch} {I : HI} {J : HJ} {I' : HI} {r : Int32} (hG : OKG G) {a0 : Nat} {x1 : Int32} {x2 : Int32} {x3 : Int32} (hk0 : gK G a0 = 9) (hf : f_X8_says I a0 x1 x2 x3 = some (r, I')) : Ctr G l yX8_says cX8_says 4 (some .int) 2 48 [.ref a0, .int x1, .int x2, .int x3] I J (some (.int r)) I' J := by
  refine ctr_I hG (by decide) [some (.ref a0), some (.int x1), some (.int x2), some (.int x3)] rfl rfl fun X e1 e2 hX hret => ?_
  subst e1; subst e2
  unfold f_X8_says at hf
  refine r_aload_n hX dX8_says_0 rfl ?_
  refine r_iconst (v := 0) hX dX8_says_1 rfl ?_
  obtain ⟨I_1, eI_1, hf⟩ := lt1_some hf
  refine p_8_0 eI_1 hX fl_X8_75 hk0 dX8_says_2 ?_
  refine r_aload_n hX dX8_says_5 rfl ?_
  refine r_iload_n hX dX8_says_6 rfl ?_
  obtain ⟨r_2, h_3, hf⟩ := bd1_some hf
  refine r_callV (As := [.int x1]) (ci := 8) hX (k_X8_noProxy (l := xl X) (J := J) hX.ok hk0 h_3) pk_X8_noProxy ml_X8_200 rfl rfl rfl rfl hk0 rfl rfl rfl (Nat.le_of_ble_eq_true rfl) dX8_says_7 ?_
  refine r_if_ne (tgt := 20) hX dX8_says_10 (by decide) (fun c_4 => ?_) (fun c_4 => ?_)
  · have hf := hf_t c_4 hf
    refine r_iload_n hX dX8_says_13 rfl ?_
    obtain ⟨r_5, h_6, hf⟩ := bd1_some hf
    refine r_callS (As := [.int x2]) hX (k_X8_noPage (l := xl X) (I := I_1) (J := J) hX.ok  h_6) pk_X8_noPage ml_X8_211 rfl rfl rfl (Nat.le_of_ble_eq_true rfl) dX8_says_14 ?_
    refine r_if_eq (tgt := 22) hX dX8_says_17 (by decide) (fun c_7 => ?_) (fun c_7 => ?_)
    · have hf := hf_t c_7 hf
      refine r_aload_n hX dX8_says_22 rfl ?_
      refine r_iload_n hX dX8_says_23 rfl ?_
      refine r_if_eq (tgt := 39) hX dX8_says_24 (by decide) (fun c_8 => ?_) (fun c_8 => ?_)
      · have hf := hf_t c_8 hf
        refine r_aload_n hX dX8_says_39 rfl ?_
        refine g_8_19 hX fl_X8_44 hk0 dX8_says_40 ?_
        refine r_bipush (v := 29) hX dX8_says_43 (by decide) ?_
        refine r_iload_n hX dX8_says_45 rfl ?_
        refine r_imul hX dX8_says_46 ?_
        refine r_bipush (v := 26) hX dX8_says_47 (by decide) ?_
        refine r_iadd hX dX8_says_49 ?_
        obtain ⟨g_9, hf⟩ := gd_some hf
        refine r_iald (n := 121) hX rfl ((q_9_19 hX hk0)) g_9 dX8_says_50 ?_
        refine V.mask [true, false, true, false] ?_
        exact vX8_says_51 hX hret a0 x2 a0 ((I_1 ((a0 + 9)) ((((29 : Int32) * x1) + (26 : Int32))).toNatClampNeg)) hk0 hk0 hf
      · have hf := hf_f c_8 hf
        refine r_aload_n hX dX8_says_27 rfl ?_
        refine r_aload_n hX dX8_says_28 rfl ?_
        refine g_8_19 hX fl_X8_44 hk0 dX8_says_29 ?_
        refine r_iload_n hX dX8_says_32 rfl ?_
        obtain ⟨r_10, h_11, hf⟩ := bd1_some hf
        refine r_callV (As := [.ref ((a0 + 9)), .int x1]) (ci := 8) hX (k_X8_filterOf (l := xl X) (J := J) hX.ok hk0 ((q_9_19 hX hk0)) h_11) pk_X8_filterOf ml_X8_155 rfl rfl rfl rfl hk0 rfl rfl rfl (Nat.le_of_ble_eq_true rfl) dX8_says_33 ?_
        refine r_goto (tgt := 51) hX dX8_says_36 (by decide) ?_
        refine V.mask [true, false, true, false] ?_
        exact vX8_says_51 hX hret a0 x2 a0 r_10 hk0 hk0 hf
    · have hf := hf_f c_7 hf
      refine r_iconst (v := -1) hX dX8_says_20 rfl ?_
      cases hf
      exact hret _ _ dX8_says_21
  · have hf := hf_f c_4 hf
    refine r_iconst (v := -1) hX dX8_says_20 rfl ?_
    cases hf
    exact hret _ _ dX8_says_21
noncomputable def X8_note_B51 (a0 : Nat) (k51 : HI → Int32 → Option (HI)) (I : HI) (x1 : Int32) : Option (HI) := if x1 < (121 : Int32) then gd (vp_in x1 121) (gd (vp_in ((((121 : Int32) * (I a0 22)) + x1)) 1694) (lt1 (sI I ((a0 + 11)) ((((121 : Int32) * (I a0 22)) + x1)).toNatClampNeg ((I ((a0 + 9)) x1.toNatClampNeg))) fun I_11 => lt1 (x1 + (1 : Int32)) fun x_12 => k51 I_11 x_12)) else lt1 (sI I a0 22 (((I a0 22) + (1 : Int32)))) fun I_13 => some I_13
set_option maxHeartbeats 4000000 in
set_option maxRecDepth 100000 in
theorem vX8_note_51 {X : CX} {I' : HI} {J : HJ} (hX : OKX X cX8_note RX8 0 0 2) (hret : RetV X cX8_note I' J) (a0 : Nat) (hk0 : gK (xG X) a0 = 9)   : ∀ (n : Nat) (I : HI) (x1 : Int32), wl2 (X8_note_B51 a0) n I x1 = some I' → V X I J 51 [some (.ref a0), some (.int x1)] [] := by
  refine wl2_V (P := fun (I : HI) (x1 : Int32) => V X I J 51 [some (.ref a0), some (.int x1)] []) ?_
  intro k51 hc51 I x1 hf
  unfold X8_note_B51 at hf
  refine r_iload_n hX dX8_note_51 rfl ?_
  refine r_bipush (v := 121) hX dX8_note_52 (by decide) ?_
  refine r_icmp_ge (tgt := 83) hX dX8_note_54 (by decide) (fun c_8 => ?_) (fun c_8 => ?_)
  · have hf := hf_t c_8 hf
    refine r_aload_n hX dX8_note_57 rfl ?_
    refine g_8_21 hX fl_X8_50 hk0 dX8_note_58 ?_
    refine r_bipush (v := 121) hX dX8_note_61 (by decide) ?_
    refine r_aload_n hX dX8_note_63 rfl ?_
    refine g_8_22 hX fl_X8_159 hk0 dX8_note_64 ?_
    refine r_imul hX dX8_note_67 ?_
    refine r_iload_n hX dX8_note_68 rfl ?_
    refine r_iadd hX dX8_note_69 ?_
    refine r_aload_n hX dX8_note_70 rfl ?_
    refine g_8_19 hX fl_X8_44 hk0 dX8_note_71 ?_
    refine r_iload_n hX dX8_note_74 rfl ?_
    obtain ⟨g_9, hf⟩ := gd_some hf
    refine r_iald (n := 121) hX rfl ((q_9_19 hX hk0)) g_9 dX8_note_75 ?_
    obtain ⟨g_10, hf⟩ := gd_some hf
    obtain ⟨I_11, eI_11, hf⟩ := lt1_some hf
    refine r_iastE (n := 1694) eI_11 hX rfl ((q_9_21 hX hk0)) g_10 dX8_note_76 ?_
    obtain ⟨x_12, ex_12, hf⟩ := lt1_some hf
    refine r_iincE (n' := 1) ex_12 hX dX8_note_77 rfl rfl rfl rfl ?_
    refine r_goto (tgt := 51) hX dX8_note_80 (by decide) ?_
    refine V.mask [true, true] ?_
    exact hc51 I_11 x_12 hf
  · have hf := hf_f c_8 hf
    refine r_aload_n hX dX8_note_83 rfl ?_
    refine r_dup hX dX8_note_84 rfl ?_
    refine g_8_22 hX fl_X8_159 hk0 dX8_note_85 ?_
    refine r_iconst (v := 1) hX dX8_note_88 rfl ?_
    refine r_iadd hX dX8_note_89 ?_
    obtain ⟨I_13, eI_13, hf⟩ := lt1_some hf
    refine p_8_22 eI_13 hX fl_X8_159 hk0 dX8_note_90 ?_
    cases hf
    exact hret _ _ dX8_note_93
noncomputable def X8_note_J49 (I : HI) (a0 : Nat) : Option (HI) := wl2 (X8_note_B51 a0) 5000 I ((0 : Int32))
set_option maxHeartbeats 4000000 in
set_option maxRecDepth 100000 in
theorem vX8_note_49 {X : CX} {I' : HI} {I : HI} {J : HJ} (hX : OKX X cX8_note RX8 0 0 2) (hret : RetV X cX8_note I' J) (a0 : Nat) (hk0 : gK (xG X) a0 = 9)   (hf : X8_note_J49 I a0 = some I') : V X I J 49 [some (.ref a0), none] [] := by
  unfold X8_note_J49 at hf
  refine r_iconst (v := 0) hX dX8_note_49 rfl ?_
  refine r_istore_n hX dX8_note_50 rfl rfl ?_
  refine V.mask [true, true] ?_
  exact vX8_note_51 hX hret a0 hk0 5000 I ((0 : Int32)) hf
noncomputable def X8_note_B11 (a0 : Nat) (k11 : HI → Int32 → Option (HI)) (I : HI) (x1 : Int32) : Option (HI) := if x1 < (1573 : Int32) then gd (vp_in ((x1 + (121 : Int32))) 1694) (gd (vp_in x1 1694) (lt1 (sI I ((a0 + 11)) x1.toNatClampNeg ((I ((a0 + 11)) ((x1 + (121 : Int32))).toNatClampNeg))) fun I_5 => lt1 (x1 + (1 : Int32)) fun x_6 => k11 I_5 x_6)) else lt1 (sI I a0 22 (((I a0 22) - (1 : Int32)))) fun I_7 => X8_note_J49 I_7 a0
set_option maxHeartbeats 4000000 in
set_option maxRecDepth 100000 in
theorem vX8_note_11 {X : CX} {I' : HI} {J : HJ} (hX : OKX X cX8_note RX8 0 0 2) (hret : RetV X cX8_note I' J) (a0 : Nat) (hk0 : gK (xG X) a0 = 9)   : ∀ (n : Nat) (I : HI) (x1 : Int32), wl2 (X8_note_B11 a0) n I x1 = some I' → V X I J 11 [some (.ref a0), some (.int x1)] [] := by
  refine wl2_V (P := fun (I : HI) (x1 : Int32) => V X I J 11 [some (.ref a0), some (.int x1)] []) ?_
  intro k11 hc11 I x1 hf
  unfold X8_note_B11 at hf
  refine r_iload_n hX dX8_note_11 rfl ?_
  refine r_sipush (v := 1573) hX dX8_note_12 (by decide) ?_
  refine r_icmp_ge (tgt := 39) hX dX8_note_15 (by decide) (fun c_2 => ?_) (fun c_2 => ?_)
  · have hf := hf_t c_2 hf
    refine r_aload_n hX dX8_note_18 rfl ?_
    refine g_8_21 hX fl_X8_50 hk0 dX8_note_19 ?_
    refine r_iload_n hX dX8_note_22 rfl ?_
    refine r_aload_n hX dX8_note_23 rfl ?_
    refine g_8_21 hX fl_X8_50 hk0 dX8_note_24 ?_
    refine r_iload_n hX dX8_note_27 rfl ?_
    refine r_bipush (v := 121) hX dX8_note_28 (by decide) ?_
    refine r_iadd hX dX8_note_30 ?_
    obtain ⟨g_3, hf⟩ := gd_some hf
    refine r_iald (n := 1694) hX rfl ((q_9_21 hX hk0)) g_3 dX8_note_31 ?_
    obtain ⟨g_4, hf⟩ := gd_some hf
    obtain ⟨I_5, eI_5, hf⟩ := lt1_some hf
    refine r_iastE (n := 1694) eI_5 hX rfl ((q_9_21 hX hk0)) g_4 dX8_note_32 ?_
    obtain ⟨x_6, ex_6, hf⟩ := lt1_some hf
    refine r_iincE (n' := 1) ex_6 hX dX8_note_33 rfl rfl rfl rfl ?_
    refine r_goto (tgt := 11) hX dX8_note_36 (by decide) ?_
    refine V.mask [true, true] ?_
    exact hc11 I_5 x_6 hf
  · have hf := hf_f c_2 hf
    refine r_aload_n hX dX8_note_39 rfl ?_
    refine r_dup hX dX8_note_40 rfl ?_
    refine g_8_22 hX fl_X8_159 hk0 dX8_note_41 ?_
    refine r_iconst (v := 1) hX dX8_note_44 rfl ?_
    refine r_isub hX dX8_note_45 ?_
    obtain ⟨I_7, eI_7, hf⟩ := lt1_some hf
    refine p_8_22 eI_7 hX fl_X8_159 hk0 dX8_note_46 ?_
    refine V.mask [true, false] ?_
    exact vX8_note_49 hX hret a0 hk0 hf
noncomputable def f_X8_note (I : HI) (a0 : Nat) : Option (HI) := if (I a0 22) = (14 : Int32) then wl2 (X8_note_B11 a0) 5000 I ((0 : Int32)) else X8_note_J49 I a0
set_option maxHeartbeats 4000000 in
set_option maxRecDepth 100000 in
theorem k_X8_note {G : GX} {l : Launch} {I : HI} {J : HJ} {I' : HI} (hG : OKG G) {a0 : Nat} (hk0 : gK G a0 = 9) (hf : f_X8_note I a0 = some I') : Ctr G l yX8_note cX8_note 2 none 0 0 [.ref a0] I J none I' J := by
  refine ctr_V hG (by decide) [some (.ref a0), none] rfl rfl fun X e1 e2 hX hret => ?_
  subst e1; subst e2
  unfold f_X8_note at hf
  refine r_aload_n hX dX8_note_0 rfl ?_
  refine g_8_22 hX fl_X8_159 hk0 dX8_note_1 ?_
  refine r_bipush (v := 14) hX dX8_note_4 (by decide) ?_
  refine r_icmp_ne (tgt := 49) hX dX8_note_6 (by decide) (fun c_1 => ?_) (fun c_1 => ?_)
  · have hf := hf_t c_1 hf
    refine r_iconst (v := 0) hX dX8_note_9 rfl ?_
    refine r_istore_n hX dX8_note_10 rfl rfl ?_
    refine V.mask [true, true] ?_
    exact vX8_note_11 hX hret a0 hk0 5000 I ((0 : Int32)) hf
  · have hf := hf_f c_1 hf
    refine V.mask [true, false] ?_
    exact vX8_note_49 hX hret a0 hk0 hf
noncomputable def f_X8_ask (I : HI) (a0 : Nat) (x1 : Int32) (x2 : Int32) : Option (Int32 × HI) := lt1 (sI I a0 0 ((0 : Int32))) fun I_1 => bd1 (f_X8_noProxy I_1 a0 x1) fun r_2 => if r_2 = 0 then bd1 (f_X8_noPage x2) fun r_5 => if r_5 = 0 then bd1 (f_X8_note I_1 a0) fun I_8 => bd2 (f_X8_askOn I_8 a0 ((a0 + 9)) x1 x2) fun r_10 I_11 => some (r_10, I_11) else some ((-1 : Int32), I_1) else some ((-1 : Int32), I_1)
set_option maxHeartbeats 4000000 in
set_option maxRecDepth 100000 in
theorem k_X8_ask {G : GX} {l : Launch} {I : HI} {J : HJ} {I' : HI} {r : Int32} (hG : OKG G) {a0 : Nat} {x1 : Int32} {x2 : Int32} (hk0 : gK G a0 = 9) (hf : f_X8_ask I a0 x1 x2 = some (r, I')) : Ctr G l yX8_ask cX8_ask 3 (some .int) 5 123 [.ref a0, .int x1, .int x2] I J (some (.int r)) I' J := by
  refine ctr_I hG (by decide) [some (.ref a0), some (.int x1), some (.int x2)] rfl rfl fun X e1 e2 hX hret => ?_
  subst e1; subst e2
  unfold f_X8_ask at hf
  refine r_aload_n hX dX8_ask_0 rfl ?_
  refine r_iconst (v := 0) hX dX8_ask_1 rfl ?_
  obtain ⟨I_1, eI_1, hf⟩ := lt1_some hf
  refine p_8_0 eI_1 hX fl_X8_75 hk0 dX8_ask_2 ?_
  refine r_aload_n hX dX8_ask_5 rfl ?_
  refine r_iload_n hX dX8_ask_6 rfl ?_
  obtain ⟨r_2, h_3, hf⟩ := bd1_some hf
  refine r_callV (As := [.int x1]) (ci := 8) hX (k_X8_noProxy (l := xl X) (J := J) hX.ok hk0 h_3) pk_X8_noProxy ml_X8_200 rfl rfl rfl rfl hk0 rfl rfl rfl (Nat.le_of_ble_eq_true rfl) dX8_ask_7 ?_
  refine r_if_ne (tgt := 20) hX dX8_ask_10 (by decide) (fun c_4 => ?_) (fun c_4 => ?_)
  · have hf := hf_t c_4 hf
    refine r_iload_n hX dX8_ask_13 rfl ?_
    obtain ⟨r_5, h_6, hf⟩ := bd1_some hf
    refine r_callS (As := [.int x2]) hX (k_X8_noPage (l := xl X) (I := I_1) (J := J) hX.ok  h_6) pk_X8_noPage ml_X8_211 rfl rfl rfl (Nat.le_of_ble_eq_true rfl) dX8_ask_14 ?_
    refine r_if_eq (tgt := 22) hX dX8_ask_17 (by decide) (fun c_7 => ?_) (fun c_7 => ?_)
    · have hf := hf_t c_7 hf
      refine r_aload_n hX dX8_ask_22 rfl ?_
      obtain ⟨I_8, h_9, hf⟩ := bd1_some hf
      refine r_callV (As := []) (ci := 8) hX (k_X8_note (l := xl X) (J := J) hX.ok hk0 h_9) pk_X8_note ml_X8_214 rfl rfl rfl rfl hk0 rfl rfl rfl (Nat.le_of_ble_eq_true rfl) dX8_ask_23 ?_
      refine r_aload_n hX dX8_ask_26 rfl ?_
      refine r_aload_n hX dX8_ask_27 rfl ?_
      refine g_8_19 hX fl_X8_44 hk0 dX8_ask_28 ?_
      refine r_iload_n hX dX8_ask_31 rfl ?_
      refine r_iload_n hX dX8_ask_32 rfl ?_
      obtain ⟨r_10, I_11, h_12, hf⟩ := bd2_some hf
      refine r_callV (As := [.ref ((a0 + 9)), .int x1, .int x2]) (ci := 8) hX (k_X8_askOn (l := xl X) (J := J) hX.ok hk0 ((q_9_19 hX hk0)) h_12) pk_X8_askOn ml_X8_217 rfl rfl rfl rfl hk0 rfl rfl rfl (Nat.le_of_ble_eq_true rfl) dX8_ask_33 ?_
      cases hf
      exact hret _ _ dX8_ask_36
    · have hf := hf_f c_7 hf
      refine r_iconst (v := -1) hX dX8_ask_20 rfl ?_
      cases hf
      exact hret _ _ dX8_ask_21
  · have hf := hf_f c_4 hf
    refine r_iconst (v := -1) hX dX8_ask_20 rfl ?_
    cases hf
    exact hret _ _ dX8_ask_21
noncomputable def f_X8_drop (I : HI) (a0 : Nat) (x1 : Int32) (x2 : Int32) : Option (Int32 × HI) := lt1 (sI I a0 0 ((0 : Int32))) fun I_1 => bd1 (f_X8_noProxy I_1 a0 x1) fun r_2 => if r_2 = 0 then bd1 (f_X8_noPage x2) fun r_5 => if r_5 = 0 then bd1 (f_X8_placeOf I_1 ((a0 + 9)) x1 x2) fun r_8 => if r_8 = (-9 : Int32) then some ((-3 : Int32), I_1) else bd1 (f_X8_note I_1 a0) fun I_11 => bd1 (f_X8_dropOn I_11 a0 ((a0 + 9)) x1 r_8) fun I_13 => gd (vp_in ((((29 : Int32) * x1) + (9 : Int32))) 121) (some ((I_13 ((a0 + 9)) ((((29 : Int32) * x1) + (9 : Int32))).toNatClampNeg), I_13)) else some ((-1 : Int32), I_1) else some ((-1 : Int32), I_1)
set_option maxHeartbeats 4000000 in
set_option maxRecDepth 100000 in
theorem k_X8_drop {G : GX} {l : Launch} {I : HI} {J : HJ} {I' : HI} {r : Int32} (hG : OKG G) {a0 : Nat} {x1 : Int32} {x2 : Int32} (hk0 : gK G a0 = 9) (hf : f_X8_drop I a0 x1 x2 = some (r, I')) : Ctr G l yX8_drop cX8_drop 4 (some .int) 4 96 [.ref a0, .int x1, .int x2] I J (some (.int r)) I' J := by
  refine ctr_I hG (by decide) [some (.ref a0), some (.int x1), some (.int x2), none] rfl rfl fun X e1 e2 hX hret => ?_
  subst e1; subst e2
  unfold f_X8_drop at hf
  refine r_aload_n hX dX8_drop_0 rfl ?_
  refine r_iconst (v := 0) hX dX8_drop_1 rfl ?_
  obtain ⟨I_1, eI_1, hf⟩ := lt1_some hf
  refine p_8_0 eI_1 hX fl_X8_75 hk0 dX8_drop_2 ?_
  refine r_aload_n hX dX8_drop_5 rfl ?_
  refine r_iload_n hX dX8_drop_6 rfl ?_
  obtain ⟨r_2, h_3, hf⟩ := bd1_some hf
  refine r_callV (As := [.int x1]) (ci := 8) hX (k_X8_noProxy (l := xl X) (J := J) hX.ok hk0 h_3) pk_X8_noProxy ml_X8_200 rfl rfl rfl rfl hk0 rfl rfl rfl (Nat.le_of_ble_eq_true rfl) dX8_drop_7 ?_
  refine r_if_ne (tgt := 20) hX dX8_drop_10 (by decide) (fun c_4 => ?_) (fun c_4 => ?_)
  · have hf := hf_t c_4 hf
    refine r_iload_n hX dX8_drop_13 rfl ?_
    obtain ⟨r_5, h_6, hf⟩ := bd1_some hf
    refine r_callS (As := [.int x2]) hX (k_X8_noPage (l := xl X) (I := I_1) (J := J) hX.ok  h_6) pk_X8_noPage ml_X8_211 rfl rfl rfl (Nat.le_of_ble_eq_true rfl) dX8_drop_14 ?_
    refine r_if_eq (tgt := 22) hX dX8_drop_17 (by decide) (fun c_7 => ?_) (fun c_7 => ?_)
    · have hf := hf_t c_7 hf
      refine r_aload_n hX dX8_drop_22 rfl ?_
      refine g_8_19 hX fl_X8_44 hk0 dX8_drop_23 ?_
      refine r_iload_n hX dX8_drop_26 rfl ?_
      refine r_iload_n hX dX8_drop_27 rfl ?_
      obtain ⟨r_8, h_9, hf⟩ := bd1_some hf
      refine r_callS (As := [.ref ((a0 + 9)), .int x1, .int x2]) hX (k_X8_placeOf (l := xl X) (J := J) hX.ok ((q_9_19 hX hk0)) h_9) pk_X8_placeOf ml_X8_115 rfl rfl rfl (Nat.le_of_ble_eq_true rfl) dX8_drop_28 ?_
      refine r_istore_n hX dX8_drop_31 rfl rfl ?_
      refine r_iload_n hX dX8_drop_32 rfl ?_
      refine r_bipush (v := -9) hX dX8_drop_33 (by decide) ?_
      refine r_icmp_ne (tgt := 41) hX dX8_drop_35 (by decide) (fun c_10 => ?_) (fun c_10 => ?_)
      · have hf := hf_t c_10 hf
        refine r_bipush (v := -3) hX dX8_drop_38 (by decide) ?_
        cases hf
        exact hret _ _ dX8_drop_40
      · have hf := hf_f c_10 hf
        refine r_aload_n hX dX8_drop_41 rfl ?_
        obtain ⟨I_11, h_12, hf⟩ := bd1_some hf
        refine r_callV (As := []) (ci := 8) hX (k_X8_note (l := xl X) (J := J) hX.ok hk0 h_12) pk_X8_note ml_X8_214 rfl rfl rfl rfl hk0 rfl rfl rfl (Nat.le_of_ble_eq_true rfl) dX8_drop_42 ?_
        refine r_aload_n hX dX8_drop_45 rfl ?_
        refine r_aload_n hX dX8_drop_46 rfl ?_
        refine g_8_19 hX fl_X8_44 hk0 dX8_drop_47 ?_
        refine r_iload_n hX dX8_drop_50 rfl ?_
        refine r_iload_n hX dX8_drop_51 rfl ?_
        obtain ⟨I_13, h_14, hf⟩ := bd1_some hf
        refine r_callV (As := [.ref ((a0 + 9)), .int x1, .int r_8]) (ci := 8) hX (k_X8_dropOn (l := xl X) (J := J) hX.ok hk0 ((q_9_19 hX hk0)) h_14) pk_X8_dropOn ml_X8_220 rfl rfl rfl rfl hk0 rfl rfl rfl (Nat.le_of_ble_eq_true rfl) dX8_drop_52 ?_
        refine r_aload_n hX dX8_drop_55 rfl ?_
        refine g_8_19 hX fl_X8_44 hk0 dX8_drop_56 ?_
        refine r_bipush (v := 29) hX dX8_drop_59 (by decide) ?_
        refine r_iload_n hX dX8_drop_61 rfl ?_
        refine r_imul hX dX8_drop_62 ?_
        refine r_bipush (v := 9) hX dX8_drop_63 (by decide) ?_
        refine r_iadd hX dX8_drop_65 ?_
        obtain ⟨g_15, hf⟩ := gd_some hf
        refine r_iald (n := 121) hX rfl ((q_9_19 hX hk0)) g_15 dX8_drop_66 ?_
        cases hf
        exact hret _ _ dX8_drop_67
    · have hf := hf_f c_7 hf
      refine r_iconst (v := -1) hX dX8_drop_20 rfl ?_
      cases hf
      exact hret _ _ dX8_drop_21
  · have hf := hf_f c_4 hf
    refine r_iconst (v := -1) hX dX8_drop_20 rfl ?_
    cases hf
    exact hret _ _ dX8_drop_21
noncomputable def f_X8_send (I : HI) (a0 : Nat) (x1 : Int32) : Option (Int32 × HI) := lt1 (sI I a0 0 ((0 : Int32))) fun I_1 => bd1 (f_X8_noProxy I_1 a0 x1) fun r_2 => if r_2 = 0 then bd1 (f_X8_note I_1 a0) fun I_5 => bd1 (f_X8_sendOn I_5 a0 ((a0 + 9)) x1) fun I_7 => gd (vp_in ((((29 : Int32) * x1) + (26 : Int32))) 121) (some ((I_7 ((a0 + 9)) ((((29 : Int32) * x1) + (26 : Int32))).toNatClampNeg), I_7)) else some ((-1 : Int32), I_1)
set_option maxHeartbeats 4000000 in
set_option maxRecDepth 100000 in
theorem k_X8_send {G : GX} {l : Launch} {I : HI} {J : HJ} {I' : HI} {r : Int32} (hG : OKG G) {a0 : Nat} {x1 : Int32} (hk0 : gK G a0 = 9) (hf : f_X8_send I a0 x1 = some (r, I')) : Ctr G l yX8_send cX8_send 2 (some .int) 2 46 [.ref a0, .int x1] I J (some (.int r)) I' J := by
  refine ctr_I hG (by decide) [some (.ref a0), some (.int x1)] rfl rfl fun X e1 e2 hX hret => ?_
  subst e1; subst e2
  unfold f_X8_send at hf
  refine r_aload_n hX dX8_send_0 rfl ?_
  refine r_iconst (v := 0) hX dX8_send_1 rfl ?_
  obtain ⟨I_1, eI_1, hf⟩ := lt1_some hf
  refine p_8_0 eI_1 hX fl_X8_75 hk0 dX8_send_2 ?_
  refine r_aload_n hX dX8_send_5 rfl ?_
  refine r_iload_n hX dX8_send_6 rfl ?_
  obtain ⟨r_2, h_3, hf⟩ := bd1_some hf
  refine r_callV (As := [.int x1]) (ci := 8) hX (k_X8_noProxy (l := xl X) (J := J) hX.ok hk0 h_3) pk_X8_noProxy ml_X8_200 rfl rfl rfl rfl hk0 rfl rfl rfl (Nat.le_of_ble_eq_true rfl) dX8_send_7 ?_
  refine r_if_eq (tgt := 15) hX dX8_send_10 (by decide) (fun c_4 => ?_) (fun c_4 => ?_)
  · have hf := hf_t c_4 hf
    refine r_aload_n hX dX8_send_15 rfl ?_
    obtain ⟨I_5, h_6, hf⟩ := bd1_some hf
    refine r_callV (As := []) (ci := 8) hX (k_X8_note (l := xl X) (J := J) hX.ok hk0 h_6) pk_X8_note ml_X8_214 rfl rfl rfl rfl hk0 rfl rfl rfl (Nat.le_of_ble_eq_true rfl) dX8_send_16 ?_
    refine r_aload_n hX dX8_send_19 rfl ?_
    refine r_aload_n hX dX8_send_20 rfl ?_
    refine g_8_19 hX fl_X8_44 hk0 dX8_send_21 ?_
    refine r_iload_n hX dX8_send_24 rfl ?_
    obtain ⟨I_7, h_8, hf⟩ := bd1_some hf
    refine r_callV (As := [.ref ((a0 + 9)), .int x1]) (ci := 8) hX (k_X8_sendOn (l := xl X) (J := J) hX.ok hk0 ((q_9_19 hX hk0)) h_8) pk_X8_sendOn ml_X8_183 rfl rfl rfl rfl hk0 rfl rfl rfl (Nat.le_of_ble_eq_true rfl) dX8_send_25 ?_
    refine r_aload_n hX dX8_send_28 rfl ?_
    refine g_8_19 hX fl_X8_44 hk0 dX8_send_29 ?_
    refine r_bipush (v := 29) hX dX8_send_32 (by decide) ?_
    refine r_iload_n hX dX8_send_34 rfl ?_
    refine r_imul hX dX8_send_35 ?_
    refine r_bipush (v := 26) hX dX8_send_36 (by decide) ?_
    refine r_iadd hX dX8_send_38 ?_
    obtain ⟨g_9, hf⟩ := gd_some hf
    refine r_iald (n := 121) hX rfl ((q_9_19 hX hk0)) g_9 dX8_send_39 ?_
    cases hf
    exact hret _ _ dX8_send_40
  · have hf := hf_f c_4 hf
    refine r_iconst (v := -1) hX dX8_send_13 rfl ?_
    cases hf
    exact hret _ _ dX8_send_14
noncomputable def f_X8_threshold (I : HI) (a0 : Nat) (x1 : Int32) (x2 : Int32) : Option (Int32 × HI) := lt1 (sI I a0 0 ((0 : Int32))) fun I_1 => bd1 (f_X8_noProxy I_1 a0 x1) fun r_2 => if r_2 = 0 then bd1 (f_X8_in x2.toInt64 ((1 : Int64)) ((9 : Int64))) fun r_5 => if r_5 = 0 then some ((-2 : Int32), I_1) else bd1 (f_X8_note I_1 a0) fun I_8 => gd (vp_in ((((29 : Int32) * x1) + (28 : Int32))) 121) (lt1 ((I_8 ((a0 + 9)) ((((29 : Int32) * x1) + (28 : Int32))).toNatClampNeg)) fun x_11 => gd (vp_in ((((29 : Int32) * x1) + (28 : Int32))) 121) (lt1 (sI I_8 ((a0 + 9)) ((((29 : Int32) * x1) + (28 : Int32))).toNatClampNeg x2) fun I_13 => bd1 (f_X8_sendDue I_13 a0 ((a0 + 9))) fun I_14 => some (x_11, I_14))) else some ((-1 : Int32), I_1)
set_option maxHeartbeats 4000000 in
set_option maxRecDepth 100000 in
theorem k_X8_threshold {G : GX} {l : Launch} {I : HI} {J : HJ} {I' : HI} {r : Int32} (hG : OKG G) {a0 : Nat} {x1 : Int32} {x2 : Int32} (hk0 : gK G a0 = 9) (hf : f_X8_threshold I a0 x1 x2 = some (r, I')) : Ctr G l yX8_threshold cX8_threshold 4 (some .int) 3 68 [.ref a0, .int x1, .int x2] I J (some (.int r)) I' J := by
  refine ctr_I hG (by decide) [some (.ref a0), some (.int x1), some (.int x2), none] rfl rfl fun X e1 e2 hX hret => ?_
  subst e1; subst e2
  unfold f_X8_threshold at hf
  refine r_aload_n hX dX8_threshold_0 rfl ?_
  refine r_iconst (v := 0) hX dX8_threshold_1 rfl ?_
  obtain ⟨I_1, eI_1, hf⟩ := lt1_some hf
  refine p_8_0 eI_1 hX fl_X8_75 hk0 dX8_threshold_2 ?_
  refine r_aload_n hX dX8_threshold_5 rfl ?_
  refine r_iload_n hX dX8_threshold_6 rfl ?_
  obtain ⟨r_2, h_3, hf⟩ := bd1_some hf
  refine r_callV (As := [.int x1]) (ci := 8) hX (k_X8_noProxy (l := xl X) (J := J) hX.ok hk0 h_3) pk_X8_noProxy ml_X8_200 rfl rfl rfl rfl hk0 rfl rfl rfl (Nat.le_of_ble_eq_true rfl) dX8_threshold_7 ?_
  refine r_if_eq (tgt := 15) hX dX8_threshold_10 (by decide) (fun c_4 => ?_) (fun c_4 => ?_)
  · have hf := hf_t c_4 hf
    refine r_iload_n hX dX8_threshold_15 rfl ?_
    refine r_i2l hX dX8_threshold_16 ?_
    refine r_lconst (v := 1) hX dX8_threshold_17 rfl ?_
    refine r_ldc2 hX dX8_threshold_18 cn_X8_129 ?_
    obtain ⟨r_5, h_6, hf⟩ := bd1_some hf
    refine r_callS (As := [.long x2.toInt64, .long ((1 : Int64)), .long ((9 : Int64))]) hX (k_X8_in (l := xl X) (I := I_1) (J := J) hX.ok  h_6) pk_X8_in ml_X8_81 rfl rfl rfl (Nat.le_of_ble_eq_true rfl) dX8_threshold_21 ?_
    refine r_if_ne (tgt := 30) hX dX8_threshold_24 (by decide) (fun c_7 => ?_) (fun c_7 => ?_)
    · have hf := hf_t c_7 hf
      refine r_bipush (v := -2) hX dX8_threshold_27 (by decide) ?_
      cases hf
      exact hret _ _ dX8_threshold_29
    · have hf := hf_f c_7 hf
      refine r_aload_n hX dX8_threshold_30 rfl ?_
      obtain ⟨I_8, h_9, hf⟩ := bd1_some hf
      refine r_callV (As := []) (ci := 8) hX (k_X8_note (l := xl X) (J := J) hX.ok hk0 h_9) pk_X8_note ml_X8_214 rfl rfl rfl rfl hk0 rfl rfl rfl (Nat.le_of_ble_eq_true rfl) dX8_threshold_31 ?_
      refine r_aload_n hX dX8_threshold_34 rfl ?_
      refine g_8_19 hX fl_X8_44 hk0 dX8_threshold_35 ?_
      refine r_bipush (v := 29) hX dX8_threshold_38 (by decide) ?_
      refine r_iload_n hX dX8_threshold_40 rfl ?_
      refine r_imul hX dX8_threshold_41 ?_
      refine r_bipush (v := 28) hX dX8_threshold_42 (by decide) ?_
      refine r_iadd hX dX8_threshold_44 ?_
      obtain ⟨g_10, hf⟩ := gd_some hf
      refine r_iald (n := 121) hX rfl ((q_9_19 hX hk0)) g_10 dX8_threshold_45 ?_
      obtain ⟨x_11, ex_11, hf⟩ := lt1_some hf
      refine V.topi ex_11 ?_
      refine r_istore_n hX dX8_threshold_46 rfl rfl ?_
      refine r_aload_n hX dX8_threshold_47 rfl ?_
      refine g_8_19 hX fl_X8_44 hk0 dX8_threshold_48 ?_
      refine r_bipush (v := 29) hX dX8_threshold_51 (by decide) ?_
      refine r_iload_n hX dX8_threshold_53 rfl ?_
      refine r_imul hX dX8_threshold_54 ?_
      refine r_bipush (v := 28) hX dX8_threshold_55 (by decide) ?_
      refine r_iadd hX dX8_threshold_57 ?_
      refine r_iload_n hX dX8_threshold_58 rfl ?_
      obtain ⟨g_12, hf⟩ := gd_some hf
      obtain ⟨I_13, eI_13, hf⟩ := lt1_some hf
      refine r_iastE (n := 121) eI_13 hX rfl ((q_9_19 hX hk0)) g_12 dX8_threshold_59 ?_
      refine r_aload_n hX dX8_threshold_60 rfl ?_
      refine r_aload_n hX dX8_threshold_61 rfl ?_
      refine g_8_19 hX fl_X8_44 hk0 dX8_threshold_62 ?_
      obtain ⟨I_14, h_15, hf⟩ := bd1_some hf
      refine r_callV (As := [.ref ((a0 + 9))]) (ci := 8) hX (k_X8_sendDue (l := xl X) (J := J) hX.ok hk0 ((q_9_19 hX hk0)) h_15) pk_X8_sendDue ml_X8_186 rfl rfl rfl rfl hk0 rfl rfl rfl (Nat.le_of_ble_eq_true rfl) dX8_threshold_65 ?_
      refine r_iload_n hX dX8_threshold_68 rfl ?_
      cases hf
      exact hret _ _ dX8_threshold_69
  · have hf := hf_f c_4 hf
    refine r_iconst (v := -1) hX dX8_threshold_13 rfl ?_
    cases hf
    exact hret _ _ dX8_threshold_14
noncomputable def f_X8_use (I : HI) (a0 : Nat) (x1 : Int32) : Option (Int32 × HI) := lt1 (sI I a0 0 ((0 : Int32))) fun I_1 => bd1 (f_X8_in x1.toInt64 ((0 : Int64)) ((((I_1 a0 6) - (1 : Int32))).toInt64)) fun r_2 => if r_2 = 0 then some ((-1 : Int32), I_1) else bd1 (f_X8_note I_1 a0) fun I_5 => gd (vp_in ((116 : Int32)) 121) (lt1 ((I_5 ((a0 + 9)) ((116 : Int32)).toNatClampNeg)) fun x_8 => bd1 (f_X8_useOn I_5 a0 ((a0 + 9)) x1) fun I_9 => some (x_8, I_9))
set_option maxHeartbeats 4000000 in
set_option maxRecDepth 100000 in
theorem k_X8_use {G : GX} {l : Launch} {I : HI} {J : HJ} {I' : HI} {r : Int32} (hG : OKG G) {a0 : Nat} {x1 : Int32} (hk0 : gK G a0 = 9) (hf : f_X8_use I a0 x1 = some (r, I')) : Ctr G l yX8_use cX8_use 3 (some .int) 4 95 [.ref a0, .int x1] I J (some (.int r)) I' J := by
  refine ctr_I hG (by decide) [some (.ref a0), some (.int x1), none] rfl rfl fun X e1 e2 hX hret => ?_
  subst e1; subst e2
  unfold f_X8_use at hf
  refine r_aload_n hX dX8_use_0 rfl ?_
  refine r_iconst (v := 0) hX dX8_use_1 rfl ?_
  obtain ⟨I_1, eI_1, hf⟩ := lt1_some hf
  refine p_8_0 eI_1 hX fl_X8_75 hk0 dX8_use_2 ?_
  refine r_iload_n hX dX8_use_5 rfl ?_
  refine r_i2l hX dX8_use_6 ?_
  refine r_lconst (v := 0) hX dX8_use_7 rfl ?_
  refine r_aload_n hX dX8_use_8 rfl ?_
  refine g_8_6 hX fl_X8_20 hk0 dX8_use_9 ?_
  refine r_iconst (v := 1) hX dX8_use_12 rfl ?_
  refine r_isub hX dX8_use_13 ?_
  refine r_i2l hX dX8_use_14 ?_
  obtain ⟨r_2, h_3, hf⟩ := bd1_some hf
  refine r_callS (As := [.long x1.toInt64, .long ((0 : Int64)), .long ((((I_1 a0 6) - (1 : Int32))).toInt64)]) hX (k_X8_in (l := xl X) (I := I_1) (J := J) hX.ok  h_3) pk_X8_in ml_X8_81 rfl rfl rfl (Nat.le_of_ble_eq_true rfl) dX8_use_15 ?_
  refine r_if_ne (tgt := 23) hX dX8_use_18 (by decide) (fun c_4 => ?_) (fun c_4 => ?_)
  · have hf := hf_t c_4 hf
    refine r_iconst (v := -1) hX dX8_use_21 rfl ?_
    cases hf
    exact hret _ _ dX8_use_22
  · have hf := hf_f c_4 hf
    refine r_aload_n hX dX8_use_23 rfl ?_
    obtain ⟨I_5, h_6, hf⟩ := bd1_some hf
    refine r_callV (As := []) (ci := 8) hX (k_X8_note (l := xl X) (J := J) hX.ok hk0 h_6) pk_X8_note ml_X8_214 rfl rfl rfl rfl hk0 rfl rfl rfl (Nat.le_of_ble_eq_true rfl) dX8_use_24 ?_
    refine r_aload_n hX dX8_use_27 rfl ?_
    refine g_8_19 hX fl_X8_44 hk0 dX8_use_28 ?_
    refine r_bipush (v := 116) hX dX8_use_31 (by decide) ?_
    obtain ⟨g_7, hf⟩ := gd_some hf
    refine r_iald (n := 121) hX rfl ((q_9_19 hX hk0)) g_7 dX8_use_33 ?_
    obtain ⟨x_8, ex_8, hf⟩ := lt1_some hf
    refine V.topi ex_8 ?_
    refine r_istore_n hX dX8_use_34 rfl rfl ?_
    refine r_aload_n hX dX8_use_35 rfl ?_
    refine r_aload_n hX dX8_use_36 rfl ?_
    refine g_8_19 hX fl_X8_44 hk0 dX8_use_37 ?_
    refine r_iload_n hX dX8_use_40 rfl ?_
    obtain ⟨I_9, h_10, hf⟩ := bd1_some hf
    refine r_callV (As := [.ref ((a0 + 9)), .int x1]) (ci := 8) hX (k_X8_useOn (l := xl X) (J := J) hX.ok hk0 ((q_9_19 hX hk0)) h_10) pk_X8_useOn ml_X8_223 rfl rfl rfl rfl hk0 rfl rfl rfl (Nat.le_of_ble_eq_true rfl) dX8_use_41 ?_
    refine r_iload_n hX dX8_use_44 rfl ?_
    cases hf
    exact hret _ _ dX8_use_45
noncomputable def X8_undo_B27 (a0 : Nat) (k27 : HI → Int32 → Option (Int32 × HI)) (I : HI) (x1 : Int32) : Option (Int32 × HI) := if x1 < (121 : Int32) then gd (vp_in ((((121 : Int32) * (I a0 22)) + x1)) 1694) (gd (vp_in x1 121) (lt1 (sI I ((a0 + 9)) x1.toNatClampNeg ((I ((a0 + 11)) ((((121 : Int32) * (I a0 22)) + x1)).toNatClampNeg))) fun I_7 => lt1 (x1 + (1 : Int32)) fun x_8 => k27 I_7 x_8)) else some ((I a0 22), I)
set_option maxHeartbeats 4000000 in
set_option maxRecDepth 100000 in
theorem vX8_undo_27 {X : CX} {I' : HI} {r : Int32} {J : HJ} (hX : OKX X cX8_undo RX8 0 0 2) (hret : RetI X cX8_undo r I' J) (a0 : Nat) (hk0 : gK (xG X) a0 = 9)   : ∀ (n : Nat) (I : HI) (x1 : Int32), wl2 (X8_undo_B27 a0) n I x1 = some (r, I') → V X I J 27 [some (.ref a0), some (.int x1)] [] := by
  refine wl2_V (P := fun (I : HI) (x1 : Int32) => V X I J 27 [some (.ref a0), some (.int x1)] []) ?_
  intro k27 hc27 I x1 hf
  unfold X8_undo_B27 at hf
  refine r_iload_n hX dX8_undo_27 rfl ?_
  refine r_bipush (v := 121) hX dX8_undo_28 (by decide) ?_
  refine r_icmp_ge (tgt := 59) hX dX8_undo_30 (by decide) (fun c_4 => ?_) (fun c_4 => ?_)
  · have hf := hf_t c_4 hf
    refine r_aload_n hX dX8_undo_33 rfl ?_
    refine g_8_19 hX fl_X8_44 hk0 dX8_undo_34 ?_
    refine r_iload_n hX dX8_undo_37 rfl ?_
    refine r_aload_n hX dX8_undo_38 rfl ?_
    refine g_8_21 hX fl_X8_50 hk0 dX8_undo_39 ?_
    refine r_bipush (v := 121) hX dX8_undo_42 (by decide) ?_
    refine r_aload_n hX dX8_undo_44 rfl ?_
    refine g_8_22 hX fl_X8_159 hk0 dX8_undo_45 ?_
    refine r_imul hX dX8_undo_48 ?_
    refine r_iload_n hX dX8_undo_49 rfl ?_
    refine r_iadd hX dX8_undo_50 ?_
    obtain ⟨g_5, hf⟩ := gd_some hf
    refine r_iald (n := 1694) hX rfl ((q_9_21 hX hk0)) g_5 dX8_undo_51 ?_
    obtain ⟨g_6, hf⟩ := gd_some hf
    obtain ⟨I_7, eI_7, hf⟩ := lt1_some hf
    refine r_iastE (n := 121) eI_7 hX rfl ((q_9_19 hX hk0)) g_6 dX8_undo_52 ?_
    obtain ⟨x_8, ex_8, hf⟩ := lt1_some hf
    refine r_iincE (n' := 1) ex_8 hX dX8_undo_53 rfl rfl rfl rfl ?_
    refine r_goto (tgt := 27) hX dX8_undo_56 (by decide) ?_
    refine V.mask [true, true] ?_
    exact hc27 I_7 x_8 hf
  · have hf := hf_f c_4 hf
    refine r_aload_n hX dX8_undo_59 rfl ?_
    refine g_8_22 hX fl_X8_159 hk0 dX8_undo_60 ?_
    cases hf
    exact hret _ _ dX8_undo_63
noncomputable def f_X8_undo (I : HI) (a0 : Nat) : Option (Int32 × HI) := lt1 (sI I a0 0 ((0 : Int32))) fun I_1 => if (I_1 a0 22) = 0 then some ((-3 : Int32), I_1) else lt1 (sI I_1 a0 22 (((I_1 a0 22) - (1 : Int32)))) fun I_3 => wl2 (X8_undo_B27 a0) 5000 I_3 ((0 : Int32))
set_option maxHeartbeats 4000000 in
set_option maxRecDepth 100000 in
theorem k_X8_undo {G : GX} {l : Launch} {I : HI} {J : HJ} {I' : HI} {r : Int32} (hG : OKG G) {a0 : Nat} (hk0 : gK G a0 = 9) (hf : f_X8_undo I a0 = some (r, I')) : Ctr G l yX8_undo cX8_undo 2 (some .int) 0 0 [.ref a0] I J (some (.int r)) I' J := by
  refine ctr_I hG (by decide) [some (.ref a0), none] rfl rfl fun X e1 e2 hX hret => ?_
  subst e1; subst e2
  unfold f_X8_undo at hf
  refine r_aload_n hX dX8_undo_0 rfl ?_
  refine r_iconst (v := 0) hX dX8_undo_1 rfl ?_
  obtain ⟨I_1, eI_1, hf⟩ := lt1_some hf
  refine p_8_0 eI_1 hX fl_X8_75 hk0 dX8_undo_2 ?_
  refine r_aload_n hX dX8_undo_5 rfl ?_
  refine g_8_22 hX fl_X8_159 hk0 dX8_undo_6 ?_
  refine r_if_ne (tgt := 15) hX dX8_undo_9 (by decide) (fun c_2 => ?_) (fun c_2 => ?_)
  · have hf := hf_t c_2 hf
    refine r_bipush (v := -3) hX dX8_undo_12 (by decide) ?_
    cases hf
    exact hret _ _ dX8_undo_14
  · have hf := hf_f c_2 hf
    refine r_aload_n hX dX8_undo_15 rfl ?_
    refine r_dup hX dX8_undo_16 rfl ?_
    refine g_8_22 hX fl_X8_159 hk0 dX8_undo_17 ?_
    refine r_iconst (v := 1) hX dX8_undo_20 rfl ?_
    refine r_isub hX dX8_undo_21 ?_
    obtain ⟨I_3, eI_3, hf⟩ := lt1_some hf
    refine p_8_22 eI_3 hX fl_X8_159 hk0 dX8_undo_22 ?_
    refine r_iconst (v := 0) hX dX8_undo_25 rfl ?_
    refine r_istore_n hX dX8_undo_26 rfl rfl ?_
    refine V.mask [true, true] ?_
    exact vX8_undo_27 hX hret a0 hk0 5000 I_3 ((0 : Int32)) hf
noncomputable def f_Jxf58ca_isNaN_12338 (z0 : UInt32) : Option (Int32) := if (Op.cmpValue (FP.fcmp z0 z0) .l) = 0 then some ((0 : Int32)) else some ((1 : Int32))
set_option maxHeartbeats 4000000 in
set_option maxRecDepth 100000 in
theorem k_Jxf58ca_isNaN_12338 {G : GX} {l : Launch} {I : HI} {J : HJ} {r : Int32} (hG : OKG G) {z0 : UInt32}  (hf : f_Jxf58ca_isNaN_12338 z0 = some r) : Ctr G l yJxf58ca_isNaN_12338 cJxf58ca_isNaN_12338 1 (some .boolean) 0 0 [.float z0] I J (some (.int r)) I J := by
  refine ctr_ZF hG (by decide +kernel) [some (.float z0)] rfl rfl fun X e1 e2 hX hret => ?_
  subst e1; subst e2
  unfold f_Jxf58ca_isNaN_12338 at hf
  refine r_fload_n hX dJxf58ca_isNaN_12338_0 rfl ?_
  refine r_fload_n hX dJxf58ca_isNaN_12338_1 rfl ?_
  refine r_fcmp hX dJxf58ca_isNaN_12338_2 ?_
  refine r_if_eq (tgt := 10) hX dJxf58ca_isNaN_12338_3 (by decide) (fun c_1 => ?_) (fun c_1 => ?_)
  · have hf := hf_t c_1 hf
    refine r_iconst (v := 0) hX dJxf58ca_isNaN_12338_10 rfl ?_
    cases hf
    exact hret _ _ zb_0 dJxf58ca_isNaN_12338_11
  · have hf := hf_f c_1 hf
    refine r_iconst (v := 1) hX dJxf58ca_isNaN_12338_6 rfl ?_
    refine r_goto (tgt := 11) hX dJxf58ca_isNaN_12338_7 (by decide) ?_
    cases hf
    exact hret _ _ zb_1 dJxf58ca_isNaN_12338_11
noncomputable def f_Jxf58ca_floatToIntBits_5c35a (z0 : UInt32) : Option (Int32) := bd1 (f_Jxf58ca_isNaN_12338 z0) fun r_1 => if r_1 = 0 then some z0.toInt32 else some ((2143289344 : Int32))
set_option maxHeartbeats 4000000 in
set_option maxRecDepth 100000 in
theorem k_Jxf58ca_floatToIntBits_5c35a {G : GX} {l : Launch} {I : HI} {J : HJ} {r : Int32} (hG : OKG G) {z0 : UInt32}  (hf : f_Jxf58ca_floatToIntBits_5c35a z0 = some r) : Ctr G l yJxf58ca_floatToIntBits_5c35a cJxf58ca_floatToIntBits_5c35a 1 (some .int) 1 23 [.float z0] I J (some (.int r)) I J := by
  refine ctr_IF hG (by decide +kernel) [some (.float z0)] rfl rfl fun X e1 e2 hX hret => ?_
  subst e1; subst e2
  unfold f_Jxf58ca_floatToIntBits_5c35a at hf
  refine r_fload_n hX dJxf58ca_floatToIntBits_5c35a_0 rfl ?_
  obtain ⟨r_1, h_2, hf⟩ := bd1_some hf
  refine r_callS (As := [.float z0]) hX (k_Jxf58ca_isNaN_12338 (l := xl X) (I := I) (J := J) hX.ok  h_2) pk_Jxf58ca_isNaN_12338 ml_Jxf58ca_59 rfl rfl rfl (Nat.le_of_ble_eq_true rfl) dJxf58ca_floatToIntBits_5c35a_1 ?_
  refine r_if_ne (tgt := 12) hX dJxf58ca_floatToIntBits_5c35a_4 (by decide) (fun c_3 => ?_) (fun c_3 => ?_)
  · have hf := hf_t c_3 hf
    refine r_fload_n hX dJxf58ca_floatToIntBits_5c35a_7 rfl ?_
    refine r_f2ib hX ml_Jxf58ca_74 dJxf58ca_floatToIntBits_5c35a_8 ?_
    cases hf
    exact hret _ _ dJxf58ca_floatToIntBits_5c35a_11
  · have hf := hf_f c_3 hf
    refine r_ldc hX dJxf58ca_floatToIntBits_5c35a_12 cn_Jxf58ca_77 ?_
    cases hf
    exact hret _ _ dJxf58ca_floatToIntBits_5c35a_14
noncomputable def X8_weight_J66 (I : HI) (sz0 : UInt32) : Option (Int32 × HI) := bd1 (f_Jxf58ca_floatToIntBits_5c35a sz0) fun r_16 => some (r_16, I)
set_option maxHeartbeats 4000000 in
set_option maxRecDepth 100000 in
theorem vX8_weight_66 {X : CX} {I' : HI} {r : Int32} {I : HI} {J : HJ} (hX : OKX X cX8_weight RX8 2 46 3) (hret : RetI X cX8_weight r I' J) (sz0 : UInt32)    (hf : X8_weight_J66 I sz0 = some (r, I')) : V X I J 66 [none, none, none] [.float sz0] := by
  unfold X8_weight_J66 at hf
  obtain ⟨r_16, h_17, hf⟩ := bd1_some hf
  refine r_callS (As := [.float sz0]) hX (k_Jxf58ca_floatToIntBits_5c35a (l := xl X) (I := I) (J := J) hX.ok  h_17) pk_Jxf58ca_floatToIntBits_5c35a ml_X8_229 rfl rfl rfl (Nat.le_of_ble_eq_true rfl) dX8_weight_66 ?_
  cases hf
  exact hret _ _ dX8_weight_69
noncomputable def f_X8_weight (I : HI) (a0 : Nat) (x1 : Int32) : Option (Int32 × HI) := lt1 (sI I a0 0 ((0 : Int32))) fun I_1 => bd1 (f_X8_noProxy I_1 a0 x1) fun r_2 => if r_2 = 0 then bd1 (f_X8_filterOf I_1 a0 ((a0 + 9)) x1) fun r_5 => bd1 (f_X8_ones r_5) fun r_7 => gd (vf_n32 (FP.fdiv ((FP.i2f r_7)) ((FP.i2f ((I_1 a0 4)))))) (lt1 ((FP.fdiv ((FP.i2f r_7)) ((FP.i2f ((I_1 a0 4)))))) fun z_10 => if (I_1 a0 5) = (1 : Int32) then X8_weight_J66 I_1 z_10 else if (I_1 a0 5) = (2 : Int32) then gd (vf_n32 (FP.fmul z_10 z_10)) (X8_weight_J66 I_1 ((FP.fmul z_10 z_10))) else gd (vf_n32 (FP.fmul z_10 z_10)) (gd (vf_n32 (FP.fmul ((FP.fmul z_10 z_10)) z_10)) (X8_weight_J66 I_1 ((FP.fmul ((FP.fmul z_10 z_10)) z_10))))) else some ((-1 : Int32), I_1)
set_option maxHeartbeats 4000000 in
set_option maxRecDepth 100000 in
theorem k_X8_weight {G : GX} {l : Launch} {I : HI} {J : HJ} {I' : HI} {r : Int32} (hG : OKG G) {a0 : Nat} {x1 : Int32} (hk0 : gK G a0 = 9) (hf : f_X8_weight I a0 x1 = some (r, I')) : Ctr G l yX8_weight cX8_weight 3 (some .int) 2 46 [.ref a0, .int x1] I J (some (.int r)) I' J := by
  refine ctr_I hG (by decide) [some (.ref a0), some (.int x1), none] rfl rfl fun X e1 e2 hX hret => ?_
  subst e1; subst e2
  unfold f_X8_weight at hf
  refine r_aload_n hX dX8_weight_0 rfl ?_
  refine r_iconst (v := 0) hX dX8_weight_1 rfl ?_
  obtain ⟨I_1, eI_1, hf⟩ := lt1_some hf
  refine p_8_0 eI_1 hX fl_X8_75 hk0 dX8_weight_2 ?_
  refine r_aload_n hX dX8_weight_5 rfl ?_
  refine r_iload_n hX dX8_weight_6 rfl ?_
  obtain ⟨r_2, h_3, hf⟩ := bd1_some hf
  refine r_callV (As := [.int x1]) (ci := 8) hX (k_X8_noProxy (l := xl X) (J := J) hX.ok hk0 h_3) pk_X8_noProxy ml_X8_200 rfl rfl rfl rfl hk0 rfl rfl rfl (Nat.le_of_ble_eq_true rfl) dX8_weight_7 ?_
  refine r_if_eq (tgt := 15) hX dX8_weight_10 (by decide) (fun c_4 => ?_) (fun c_4 => ?_)
  · have hf := hf_t c_4 hf
    refine r_aload_n hX dX8_weight_15 rfl ?_
    refine r_aload_n hX dX8_weight_16 rfl ?_
    refine g_8_19 hX fl_X8_44 hk0 dX8_weight_17 ?_
    refine r_iload_n hX dX8_weight_20 rfl ?_
    obtain ⟨r_5, h_6, hf⟩ := bd1_some hf
    refine r_callV (As := [.ref ((a0 + 9)), .int x1]) (ci := 8) hX (k_X8_filterOf (l := xl X) (J := J) hX.ok hk0 ((q_9_19 hX hk0)) h_6) pk_X8_filterOf ml_X8_155 rfl rfl rfl rfl hk0 rfl rfl rfl (Nat.le_of_ble_eq_true rfl) dX8_weight_21 ?_
    obtain ⟨r_7, h_8, hf⟩ := bd1_some hf
    refine r_callS (As := [.int r_5]) hX (k_X8_ones (l := xl X) (I := I_1) (J := J) hX.ok  h_8) pk_X8_ones ml_X8_226 rfl rfl rfl (Nat.le_of_ble_eq_true rfl) dX8_weight_24 ?_
    refine r_i2f hX dX8_weight_27 ?_
    refine r_aload_n hX dX8_weight_28 rfl ?_
    refine g_8_4 hX fl_X8_13 hk0 dX8_weight_29 ?_
    refine r_i2f hX dX8_weight_32 ?_
    obtain ⟨g_9, hf⟩ := gd_some hf
    refine r_fdiv hX dX8_weight_33 g_9 ?_
    obtain ⟨z_10, ez_10, hf⟩ := lt1_some hf
    refine V.topf ez_10 ?_
    refine r_fstore_n hX dX8_weight_34 rfl rfl ?_
    refine r_aload_n hX dX8_weight_35 rfl ?_
    refine g_8_5 hX fl_X8_17 hk0 dX8_weight_36 ?_
    refine r_iconst (v := 1) hX dX8_weight_39 rfl ?_
    refine r_icmp_ne (tgt := 47) hX dX8_weight_40 (by decide) (fun c_11 => ?_) (fun c_11 => ?_)
    · have hf := hf_t c_11 hf
      refine r_fload_n hX dX8_weight_43 rfl ?_
      refine r_goto (tgt := 66) hX dX8_weight_44 (by decide) ?_
      refine V.mask [false, false, false] ?_
      exact vX8_weight_66 hX hret z_10 hf
    · have hf := hf_f c_11 hf
      refine r_aload_n hX dX8_weight_47 rfl ?_
      refine g_8_5 hX fl_X8_17 hk0 dX8_weight_48 ?_
      refine r_iconst (v := 2) hX dX8_weight_51 rfl ?_
      refine r_icmp_ne (tgt := 61) hX dX8_weight_52 (by decide) (fun c_12 => ?_) (fun c_12 => ?_)
      · have hf := hf_t c_12 hf
        refine r_fload_n hX dX8_weight_55 rfl ?_
        refine r_fload_n hX dX8_weight_56 rfl ?_
        obtain ⟨g_13, hf⟩ := gd_some hf
        refine r_fmul hX dX8_weight_57 g_13 ?_
        refine r_goto (tgt := 66) hX dX8_weight_58 (by decide) ?_
        refine V.mask [false, false, false] ?_
        exact vX8_weight_66 hX hret ((FP.fmul z_10 z_10)) hf
      · have hf := hf_f c_12 hf
        refine r_fload_n hX dX8_weight_61 rfl ?_
        refine r_fload_n hX dX8_weight_62 rfl ?_
        obtain ⟨g_14, hf⟩ := gd_some hf
        refine r_fmul hX dX8_weight_63 g_14 ?_
        refine r_fload_n hX dX8_weight_64 rfl ?_
        obtain ⟨g_15, hf⟩ := gd_some hf
        refine r_fmul hX dX8_weight_65 g_15 ?_
        refine V.mask [false, false, false] ?_
        exact vX8_weight_66 hX hret ((FP.fmul ((FP.fmul z_10 z_10)) z_10)) hf
  · have hf := hf_f c_4 hf
    refine r_iconst (v := -1) hX dX8_weight_13 rfl ?_
    cases hf
    exact hret _ _ dX8_weight_14
noncomputable def X8_madeBy_J49 (I : HI) (a0 : Nat) (x1 : Int32) (x2 : Int32) (x4 : Int32) (x5 : Int32) (sx0 : Int32) (sx1 : Int32) (k5 : Int32 → Int32 → Option (Int32)) (k15 : Int32 → Int32 → Option (Int32)) : Option (Int32) := lt1 ((sx0 ||| sx1)) fun x_9 => lt1 (x5 + (1 : Int32)) fun x_10 => k15 x_9 x_10
set_option maxHeartbeats 4000000 in
set_option maxRecDepth 100000 in
theorem vX8_madeBy_49 {X : CX} {r : Int32} {I : HI} {J : HJ} (hX : OKX X cX8_madeBy RX8 1 23 6) (hret : RetI X cX8_madeBy r I J) (a0 : Nat) (x1 : Int32) (x2 : Int32) (x4 : Int32) (x5 : Int32) (sx0 : Int32) (sx1 : Int32) (hk0 : gK (xG X) a0 = 9) (k5 : Int32 → Int32 → Option (Int32)) (k15 : Int32 → Int32 → Option (Int32)) (hc5 : ∀ (x3 : Int32) (x4 : Int32), k5 x3 x4 = some r → V X I J 5 [some (.ref a0), some (.int x1), some (.int x2), some (.int x3), some (.int x4), none] []) (hc15 : ∀ (x3 : Int32) (x5 : Int32), k15 x3 x5 = some r → V X I J 15 [some (.ref a0), some (.int x1), some (.int x2), some (.int x3), some (.int x4), some (.int x5)] []) (hf : X8_madeBy_J49 I a0 x1 x2 x4 x5 sx0 sx1 k5 k15 = some r) : V X I J 49 [some (.ref a0), some (.int x1), some (.int x2), none, some (.int x4), some (.int x5)] [.int sx1, .int sx0] := by
  unfold X8_madeBy_J49 at hf
  refine r_ior hX dX8_madeBy_49 ?_
  obtain ⟨x_9, ex_9, hf⟩ := lt1_some hf
  refine V.topi ex_9 ?_
  refine r_istore_n hX dX8_madeBy_50 rfl rfl ?_
  obtain ⟨x_10, ex_10, hf⟩ := lt1_some hf
  refine r_iincE (n' := 1) ex_10 hX dX8_madeBy_51 rfl rfl rfl rfl ?_
  refine r_goto (tgt := 15) hX dX8_madeBy_54 (by decide) ?_
  refine V.mask [true, true, true, true, true, true] ?_
  exact hc15 x_9 x_10 hf
noncomputable def X8_madeBy_B15 (I : HI) (a0 : Nat) (x1 : Int32) (x2 : Int32) (x4 : Int32) (k5 : Int32 → Int32 → Option (Int32)) (k15 : Int32 → Int32 → Option (Int32)) (x3 : Int32) (x5 : Int32) : Option (Int32) := if x5 < (I a0 5) then bd1 (f_X8_has x1 x4) fun r_3 => if r_3 = 0 then X8_madeBy_J49 I a0 x1 x2 x4 x5 x3 ((0 : Int32)) k5 k15 else bd1 (f_X8_hashOf I a0 x2 x4 x5) fun r_6 => X8_madeBy_J49 I a0 x1 x2 x4 x5 x3 (((1 : Int32) <<< (r_6 &&& 31))) k5 k15 else lt1 (x4 + (1 : Int32)) fun x_8 => k5 x3 x_8
set_option maxHeartbeats 4000000 in
set_option maxRecDepth 100000 in
theorem vX8_madeBy_15 {X : CX} {r : Int32} {I : HI} {J : HJ} (hX : OKX X cX8_madeBy RX8 1 23 6) (hret : RetI X cX8_madeBy r I J) (a0 : Nat) (x1 : Int32) (x2 : Int32) (x4 : Int32) (hk0 : gK (xG X) a0 = 9) (k5 : Int32 → Int32 → Option (Int32)) (hc5 : ∀ (x3 : Int32) (x4 : Int32), k5 x3 x4 = some r → V X I J 5 [some (.ref a0), some (.int x1), some (.int x2), some (.int x3), some (.int x4), none] []) : ∀ (n : Nat) (x3 : Int32) (x5 : Int32), wl2 (X8_madeBy_B15 I a0 x1 x2 x4 k5) n x3 x5 = some r → V X I J 15 [some (.ref a0), some (.int x1), some (.int x2), some (.int x3), some (.int x4), some (.int x5)] [] := by
  refine wl2_V (P := fun (x3 : Int32) (x5 : Int32) => V X I J 15 [some (.ref a0), some (.int x1), some (.int x2), some (.int x3), some (.int x4), some (.int x5)] []) ?_
  intro k15 hc15 x3 x5 hf
  unfold X8_madeBy_B15 at hf
  refine r_iload hX dX8_madeBy_15 rfl ?_
  refine r_aload_n hX dX8_madeBy_17 rfl ?_
  refine g_8_5 hX fl_X8_17 hk0 dX8_madeBy_18 ?_
  refine r_icmp_ge (tgt := 57) hX dX8_madeBy_21 (by decide) (fun c_2 => ?_) (fun c_2 => ?_)
  · have hf := hf_t c_2 hf
    refine r_iload_n hX dX8_madeBy_24 rfl ?_
    refine r_iload_n hX dX8_madeBy_25 rfl ?_
    refine r_iload hX dX8_madeBy_26 rfl ?_
    obtain ⟨r_3, h_4, hf⟩ := bd1_some hf
    refine r_callS (As := [.int x1, .int x4]) hX (k_X8_has (l := xl X) (I := I) (J := J) hX.ok  h_4) pk_X8_has ml_X8_166 rfl rfl rfl (Nat.le_of_ble_eq_true rfl) dX8_madeBy_28 ?_
    refine r_if_eq (tgt := 48) hX dX8_madeBy_31 (by decide) (fun c_5 => ?_) (fun c_5 => ?_)
    · have hf := hf_t c_5 hf
      refine r_iconst (v := 0) hX dX8_madeBy_48 rfl ?_
      refine V.mask [true, true, true, false, true, true] ?_
      exact vX8_madeBy_49 hX hret a0 x1 x2 x4 x5 x3 ((0 : Int32)) hk0 k5 k15 hc5 hc15 hf
    · have hf := hf_f c_5 hf
      refine r_iconst (v := 1) hX dX8_madeBy_34 rfl ?_
      refine r_aload_n hX dX8_madeBy_35 rfl ?_
      refine r_iload_n hX dX8_madeBy_36 rfl ?_
      refine r_iload hX dX8_madeBy_37 rfl ?_
      refine r_iload hX dX8_madeBy_39 rfl ?_
      obtain ⟨r_6, h_7, hf⟩ := bd1_some hf
      refine r_callV (As := [.int x2, .int x4, .int x5]) (ci := 8) hX (k_X8_hashOf (l := xl X) (J := J) hX.ok hk0 h_7) pk_X8_hashOf ml_X8_162 rfl rfl rfl rfl hk0 rfl rfl rfl (Nat.le_of_ble_eq_true rfl) dX8_madeBy_41 ?_
      refine r_ishl hX dX8_madeBy_44 ?_
      refine r_goto (tgt := 49) hX dX8_madeBy_45 (by decide) ?_
      refine V.mask [true, true, true, false, true, true] ?_
      exact vX8_madeBy_49 hX hret a0 x1 x2 x4 x5 x3 (((1 : Int32) <<< (r_6 &&& 31))) hk0 k5 k15 hc5 hc15 hf
  · have hf := hf_f c_2 hf
    obtain ⟨x_8, ex_8, hf⟩ := lt1_some hf
    refine r_iincE (n' := 1) ex_8 hX dX8_madeBy_57 rfl rfl rfl rfl ?_
    refine r_goto (tgt := 5) hX dX8_madeBy_60 (by decide) ?_
    refine V.mask [true, true, true, true, true, false] ?_
    exact hc5 x3 x_8 hf
noncomputable def X8_madeBy_B5 (I : HI) (a0 : Nat) (x1 : Int32) (x2 : Int32) (k5 : Int32 → Int32 → Option (Int32)) (x3 : Int32) (x4 : Int32) : Option (Int32) := if x4 < (32 : Int32) then wl2 (X8_madeBy_B15 I a0 x1 x2 x4 k5) 5000 x3 ((0 : Int32)) else some x3
set_option maxHeartbeats 4000000 in
set_option maxRecDepth 100000 in
theorem vX8_madeBy_5 {X : CX} {r : Int32} {I : HI} {J : HJ} (hX : OKX X cX8_madeBy RX8 1 23 6) (hret : RetI X cX8_madeBy r I J) (a0 : Nat) (x1 : Int32) (x2 : Int32) (hk0 : gK (xG X) a0 = 9)   : ∀ (n : Nat) (x3 : Int32) (x4 : Int32), wl2 (X8_madeBy_B5 I a0 x1 x2) n x3 x4 = some r → V X I J 5 [some (.ref a0), some (.int x1), some (.int x2), some (.int x3), some (.int x4), none] [] := by
  refine wl2_V (P := fun (x3 : Int32) (x4 : Int32) => V X I J 5 [some (.ref a0), some (.int x1), some (.int x2), some (.int x3), some (.int x4), none] []) ?_
  intro k5 hc5 x3 x4 hf
  unfold X8_madeBy_B5 at hf
  refine r_iload hX dX8_madeBy_5 rfl ?_
  refine r_bipush (v := 32) hX dX8_madeBy_7 (by decide) ?_
  refine r_icmp_ge (tgt := 63) hX dX8_madeBy_9 (by decide) (fun c_1 => ?_) (fun c_1 => ?_)
  · have hf := hf_t c_1 hf
    refine r_iconst (v := 0) hX dX8_madeBy_12 rfl ?_
    refine r_istore hX dX8_madeBy_13 rfl rfl ?_
    refine V.mask [true, true, true, true, true, true] ?_
    exact vX8_madeBy_15 hX hret a0 x1 x2 x4 hk0 k5 hc5 5000 x3 ((0 : Int32)) hf
  · have hf := hf_f c_1 hf
    refine r_iload_n hX dX8_madeBy_63 rfl ?_
    cases hf
    exact hret _ _ dX8_madeBy_64
noncomputable def f_X8_madeBy (I : HI) (a0 : Nat) (x1 : Int32) (x2 : Int32) : Option (Int32) := wl2 (X8_madeBy_B5 I a0 x1 x2) 5000 ((0 : Int32)) ((0 : Int32))
set_option maxHeartbeats 4000000 in
set_option maxRecDepth 100000 in
theorem k_X8_madeBy {G : GX} {l : Launch} {I : HI} {J : HJ} {r : Int32} (hG : OKG G) {a0 : Nat} {x1 : Int32} {x2 : Int32} (hk0 : gK G a0 = 9) (hf : f_X8_madeBy I a0 x1 x2 = some r) : Ctr G l yX8_madeBy cX8_madeBy 6 (some .int) 1 23 [.ref a0, .int x1, .int x2] I J (some (.int r)) I J := by
  refine ctr_I hG (by decide) [some (.ref a0), some (.int x1), some (.int x2), none, none, none] rfl rfl fun X e1 e2 hX hret => ?_
  subst e1; subst e2
  unfold f_X8_madeBy at hf
  refine r_iconst (v := 0) hX dX8_madeBy_0 rfl ?_
  refine r_istore_n hX dX8_madeBy_1 rfl rfl ?_
  refine r_iconst (v := 0) hX dX8_madeBy_2 rfl ?_
  refine r_istore hX dX8_madeBy_3 rfl rfl ?_
  refine V.mask [true, true, true, true, true, false] ?_
  exact vX8_madeBy_5 hX hret a0 x1 x2 hk0 5000 ((0 : Int32)) ((0 : Int32)) hf
noncomputable def X8_best_J102 (I : HI) (a0 : Nat) (x2 : Int32) (x3 : Int32) (x4 : Int32) (x6 : Int32) (sx0 : Int32) (k47 : Int32 → Int32 → Int32 → Option (Int32 × HI)) : Option (Int32 × HI) := lt1 (x6 + (1 : Int32)) fun x_18 => k47 x4 sx0 x_18
set_option maxHeartbeats 4000000 in
set_option maxRecDepth 100000 in
theorem vX8_best_102 {X : CX} {I' : HI} {r : Int32} {I : HI} {J : HJ} (hX : OKX X cX8_best RX8 3 73 8) (hret : RetI X cX8_best r I' J) (a0 : Nat) (x2 : Int32) (x3 : Int32) (x4 : Int32) (x6 : Int32) (sx0 : Int32) (hk0 : gK (xG X) a0 = 9) (k47 : Int32 → Int32 → Int32 → Option (Int32 × HI)) (hc47 : ∀ (x4 : Int32) (x5 : Int32) (x6 : Int32), k47 x4 x5 x6 = some (r, I') → V X I J 47 [some (.ref a0), none, some (.int x2), some (.int x3), some (.int x4), some (.int x5), some (.int x6), none] []) (hf : X8_best_J102 I a0 x2 x3 x4 x6 sx0 k47 = some (r, I')) : V X I J 102 [some (.ref a0), none, some (.int x2), some (.int x3), some (.int x4), none, some (.int x6), none] [.int sx0] := by
  unfold X8_best_J102 at hf
  refine r_istore hX dX8_best_102 rfl rfl ?_
  obtain ⟨x_18, ex_18, hf⟩ := lt1_some hf
  refine r_iincE (n' := 1) ex_18 hX dX8_best_104 rfl rfl rfl rfl ?_
  refine r_goto (tgt := 47) hX dX8_best_107 (by decide) ?_
  refine V.mask [true, false, true, true, true, true, true, false] ?_
  exact hc47 x4 sx0 x_18 hf
noncomputable def X8_best_J86 (I : HI) (a0 : Nat) (x2 : Int32) (x3 : Int32) (x5 : Int32) (x6 : Int32) (x7 : Int32) (sx0 : Int32) (k47 : Int32 → Int32 → Int32 → Option (Int32 × HI)) : Option (Int32 × HI) := if x7 < x5 then X8_best_J102 I a0 x2 x3 sx0 x6 x7 k47 else X8_best_J102 I a0 x2 x3 sx0 x6 x5 k47
set_option maxHeartbeats 4000000 in
set_option maxRecDepth 100000 in
theorem vX8_best_86 {X : CX} {I' : HI} {r : Int32} {I : HI} {J : HJ} (hX : OKX X cX8_best RX8 3 73 8) (hret : RetI X cX8_best r I' J) (a0 : Nat) (x2 : Int32) (x3 : Int32) (x5 : Int32) (x6 : Int32) (x7 : Int32) (sx0 : Int32) (hk0 : gK (xG X) a0 = 9) (k47 : Int32 → Int32 → Int32 → Option (Int32 × HI)) (hc47 : ∀ (x4 : Int32) (x5 : Int32) (x6 : Int32), k47 x4 x5 x6 = some (r, I') → V X I J 47 [some (.ref a0), none, some (.int x2), some (.int x3), some (.int x4), some (.int x5), some (.int x6), none] []) (hf : X8_best_J86 I a0 x2 x3 x5 x6 x7 sx0 k47 = some (r, I')) : V X I J 86 [some (.ref a0), none, some (.int x2), some (.int x3), none, some (.int x5), some (.int x6), some (.int x7)] [.int sx0] := by
  unfold X8_best_J86 at hf
  refine r_istore hX dX8_best_86 rfl rfl ?_
  refine r_iload hX dX8_best_88 rfl ?_
  refine r_iload hX dX8_best_90 rfl ?_
  refine r_icmp_ge (tgt := 100) hX dX8_best_92 (by decide) (fun c_17 => ?_) (fun c_17 => ?_)
  · have hf := hf_t c_17 hf
    refine r_iload hX dX8_best_95 rfl ?_
    refine r_goto (tgt := 102) hX dX8_best_97 (by decide) ?_
    refine V.mask [true, false, true, true, true, false, true, false] ?_
    exact vX8_best_102 hX hret a0 x2 x3 sx0 x6 x7 hk0 k47 hc47 hf
  · have hf := hf_f c_17 hf
    refine r_iload hX dX8_best_100 rfl ?_
    refine V.mask [true, false, true, true, true, false, true, false] ?_
    exact vX8_best_102 hX hret a0 x2 x3 sx0 x6 x5 hk0 k47 hc47 hf
noncomputable def X8_best_B47 (I : HI) (a0 : Nat) (x2 : Int32) (x3 : Int32) (k47 : Int32 → Int32 → Int32 → Option (Int32 × HI)) (x4 : Int32) (x5 : Int32) (x6 : Int32) : Option (Int32 × HI) := if x6 < (I a0 6) then bd1 (f_X8_madeBy I a0 x3 x6) fun r_11 => bd1 (f_X8_falseOnes I a0 r_11 x6 x3) fun r_13 => if r_13 < x5 then X8_best_J86 I a0 x2 x3 x5 x6 r_13 x6 k47 else X8_best_J86 I a0 x2 x3 x5 x6 r_13 x4 k47 else if x2 = 0 then some (x4, I) else some (x5, I)
set_option maxHeartbeats 4000000 in
set_option maxRecDepth 100000 in
theorem vX8_best_47 {X : CX} {I' : HI} {r : Int32} {I : HI} {J : HJ} (hX : OKX X cX8_best RX8 3 73 8) (hret : RetI X cX8_best r I' J) (a0 : Nat) (x2 : Int32) (x3 : Int32) (hk0 : gK (xG X) a0 = 9)   : ∀ (n : Nat) (x4 : Int32) (x5 : Int32) (x6 : Int32), wl3 (X8_best_B47 I a0 x2 x3) n x4 x5 x6 = some (r, I') → V X I J 47 [some (.ref a0), none, some (.int x2), some (.int x3), some (.int x4), some (.int x5), some (.int x6), none] [] := by
  refine wl3_V (P := fun (x4 : Int32) (x5 : Int32) (x6 : Int32) => V X I J 47 [some (.ref a0), none, some (.int x2), some (.int x3), some (.int x4), some (.int x5), some (.int x6), none] []) ?_
  intro k47 hc47 x4 x5 x6 hf
  unfold X8_best_B47 at hf
  refine r_iload hX dX8_best_47 rfl ?_
  refine r_aload_n hX dX8_best_49 rfl ?_
  refine g_8_6 hX fl_X8_20 hk0 dX8_best_50 ?_
  refine r_icmp_ge (tgt := 110) hX dX8_best_53 (by decide) (fun c_10 => ?_) (fun c_10 => ?_)
  · have hf := hf_t c_10 hf
    refine r_aload_n hX dX8_best_56 rfl ?_
    refine r_aload_n hX dX8_best_57 rfl ?_
    refine r_iload_n hX dX8_best_58 rfl ?_
    refine r_iload hX dX8_best_59 rfl ?_
    obtain ⟨r_11, h_12, hf⟩ := bd1_some hf
    refine r_callV (As := [.int x3, .int x6]) (ci := 8) hX (k_X8_madeBy (l := xl X) (J := J) hX.ok hk0 h_12) pk_X8_madeBy ml_X8_235 rfl rfl rfl rfl hk0 rfl rfl rfl (Nat.le_of_ble_eq_true rfl) dX8_best_61 ?_
    refine r_iload hX dX8_best_64 rfl ?_
    refine r_iload_n hX dX8_best_66 rfl ?_
    obtain ⟨r_13, h_14, hf⟩ := bd1_some hf
    refine r_callV (As := [.int r_11, .int x6, .int x3]) (ci := 8) hX (k_X8_falseOnes (l := xl X) (J := J) hX.ok hk0 h_14) pk_X8_falseOnes ml_X8_203 rfl rfl rfl rfl hk0 rfl rfl rfl (Nat.le_of_ble_eq_true rfl) dX8_best_67 ?_
    refine r_istore hX dX8_best_70 rfl rfl ?_
    refine r_iload hX dX8_best_72 rfl ?_
    refine r_iload hX dX8_best_74 rfl ?_
    refine r_icmp_ge (tgt := 84) hX dX8_best_76 (by decide) (fun c_15 => ?_) (fun c_15 => ?_)
    · have hf := hf_t c_15 hf
      refine r_iload hX dX8_best_79 rfl ?_
      refine r_goto (tgt := 86) hX dX8_best_81 (by decide) ?_
      refine V.mask [true, false, true, true, false, true, true, true] ?_
      exact vX8_best_86 hX hret a0 x2 x3 x5 x6 r_13 x6 hk0 k47 hc47 hf
    · have hf := hf_f c_15 hf
      refine r_iload hX dX8_best_84 rfl ?_
      refine V.mask [true, false, true, true, false, true, true, true] ?_
      exact vX8_best_86 hX hret a0 x2 x3 x5 x6 r_13 x4 hk0 k47 hc47 hf
  · have hf := hf_f c_10 hf
    refine r_iload_n hX dX8_best_110 rfl ?_
    refine r_if_ne (tgt := 119) hX dX8_best_111 (by decide) (fun c_16 => ?_) (fun c_16 => ?_)
    · have hf := hf_t c_16 hf
      refine r_iload hX dX8_best_114 rfl ?_
      refine r_goto (tgt := 121) hX dX8_best_116 (by decide) ?_
      cases hf
      exact hret _ _ dX8_best_121
    · have hf := hf_f c_16 hf
      refine r_iload hX dX8_best_119 rfl ?_
      cases hf
      exact hret _ _ dX8_best_121
noncomputable def f_X8_best (I : HI) (a0 : Nat) (x1 : Int32) (x2 : Int32) : Option (Int32 × HI) := lt1 (sI I a0 0 ((0 : Int32))) fun I_1 => bd1 (f_X8_noProxy I_1 a0 x1) fun r_2 => if r_2 = 0 then bd1 (f_X8_in x2.toInt64 ((0 : Int64)) ((1 : Int64))) fun r_5 => if r_5 = 0 then some ((-2 : Int32), I_1) else bd1 (f_X8_shelfOf I_1 ((a0 + 9)) x1) fun r_8 => wl3 (X8_best_B47 I_1 a0 x2 r_8) 5000 ((0 : Int32)) ((33 : Int32)) ((0 : Int32)) else some ((-1 : Int32), I_1)
set_option maxHeartbeats 4000000 in
set_option maxRecDepth 100000 in
theorem k_X8_best {G : GX} {l : Launch} {I : HI} {J : HJ} {I' : HI} {r : Int32} (hG : OKG G) {a0 : Nat} {x1 : Int32} {x2 : Int32} (hk0 : gK G a0 = 9) (hf : f_X8_best I a0 x1 x2 = some (r, I')) : Ctr G l yX8_best cX8_best 8 (some .int) 3 73 [.ref a0, .int x1, .int x2] I J (some (.int r)) I' J := by
  refine ctr_I hG (by decide) [some (.ref a0), some (.int x1), some (.int x2), none, none, none, none, none] rfl rfl fun X e1 e2 hX hret => ?_
  subst e1; subst e2
  unfold f_X8_best at hf
  refine r_aload_n hX dX8_best_0 rfl ?_
  refine r_iconst (v := 0) hX dX8_best_1 rfl ?_
  obtain ⟨I_1, eI_1, hf⟩ := lt1_some hf
  refine p_8_0 eI_1 hX fl_X8_75 hk0 dX8_best_2 ?_
  refine r_aload_n hX dX8_best_5 rfl ?_
  refine r_iload_n hX dX8_best_6 rfl ?_
  obtain ⟨r_2, h_3, hf⟩ := bd1_some hf
  refine r_callV (As := [.int x1]) (ci := 8) hX (k_X8_noProxy (l := xl X) (J := J) hX.ok hk0 h_3) pk_X8_noProxy ml_X8_200 rfl rfl rfl rfl hk0 rfl rfl rfl (Nat.le_of_ble_eq_true rfl) dX8_best_7 ?_
  refine r_if_eq (tgt := 15) hX dX8_best_10 (by decide) (fun c_4 => ?_) (fun c_4 => ?_)
  · have hf := hf_t c_4 hf
    refine r_iload_n hX dX8_best_15 rfl ?_
    refine r_i2l hX dX8_best_16 ?_
    refine r_lconst (v := 0) hX dX8_best_17 rfl ?_
    refine r_lconst (v := 1) hX dX8_best_18 rfl ?_
    obtain ⟨r_5, h_6, hf⟩ := bd1_some hf
    refine r_callS (As := [.long x2.toInt64, .long ((0 : Int64)), .long ((1 : Int64))]) hX (k_X8_in (l := xl X) (I := I_1) (J := J) hX.ok  h_6) pk_X8_in ml_X8_81 rfl rfl rfl (Nat.le_of_ble_eq_true rfl) dX8_best_19 ?_
    refine r_if_ne (tgt := 28) hX dX8_best_22 (by decide) (fun c_7 => ?_) (fun c_7 => ?_)
    · have hf := hf_t c_7 hf
      refine r_bipush (v := -2) hX dX8_best_25 (by decide) ?_
      cases hf
      exact hret _ _ dX8_best_27
    · have hf := hf_f c_7 hf
      refine r_aload_n hX dX8_best_28 rfl ?_
      refine g_8_19 hX fl_X8_44 hk0 dX8_best_29 ?_
      refine r_iload_n hX dX8_best_32 rfl ?_
      obtain ⟨r_8, h_9, hf⟩ := bd1_some hf
      refine r_callS (As := [.ref ((a0 + 9)), .int x1]) hX (k_X8_shelfOf (l := xl X) (J := J) hX.ok ((q_9_19 hX hk0)) h_9) pk_X8_shelfOf ml_X8_197 rfl rfl rfl (Nat.le_of_ble_eq_true rfl) dX8_best_33 ?_
      refine r_istore_n hX dX8_best_36 rfl rfl ?_
      refine r_iconst (v := 0) hX dX8_best_37 rfl ?_
      refine r_istore hX dX8_best_38 rfl rfl ?_
      refine r_bipush (v := 33) hX dX8_best_40 (by decide) ?_
      refine r_istore hX dX8_best_42 rfl rfl ?_
      refine r_iconst (v := 0) hX dX8_best_44 rfl ?_
      refine r_istore hX dX8_best_45 rfl rfl ?_
      refine V.mask [true, false, true, true, true, true, true, false] ?_
      exact vX8_best_47 hX hret a0 x2 r_8 hk0 5000 ((0 : Int32)) ((33 : Int32)) ((0 : Int32)) hf
  · have hf := hf_f c_4 hf
    refine r_iconst (v := -1) hX dX8_best_13 rfl ?_
    cases hf
    exact hret _ _ dX8_best_14
noncomputable def f_X8_costOf (I : HI) (a0 : Nat) : Option (Int32) := gd (vp_in ((117 : Int32)) 121) (gd (vp_in ((120 : Int32)) 121) (gd (vp_in ((119 : Int32)) 121) (some ((((I a0 ((117 : Int32)).toNatClampNeg) + (I a0 ((120 : Int32)).toNatClampNeg)) + ((5 : Int32) * (I a0 ((119 : Int32)).toNatClampNeg)))))))
set_option maxHeartbeats 4000000 in
set_option maxRecDepth 100000 in
theorem k_X8_costOf {G : GX} {l : Launch} {I : HI} {J : HJ} {r : Int32} (hG : OKG G) {a0 : Nat} (hk0 : gK G a0 = 221) (hf : f_X8_costOf I a0 = some r) : Ctr G l yX8_costOf cX8_costOf 1 (some .int) 0 0 [.ref a0] I J (some (.int r)) I J := by
  refine ctr_I hG (by decide) [some (.ref a0)] rfl rfl fun X e1 e2 hX hret => ?_
  subst e1; subst e2
  unfold f_X8_costOf at hf
  refine r_aload_n hX dX8_costOf_0 rfl ?_
  refine r_bipush (v := 117) hX dX8_costOf_1 (by decide) ?_
  obtain ⟨g_1, hf⟩ := gd_some hf
  refine r_iald (n := 121) hX rfl hk0 g_1 dX8_costOf_3 ?_
  refine r_aload_n hX dX8_costOf_4 rfl ?_
  refine r_bipush (v := 120) hX dX8_costOf_5 (by decide) ?_
  obtain ⟨g_2, hf⟩ := gd_some hf
  refine r_iald (n := 121) hX rfl hk0 g_2 dX8_costOf_7 ?_
  refine r_iadd hX dX8_costOf_8 ?_
  refine r_iconst (v := 5) hX dX8_costOf_9 rfl ?_
  refine r_aload_n hX dX8_costOf_10 rfl ?_
  refine r_bipush (v := 119) hX dX8_costOf_11 (by decide) ?_
  obtain ⟨g_3, hf⟩ := gd_some hf
  refine r_iald (n := 121) hX rfl hk0 g_3 dX8_costOf_13 ?_
  refine r_imul hX dX8_costOf_14 ?_
  refine r_iadd hX dX8_costOf_15 ?_
  cases hf
  exact hret _ _ dX8_costOf_16
noncomputable def X8_plan_B92 (a0 : Nat) (x1 : Int32) (x3 : Int32) (k92 : HI → Int32 → Option (Int32 × HI)) (I : HI) (x4 : Int32) : Option (Int32 × HI) := if x4 < 0 then bd1 (f_X8_costOf I ((a0 + 10))) fun r_25 => bd1 (f_X8_costOf I ((a0 + 9))) fun r_27 => some ((r_25 - r_27), I) else bd1 (f_X8_power ((100 : Int32)) x4) fun r_29 => gd (¬ r_29 = 0) (bd2 (f_X8_askOn I a0 ((a0 + 10)) x1 ((jrem ((x3 / r_29)) ((100 : Int32))))) fun r_32 I_33 => lt1 (x4 + (-1 : Int32)) fun x_35 => k92 I_33 x_35)
set_option maxHeartbeats 4000000 in
set_option maxRecDepth 100000 in
theorem vX8_plan_92 {X : CX} {I' : HI} {r : Int32} {J : HJ} (hX : OKX X cX8_plan RX8 5 123 5) (hret : RetI X cX8_plan r I' J) (a0 : Nat) (x1 : Int32) (x3 : Int32) (hk0 : gK (xG X) a0 = 9)   : ∀ (n : Nat) (I : HI) (x4 : Int32), wl2 (X8_plan_B92 a0 x1 x3) n I x4 = some (r, I') → V X I J 92 [some (.ref a0), some (.int x1), none, some (.int x3), some (.int x4)] [] := by
  refine wl2_V (P := fun (I : HI) (x4 : Int32) => V X I J 92 [some (.ref a0), some (.int x1), none, some (.int x3), some (.int x4)] []) ?_
  intro k92 hc92 I x4 hf
  unfold X8_plan_B92 at hf
  refine r_iload hX dX8_plan_92 rfl ?_
  refine r_if_lt (tgt := 125) hX dX8_plan_94 (by decide) (fun c_24 => ?_) (fun c_24 => ?_)
  · have hf := hf_t c_24 hf
    refine r_aload_n hX dX8_plan_125 rfl ?_
    refine g_8_20 hX fl_X8_47 hk0 dX8_plan_126 ?_
    obtain ⟨r_25, h_26, hf⟩ := bd1_some hf
    refine r_callS (As := [.ref ((a0 + 10))]) hX (k_X8_costOf (l := xl X) (J := J) hX.ok ((q_9_20 hX hk0)) h_26) pk_X8_costOf ml_X8_247 rfl rfl rfl (Nat.le_of_ble_eq_true rfl) dX8_plan_129 ?_
    refine r_aload_n hX dX8_plan_132 rfl ?_
    refine g_8_19 hX fl_X8_44 hk0 dX8_plan_133 ?_
    obtain ⟨r_27, h_28, hf⟩ := bd1_some hf
    refine r_callS (As := [.ref ((a0 + 9))]) hX (k_X8_costOf (l := xl X) (J := J) hX.ok ((q_9_19 hX hk0)) h_28) pk_X8_costOf ml_X8_247 rfl rfl rfl (Nat.le_of_ble_eq_true rfl) dX8_plan_136 ?_
    refine r_isub hX dX8_plan_139 ?_
    cases hf
    exact hret _ _ dX8_plan_140
  · have hf := hf_f c_24 hf
    refine r_aload_n hX dX8_plan_97 rfl ?_
    refine r_aload_n hX dX8_plan_98 rfl ?_
    refine g_8_20 hX fl_X8_47 hk0 dX8_plan_99 ?_
    refine r_iload_n hX dX8_plan_102 rfl ?_
    refine r_iload_n hX dX8_plan_103 rfl ?_
    refine r_bipush (v := 100) hX dX8_plan_104 (by decide) ?_
    refine r_iload hX dX8_plan_106 rfl ?_
    obtain ⟨r_29, h_30, hf⟩ := bd1_some hf
    refine r_callS (As := [.int ((100 : Int32)), .int x4]) hX (k_X8_power (l := xl X) (I := I) (J := J) hX.ok  h_30) pk_X8_power ml_X8_241 rfl rfl rfl (Nat.le_of_ble_eq_true rfl) dX8_plan_108 ?_
    obtain ⟨g_31, hf⟩ := gd_some hf
    refine r_idiv hX dX8_plan_111 g_31 ?_
    refine r_bipush (v := 100) hX dX8_plan_112 (by decide) ?_
    refine r_irem hX dX8_plan_114 (by decide) ?_
    obtain ⟨r_32, I_33, h_34, hf⟩ := bd2_some hf
    refine r_callV (As := [.ref ((a0 + 10)), .int x1, .int ((jrem ((x3 / r_29)) ((100 : Int32))))]) (ci := 8) hX (k_X8_askOn (l := xl X) (J := J) hX.ok hk0 ((q_9_20 hX hk0)) h_34) pk_X8_askOn ml_X8_217 rfl rfl rfl rfl hk0 rfl rfl rfl (Nat.le_of_ble_eq_true rfl) dX8_plan_115 ?_
    refine r_pop hX dX8_plan_118 rfl ?_
    obtain ⟨x_35, ex_35, hf⟩ := lt1_some hf
    refine r_iincE (n' := -1) ex_35 hX dX8_plan_119 rfl rfl rfl rfl ?_
    refine r_goto (tgt := 92) hX dX8_plan_122 (by decide) ?_
    refine V.mask [true, true, false, true, true] ?_
    exact hc92 I_33 x_35 hf
noncomputable def X8_plan_B51 (I : HI) (a0 : Nat) (x1 : Int32) (x2 : Int32) (x3 : Int32) (k51 : Int32 → Option (Int32 × HI)) (x4 : Int32) : Option (Int32 × HI) := if x4 < x2 then bd1 (f_X8_power ((100 : Int32)) x4) fun r_14 => gd (¬ r_14 = 0) (bd1 (f_X8_noPage ((jrem ((x3 / r_14)) ((100 : Int32))))) fun r_17 => if r_17 = 0 then lt1 (x4 + (1 : Int32)) fun x_20 => k51 x_20 else some ((-1 : Int32), I)) else bd1 (f_X8_layTrial I a0) fun I_21 => lt1 ((x2 - (1 : Int32))) fun x_23 => wl2 (X8_plan_B92 a0 x1 x3) 5000 I_21 x_23
set_option maxHeartbeats 4000000 in
set_option maxRecDepth 100000 in
theorem vX8_plan_51 {X : CX} {I' : HI} {r : Int32} {I : HI} {J : HJ} (hX : OKX X cX8_plan RX8 5 123 5) (hret : RetI X cX8_plan r I' J) (a0 : Nat) (x1 : Int32) (x2 : Int32) (x3 : Int32) (hk0 : gK (xG X) a0 = 9)   : ∀ (n : Nat) (x4 : Int32), wl1 (X8_plan_B51 I a0 x1 x2 x3) n x4 = some (r, I') → V X I J 51 [some (.ref a0), some (.int x1), some (.int x2), some (.int x3), some (.int x4)] [] := by
  refine wl1_V (P := fun (x4 : Int32) => V X I J 51 [some (.ref a0), some (.int x1), some (.int x2), some (.int x3), some (.int x4)] []) ?_
  intro k51 hc51 x4 hf
  unfold X8_plan_B51 at hf
  refine r_iload hX dX8_plan_51 rfl ?_
  refine r_iload_n hX dX8_plan_53 rfl ?_
  refine r_icmp_ge (tgt := 83) hX dX8_plan_54 (by decide) (fun c_13 => ?_) (fun c_13 => ?_)
  · have hf := hf_t c_13 hf
    refine r_iload_n hX dX8_plan_57 rfl ?_
    refine r_bipush (v := 100) hX dX8_plan_58 (by decide) ?_
    refine r_iload hX dX8_plan_60 rfl ?_
    obtain ⟨r_14, h_15, hf⟩ := bd1_some hf
    refine r_callS (As := [.int ((100 : Int32)), .int x4]) hX (k_X8_power (l := xl X) (I := I) (J := J) hX.ok  h_15) pk_X8_power ml_X8_241 rfl rfl rfl (Nat.le_of_ble_eq_true rfl) dX8_plan_62 ?_
    obtain ⟨g_16, hf⟩ := gd_some hf
    refine r_idiv hX dX8_plan_65 g_16 ?_
    refine r_bipush (v := 100) hX dX8_plan_66 (by decide) ?_
    refine r_irem hX dX8_plan_68 (by decide) ?_
    obtain ⟨r_17, h_18, hf⟩ := bd1_some hf
    refine r_callS (As := [.int ((jrem ((x3 / r_14)) ((100 : Int32))))]) hX (k_X8_noPage (l := xl X) (I := I) (J := J) hX.ok  h_18) pk_X8_noPage ml_X8_211 rfl rfl rfl (Nat.le_of_ble_eq_true rfl) dX8_plan_69 ?_
    refine r_if_eq (tgt := 77) hX dX8_plan_72 (by decide) (fun c_19 => ?_) (fun c_19 => ?_)
    · have hf := hf_t c_19 hf
      obtain ⟨x_20, ex_20, hf⟩ := lt1_some hf
      refine r_iincE (n' := 1) ex_20 hX dX8_plan_77 rfl rfl rfl rfl ?_
      refine r_goto (tgt := 51) hX dX8_plan_80 (by decide) ?_
      refine V.mask [true, true, true, true, true] ?_
      exact hc51 x_20 hf
    · have hf := hf_f c_19 hf
      refine r_iconst (v := -1) hX dX8_plan_75 rfl ?_
      cases hf
      exact hret _ _ dX8_plan_76
  · have hf := hf_f c_13 hf
    refine r_aload_n hX dX8_plan_83 rfl ?_
    obtain ⟨I_21, h_22, hf⟩ := bd1_some hf
    refine r_callV (As := []) (ci := 8) hX (k_X8_layTrial (l := xl X) (J := J) hX.ok hk0 h_22) pk_X8_layTrial ml_X8_244 rfl rfl rfl rfl hk0 rfl rfl rfl (Nat.le_of_ble_eq_true rfl) dX8_plan_84 ?_
    refine r_iload_n hX dX8_plan_87 rfl ?_
    refine r_iconst (v := 1) hX dX8_plan_88 rfl ?_
    refine r_isub hX dX8_plan_89 ?_
    obtain ⟨x_23, ex_23, hf⟩ := lt1_some hf
    refine V.topi ex_23 ?_
    refine r_istore hX dX8_plan_90 rfl rfl ?_
    refine V.mask [true, true, false, true, true] ?_
    exact vX8_plan_92 hX hret a0 x1 x3 hk0 5000 I_21 x_23 hf
noncomputable def f_X8_plan (I : HI) (a0 : Nat) (x1 : Int32) (x2 : Int32) (x3 : Int32) : Option (Int32 × HI) := lt1 (sI I a0 0 ((0 : Int32))) fun I_1 => bd1 (f_X8_noProxy I_1 a0 x1) fun r_2 => if r_2 = 0 then bd1 (f_X8_in x2.toInt64 ((1 : Int64)) ((4 : Int64))) fun r_5 => if r_5 = 0 then some ((-2 : Int32), I_1) else bd1 (f_X8_power ((100 : Int32)) x2) fun r_8 => bd1 (f_X8_in x3.toInt64 ((0 : Int64)) (((r_8 - (1 : Int32))).toInt64)) fun r_10 => if r_10 = 0 then some ((-2 : Int32), I_1) else wl1 (X8_plan_B51 I_1 a0 x1 x2 x3) 5000 ((0 : Int32)) else some ((-1 : Int32), I_1)
set_option maxHeartbeats 4000000 in
set_option maxRecDepth 100000 in
theorem k_X8_plan {G : GX} {l : Launch} {I : HI} {J : HJ} {I' : HI} {r : Int32} (hG : OKG G) {a0 : Nat} {x1 : Int32} {x2 : Int32} {x3 : Int32} (hk0 : gK G a0 = 9) (hf : f_X8_plan I a0 x1 x2 x3 = some (r, I')) : Ctr G l yX8_plan cX8_plan 5 (some .int) 5 123 [.ref a0, .int x1, .int x2, .int x3] I J (some (.int r)) I' J := by
  refine ctr_I hG (by decide) [some (.ref a0), some (.int x1), some (.int x2), some (.int x3), none] rfl rfl fun X e1 e2 hX hret => ?_
  subst e1; subst e2
  unfold f_X8_plan at hf
  refine r_aload_n hX dX8_plan_0 rfl ?_
  refine r_iconst (v := 0) hX dX8_plan_1 rfl ?_
  obtain ⟨I_1, eI_1, hf⟩ := lt1_some hf
  refine p_8_0 eI_1 hX fl_X8_75 hk0 dX8_plan_2 ?_
  refine r_aload_n hX dX8_plan_5 rfl ?_
  refine r_iload_n hX dX8_plan_6 rfl ?_
  obtain ⟨r_2, h_3, hf⟩ := bd1_some hf
  refine r_callV (As := [.int x1]) (ci := 8) hX (k_X8_noProxy (l := xl X) (J := J) hX.ok hk0 h_3) pk_X8_noProxy ml_X8_200 rfl rfl rfl rfl hk0 rfl rfl rfl (Nat.le_of_ble_eq_true rfl) dX8_plan_7 ?_
  refine r_if_eq (tgt := 15) hX dX8_plan_10 (by decide) (fun c_4 => ?_) (fun c_4 => ?_)
  · have hf := hf_t c_4 hf
    refine r_iload_n hX dX8_plan_15 rfl ?_
    refine r_i2l hX dX8_plan_16 ?_
    refine r_lconst (v := 1) hX dX8_plan_17 rfl ?_
    refine r_ldc2 hX dX8_plan_18 cn_X8_239 ?_
    obtain ⟨r_5, h_6, hf⟩ := bd1_some hf
    refine r_callS (As := [.long x2.toInt64, .long ((1 : Int64)), .long ((4 : Int64))]) hX (k_X8_in (l := xl X) (I := I_1) (J := J) hX.ok  h_6) pk_X8_in ml_X8_81 rfl rfl rfl (Nat.le_of_ble_eq_true rfl) dX8_plan_21 ?_
    refine r_if_eq (tgt := 45) hX dX8_plan_24 (by decide) (fun c_7 => ?_) (fun c_7 => ?_)
    · have hf := hf_t c_7 hf
      refine r_bipush (v := -2) hX dX8_plan_45 (by decide) ?_
      cases hf
      exact hret _ _ dX8_plan_47
    · have hf := hf_f c_7 hf
      refine r_iload_n hX dX8_plan_27 rfl ?_
      refine r_i2l hX dX8_plan_28 ?_
      refine r_lconst (v := 0) hX dX8_plan_29 rfl ?_
      refine r_bipush (v := 100) hX dX8_plan_30 (by decide) ?_
      refine r_iload_n hX dX8_plan_32 rfl ?_
      obtain ⟨r_8, h_9, hf⟩ := bd1_some hf
      refine r_callS (As := [.int ((100 : Int32)), .int x2]) hX (k_X8_power (l := xl X) (I := I_1) (J := J) hX.ok  h_9) pk_X8_power ml_X8_241 rfl rfl rfl (Nat.le_of_ble_eq_true rfl) dX8_plan_33 ?_
      refine r_iconst (v := 1) hX dX8_plan_36 rfl ?_
      refine r_isub hX dX8_plan_37 ?_
      refine r_i2l hX dX8_plan_38 ?_
      obtain ⟨r_10, h_11, hf⟩ := bd1_some hf
      refine r_callS (As := [.long x3.toInt64, .long ((0 : Int64)), .long (((r_8 - (1 : Int32))).toInt64)]) hX (k_X8_in (l := xl X) (I := I_1) (J := J) hX.ok  h_11) pk_X8_in ml_X8_81 rfl rfl rfl (Nat.le_of_ble_eq_true rfl) dX8_plan_39 ?_
      refine r_if_ne (tgt := 48) hX dX8_plan_42 (by decide) (fun c_12 => ?_) (fun c_12 => ?_)
      · have hf := hf_t c_12 hf
        refine r_bipush (v := -2) hX dX8_plan_45 (by decide) ?_
        cases hf
        exact hret _ _ dX8_plan_47
      · have hf := hf_f c_12 hf
        refine r_iconst (v := 0) hX dX8_plan_48 rfl ?_
        refine r_istore hX dX8_plan_49 rfl rfl ?_
        refine V.mask [true, true, true, true, true] ?_
        exact vX8_plan_51 hX hret a0 x1 x2 x3 hk0 5000 ((0 : Int32)) hf
  · have hf := hf_f c_4 hf
    refine r_iconst (v := -1) hX dX8_plan_13 rfl ?_
    cases hf
    exact hret _ _ dX8_plan_14
noncomputable def X8_layOrder_J98 (I : HI) (a0 : Nat) (x2 : Int32) (x4 : Int32) (x5 : Int32) (x6 : Int32) (x7 : Int32) (x9 : Int32) (sx0 : Int32) (sx1 : Int32) (k34 : HI → Int32 → Int32 → Int32 → Int32 → Option (HI)) (k66 : Int32 → Int32 → Option (HI)) : Option (HI) := lt1 ((sx0 - sx1)) fun x_22 => lt1 (x9 + (1 : Int32)) fun x_23 => k66 x_22 x_23
set_option maxHeartbeats 4000000 in
set_option maxRecDepth 100000 in
theorem vX8_layOrder_98 {X : CX} {I' : HI} {I : HI} {J : HJ} (hX : OKX X cX8_layOrder RX8 1 21 10) (hret : RetV X cX8_layOrder I' J) (a0 : Nat) (x2 : Int32) (x4 : Int32) (x5 : Int32) (x6 : Int32) (x7 : Int32) (x9 : Int32) (sx0 : Int32) (sx1 : Int32) (hk0 : gK (xG X) a0 = 9) (k34 : HI → Int32 → Int32 → Int32 → Int32 → Option (HI)) (k66 : Int32 → Int32 → Option (HI)) (hc34 : ∀ (I : HI) (x4 : Int32) (x5 : Int32) (x6 : Int32) (x7 : Int32), k34 I x4 x5 x6 x7 = some I' → V X I J 34 [some (.ref a0), none, some (.int x2), none, some (.int x4), some (.int x5), some (.int x6), some (.int x7), none, none] []) (hc66 : ∀ (x8 : Int32) (x9 : Int32), k66 x8 x9 = some I' → V X I J 66 [some (.ref a0), none, some (.int x2), none, some (.int x4), some (.int x5), some (.int x6), some (.int x7), some (.int x8), some (.int x9)] []) (hf : X8_layOrder_J98 I a0 x2 x4 x5 x6 x7 x9 sx0 sx1 k34 k66 = some I') : V X I J 98 [some (.ref a0), none, some (.int x2), none, some (.int x4), some (.int x5), some (.int x6), some (.int x7), none, some (.int x9)] [.int sx1, .int sx0] := by
  unfold X8_layOrder_J98 at hf
  refine r_isub hX dX8_layOrder_98 ?_
  obtain ⟨x_22, ex_22, hf⟩ := lt1_some hf
  refine V.topi ex_22 ?_
  refine r_istore hX dX8_layOrder_99 rfl rfl ?_
  obtain ⟨x_23, ex_23, hf⟩ := lt1_some hf
  refine r_iincE (n' := 1) ex_23 hX dX8_layOrder_101 rfl rfl rfl rfl ?_
  refine r_goto (tgt := 66) hX dX8_layOrder_104 (by decide) ?_
  refine V.mask [true, false, true, false, true, true, true, true, true, true] ?_
  exact hc66 x_22 x_23 hf
noncomputable def X8_layOrder_J81 (I : HI) (a0 : Nat) (x2 : Int32) (x4 : Int32) (x5 : Int32) (x6 : Int32) (x7 : Int32) (x8 : Int32) (x9 : Int32) (k34 : HI → Int32 → Int32 → Int32 → Int32 → Option (HI)) (k66 : Int32 → Int32 → Option (HI)) : Option (HI) := bd1 (f_X8_has x4 x9) fun r_19 => if r_19 = 0 then X8_layOrder_J98 I a0 x2 x4 x5 x6 x7 x9 x8 ((0 : Int32)) k34 k66 else X8_layOrder_J98 I a0 x2 x4 x5 x6 x7 x9 x8 ((1 : Int32)) k34 k66
set_option maxHeartbeats 4000000 in
set_option maxRecDepth 100000 in
theorem vX8_layOrder_81 {X : CX} {I' : HI} {I : HI} {J : HJ} (hX : OKX X cX8_layOrder RX8 1 21 10) (hret : RetV X cX8_layOrder I' J) (a0 : Nat) (x2 : Int32) (x4 : Int32) (x5 : Int32) (x6 : Int32) (x7 : Int32) (x8 : Int32) (x9 : Int32) (hk0 : gK (xG X) a0 = 9) (k34 : HI → Int32 → Int32 → Int32 → Int32 → Option (HI)) (k66 : Int32 → Int32 → Option (HI)) (hc34 : ∀ (I : HI) (x4 : Int32) (x5 : Int32) (x6 : Int32) (x7 : Int32), k34 I x4 x5 x6 x7 = some I' → V X I J 34 [some (.ref a0), none, some (.int x2), none, some (.int x4), some (.int x5), some (.int x6), some (.int x7), none, none] []) (hc66 : ∀ (x8 : Int32) (x9 : Int32), k66 x8 x9 = some I' → V X I J 66 [some (.ref a0), none, some (.int x2), none, some (.int x4), some (.int x5), some (.int x6), some (.int x7), some (.int x8), some (.int x9)] []) (hf : X8_layOrder_J81 I a0 x2 x4 x5 x6 x7 x8 x9 k34 k66 = some I') : V X I J 81 [some (.ref a0), none, some (.int x2), none, some (.int x4), some (.int x5), some (.int x6), some (.int x7), some (.int x8), some (.int x9)] [] := by
  unfold X8_layOrder_J81 at hf
  refine r_iload hX dX8_layOrder_81 rfl ?_
  refine r_iload hX dX8_layOrder_83 rfl ?_
  refine r_iload hX dX8_layOrder_85 rfl ?_
  obtain ⟨r_19, h_20, hf⟩ := bd1_some hf
  refine r_callS (As := [.int x4, .int x9]) hX (k_X8_has (l := xl X) (I := I) (J := J) hX.ok  h_20) pk_X8_has ml_X8_166 rfl rfl rfl (Nat.le_of_ble_eq_true rfl) dX8_layOrder_87 ?_
  refine r_if_eq (tgt := 97) hX dX8_layOrder_90 (by decide) (fun c_21 => ?_) (fun c_21 => ?_)
  · have hf := hf_t c_21 hf
    refine r_iconst (v := 0) hX dX8_layOrder_97 rfl ?_
    refine V.mask [true, false, true, false, true, true, true, true, false, true] ?_
    exact vX8_layOrder_98 hX hret a0 x2 x4 x5 x6 x7 x9 x8 ((0 : Int32)) hk0 k34 k66 hc34 hc66 hf
  · have hf := hf_f c_21 hf
    refine r_iconst (v := 1) hX dX8_layOrder_93 rfl ?_
    refine r_goto (tgt := 98) hX dX8_layOrder_94 (by decide) ?_
    refine V.mask [true, false, true, false, true, true, true, true, false, true] ?_
    exact vX8_layOrder_98 hX hret a0 x2 x4 x5 x6 x7 x9 x8 ((1 : Int32)) hk0 k34 k66 hc34 hc66 hf
noncomputable def X8_layOrder_B66 (I : HI) (a0 : Nat) (x2 : Int32) (x4 : Int32) (x5 : Int32) (x6 : Int32) (x7 : Int32) (k34 : HI → Int32 → Int32 → Int32 → Int32 → Option (HI)) (k66 : Int32 → Int32 → Option (HI)) (x8 : Int32) (x9 : Int32) : Option (HI) := bd1 (f_X8_has x4 x9) fun r_11 => if r_11 = 0 then X8_layOrder_J81 I a0 x2 x4 x5 x6 x7 x8 x9 k34 k66 else if 0 < x8 then X8_layOrder_J81 I a0 x2 x4 x5 x6 x7 x8 x9 k34 k66 else gd (vp_in x7 5) (lt1 (sI I ((a0 + 17)) x7.toNatClampNeg x9) fun I_16 => lt1 ((x4 &&& (((1 : Int32) <<< (x9 &&& 31)) ^^^ (-1 : Int32)))) fun x_17 => lt1 (x7 + (1 : Int32)) fun x_18 => k34 I_16 x_17 x5 x6 x_18)
set_option maxHeartbeats 4000000 in
set_option maxRecDepth 100000 in
theorem vX8_layOrder_66 {X : CX} {I' : HI} {I : HI} {J : HJ} (hX : OKX X cX8_layOrder RX8 1 21 10) (hret : RetV X cX8_layOrder I' J) (a0 : Nat) (x2 : Int32) (x4 : Int32) (x5 : Int32) (x6 : Int32) (x7 : Int32) (hk0 : gK (xG X) a0 = 9) (k34 : HI → Int32 → Int32 → Int32 → Int32 → Option (HI)) (hc34 : ∀ (I : HI) (x4 : Int32) (x5 : Int32) (x6 : Int32) (x7 : Int32), k34 I x4 x5 x6 x7 = some I' → V X I J 34 [some (.ref a0), none, some (.int x2), none, some (.int x4), some (.int x5), some (.int x6), some (.int x7), none, none] []) : ∀ (n : Nat) (x8 : Int32) (x9 : Int32), wl2 (X8_layOrder_B66 I a0 x2 x4 x5 x6 x7 k34) n x8 x9 = some I' → V X I J 66 [some (.ref a0), none, some (.int x2), none, some (.int x4), some (.int x5), some (.int x6), some (.int x7), some (.int x8), some (.int x9)] [] := by
  refine wl2_V (P := fun (x8 : Int32) (x9 : Int32) => V X I J 66 [some (.ref a0), none, some (.int x2), none, some (.int x4), some (.int x5), some (.int x6), some (.int x7), some (.int x8), some (.int x9)] []) ?_
  intro k66 hc66 x8 x9 hf
  unfold X8_layOrder_B66 at hf
  refine r_iload hX dX8_layOrder_66 rfl ?_
  refine r_iload hX dX8_layOrder_68 rfl ?_
  obtain ⟨r_11, h_12, hf⟩ := bd1_some hf
  refine r_callS (As := [.int x4, .int x9]) hX (k_X8_has (l := xl X) (I := I) (J := J) hX.ok  h_12) pk_X8_has ml_X8_166 rfl rfl rfl (Nat.le_of_ble_eq_true rfl) dX8_layOrder_70 ?_
  refine r_if_eq (tgt := 81) hX dX8_layOrder_73 (by decide) (fun c_13 => ?_) (fun c_13 => ?_)
  · have hf := hf_t c_13 hf
    refine V.mask [true, false, true, false, true, true, true, true, true, true] ?_
    exact vX8_layOrder_81 hX hret a0 x2 x4 x5 x6 x7 x8 x9 hk0 k34 k66 hc34 hc66 hf
  · have hf := hf_f c_13 hf
    refine r_iload hX dX8_layOrder_76 rfl ?_
    refine r_if_le (tgt := 107) hX dX8_layOrder_78 (by decide) (fun c_14 => ?_) (fun c_14 => ?_)
    · have hf := hf_t c_14 hf
      refine V.mask [true, false, true, false, true, true, true, true, true, true] ?_
      exact vX8_layOrder_81 hX hret a0 x2 x4 x5 x6 x7 x8 x9 hk0 k34 k66 hc34 hc66 hf
    · have hf := hf_f c_14 hf
      refine r_aload_n hX dX8_layOrder_107 rfl ?_
      refine g_8_30 hX fl_X8_69 hk0 dX8_layOrder_108 ?_
      refine r_iload hX dX8_layOrder_111 rfl ?_
      refine r_iload hX dX8_layOrder_113 rfl ?_
      obtain ⟨g_15, hf⟩ := gd_some hf
      obtain ⟨I_16, eI_16, hf⟩ := lt1_some hf
      refine r_iastE (n := 5) eI_16 hX rfl ((q_9_30 hX hk0)) g_15 dX8_layOrder_115 ?_
      refine r_iload hX dX8_layOrder_116 rfl ?_
      refine r_iconst (v := 1) hX dX8_layOrder_118 rfl ?_
      refine r_iload hX dX8_layOrder_119 rfl ?_
      refine r_ishl hX dX8_layOrder_121 ?_
      refine r_iconst (v := -1) hX dX8_layOrder_122 rfl ?_
      refine r_ixor hX dX8_layOrder_123 ?_
      refine r_iand hX dX8_layOrder_124 ?_
      obtain ⟨x_17, ex_17, hf⟩ := lt1_some hf
      refine V.topi ex_17 ?_
      refine r_istore hX dX8_layOrder_125 rfl rfl ?_
      obtain ⟨x_18, ex_18, hf⟩ := lt1_some hf
      refine r_iincE (n' := 1) ex_18 hX dX8_layOrder_127 rfl rfl rfl rfl ?_
      refine r_goto (tgt := 34) hX dX8_layOrder_130 (by decide) ?_
      refine V.mask [true, false, true, false, true, true, true, true, false, false] ?_
      exact hc34 I_16 x_17 x5 x6 x_18 hf
noncomputable def X8_layOrder_B34 (a0 : Nat) (x2 : Int32) (k34 : HI → Int32 → Int32 → Int32 → Int32 → Option (HI)) (I : HI) (x4 : Int32) (x5 : Int32) (x6 : Int32) (x7 : Int32) : Option (HI) := if x7 < x2 then gd (¬ (x2 - x7) = 0) (lt1 ((x6 / (x2 - x7))) fun x_6 => gd (¬ x_6 = 0) (lt1 ((x5 / x_6)) fun x_8 => gd (¬ x_6 = 0) (lt1 ((jrem x5 x_6)) fun x_10 => wl2 (X8_layOrder_B66 I a0 x2 x4 x_10 x_6 x7 k34) 5000 x_8 ((0 : Int32))))) else some I
set_option maxHeartbeats 4000000 in
set_option maxRecDepth 100000 in
theorem vX8_layOrder_34 {X : CX} {I' : HI} {J : HJ} (hX : OKX X cX8_layOrder RX8 1 21 10) (hret : RetV X cX8_layOrder I' J) (a0 : Nat) (x2 : Int32) (hk0 : gK (xG X) a0 = 9)   : ∀ (n : Nat) (I : HI) (x4 : Int32) (x5 : Int32) (x6 : Int32) (x7 : Int32), wl5 (X8_layOrder_B34 a0 x2) n I x4 x5 x6 x7 = some I' → V X I J 34 [some (.ref a0), none, some (.int x2), none, some (.int x4), some (.int x5), some (.int x6), some (.int x7), none, none] [] := by
  refine wl5_V (P := fun (I : HI) (x4 : Int32) (x5 : Int32) (x6 : Int32) (x7 : Int32) => V X I J 34 [some (.ref a0), none, some (.int x2), none, some (.int x4), some (.int x5), some (.int x6), some (.int x7), none, none] []) ?_
  intro k34 hc34 I x4 x5 x6 x7 hf
  unfold X8_layOrder_B34 at hf
  refine r_iload hX dX8_layOrder_34 rfl ?_
  refine r_iload_n hX dX8_layOrder_36 rfl ?_
  refine r_icmp_ge (tgt := 133) hX dX8_layOrder_37 (by decide) (fun c_4 => ?_) (fun c_4 => ?_)
  · have hf := hf_t c_4 hf
    refine r_iload hX dX8_layOrder_40 rfl ?_
    refine r_iload_n hX dX8_layOrder_42 rfl ?_
    refine r_iload hX dX8_layOrder_43 rfl ?_
    refine r_isub hX dX8_layOrder_45 ?_
    obtain ⟨g_5, hf⟩ := gd_some hf
    refine r_idiv hX dX8_layOrder_46 g_5 ?_
    obtain ⟨x_6, ex_6, hf⟩ := lt1_some hf
    refine V.topi ex_6 ?_
    refine r_istore hX dX8_layOrder_47 rfl rfl ?_
    refine r_iload hX dX8_layOrder_49 rfl ?_
    refine r_iload hX dX8_layOrder_51 rfl ?_
    obtain ⟨g_7, hf⟩ := gd_some hf
    refine r_idiv hX dX8_layOrder_53 g_7 ?_
    obtain ⟨x_8, ex_8, hf⟩ := lt1_some hf
    refine V.topi ex_8 ?_
    refine r_istore hX dX8_layOrder_54 rfl rfl ?_
    refine r_iload hX dX8_layOrder_56 rfl ?_
    refine r_iload hX dX8_layOrder_58 rfl ?_
    obtain ⟨g_9, hf⟩ := gd_some hf
    refine r_irem hX dX8_layOrder_60 g_9 ?_
    obtain ⟨x_10, ex_10, hf⟩ := lt1_some hf
    refine V.topi ex_10 ?_
    refine r_istore hX dX8_layOrder_61 rfl rfl ?_
    refine r_iconst (v := 0) hX dX8_layOrder_63 rfl ?_
    refine r_istore hX dX8_layOrder_64 rfl rfl ?_
    refine V.mask [true, false, true, false, true, true, true, true, true, true] ?_
    exact vX8_layOrder_66 hX hret a0 x2 x4 x_10 x_6 x7 hk0 k34 hc34 5000 x_8 ((0 : Int32)) hf
  · have hf := hf_f c_4 hf
    cases hf
    exact hret _ _ dX8_layOrder_133
noncomputable def X8_layOrder_B12 (I : HI) (a0 : Nat) (x2 : Int32) (x4 : Int32) (x5 : Int32) (k12 : Int32 → Int32 → Option (HI)) (x6 : Int32) (x7 : Int32) : Option (HI) := if x2 < x7 then wl5 (X8_layOrder_B34 a0 x2) 5000 I x4 x5 x6 ((0 : Int32)) else lt1 ((x6 * x7)) fun x_2 => lt1 (x7 + (1 : Int32)) fun x_3 => k12 x_2 x_3
set_option maxHeartbeats 4000000 in
set_option maxRecDepth 100000 in
theorem vX8_layOrder_12 {X : CX} {I' : HI} {I : HI} {J : HJ} (hX : OKX X cX8_layOrder RX8 1 21 10) (hret : RetV X cX8_layOrder I' J) (a0 : Nat) (x2 : Int32) (x4 : Int32) (x5 : Int32) (hk0 : gK (xG X) a0 = 9)   : ∀ (n : Nat) (x6 : Int32) (x7 : Int32), wl2 (X8_layOrder_B12 I a0 x2 x4 x5) n x6 x7 = some I' → V X I J 12 [some (.ref a0), none, some (.int x2), none, some (.int x4), some (.int x5), some (.int x6), some (.int x7), none, none] [] := by
  refine wl2_V (P := fun (x6 : Int32) (x7 : Int32) => V X I J 12 [some (.ref a0), none, some (.int x2), none, some (.int x4), some (.int x5), some (.int x6), some (.int x7), none, none] []) ?_
  intro k12 hc12 x6 x7 hf
  unfold X8_layOrder_B12 at hf
  refine r_iload hX dX8_layOrder_12 rfl ?_
  refine r_iload_n hX dX8_layOrder_14 rfl ?_
  refine r_icmp_gt (tgt := 31) hX dX8_layOrder_15 (by decide) (fun c_1 => ?_) (fun c_1 => ?_)
  · have hf := hf_t c_1 hf
    refine r_iconst (v := 0) hX dX8_layOrder_31 rfl ?_
    refine r_istore hX dX8_layOrder_32 rfl rfl ?_
    refine V.mask [true, false, true, false, true, true, true, true, false, false] ?_
    exact vX8_layOrder_34 hX hret a0 x2 hk0 5000 I x4 x5 x6 ((0 : Int32)) hf
  · have hf := hf_f c_1 hf
    refine r_iload hX dX8_layOrder_18 rfl ?_
    refine r_iload hX dX8_layOrder_20 rfl ?_
    refine r_imul hX dX8_layOrder_22 ?_
    obtain ⟨x_2, ex_2, hf⟩ := lt1_some hf
    refine V.topi ex_2 ?_
    refine r_istore hX dX8_layOrder_23 rfl rfl ?_
    obtain ⟨x_3, ex_3, hf⟩ := lt1_some hf
    refine r_iincE (n' := 1) ex_3 hX dX8_layOrder_25 rfl rfl rfl rfl ?_
    refine r_goto (tgt := 12) hX dX8_layOrder_28 (by decide) ?_
    refine V.mask [true, false, true, false, true, true, true, true, false, false] ?_
    exact hc12 x_2 x_3 hf
noncomputable def f_X8_layOrder (I : HI) (a0 : Nat) (x1 : Int32) (x2 : Int32) (x3 : Int32) : Option (HI) := wl2 (X8_layOrder_B12 I a0 x2 x1 x3) 5000 ((1 : Int32)) ((2 : Int32))
set_option maxHeartbeats 4000000 in
set_option maxRecDepth 100000 in
theorem k_X8_layOrder {G : GX} {l : Launch} {I : HI} {J : HJ} {I' : HI} (hG : OKG G) {a0 : Nat} {x1 : Int32} {x2 : Int32} {x3 : Int32} (hk0 : gK G a0 = 9) (hf : f_X8_layOrder I a0 x1 x2 x3 = some I') : Ctr G l yX8_layOrder cX8_layOrder 10 none 1 21 [.ref a0, .int x1, .int x2, .int x3] I J none I' J := by
  refine ctr_V hG (by decide) [some (.ref a0), some (.int x1), some (.int x2), some (.int x3), none, none, none, none, none, none] rfl rfl fun X e1 e2 hX hret => ?_
  subst e1; subst e2
  unfold f_X8_layOrder at hf
  refine r_iload_n hX dX8_layOrder_0 rfl ?_
  refine r_istore hX dX8_layOrder_1 rfl rfl ?_
  refine r_iload_n hX dX8_layOrder_3 rfl ?_
  refine r_istore hX dX8_layOrder_4 rfl rfl ?_
  refine r_iconst (v := 1) hX dX8_layOrder_6 rfl ?_
  refine r_istore hX dX8_layOrder_7 rfl rfl ?_
  refine r_iconst (v := 2) hX dX8_layOrder_9 rfl ?_
  refine r_istore hX dX8_layOrder_10 rfl rfl ?_
  refine V.mask [true, false, true, false, true, true, true, true, false, false] ?_
  exact vX8_layOrder_12 hX hret a0 x2 x1 x3 hk0 5000 ((1 : Int32)) ((2 : Int32)) hf

/-- the script stands at b, of L ints xs, outside what is written -/
def SC (X : CX) (b L : Nat) (zs : Nat → Int32) : Prop := va_X b L zs (xs X) (xs X).heap ∧ b < (xs X).heap.size ∧ ¬ xA X b
def RetLw (X : CX) : Prop := ∀ I' J' pc lv, decode code pc = .ok (.ireturn, 1) → V X I' J' pc lv [.int 1]
section LawRows
variable {X : CX} {I : HI} {J : HJ} {pc : Nat} {lv : List (Option Value)} {st : List Value} {cc : ByteArray} {own : String} {d loc nL b L : Nat} {zs : Nat → Int32}
theorem r_sld (hX : OKX X cc own d loc nL) (hSc : SC X b L zs) {i : Int32} (hin : vp_in i L) (hd : decode cc pc = .ok (.iaload, 1)) (kk : V X I J (pc + 1) lv (.int (zs i.toNatClampNeg) :: st)) : V X I J pc lv (.int i :: .ref b :: st) := by
  obtain ⟨hx, hb, -⟩ := hX
  intro H locs ls hW hS hl
  exact va_sld hx hb hSc.1 hSc.2.1 hSc.2.2 hS hin hd (kk H locs ls hW hS hl)
theorem r_slen (hX : OKX X cc own d loc nL) (hSc : SC X b L zs) (hd : decode cc pc = .ok (.arraylength, 1)) (kk : V X I J (pc + 1) lv (.int (Int32.ofNat L) :: st)) : V X I J pc lv (.ref b :: st) := by
  obtain ⟨hx, hb, -⟩ := hX
  intro H locs ls hW hS hl
  exact va_slen hx hb hSc.1 hSc.2.1 hSc.2.2 hS hd (kk H locs ls hW hS hl)
end LawRows
noncomputable def L_law_J1127 (L : Nat) (xs : Nat → Int32) (I : HI) (J : HJ) (a1 : Nat) (a2 : Nat) (x3 : Int32) (k18 : HI → HJ → Int32 → Option (Int32)) : Option (Int32) := lt1 (x3 + (5 : Int32)) fun x_307 => k18 I J x_307
set_option maxHeartbeats 4000000 in
set_option maxRecDepth 100000 in
theorem vL_law_1127 {X : CX} {b L : Nat} {xs : Nat → Int32} {I : HI} {J : HJ} (hX : OKX X cL_law RL 7 175 4) (hSc : SC X b L xs) (hret : RetLw X) (a1 : Nat) (a2 : Nat) (x3 : Int32) (hk1 : gK (xG X) a1 = 8) (hk2 : gK (xG X) a2 = 9) (k18 : HI → HJ → Int32 → Option (Int32)) (hc18 : ∀ (I : HI) (J : HJ) (x3 : Int32), k18 I J x3 = some 1 → V X I J 18 [some (.ref b), some (.ref a1), some (.ref a2), some (.int x3)] []) (hf : L_law_J1127 L xs I J a1 a2 x3 k18 = some 1) : V X I J 1127 [some (.ref b), some (.ref a1), some (.ref a2), some (.int x3)] [] := by
  unfold L_law_J1127 at hf
  obtain ⟨x_307, ex_307, hf⟩ := lt1_some hf
  refine r_iincE (n' := 5) ex_307 hX dL_law_1127 rfl rfl rfl rfl ?_
  refine r_goto (tgt := 18) hX dL_law_1130 (by decide) ?_
  refine V.mask [true, true, true, true] ?_
  exact hc18 I J x_307 hf
noncomputable def L_law_J423 (L : Nat) (xs : Nat → Int32) (I : HI) (J : HJ) (a1 : Nat) (a2 : Nat) (x3 : Int32) (sx0 : Int32) (sa1 : Nat) (sx2 : Int32) (sx3 : Int32) (sx4 : Int32) (k18 : HI → HJ → Int32 → Option (Int32)) : Option (Int32) := bd2 (f_X8_says I sa1 sx2 sx3 sx4) fun r_326 I_327 => if sx0 = r_326 then L_law_J1127 L xs I_327 J a1 a2 x3 k18 else some (0 : Int32)
set_option maxHeartbeats 4000000 in
set_option maxRecDepth 100000 in
theorem vL_law_423 {X : CX} {b L : Nat} {xs : Nat → Int32} {I : HI} {J : HJ} (hX : OKX X cL_law RL 7 175 4) (hSc : SC X b L xs) (hret : RetLw X) (a1 : Nat) (a2 : Nat) (x3 : Int32) (sx0 : Int32) (sa1 : Nat) (sx2 : Int32) (sx3 : Int32) (sx4 : Int32) (hk1 : gK (xG X) a1 = 8) (hk2 : gK (xG X) a2 = 9) (hs1 : gK (xG X) sa1 = 9) (k18 : HI → HJ → Int32 → Option (Int32)) (hc18 : ∀ (I : HI) (J : HJ) (x3 : Int32), k18 I J x3 = some 1 → V X I J 18 [some (.ref b), some (.ref a1), some (.ref a2), some (.int x3)] []) (hf : L_law_J423 L xs I J a1 a2 x3 sx0 sa1 sx2 sx3 sx4 k18 = some 1) : V X I J 423 [some (.ref b), some (.ref a1), some (.ref a2), some (.int x3)] [.int sx4, .int sx3, .int sx2, .ref sa1, .int sx0] := by
  unfold L_law_J423 at hf
  obtain ⟨r_326, I_327, h_328, hf⟩ := bd2_some hf
  refine r_callV (As := [.int sx2, .int sx3, .int sx4]) (ci := 8) hX (k_X8_says (l := xl X) (J := J) hX.ok hs1 h_328) pk_X8_says ml_L_53 rfl rfl rfl rfl hs1 rfl rfl rfl (Nat.le_of_ble_eq_true rfl) dL_law_423 ?_
  refine r_icmp_eq (tgt := 1127) hX dL_law_426 (by decide) (fun c_329 => ?_) (fun c_329 => ?_)
  · have hf := hf_t c_329 hf
    refine V.mask [true, true, true, true] ?_
    exact vL_law_1127 hX hSc hret a1 a2 x3 hk1 hk2 k18 hc18 hf
  · have hf := hf_f c_329 hf
    refine r_iconst (v := 0) hX dL_law_429 rfl ?_
    exact absurd hf (by decide)
noncomputable def L_law_J396 (L : Nat) (xs : Nat → Int32) (I : HI) (J : HJ) (a1 : Nat) (a2 : Nat) (x3 : Int32) (sa0 : Nat) (sx1 : Int32) (sx2 : Int32) (sx3 : Int32) (k18 : HI → HJ → Int32 → Option (Int32)) : Option (Int32) := bd1 (f_X7_says I sa0 sx1 sx2 sx3) fun r_308 => gd (vp_in ((x3 + (1 : Int32))) L) (gd (vp_in ((x3 + (2 : Int32))) L) (gd (vp_in ((x3 + (3 : Int32))) L) (if (xs ((x3 + (3 : Int32))).toNatClampNeg) = 0 then L_law_J423 L xs I J a1 a2 x3 r_308 a2 ((xs ((x3 + (1 : Int32))).toNatClampNeg)) ((xs ((x3 + (2 : Int32))).toNatClampNeg)) ((0 : Int32)) k18 else L_law_J423 L xs I J a1 a2 x3 r_308 a2 ((xs ((x3 + (1 : Int32))).toNatClampNeg)) ((xs ((x3 + (2 : Int32))).toNatClampNeg)) ((1 : Int32)) k18)))
set_option maxHeartbeats 4000000 in
set_option maxRecDepth 100000 in
theorem vL_law_396 {X : CX} {b L : Nat} {xs : Nat → Int32} {I : HI} {J : HJ} (hX : OKX X cL_law RL 7 175 4) (hSc : SC X b L xs) (hret : RetLw X) (a1 : Nat) (a2 : Nat) (x3 : Int32) (sa0 : Nat) (sx1 : Int32) (sx2 : Int32) (sx3 : Int32) (hk1 : gK (xG X) a1 = 8) (hk2 : gK (xG X) a2 = 9) (hs0 : gK (xG X) sa0 = 8) (k18 : HI → HJ → Int32 → Option (Int32)) (hc18 : ∀ (I : HI) (J : HJ) (x3 : Int32), k18 I J x3 = some 1 → V X I J 18 [some (.ref b), some (.ref a1), some (.ref a2), some (.int x3)] []) (hf : L_law_J396 L xs I J a1 a2 x3 sa0 sx1 sx2 sx3 k18 = some 1) : V X I J 396 [some (.ref b), some (.ref a1), some (.ref a2), some (.int x3)] [.int sx3, .int sx2, .int sx1, .ref sa0] := by
  unfold L_law_J396 at hf
  obtain ⟨r_308, h_309, hf⟩ := bd1_some hf
  refine r_callV (As := [.int sx1, .int sx2, .int sx3]) (ci := 7) hX (k_X7_says (l := xl X) (J := J) hX.ok hs0 h_309) pk_X7_says ml_L_49 rfl rfl rfl rfl hs0 rfl rfl rfl (Nat.le_of_ble_eq_true rfl) dL_law_396 ?_
  refine r_aload_n hX dL_law_399 rfl ?_
  refine r_aload_n hX dL_law_400 rfl ?_
  refine r_iload_n hX dL_law_401 rfl ?_
  refine r_iconst (v := 1) hX dL_law_402 rfl ?_
  refine r_iadd hX dL_law_403 ?_
  obtain ⟨g_310, hf⟩ := gd_some hf
  refine r_sld hX hSc g_310 dL_law_404 ?_
  refine r_aload_n hX dL_law_405 rfl ?_
  refine r_iload_n hX dL_law_406 rfl ?_
  refine r_iconst (v := 2) hX dL_law_407 rfl ?_
  refine r_iadd hX dL_law_408 ?_
  obtain ⟨g_311, hf⟩ := gd_some hf
  refine r_sld hX hSc g_311 dL_law_409 ?_
  refine r_aload_n hX dL_law_410 rfl ?_
  refine r_iload_n hX dL_law_411 rfl ?_
  refine r_iconst (v := 3) hX dL_law_412 rfl ?_
  refine r_iadd hX dL_law_413 ?_
  obtain ⟨g_312, hf⟩ := gd_some hf
  refine r_sld hX hSc g_312 dL_law_414 ?_
  refine r_if_eq (tgt := 422) hX dL_law_415 (by decide) (fun c_313 => ?_) (fun c_313 => ?_)
  · have hf := hf_t c_313 hf
    refine r_iconst (v := 0) hX dL_law_422 rfl ?_
    refine V.mask [true, true, true, true] ?_
    exact vL_law_423 hX hSc hret a1 a2 x3 r_308 a2 ((xs ((x3 + (1 : Int32))).toNatClampNeg)) ((xs ((x3 + (2 : Int32))).toNatClampNeg)) ((0 : Int32)) hk1 hk2 hk2 k18 hc18 hf
  · have hf := hf_f c_313 hf
    refine r_iconst (v := 1) hX dL_law_418 rfl ?_
    refine r_goto (tgt := 423) hX dL_law_419 (by decide) ?_
    refine V.mask [true, true, true, true] ?_
    exact vL_law_423 hX hSc hret a1 a2 x3 r_308 a2 ((xs ((x3 + (1 : Int32))).toNatClampNeg)) ((xs ((x3 + (2 : Int32))).toNatClampNeg)) ((1 : Int32)) hk1 hk2 hk2 k18 hc18 hf
noncomputable def L_law_J904 (L : Nat) (xs : Nat → Int32) (I : HI) (J : HJ) (a1 : Nat) (a2 : Nat) (x3 : Int32) (sx0 : Int32) (sa1 : Nat) (sx2 : Int32) (sx3 : Int32) (k18 : HI → HJ → Int32 → Option (Int32)) : Option (Int32) := bd2 (f_X8_share I sa1 sx2 sx3) fun r_330 I_331 => if sx0 = r_330 then L_law_J1127 L xs I_331 J a1 a2 x3 k18 else some (0 : Int32)
set_option maxHeartbeats 4000000 in
set_option maxRecDepth 100000 in
theorem vL_law_904 {X : CX} {b L : Nat} {xs : Nat → Int32} {I : HI} {J : HJ} (hX : OKX X cL_law RL 7 175 4) (hSc : SC X b L xs) (hret : RetLw X) (a1 : Nat) (a2 : Nat) (x3 : Int32) (sx0 : Int32) (sa1 : Nat) (sx2 : Int32) (sx3 : Int32) (hk1 : gK (xG X) a1 = 8) (hk2 : gK (xG X) a2 = 9) (hs1 : gK (xG X) sa1 = 9) (k18 : HI → HJ → Int32 → Option (Int32)) (hc18 : ∀ (I : HI) (J : HJ) (x3 : Int32), k18 I J x3 = some 1 → V X I J 18 [some (.ref b), some (.ref a1), some (.ref a2), some (.int x3)] []) (hf : L_law_J904 L xs I J a1 a2 x3 sx0 sa1 sx2 sx3 k18 = some 1) : V X I J 904 [some (.ref b), some (.ref a1), some (.ref a2), some (.int x3)] [.int sx3, .int sx2, .ref sa1, .int sx0] := by
  unfold L_law_J904 at hf
  obtain ⟨r_330, I_331, h_332, hf⟩ := bd2_some hf
  refine r_callV (As := [.int sx2, .int sx3]) (ci := 8) hX (k_X8_share (l := xl X) (J := J) hX.ok hs1 h_332) pk_X8_share ml_L_117 rfl rfl rfl rfl hs1 rfl rfl rfl (Nat.le_of_ble_eq_true rfl) dL_law_904 ?_
  refine r_icmp_eq (tgt := 1127) hX dL_law_907 (by decide) (fun c_333 => ?_) (fun c_333 => ?_)
  · have hf := hf_t c_333 hf
    refine V.mask [true, true, true, true] ?_
    exact vL_law_1127 hX hSc hret a1 a2 x3 hk1 hk2 k18 hc18 hf
  · have hf := hf_f c_333 hf
    refine r_iconst (v := 0) hX dL_law_910 rfl ?_
    exact absurd hf (by decide)
noncomputable def L_law_J882 (L : Nat) (xs : Nat → Int32) (I : HI) (J : HJ) (a1 : Nat) (a2 : Nat) (x3 : Int32) (sa0 : Nat) (sx1 : Int32) (sx2 : Int32) (k18 : HI → HJ → Int32 → Option (Int32)) : Option (Int32) := bd1 (f_X7_share I sa0 sx1 sx2) fun r_314 => gd (vp_in ((x3 + (1 : Int32))) L) (gd (vp_in ((x3 + (2 : Int32))) L) (if (xs ((x3 + (2 : Int32))).toNatClampNeg) = 0 then L_law_J904 L xs I J a1 a2 x3 r_314 a2 ((xs ((x3 + (1 : Int32))).toNatClampNeg)) ((0 : Int32)) k18 else L_law_J904 L xs I J a1 a2 x3 r_314 a2 ((xs ((x3 + (1 : Int32))).toNatClampNeg)) ((1 : Int32)) k18))
set_option maxHeartbeats 4000000 in
set_option maxRecDepth 100000 in
theorem vL_law_882 {X : CX} {b L : Nat} {xs : Nat → Int32} {I : HI} {J : HJ} (hX : OKX X cL_law RL 7 175 4) (hSc : SC X b L xs) (hret : RetLw X) (a1 : Nat) (a2 : Nat) (x3 : Int32) (sa0 : Nat) (sx1 : Int32) (sx2 : Int32) (hk1 : gK (xG X) a1 = 8) (hk2 : gK (xG X) a2 = 9) (hs0 : gK (xG X) sa0 = 8) (k18 : HI → HJ → Int32 → Option (Int32)) (hc18 : ∀ (I : HI) (J : HJ) (x3 : Int32), k18 I J x3 = some 1 → V X I J 18 [some (.ref b), some (.ref a1), some (.ref a2), some (.int x3)] []) (hf : L_law_J882 L xs I J a1 a2 x3 sa0 sx1 sx2 k18 = some 1) : V X I J 882 [some (.ref b), some (.ref a1), some (.ref a2), some (.int x3)] [.int sx2, .int sx1, .ref sa0] := by
  unfold L_law_J882 at hf
  obtain ⟨r_314, h_315, hf⟩ := bd1_some hf
  refine r_callV (As := [.int sx1, .int sx2]) (ci := 7) hX (k_X7_share (l := xl X) (J := J) hX.ok hs0 h_315) pk_X7_share ml_L_113 rfl rfl rfl rfl hs0 rfl rfl rfl (Nat.le_of_ble_eq_true rfl) dL_law_882 ?_
  refine r_aload_n hX dL_law_885 rfl ?_
  refine r_aload_n hX dL_law_886 rfl ?_
  refine r_iload_n hX dL_law_887 rfl ?_
  refine r_iconst (v := 1) hX dL_law_888 rfl ?_
  refine r_iadd hX dL_law_889 ?_
  obtain ⟨g_316, hf⟩ := gd_some hf
  refine r_sld hX hSc g_316 dL_law_890 ?_
  refine r_aload_n hX dL_law_891 rfl ?_
  refine r_iload_n hX dL_law_892 rfl ?_
  refine r_iconst (v := 2) hX dL_law_893 rfl ?_
  refine r_iadd hX dL_law_894 ?_
  obtain ⟨g_317, hf⟩ := gd_some hf
  refine r_sld hX hSc g_317 dL_law_895 ?_
  refine r_if_eq (tgt := 903) hX dL_law_896 (by decide) (fun c_318 => ?_) (fun c_318 => ?_)
  · have hf := hf_t c_318 hf
    refine r_iconst (v := 0) hX dL_law_903 rfl ?_
    refine V.mask [true, true, true, true] ?_
    exact vL_law_904 hX hSc hret a1 a2 x3 r_314 a2 ((xs ((x3 + (1 : Int32))).toNatClampNeg)) ((0 : Int32)) hk1 hk2 hk2 k18 hc18 hf
  · have hf := hf_f c_318 hf
    refine r_iconst (v := 1) hX dL_law_899 rfl ?_
    refine r_goto (tgt := 904) hX dL_law_900 (by decide) ?_
    refine V.mask [true, true, true, true] ?_
    exact vL_law_904 hX hSc hret a1 a2 x3 r_314 a2 ((xs ((x3 + (1 : Int32))).toNatClampNeg)) ((1 : Int32)) hk1 hk2 hk2 k18 hc18 hf
noncomputable def L_law_J973 (L : Nat) (xs : Nat → Int32) (I : HI) (J : HJ) (a1 : Nat) (a2 : Nat) (x3 : Int32) (sx0 : Int32) (sa1 : Nat) (sx2 : Int32) (sx3 : Int32) (sx4 : Int32) (sx5 : Int32) (k18 : HI → HJ → Int32 → Option (Int32)) : Option (Int32) := bd2 (f_X8_lost I sa1 sx2 sx3 sx4 sx5) fun r_334 I_335 => if sx0 = r_334 then L_law_J1127 L xs I_335 J a1 a2 x3 k18 else some (0 : Int32)
set_option maxHeartbeats 4000000 in
set_option maxRecDepth 100000 in
theorem vL_law_973 {X : CX} {b L : Nat} {xs : Nat → Int32} {I : HI} {J : HJ} (hX : OKX X cL_law RL 7 175 4) (hSc : SC X b L xs) (hret : RetLw X) (a1 : Nat) (a2 : Nat) (x3 : Int32) (sx0 : Int32) (sa1 : Nat) (sx2 : Int32) (sx3 : Int32) (sx4 : Int32) (sx5 : Int32) (hk1 : gK (xG X) a1 = 8) (hk2 : gK (xG X) a2 = 9) (hs1 : gK (xG X) sa1 = 9) (k18 : HI → HJ → Int32 → Option (Int32)) (hc18 : ∀ (I : HI) (J : HJ) (x3 : Int32), k18 I J x3 = some 1 → V X I J 18 [some (.ref b), some (.ref a1), some (.ref a2), some (.int x3)] []) (hf : L_law_J973 L xs I J a1 a2 x3 sx0 sa1 sx2 sx3 sx4 sx5 k18 = some 1) : V X I J 973 [some (.ref b), some (.ref a1), some (.ref a2), some (.int x3)] [.int sx5, .int sx4, .int sx3, .int sx2, .ref sa1, .int sx0] := by
  unfold L_law_J973 at hf
  obtain ⟨r_334, I_335, h_336, hf⟩ := bd2_some hf
  refine r_callV (As := [.int sx2, .int sx3, .int sx4, .int sx5]) (ci := 8) hX (k_X8_lost (l := xl X) (J := J) hX.ok hs1 h_336) pk_X8_lost ml_L_122 rfl rfl rfl rfl hs1 rfl rfl rfl (Nat.le_of_ble_eq_true rfl) dL_law_973 ?_
  refine r_icmp_eq (tgt := 1127) hX dL_law_976 (by decide) (fun c_337 => ?_) (fun c_337 => ?_)
  · have hf := hf_t c_337 hf
    refine V.mask [true, true, true, true] ?_
    exact vL_law_1127 hX hSc hret a1 a2 x3 hk1 hk2 k18 hc18 hf
  · have hf := hf_f c_337 hf
    refine r_iconst (v := 0) hX dL_law_979 rfl ?_
    exact absurd hf (by decide)
noncomputable def L_law_J941 (L : Nat) (xs : Nat → Int32) (I : HI) (J : HJ) (a1 : Nat) (a2 : Nat) (x3 : Int32) (sa0 : Nat) (sx1 : Int32) (sx2 : Int32) (sx3 : Int32) (sx4 : Int32) (k18 : HI → HJ → Int32 → Option (Int32)) : Option (Int32) := bd1 (f_X7_lost I sa0 sx1 sx2 sx3 sx4) fun r_319 => gd (vp_in ((x3 + (1 : Int32))) L) (gd (vp_in ((x3 + (2 : Int32))) L) (gd (vp_in ((x3 + (3 : Int32))) L) (gd (vp_in ((x3 + (4 : Int32))) L) (if (xs ((x3 + (4 : Int32))).toNatClampNeg) = 0 then L_law_J973 L xs I J a1 a2 x3 r_319 a2 ((xs ((x3 + (1 : Int32))).toNatClampNeg)) ((xs ((x3 + (2 : Int32))).toNatClampNeg)) ((xs ((x3 + (3 : Int32))).toNatClampNeg)) ((0 : Int32)) k18 else L_law_J973 L xs I J a1 a2 x3 r_319 a2 ((xs ((x3 + (1 : Int32))).toNatClampNeg)) ((xs ((x3 + (2 : Int32))).toNatClampNeg)) ((xs ((x3 + (3 : Int32))).toNatClampNeg)) ((1 : Int32)) k18))))
set_option maxHeartbeats 4000000 in
set_option maxRecDepth 100000 in
theorem vL_law_941 {X : CX} {b L : Nat} {xs : Nat → Int32} {I : HI} {J : HJ} (hX : OKX X cL_law RL 7 175 4) (hSc : SC X b L xs) (hret : RetLw X) (a1 : Nat) (a2 : Nat) (x3 : Int32) (sa0 : Nat) (sx1 : Int32) (sx2 : Int32) (sx3 : Int32) (sx4 : Int32) (hk1 : gK (xG X) a1 = 8) (hk2 : gK (xG X) a2 = 9) (hs0 : gK (xG X) sa0 = 8) (k18 : HI → HJ → Int32 → Option (Int32)) (hc18 : ∀ (I : HI) (J : HJ) (x3 : Int32), k18 I J x3 = some 1 → V X I J 18 [some (.ref b), some (.ref a1), some (.ref a2), some (.int x3)] []) (hf : L_law_J941 L xs I J a1 a2 x3 sa0 sx1 sx2 sx3 sx4 k18 = some 1) : V X I J 941 [some (.ref b), some (.ref a1), some (.ref a2), some (.int x3)] [.int sx4, .int sx3, .int sx2, .int sx1, .ref sa0] := by
  unfold L_law_J941 at hf
  obtain ⟨r_319, h_320, hf⟩ := bd1_some hf
  refine r_callV (As := [.int sx1, .int sx2, .int sx3, .int sx4]) (ci := 7) hX (k_X7_lost (l := xl X) (J := J) hX.ok hs0 h_320) pk_X7_lost ml_L_118 rfl rfl rfl rfl hs0 rfl rfl rfl (Nat.le_of_ble_eq_true rfl) dL_law_941 ?_
  refine r_aload_n hX dL_law_944 rfl ?_
  refine r_aload_n hX dL_law_945 rfl ?_
  refine r_iload_n hX dL_law_946 rfl ?_
  refine r_iconst (v := 1) hX dL_law_947 rfl ?_
  refine r_iadd hX dL_law_948 ?_
  obtain ⟨g_321, hf⟩ := gd_some hf
  refine r_sld hX hSc g_321 dL_law_949 ?_
  refine r_aload_n hX dL_law_950 rfl ?_
  refine r_iload_n hX dL_law_951 rfl ?_
  refine r_iconst (v := 2) hX dL_law_952 rfl ?_
  refine r_iadd hX dL_law_953 ?_
  obtain ⟨g_322, hf⟩ := gd_some hf
  refine r_sld hX hSc g_322 dL_law_954 ?_
  refine r_aload_n hX dL_law_955 rfl ?_
  refine r_iload_n hX dL_law_956 rfl ?_
  refine r_iconst (v := 3) hX dL_law_957 rfl ?_
  refine r_iadd hX dL_law_958 ?_
  obtain ⟨g_323, hf⟩ := gd_some hf
  refine r_sld hX hSc g_323 dL_law_959 ?_
  refine r_aload_n hX dL_law_960 rfl ?_
  refine r_iload_n hX dL_law_961 rfl ?_
  refine r_iconst (v := 4) hX dL_law_962 rfl ?_
  refine r_iadd hX dL_law_963 ?_
  obtain ⟨g_324, hf⟩ := gd_some hf
  refine r_sld hX hSc g_324 dL_law_964 ?_
  refine r_if_eq (tgt := 972) hX dL_law_965 (by decide) (fun c_325 => ?_) (fun c_325 => ?_)
  · have hf := hf_t c_325 hf
    refine r_iconst (v := 0) hX dL_law_972 rfl ?_
    refine V.mask [true, true, true, true] ?_
    exact vL_law_973 hX hSc hret a1 a2 x3 r_319 a2 ((xs ((x3 + (1 : Int32))).toNatClampNeg)) ((xs ((x3 + (2 : Int32))).toNatClampNeg)) ((xs ((x3 + (3 : Int32))).toNatClampNeg)) ((0 : Int32)) hk1 hk2 hk2 k18 hc18 hf
  · have hf := hf_f c_325 hf
    refine r_iconst (v := 1) hX dL_law_968 rfl ?_
    refine r_goto (tgt := 973) hX dL_law_969 (by decide) ?_
    refine V.mask [true, true, true, true] ?_
    exact vL_law_973 hX hSc hret a1 a2 x3 r_319 a2 ((xs ((x3 + (1 : Int32))).toNatClampNeg)) ((xs ((x3 + (2 : Int32))).toNatClampNeg)) ((xs ((x3 + (3 : Int32))).toNatClampNeg)) ((1 : Int32)) hk1 hk2 hk2 k18 hc18 hf
noncomputable def L_law_B18 (L : Nat) (xs : Nat → Int32) (a1 : Nat) (a2 : Nat) (k18 : HI → HJ → Int32 → Option (Int32)) (I : HI) (J : HJ) (x3 : Int32) : Option (Int32) := if ((Int32.ofNat L) - (5 : Int32)) < x3 then some (1 : Int32) else gd (vp_in x3 L) (if ((xs x3.toNatClampNeg) &&& (31 : Int32)) = 0 then gd (vp_in ((x3 + (1 : Int32))) L) (bd2 (f_X7_write I a1 ((xs ((x3 + (1 : Int32))).toNatClampNeg))) fun r_5 I_6 => gd (vp_in ((x3 + (1 : Int32))) L) (bd2 (f_X8_write I_6 a2 ((xs ((x3 + (1 : Int32))).toNatClampNeg))) fun r_9 I_10 => if r_5 = r_9 then L_law_J1127 L xs I_10 J a1 a2 x3 k18 else some (0 : Int32))) else if ((xs x3.toNatClampNeg) &&& (31 : Int32)) = 1 then bd2 (f_X7_wipe I a1) fun r_14 I_15 => bd2 (f_X8_wipe I_15 a2) fun r_17 I_18 => if r_14 = r_17 then L_law_J1127 L xs I_18 J a1 a2 x3 k18 else some (0 : Int32) else if ((xs x3.toNatClampNeg) &&& (31 : Int32)) = 2 then bd2 (f_X7_fault I a1) fun r_22 I_23 => bd2 (f_X8_fault I_23 a2) fun r_25 I_26 => if r_22 = r_25 then L_law_J1127 L xs I_26 J a1 a2 x3 k18 else some (0 : Int32) else if ((xs x3.toNatClampNeg) &&& (31 : Int32)) = 3 then bd2 (f_X7_net I a1) fun r_30 I_31 => bd2 (f_X8_net I_31 a2) fun r_33 I_34 => if r_30 = r_33 then L_law_J1127 L xs I_34 J a1 a2 x3 k18 else some (0 : Int32) else if ((xs x3.toNatClampNeg) &&& (31 : Int32)) = 4 then gd (vp_in ((x3 + (1 : Int32))) L) (gd (vp_in ((x3 + (2 : Int32))) L) (bd1 (f_X7_proxy I a1 ((xs ((x3 + (1 : Int32))).toNatClampNeg)) ((xs ((x3 + (2 : Int32))).toNatClampNeg))) fun r_40 => gd (vp_in ((x3 + (1 : Int32))) L) (gd (vp_in ((x3 + (2 : Int32))) L) (bd2 (f_X8_proxy I a2 ((xs ((x3 + (1 : Int32))).toNatClampNeg)) ((xs ((x3 + (2 : Int32))).toNatClampNeg))) fun r_44 I_45 => if r_40 = r_44 then L_law_J1127 L xs I_45 J a1 a2 x3 k18 else some (0 : Int32))))) else if ((xs x3.toNatClampNeg) &&& (31 : Int32)) = 5 then gd (vp_in ((x3 + (1 : Int32))) L) (gd (vp_in ((x3 + (2 : Int32))) L) (bd1 (f_X7_page I a1 ((xs ((x3 + (1 : Int32))).toNatClampNeg)) ((xs ((x3 + (2 : Int32))).toNatClampNeg))) fun r_51 => gd (vp_in ((x3 + (1 : Int32))) L) (gd (vp_in ((x3 + (2 : Int32))) L) (bd2 (f_X8_page I a2 ((xs ((x3 + (1 : Int32))).toNatClampNeg)) ((xs ((x3 + (2 : Int32))).toNatClampNeg))) fun r_55 I_56 => if r_51 = r_55 then L_law_J1127 L xs I_56 J a1 a2 x3 k18 else some (0 : Int32))))) else if ((xs x3.toNatClampNeg) &&& (31 : Int32)) = 6 then gd (vp_in ((x3 + (1 : Int32))) L) (gd (vp_in ((x3 + (2 : Int32))) L) (bd1 (f_X7_counter I a1 ((xs ((x3 + (1 : Int32))).toNatClampNeg)) ((xs ((x3 + (2 : Int32))).toNatClampNeg))) fun r_62 => gd (vp_in ((x3 + (1 : Int32))) L) (gd (vp_in ((x3 + (2 : Int32))) L) (bd2 (f_X8_counter I a2 ((xs ((x3 + (1 : Int32))).toNatClampNeg)) ((xs ((x3 + (2 : Int32))).toNatClampNeg))) fun r_66 I_67 => if r_62 = r_66 then L_law_J1127 L xs I_67 J a1 a2 x3 k18 else some (0 : Int32))))) else if ((xs x3.toNatClampNeg) &&& (31 : Int32)) = 7 then gd (vp_in ((x3 + (1 : Int32))) L) (gd (vp_in ((x3 + (2 : Int32))) L) (gd (vp_in ((x3 + (3 : Int32))) L) (bd1 (f_X7_hash I a1 ((xs ((x3 + (1 : Int32))).toNatClampNeg)) ((xs ((x3 + (2 : Int32))).toNatClampNeg)) ((xs ((x3 + (3 : Int32))).toNatClampNeg))) fun r_74 => gd (vp_in ((x3 + (1 : Int32))) L) (gd (vp_in ((x3 + (2 : Int32))) L) (gd (vp_in ((x3 + (3 : Int32))) L) (bd2 (f_X8_hash I a2 ((xs ((x3 + (1 : Int32))).toNatClampNeg)) ((xs ((x3 + (2 : Int32))).toNatClampNeg)) ((xs ((x3 + (3 : Int32))).toNatClampNeg))) fun r_79 I_80 => if r_74 = r_79 then L_law_J1127 L xs I_80 J a1 a2 x3 k18 else some (0 : Int32))))))) else if ((xs x3.toNatClampNeg) &&& (31 : Int32)) = 8 then gd (vp_in ((x3 + (1 : Int32))) L) (gd (vp_in ((x3 + (2 : Int32))) L) (gd (vp_in ((x3 + (3 : Int32))) L) (if (xs ((x3 + (3 : Int32))).toNatClampNeg) = 0 then L_law_J396 L xs I J a1 a2 x3 a1 ((xs ((x3 + (1 : Int32))).toNatClampNeg)) ((xs ((x3 + (2 : Int32))).toNatClampNeg)) ((0 : Int32)) k18 else L_law_J396 L xs I J a1 a2 x3 a1 ((xs ((x3 + (1 : Int32))).toNatClampNeg)) ((xs ((x3 + (2 : Int32))).toNatClampNeg)) ((1 : Int32)) k18))) else if ((xs x3.toNatClampNeg) &&& (31 : Int32)) = 9 then gd (vp_in ((x3 + (1 : Int32))) L) (gd (vp_in ((x3 + (2 : Int32))) L) (bd2 (f_X7_ask I a1 ((xs ((x3 + (1 : Int32))).toNatClampNeg)) ((xs ((x3 + (2 : Int32))).toNatClampNeg))) fun r_91 I_92 => gd (vp_in ((x3 + (1 : Int32))) L) (gd (vp_in ((x3 + (2 : Int32))) L) (bd2 (f_X8_ask I_92 a2 ((xs ((x3 + (1 : Int32))).toNatClampNeg)) ((xs ((x3 + (2 : Int32))).toNatClampNeg))) fun r_96 I_97 => if r_91 = r_96 then L_law_J1127 L xs I_97 J a1 a2 x3 k18 else some (0 : Int32))))) else if ((xs x3.toNatClampNeg) &&& (31 : Int32)) = 10 then gd (vp_in ((x3 + (1 : Int32))) L) (gd (vp_in ((x3 + (2 : Int32))) L) (bd2 (f_X7_drop I a1 ((xs ((x3 + (1 : Int32))).toNatClampNeg)) ((xs ((x3 + (2 : Int32))).toNatClampNeg))) fun r_103 I_104 => gd (vp_in ((x3 + (1 : Int32))) L) (gd (vp_in ((x3 + (2 : Int32))) L) (bd2 (f_X8_drop I_104 a2 ((xs ((x3 + (1 : Int32))).toNatClampNeg)) ((xs ((x3 + (2 : Int32))).toNatClampNeg))) fun r_108 I_109 => if r_103 = r_108 then L_law_J1127 L xs I_109 J a1 a2 x3 k18 else some (0 : Int32))))) else if ((xs x3.toNatClampNeg) &&& (31 : Int32)) = 11 then gd (vp_in ((x3 + (1 : Int32))) L) (bd2 (f_X7_send I a1 ((xs ((x3 + (1 : Int32))).toNatClampNeg))) fun r_114 I_115 => gd (vp_in ((x3 + (1 : Int32))) L) (bd2 (f_X8_send I_115 a2 ((xs ((x3 + (1 : Int32))).toNatClampNeg))) fun r_118 I_119 => if r_114 = r_118 then L_law_J1127 L xs I_119 J a1 a2 x3 k18 else some (0 : Int32))) else if ((xs x3.toNatClampNeg) &&& (31 : Int32)) = 12 then gd (vp_in ((x3 + (1 : Int32))) L) (gd (vp_in ((x3 + (2 : Int32))) L) (bd2 (f_X7_threshold I a1 ((xs ((x3 + (1 : Int32))).toNatClampNeg)) ((xs ((x3 + (2 : Int32))).toNatClampNeg))) fun r_125 I_126 => gd (vp_in ((x3 + (1 : Int32))) L) (gd (vp_in ((x3 + (2 : Int32))) L) (bd2 (f_X8_threshold I_126 a2 ((xs ((x3 + (1 : Int32))).toNatClampNeg)) ((xs ((x3 + (2 : Int32))).toNatClampNeg))) fun r_130 I_131 => if r_125 = r_130 then L_law_J1127 L xs I_131 J a1 a2 x3 k18 else some (0 : Int32))))) else if ((xs x3.toNatClampNeg) &&& (31 : Int32)) = 13 then gd (vp_in ((x3 + (1 : Int32))) L) (bd2 (f_X7_use I a1 ((xs ((x3 + (1 : Int32))).toNatClampNeg))) fun r_136 I_137 => gd (vp_in ((x3 + (1 : Int32))) L) (bd2 (f_X8_use I_137 a2 ((xs ((x3 + (1 : Int32))).toNatClampNeg))) fun r_140 I_141 => if r_136 = r_140 then L_law_J1127 L xs I_141 J a1 a2 x3 k18 else some (0 : Int32))) else if ((xs x3.toNatClampNeg) &&& (31 : Int32)) = 14 then bd2 (f_X7_undo I a1) fun r_145 I_146 => bd2 (f_X8_undo I_146 a2) fun r_148 I_149 => if r_145 = r_148 then L_law_J1127 L xs I_149 J a1 a2 x3 k18 else some (0 : Int32) else if ((xs x3.toNatClampNeg) &&& (31 : Int32)) = 15 then gd (vp_in ((x3 + (1 : Int32))) L) (bd1 (f_X7_weight I a1 ((xs ((x3 + (1 : Int32))).toNatClampNeg))) fun r_154 => gd (vp_in ((x3 + (1 : Int32))) L) (bd2 (f_X8_weight I a2 ((xs ((x3 + (1 : Int32))).toNatClampNeg))) fun r_157 I_158 => if r_154 = r_157 then L_law_J1127 L xs I_158 J a1 a2 x3 k18 else some (0 : Int32))) else if ((xs x3.toNatClampNeg) &&& (31 : Int32)) = 16 then gd (vp_in ((x3 + (1 : Int32))) L) (gd (vp_in ((x3 + (2 : Int32))) L) (bd1 (f_X7_best I a1 ((xs ((x3 + (1 : Int32))).toNatClampNeg)) ((xs ((x3 + (2 : Int32))).toNatClampNeg))) fun r_164 => gd (vp_in ((x3 + (1 : Int32))) L) (gd (vp_in ((x3 + (2 : Int32))) L) (bd2 (f_X8_best I a2 ((xs ((x3 + (1 : Int32))).toNatClampNeg)) ((xs ((x3 + (2 : Int32))).toNatClampNeg))) fun r_168 I_169 => if r_164 = r_168 then L_law_J1127 L xs I_169 J a1 a2 x3 k18 else some (0 : Int32))))) else if ((xs x3.toNatClampNeg) &&& (31 : Int32)) = 17 then gd (vp_in ((x3 + (1 : Int32))) L) (gd (vp_in ((x3 + (2 : Int32))) L) (gd (vp_in ((x3 + (3 : Int32))) L) (bd2 (f_X7_plan I a1 ((xs ((x3 + (1 : Int32))).toNatClampNeg)) ((xs ((x3 + (2 : Int32))).toNatClampNeg)) ((xs ((x3 + (3 : Int32))).toNatClampNeg))) fun r_176 I_177 => gd (vp_in ((x3 + (1 : Int32))) L) (gd (vp_in ((x3 + (2 : Int32))) L) (gd (vp_in ((x3 + (3 : Int32))) L) (bd2 (f_X8_plan I_177 a2 ((xs ((x3 + (1 : Int32))).toNatClampNeg)) ((xs ((x3 + (2 : Int32))).toNatClampNeg)) ((xs ((x3 + (3 : Int32))).toNatClampNeg))) fun r_182 I_183 => if r_176 = r_182 then L_law_J1127 L xs I_183 J a1 a2 x3 k18 else some (0 : Int32))))))) else if ((xs x3.toNatClampNeg) &&& (31 : Int32)) = 18 then gd (vp_in ((x3 + (1 : Int32))) L) (gd (vp_in ((x3 + (2 : Int32))) L) (gd (vp_in ((x3 + (3 : Int32))) L) (bd2 (f_X7_order I a1 ((xs ((x3 + (1 : Int32))).toNatClampNeg)) ((xs ((x3 + (2 : Int32))).toNatClampNeg)) ((xs ((x3 + (3 : Int32))).toNatClampNeg))) fun r_190 I_191 => gd (vp_in ((x3 + (1 : Int32))) L) (gd (vp_in ((x3 + (2 : Int32))) L) (gd (vp_in ((x3 + (3 : Int32))) L) (bd2 (f_X8_order I_191 a2 ((xs ((x3 + (1 : Int32))).toNatClampNeg)) ((xs ((x3 + (2 : Int32))).toNatClampNeg)) ((xs ((x3 + (3 : Int32))).toNatClampNeg))) fun r_196 I_197 => if r_190 = r_196 then L_law_J1127 L xs I_197 J a1 a2 x3 k18 else some (0 : Int32))))))) else if ((xs x3.toNatClampNeg) &&& (31 : Int32)) = 19 then gd (vp_in ((x3 + (1 : Int32))) L) (gd (vp_in ((x3 + (2 : Int32))) L) (gd (vp_in ((x3 + (3 : Int32))) L) (bd2 (f_X7_judge I a1 ((xs ((x3 + (1 : Int32))).toNatClampNeg)) (((((xs ((x3 + (2 : Int32))).toNatClampNeg)).toInt64 <<< (((32 : Int32)).toInt64 &&& 63)) ||| (((xs ((x3 + (3 : Int32))).toNatClampNeg)).toInt64 &&& (4294967295 : Int64))))) fun r_204 I_205 => gd (vp_in ((x3 + (1 : Int32))) L) (gd (vp_in ((x3 + (2 : Int32))) L) (gd (vp_in ((x3 + (3 : Int32))) L) (bd2 (f_X8_judge I_205 a2 ((xs ((x3 + (1 : Int32))).toNatClampNeg)) (((((xs ((x3 + (2 : Int32))).toNatClampNeg)).toInt64 <<< (((32 : Int32)).toInt64 &&& 63)) ||| (((xs ((x3 + (3 : Int32))).toNatClampNeg)).toInt64 &&& (4294967295 : Int64))))) fun r_210 I_211 => if r_204 = r_210 then L_law_J1127 L xs I_211 J a1 a2 x3 k18 else some (0 : Int32))))))) else if ((xs x3.toNatClampNeg) &&& (31 : Int32)) = 20 then gd (vp_in ((x3 + (1 : Int32))) L) (gd (vp_in ((x3 + (2 : Int32))) L) (gd (vp_in ((x3 + (3 : Int32))) L) (bd2 (f_X7_see I a1 ((xs ((x3 + (1 : Int32))).toNatClampNeg)) ((xs ((x3 + (2 : Int32))).toNatClampNeg)) ((xs ((x3 + (3 : Int32))).toNatClampNeg))) fun r_218 I_219 => gd (vp_in ((x3 + (1 : Int32))) L) (gd (vp_in ((x3 + (2 : Int32))) L) (gd (vp_in ((x3 + (3 : Int32))) L) (bd2 (f_X8_see I_219 a2 ((xs ((x3 + (1 : Int32))).toNatClampNeg)) ((xs ((x3 + (2 : Int32))).toNatClampNeg)) ((xs ((x3 + (3 : Int32))).toNatClampNeg))) fun r_224 I_225 => if r_218 = r_224 then L_law_J1127 L xs I_225 J a1 a2 x3 k18 else some (0 : Int32))))))) else if ((xs x3.toNatClampNeg) &&& (31 : Int32)) = 21 then bd2 (f_X7_unsee I a1) fun r_229 I_230 => bd2 (f_X8_unsee I_230 a2) fun r_232 I_233 => if r_229 = r_232 then L_law_J1127 L xs I_233 J a1 a2 x3 k18 else some (0 : Int32) else if ((xs x3.toNatClampNeg) &&& (31 : Int32)) = 22 then bd1 (f_X7_which I a1) fun r_237 => bd2 (f_X8_which I a2) fun r_239 I_240 => if r_237 = r_239 then L_law_J1127 L xs I_240 J a1 a2 x3 k18 else some (0 : Int32) else if ((xs x3.toNatClampNeg) &&& (31 : Int32)) = 23 then gd (vp_in ((x3 + (1 : Int32))) L) (gd (vp_in ((x3 + (2 : Int32))) L) (if (xs ((x3 + (2 : Int32))).toNatClampNeg) = 0 then L_law_J882 L xs I J a1 a2 x3 a1 ((xs ((x3 + (1 : Int32))).toNatClampNeg)) ((0 : Int32)) k18 else L_law_J882 L xs I J a1 a2 x3 a1 ((xs ((x3 + (1 : Int32))).toNatClampNeg)) ((1 : Int32)) k18)) else if ((xs x3.toNatClampNeg) &&& (31 : Int32)) = 24 then gd (vp_in ((x3 + (1 : Int32))) L) (gd (vp_in ((x3 + (2 : Int32))) L) (gd (vp_in ((x3 + (3 : Int32))) L) (gd (vp_in ((x3 + (4 : Int32))) L) (if (xs ((x3 + (4 : Int32))).toNatClampNeg) = 0 then L_law_J941 L xs I J a1 a2 x3 a1 ((xs ((x3 + (1 : Int32))).toNatClampNeg)) ((xs ((x3 + (2 : Int32))).toNatClampNeg)) ((xs ((x3 + (3 : Int32))).toNatClampNeg)) ((0 : Int32)) k18 else L_law_J941 L xs I J a1 a2 x3 a1 ((xs ((x3 + (1 : Int32))).toNatClampNeg)) ((xs ((x3 + (2 : Int32))).toNatClampNeg)) ((xs ((x3 + (3 : Int32))).toNatClampNeg)) ((1 : Int32)) k18)))) else if ((xs x3.toNatClampNeg) &&& (31 : Int32)) = 25 then gd (vp_in ((x3 + (1 : Int32))) L) (gd (vp_in ((x3 + (2 : Int32))) L) (bd2 (f_X7_seed J a1 (((((xs ((x3 + (1 : Int32))).toNatClampNeg)).toInt64 <<< (((32 : Int32)).toInt64 &&& 63)) ||| (((xs ((x3 + (2 : Int32))).toNatClampNeg)).toInt64 &&& (4294967295 : Int64))))) fun r_256 J_257 => gd (vp_in ((x3 + (1 : Int32))) L) (gd (vp_in ((x3 + (2 : Int32))) L) (bd3 (f_X8_seed I J_257 a2 (((((xs ((x3 + (1 : Int32))).toNatClampNeg)).toInt64 <<< (((32 : Int32)).toInt64 &&& 63)) ||| (((xs ((x3 + (2 : Int32))).toNatClampNeg)).toInt64 &&& (4294967295 : Int64))))) fun r_261 I_262 J_263 => if (lg_cmp r_256 r_261) = 0 then L_law_J1127 L xs I_262 J_263 a1 a2 x3 k18 else some (0 : Int32))))) else if ((xs x3.toNatClampNeg) &&& (31 : Int32)) = 26 then gd (vp_in ((x3 + (1 : Int32))) L) (bd3 (f_X7_drawn I J a1 ((xs ((x3 + (1 : Int32))).toNatClampNeg))) fun r_268 I_269 J_270 => gd (vp_in ((x3 + (1 : Int32))) L) (bd3 (f_X8_drawn I_269 J_270 a2 ((xs ((x3 + (1 : Int32))).toNatClampNeg))) fun r_273 I_274 J_275 => if r_268 = r_273 then L_law_J1127 L xs I_274 J_275 a1 a2 x3 k18 else some (0 : Int32))) else if ((xs x3.toNatClampNeg) &&& (31 : Int32)) = 27 then gd (vp_in ((x3 + (1 : Int32))) L) (bd2 (f_X7_keep I a1 ((xs ((x3 + (1 : Int32))).toNatClampNeg))) fun r_280 I_281 => gd (vp_in ((x3 + (1 : Int32))) L) (bd2 (f_X8_keep I_281 a2 ((xs ((x3 + (1 : Int32))).toNatClampNeg))) fun r_284 I_285 => if r_280 = r_284 then L_law_J1127 L xs I_285 J a1 a2 x3 k18 else some (0 : Int32))) else if ((xs x3.toNatClampNeg) &&& (31 : Int32)) = 28 then gd (vp_in ((x3 + (1 : Int32))) L) (bd2 (f_X7_again I a1 ((xs ((x3 + (1 : Int32))).toNatClampNeg))) fun r_290 I_291 => gd (vp_in ((x3 + (1 : Int32))) L) (bd2 (f_X8_again I_291 a2 ((xs ((x3 + (1 : Int32))).toNatClampNeg))) fun r_294 I_295 => if r_290 = r_294 then L_law_J1127 L xs I_295 J a1 a2 x3 k18 else some (0 : Int32))) else if ((xs x3.toNatClampNeg) &&& (31 : Int32)) = 29 then gd (vp_in ((x3 + (1 : Int32))) L) (bd1 (f_X7_count I a1 ((xs ((x3 + (1 : Int32))).toNatClampNeg))) fun r_300 => gd (vp_in ((x3 + (1 : Int32))) L) (bd2 (f_X8_count I a2 ((xs ((x3 + (1 : Int32))).toNatClampNeg))) fun r_303 I_304 => if r_300 = r_303 then L_law_J1127 L xs I_304 J a1 a2 x3 k18 else some (0 : Int32))) else L_law_J1127 L xs I J a1 a2 x3 k18)
set_option maxHeartbeats 4000000 in
set_option maxRecDepth 100000 in
theorem vL_law_18 {X : CX} {b L : Nat} {xs : Nat → Int32} (hX : OKX X cL_law RL 7 175 4) (hSc : SC X b L xs) (hret : RetLw X) (a1 : Nat) (a2 : Nat) (hk1 : gK (xG X) a1 = 8) (hk2 : gK (xG X) a2 = 9)   : ∀ (n : Nat) (I : HI) (J : HJ) (x3 : Int32), wl3 (L_law_B18 L xs a1 a2) n I J x3 = some 1 → V X I J 18 [some (.ref b), some (.ref a1), some (.ref a2), some (.int x3)] [] := by
  refine wl3_V (P := fun (I : HI) (J : HJ) (x3 : Int32) => V X I J 18 [some (.ref b), some (.ref a1), some (.ref a2), some (.int x3)] []) ?_
  intro k18 hc18 I J x3 hf
  unfold L_law_B18 at hf
  refine r_iload_n hX dL_law_18 rfl ?_
  refine r_aload_n hX dL_law_19 rfl ?_
  refine r_slen hX hSc dL_law_20 ?_
  refine r_iconst (v := 5) hX dL_law_21 rfl ?_
  refine r_isub hX dL_law_22 ?_
  refine r_icmp_gt (tgt := 1133) hX dL_law_23 (by decide) (fun c_1 => ?_) (fun c_1 => ?_)
  · have hf := hf_t c_1 hf
    refine r_iconst (v := 1) hX dL_law_1133 rfl ?_
    exact hret _ _ _ _ dL_law_1134
  · have hf := hf_f c_1 hf
    refine r_aload_n hX dL_law_26 rfl ?_
    refine r_iload_n hX dL_law_27 rfl ?_
    obtain ⟨g_2, hf⟩ := gd_some hf
    refine r_sld hX hSc g_2 dL_law_28 ?_
    refine r_bipush (v := 31) hX dL_law_29 (by decide) ?_
    refine r_iand hX dL_law_31 ?_
    by_cases c_3 : ((xs x3.toNatClampNeg) &&& (31 : Int32)) = 0
    · have hf := hf_t c_3 hf
      refine r_tsw (off := 136) (tgt := 168) hX 0 dL_law_32 c_3 (by decide) (by decide) (by decide) (by decide) ?_
      refine r_aload_n hX dL_law_168 rfl ?_
      refine r_aload_n hX dL_law_169 rfl ?_
      refine r_iload_n hX dL_law_170 rfl ?_
      refine r_iconst (v := 1) hX dL_law_171 rfl ?_
      refine r_iadd hX dL_law_172 ?_
      obtain ⟨g_4, hf⟩ := gd_some hf
      refine r_sld hX hSc g_4 dL_law_173 ?_
      obtain ⟨r_5, I_6, h_7, hf⟩ := bd2_some hf
      refine r_callV (As := [.int ((xs ((x3 + (1 : Int32))).toNatClampNeg))]) (ci := 7) hX (k_X7_write (l := xl X) (J := J) hX.ok hk1 h_7) pk_X7_write ml_L_13 rfl rfl rfl rfl hk1 rfl rfl rfl (Nat.le_of_ble_eq_true rfl) dL_law_174 ?_
      refine r_aload_n hX dL_law_177 rfl ?_
      refine r_aload_n hX dL_law_178 rfl ?_
      refine r_iload_n hX dL_law_179 rfl ?_
      refine r_iconst (v := 1) hX dL_law_180 rfl ?_
      refine r_iadd hX dL_law_181 ?_
      obtain ⟨g_8, hf⟩ := gd_some hf
      refine r_sld hX hSc g_8 dL_law_182 ?_
      obtain ⟨r_9, I_10, h_11, hf⟩ := bd2_some hf
      refine r_callV (As := [.int ((xs ((x3 + (1 : Int32))).toNatClampNeg))]) (ci := 8) hX (k_X8_write (l := xl X) (J := J) hX.ok hk2 h_11) pk_X8_write ml_L_17 rfl rfl rfl rfl hk2 rfl rfl rfl (Nat.le_of_ble_eq_true rfl) dL_law_183 ?_
      refine r_icmp_eq (tgt := 1127) hX dL_law_186 (by decide) (fun c_12 => ?_) (fun c_12 => ?_)
      · have hf := hf_t c_12 hf
        refine V.mask [true, true, true, true] ?_
        exact vL_law_1127 hX hSc hret a1 a2 x3 hk1 hk2 k18 hc18 hf
      · have hf := hf_f c_12 hf
        refine r_iconst (v := 0) hX dL_law_189 rfl ?_
        exact absurd hf (by decide)
    have hf := hf_f c_3 hf
    by_cases c_13 : ((xs x3.toNatClampNeg) &&& (31 : Int32)) = 1
    · have hf := hf_t c_13 hf
      refine r_tsw (off := 159) (tgt := 191) hX 1 dL_law_32 c_13 (by decide) (by decide) (by decide) (by decide) ?_
      refine r_aload_n hX dL_law_191 rfl ?_
      obtain ⟨r_14, I_15, h_16, hf⟩ := bd2_some hf
      refine r_callV (As := []) (ci := 7) hX (k_X7_wipe (l := xl X) (J := J) hX.ok hk1 h_16) pk_X7_wipe ml_L_18 rfl rfl rfl rfl hk1 rfl rfl rfl (Nat.le_of_ble_eq_true rfl) dL_law_192 ?_
      refine r_aload_n hX dL_law_195 rfl ?_
      obtain ⟨r_17, I_18, h_19, hf⟩ := bd2_some hf
      refine r_callV (As := []) (ci := 8) hX (k_X8_wipe (l := xl X) (J := J) hX.ok hk2 h_19) pk_X8_wipe ml_L_22 rfl rfl rfl rfl hk2 rfl rfl rfl (Nat.le_of_ble_eq_true rfl) dL_law_196 ?_
      refine r_icmp_eq (tgt := 1127) hX dL_law_199 (by decide) (fun c_20 => ?_) (fun c_20 => ?_)
      · have hf := hf_t c_20 hf
        refine V.mask [true, true, true, true] ?_
        exact vL_law_1127 hX hSc hret a1 a2 x3 hk1 hk2 k18 hc18 hf
      · have hf := hf_f c_20 hf
        refine r_iconst (v := 0) hX dL_law_202 rfl ?_
        exact absurd hf (by decide)
    have hf := hf_f c_13 hf
    by_cases c_21 : ((xs x3.toNatClampNeg) &&& (31 : Int32)) = 2
    · have hf := hf_t c_21 hf
      refine r_tsw (off := 172) (tgt := 204) hX 2 dL_law_32 c_21 (by decide) (by decide) (by decide) (by decide) ?_
      refine r_aload_n hX dL_law_204 rfl ?_
      obtain ⟨r_22, I_23, h_24, hf⟩ := bd2_some hf
      refine r_callV (As := []) (ci := 7) hX (k_X7_fault (l := xl X) (J := J) hX.ok hk1 h_24) pk_X7_fault ml_L_23 rfl rfl rfl rfl hk1 rfl rfl rfl (Nat.le_of_ble_eq_true rfl) dL_law_205 ?_
      refine r_aload_n hX dL_law_208 rfl ?_
      obtain ⟨r_25, I_26, h_27, hf⟩ := bd2_some hf
      refine r_callV (As := []) (ci := 8) hX (k_X8_fault (l := xl X) (J := J) hX.ok hk2 h_27) pk_X8_fault ml_L_26 rfl rfl rfl rfl hk2 rfl rfl rfl (Nat.le_of_ble_eq_true rfl) dL_law_209 ?_
      refine r_icmp_eq (tgt := 1127) hX dL_law_212 (by decide) (fun c_28 => ?_) (fun c_28 => ?_)
      · have hf := hf_t c_28 hf
        refine V.mask [true, true, true, true] ?_
        exact vL_law_1127 hX hSc hret a1 a2 x3 hk1 hk2 k18 hc18 hf
      · have hf := hf_f c_28 hf
        refine r_iconst (v := 0) hX dL_law_215 rfl ?_
        exact absurd hf (by decide)
    have hf := hf_f c_21 hf
    by_cases c_29 : ((xs x3.toNatClampNeg) &&& (31 : Int32)) = 3
    · have hf := hf_t c_29 hf
      refine r_tsw (off := 185) (tgt := 217) hX 3 dL_law_32 c_29 (by decide) (by decide) (by decide) (by decide) ?_
      refine r_aload_n hX dL_law_217 rfl ?_
      obtain ⟨r_30, I_31, h_32, hf⟩ := bd2_some hf
      refine r_callV (As := []) (ci := 7) hX (k_X7_net (l := xl X) (J := J) hX.ok hk1 h_32) pk_X7_net ml_L_27 rfl rfl rfl rfl hk1 rfl rfl rfl (Nat.le_of_ble_eq_true rfl) dL_law_218 ?_
      refine r_aload_n hX dL_law_221 rfl ?_
      obtain ⟨r_33, I_34, h_35, hf⟩ := bd2_some hf
      refine r_callV (As := []) (ci := 8) hX (k_X8_net (l := xl X) (J := J) hX.ok hk2 h_35) pk_X8_net ml_L_30 rfl rfl rfl rfl hk2 rfl rfl rfl (Nat.le_of_ble_eq_true rfl) dL_law_222 ?_
      refine r_icmp_eq (tgt := 1127) hX dL_law_225 (by decide) (fun c_36 => ?_) (fun c_36 => ?_)
      · have hf := hf_t c_36 hf
        refine V.mask [true, true, true, true] ?_
        exact vL_law_1127 hX hSc hret a1 a2 x3 hk1 hk2 k18 hc18 hf
      · have hf := hf_f c_36 hf
        refine r_iconst (v := 0) hX dL_law_228 rfl ?_
        exact absurd hf (by decide)
    have hf := hf_f c_29 hf
    by_cases c_37 : ((xs x3.toNatClampNeg) &&& (31 : Int32)) = 4
    · have hf := hf_t c_37 hf
      refine r_tsw (off := 198) (tgt := 230) hX 4 dL_law_32 c_37 (by decide) (by decide) (by decide) (by decide) ?_
      refine r_aload_n hX dL_law_230 rfl ?_
      refine r_aload_n hX dL_law_231 rfl ?_
      refine r_iload_n hX dL_law_232 rfl ?_
      refine r_iconst (v := 1) hX dL_law_233 rfl ?_
      refine r_iadd hX dL_law_234 ?_
      obtain ⟨g_38, hf⟩ := gd_some hf
      refine r_sld hX hSc g_38 dL_law_235 ?_
      refine r_aload_n hX dL_law_236 rfl ?_
      refine r_iload_n hX dL_law_237 rfl ?_
      refine r_iconst (v := 2) hX dL_law_238 rfl ?_
      refine r_iadd hX dL_law_239 ?_
      obtain ⟨g_39, hf⟩ := gd_some hf
      refine r_sld hX hSc g_39 dL_law_240 ?_
      obtain ⟨r_40, h_41, hf⟩ := bd1_some hf
      refine r_callV (As := [.int ((xs ((x3 + (1 : Int32))).toNatClampNeg)), .int ((xs ((x3 + (2 : Int32))).toNatClampNeg))]) (ci := 7) hX (k_X7_proxy (l := xl X) (J := J) hX.ok hk1 h_41) pk_X7_proxy ml_L_31 rfl rfl rfl rfl hk1 rfl rfl rfl (Nat.le_of_ble_eq_true rfl) dL_law_241 ?_
      refine r_aload_n hX dL_law_244 rfl ?_
      refine r_aload_n hX dL_law_245 rfl ?_
      refine r_iload_n hX dL_law_246 rfl ?_
      refine r_iconst (v := 1) hX dL_law_247 rfl ?_
      refine r_iadd hX dL_law_248 ?_
      obtain ⟨g_42, hf⟩ := gd_some hf
      refine r_sld hX hSc g_42 dL_law_249 ?_
      refine r_aload_n hX dL_law_250 rfl ?_
      refine r_iload_n hX dL_law_251 rfl ?_
      refine r_iconst (v := 2) hX dL_law_252 rfl ?_
      refine r_iadd hX dL_law_253 ?_
      obtain ⟨g_43, hf⟩ := gd_some hf
      refine r_sld hX hSc g_43 dL_law_254 ?_
      obtain ⟨r_44, I_45, h_46, hf⟩ := bd2_some hf
      refine r_callV (As := [.int ((xs ((x3 + (1 : Int32))).toNatClampNeg)), .int ((xs ((x3 + (2 : Int32))).toNatClampNeg))]) (ci := 8) hX (k_X8_proxy (l := xl X) (J := J) hX.ok hk2 h_46) pk_X8_proxy ml_L_35 rfl rfl rfl rfl hk2 rfl rfl rfl (Nat.le_of_ble_eq_true rfl) dL_law_255 ?_
      refine r_icmp_eq (tgt := 1127) hX dL_law_258 (by decide) (fun c_47 => ?_) (fun c_47 => ?_)
      · have hf := hf_t c_47 hf
        refine V.mask [true, true, true, true] ?_
        exact vL_law_1127 hX hSc hret a1 a2 x3 hk1 hk2 k18 hc18 hf
      · have hf := hf_f c_47 hf
        refine r_iconst (v := 0) hX dL_law_261 rfl ?_
        exact absurd hf (by decide)
    have hf := hf_f c_37 hf
    by_cases c_48 : ((xs x3.toNatClampNeg) &&& (31 : Int32)) = 5
    · have hf := hf_t c_48 hf
      refine r_tsw (off := 231) (tgt := 263) hX 5 dL_law_32 c_48 (by decide) (by decide) (by decide) (by decide) ?_
      refine r_aload_n hX dL_law_263 rfl ?_
      refine r_aload_n hX dL_law_264 rfl ?_
      refine r_iload_n hX dL_law_265 rfl ?_
      refine r_iconst (v := 1) hX dL_law_266 rfl ?_
      refine r_iadd hX dL_law_267 ?_
      obtain ⟨g_49, hf⟩ := gd_some hf
      refine r_sld hX hSc g_49 dL_law_268 ?_
      refine r_aload_n hX dL_law_269 rfl ?_
      refine r_iload_n hX dL_law_270 rfl ?_
      refine r_iconst (v := 2) hX dL_law_271 rfl ?_
      refine r_iadd hX dL_law_272 ?_
      obtain ⟨g_50, hf⟩ := gd_some hf
      refine r_sld hX hSc g_50 dL_law_273 ?_
      obtain ⟨r_51, h_52, hf⟩ := bd1_some hf
      refine r_callV (As := [.int ((xs ((x3 + (1 : Int32))).toNatClampNeg)), .int ((xs ((x3 + (2 : Int32))).toNatClampNeg))]) (ci := 7) hX (k_X7_page (l := xl X) (J := J) hX.ok hk1 h_52) pk_X7_page ml_L_36 rfl rfl rfl rfl hk1 rfl rfl rfl (Nat.le_of_ble_eq_true rfl) dL_law_274 ?_
      refine r_aload_n hX dL_law_277 rfl ?_
      refine r_aload_n hX dL_law_278 rfl ?_
      refine r_iload_n hX dL_law_279 rfl ?_
      refine r_iconst (v := 1) hX dL_law_280 rfl ?_
      refine r_iadd hX dL_law_281 ?_
      obtain ⟨g_53, hf⟩ := gd_some hf
      refine r_sld hX hSc g_53 dL_law_282 ?_
      refine r_aload_n hX dL_law_283 rfl ?_
      refine r_iload_n hX dL_law_284 rfl ?_
      refine r_iconst (v := 2) hX dL_law_285 rfl ?_
      refine r_iadd hX dL_law_286 ?_
      obtain ⟨g_54, hf⟩ := gd_some hf
      refine r_sld hX hSc g_54 dL_law_287 ?_
      obtain ⟨r_55, I_56, h_57, hf⟩ := bd2_some hf
      refine r_callV (As := [.int ((xs ((x3 + (1 : Int32))).toNatClampNeg)), .int ((xs ((x3 + (2 : Int32))).toNatClampNeg))]) (ci := 8) hX (k_X8_page (l := xl X) (J := J) hX.ok hk2 h_57) pk_X8_page ml_L_39 rfl rfl rfl rfl hk2 rfl rfl rfl (Nat.le_of_ble_eq_true rfl) dL_law_288 ?_
      refine r_icmp_eq (tgt := 1127) hX dL_law_291 (by decide) (fun c_58 => ?_) (fun c_58 => ?_)
      · have hf := hf_t c_58 hf
        refine V.mask [true, true, true, true] ?_
        exact vL_law_1127 hX hSc hret a1 a2 x3 hk1 hk2 k18 hc18 hf
      · have hf := hf_f c_58 hf
        refine r_iconst (v := 0) hX dL_law_294 rfl ?_
        exact absurd hf (by decide)
    have hf := hf_f c_48 hf
    by_cases c_59 : ((xs x3.toNatClampNeg) &&& (31 : Int32)) = 6
    · have hf := hf_t c_59 hf
      refine r_tsw (off := 264) (tgt := 296) hX 6 dL_law_32 c_59 (by decide) (by decide) (by decide) (by decide) ?_
      refine r_aload_n hX dL_law_296 rfl ?_
      refine r_aload_n hX dL_law_297 rfl ?_
      refine r_iload_n hX dL_law_298 rfl ?_
      refine r_iconst (v := 1) hX dL_law_299 rfl ?_
      refine r_iadd hX dL_law_300 ?_
      obtain ⟨g_60, hf⟩ := gd_some hf
      refine r_sld hX hSc g_60 dL_law_301 ?_
      refine r_aload_n hX dL_law_302 rfl ?_
      refine r_iload_n hX dL_law_303 rfl ?_
      refine r_iconst (v := 2) hX dL_law_304 rfl ?_
      refine r_iadd hX dL_law_305 ?_
      obtain ⟨g_61, hf⟩ := gd_some hf
      refine r_sld hX hSc g_61 dL_law_306 ?_
      obtain ⟨r_62, h_63, hf⟩ := bd1_some hf
      refine r_callV (As := [.int ((xs ((x3 + (1 : Int32))).toNatClampNeg)), .int ((xs ((x3 + (2 : Int32))).toNatClampNeg))]) (ci := 7) hX (k_X7_counter (l := xl X) (J := J) hX.ok hk1 h_63) pk_X7_counter ml_L_40 rfl rfl rfl rfl hk1 rfl rfl rfl (Nat.le_of_ble_eq_true rfl) dL_law_307 ?_
      refine r_aload_n hX dL_law_310 rfl ?_
      refine r_aload_n hX dL_law_311 rfl ?_
      refine r_iload_n hX dL_law_312 rfl ?_
      refine r_iconst (v := 1) hX dL_law_313 rfl ?_
      refine r_iadd hX dL_law_314 ?_
      obtain ⟨g_64, hf⟩ := gd_some hf
      refine r_sld hX hSc g_64 dL_law_315 ?_
      refine r_aload_n hX dL_law_316 rfl ?_
      refine r_iload_n hX dL_law_317 rfl ?_
      refine r_iconst (v := 2) hX dL_law_318 rfl ?_
      refine r_iadd hX dL_law_319 ?_
      obtain ⟨g_65, hf⟩ := gd_some hf
      refine r_sld hX hSc g_65 dL_law_320 ?_
      obtain ⟨r_66, I_67, h_68, hf⟩ := bd2_some hf
      refine r_callV (As := [.int ((xs ((x3 + (1 : Int32))).toNatClampNeg)), .int ((xs ((x3 + (2 : Int32))).toNatClampNeg))]) (ci := 8) hX (k_X8_counter (l := xl X) (J := J) hX.ok hk2 h_68) pk_X8_counter ml_L_43 rfl rfl rfl rfl hk2 rfl rfl rfl (Nat.le_of_ble_eq_true rfl) dL_law_321 ?_
      refine r_icmp_eq (tgt := 1127) hX dL_law_324 (by decide) (fun c_69 => ?_) (fun c_69 => ?_)
      · have hf := hf_t c_69 hf
        refine V.mask [true, true, true, true] ?_
        exact vL_law_1127 hX hSc hret a1 a2 x3 hk1 hk2 k18 hc18 hf
      · have hf := hf_f c_69 hf
        refine r_iconst (v := 0) hX dL_law_327 rfl ?_
        exact absurd hf (by decide)
    have hf := hf_f c_59 hf
    by_cases c_70 : ((xs x3.toNatClampNeg) &&& (31 : Int32)) = 7
    · have hf := hf_t c_70 hf
      refine r_tsw (off := 297) (tgt := 329) hX 7 dL_law_32 c_70 (by decide) (by decide) (by decide) (by decide) ?_
      refine r_aload_n hX dL_law_329 rfl ?_
      refine r_aload_n hX dL_law_330 rfl ?_
      refine r_iload_n hX dL_law_331 rfl ?_
      refine r_iconst (v := 1) hX dL_law_332 rfl ?_
      refine r_iadd hX dL_law_333 ?_
      obtain ⟨g_71, hf⟩ := gd_some hf
      refine r_sld hX hSc g_71 dL_law_334 ?_
      refine r_aload_n hX dL_law_335 rfl ?_
      refine r_iload_n hX dL_law_336 rfl ?_
      refine r_iconst (v := 2) hX dL_law_337 rfl ?_
      refine r_iadd hX dL_law_338 ?_
      obtain ⟨g_72, hf⟩ := gd_some hf
      refine r_sld hX hSc g_72 dL_law_339 ?_
      refine r_aload_n hX dL_law_340 rfl ?_
      refine r_iload_n hX dL_law_341 rfl ?_
      refine r_iconst (v := 3) hX dL_law_342 rfl ?_
      refine r_iadd hX dL_law_343 ?_
      obtain ⟨g_73, hf⟩ := gd_some hf
      refine r_sld hX hSc g_73 dL_law_344 ?_
      obtain ⟨r_74, h_75, hf⟩ := bd1_some hf
      refine r_callV (As := [.int ((xs ((x3 + (1 : Int32))).toNatClampNeg)), .int ((xs ((x3 + (2 : Int32))).toNatClampNeg)), .int ((xs ((x3 + (3 : Int32))).toNatClampNeg))]) (ci := 7) hX (k_X7_hash (l := xl X) (J := J) hX.ok hk1 h_75) pk_X7_hash ml_L_44 rfl rfl rfl rfl hk1 rfl rfl rfl (Nat.le_of_ble_eq_true rfl) dL_law_345 ?_
      refine r_aload_n hX dL_law_348 rfl ?_
      refine r_aload_n hX dL_law_349 rfl ?_
      refine r_iload_n hX dL_law_350 rfl ?_
      refine r_iconst (v := 1) hX dL_law_351 rfl ?_
      refine r_iadd hX dL_law_352 ?_
      obtain ⟨g_76, hf⟩ := gd_some hf
      refine r_sld hX hSc g_76 dL_law_353 ?_
      refine r_aload_n hX dL_law_354 rfl ?_
      refine r_iload_n hX dL_law_355 rfl ?_
      refine r_iconst (v := 2) hX dL_law_356 rfl ?_
      refine r_iadd hX dL_law_357 ?_
      obtain ⟨g_77, hf⟩ := gd_some hf
      refine r_sld hX hSc g_77 dL_law_358 ?_
      refine r_aload_n hX dL_law_359 rfl ?_
      refine r_iload_n hX dL_law_360 rfl ?_
      refine r_iconst (v := 3) hX dL_law_361 rfl ?_
      refine r_iadd hX dL_law_362 ?_
      obtain ⟨g_78, hf⟩ := gd_some hf
      refine r_sld hX hSc g_78 dL_law_363 ?_
      obtain ⟨r_79, I_80, h_81, hf⟩ := bd2_some hf
      refine r_callV (As := [.int ((xs ((x3 + (1 : Int32))).toNatClampNeg)), .int ((xs ((x3 + (2 : Int32))).toNatClampNeg)), .int ((xs ((x3 + (3 : Int32))).toNatClampNeg))]) (ci := 8) hX (k_X8_hash (l := xl X) (J := J) hX.ok hk2 h_81) pk_X8_hash ml_L_48 rfl rfl rfl rfl hk2 rfl rfl rfl (Nat.le_of_ble_eq_true rfl) dL_law_364 ?_
      refine r_icmp_eq (tgt := 1127) hX dL_law_367 (by decide) (fun c_82 => ?_) (fun c_82 => ?_)
      · have hf := hf_t c_82 hf
        refine V.mask [true, true, true, true] ?_
        exact vL_law_1127 hX hSc hret a1 a2 x3 hk1 hk2 k18 hc18 hf
      · have hf := hf_f c_82 hf
        refine r_iconst (v := 0) hX dL_law_370 rfl ?_
        exact absurd hf (by decide)
    have hf := hf_f c_70 hf
    by_cases c_83 : ((xs x3.toNatClampNeg) &&& (31 : Int32)) = 8
    · have hf := hf_t c_83 hf
      refine r_tsw (off := 340) (tgt := 372) hX 8 dL_law_32 c_83 (by decide) (by decide) (by decide) (by decide) ?_
      refine r_aload_n hX dL_law_372 rfl ?_
      refine r_aload_n hX dL_law_373 rfl ?_
      refine r_iload_n hX dL_law_374 rfl ?_
      refine r_iconst (v := 1) hX dL_law_375 rfl ?_
      refine r_iadd hX dL_law_376 ?_
      obtain ⟨g_84, hf⟩ := gd_some hf
      refine r_sld hX hSc g_84 dL_law_377 ?_
      refine r_aload_n hX dL_law_378 rfl ?_
      refine r_iload_n hX dL_law_379 rfl ?_
      refine r_iconst (v := 2) hX dL_law_380 rfl ?_
      refine r_iadd hX dL_law_381 ?_
      obtain ⟨g_85, hf⟩ := gd_some hf
      refine r_sld hX hSc g_85 dL_law_382 ?_
      refine r_aload_n hX dL_law_383 rfl ?_
      refine r_iload_n hX dL_law_384 rfl ?_
      refine r_iconst (v := 3) hX dL_law_385 rfl ?_
      refine r_iadd hX dL_law_386 ?_
      obtain ⟨g_86, hf⟩ := gd_some hf
      refine r_sld hX hSc g_86 dL_law_387 ?_
      refine r_if_eq (tgt := 395) hX dL_law_388 (by decide) (fun c_87 => ?_) (fun c_87 => ?_)
      · have hf := hf_t c_87 hf
        refine r_iconst (v := 0) hX dL_law_395 rfl ?_
        refine V.mask [true, true, true, true] ?_
        exact vL_law_396 hX hSc hret a1 a2 x3 a1 ((xs ((x3 + (1 : Int32))).toNatClampNeg)) ((xs ((x3 + (2 : Int32))).toNatClampNeg)) ((0 : Int32)) hk1 hk2 hk1 k18 hc18 hf
      · have hf := hf_f c_87 hf
        refine r_iconst (v := 1) hX dL_law_391 rfl ?_
        refine r_goto (tgt := 396) hX dL_law_392 (by decide) ?_
        refine V.mask [true, true, true, true] ?_
        exact vL_law_396 hX hSc hret a1 a2 x3 a1 ((xs ((x3 + (1 : Int32))).toNatClampNeg)) ((xs ((x3 + (2 : Int32))).toNatClampNeg)) ((1 : Int32)) hk1 hk2 hk1 k18 hc18 hf
    have hf := hf_f c_83 hf
    by_cases c_88 : ((xs x3.toNatClampNeg) &&& (31 : Int32)) = 9
    · have hf := hf_t c_88 hf
      refine r_tsw (off := 399) (tgt := 431) hX 9 dL_law_32 c_88 (by decide) (by decide) (by decide) (by decide) ?_
      refine r_aload_n hX dL_law_431 rfl ?_
      refine r_aload_n hX dL_law_432 rfl ?_
      refine r_iload_n hX dL_law_433 rfl ?_
      refine r_iconst (v := 1) hX dL_law_434 rfl ?_
      refine r_iadd hX dL_law_435 ?_
      obtain ⟨g_89, hf⟩ := gd_some hf
      refine r_sld hX hSc g_89 dL_law_436 ?_
      refine r_aload_n hX dL_law_437 rfl ?_
      refine r_iload_n hX dL_law_438 rfl ?_
      refine r_iconst (v := 2) hX dL_law_439 rfl ?_
      refine r_iadd hX dL_law_440 ?_
      obtain ⟨g_90, hf⟩ := gd_some hf
      refine r_sld hX hSc g_90 dL_law_441 ?_
      obtain ⟨r_91, I_92, h_93, hf⟩ := bd2_some hf
      refine r_callV (As := [.int ((xs ((x3 + (1 : Int32))).toNatClampNeg)), .int ((xs ((x3 + (2 : Int32))).toNatClampNeg))]) (ci := 7) hX (k_X7_ask (l := xl X) (J := J) hX.ok hk1 h_93) pk_X7_ask ml_L_54 rfl rfl rfl rfl hk1 rfl rfl rfl (Nat.le_of_ble_eq_true rfl) dL_law_442 ?_
      refine r_aload_n hX dL_law_445 rfl ?_
      refine r_aload_n hX dL_law_446 rfl ?_
      refine r_iload_n hX dL_law_447 rfl ?_
      refine r_iconst (v := 1) hX dL_law_448 rfl ?_
      refine r_iadd hX dL_law_449 ?_
      obtain ⟨g_94, hf⟩ := gd_some hf
      refine r_sld hX hSc g_94 dL_law_450 ?_
      refine r_aload_n hX dL_law_451 rfl ?_
      refine r_iload_n hX dL_law_452 rfl ?_
      refine r_iconst (v := 2) hX dL_law_453 rfl ?_
      refine r_iadd hX dL_law_454 ?_
      obtain ⟨g_95, hf⟩ := gd_some hf
      refine r_sld hX hSc g_95 dL_law_455 ?_
      obtain ⟨r_96, I_97, h_98, hf⟩ := bd2_some hf
      refine r_callV (As := [.int ((xs ((x3 + (1 : Int32))).toNatClampNeg)), .int ((xs ((x3 + (2 : Int32))).toNatClampNeg))]) (ci := 8) hX (k_X8_ask (l := xl X) (J := J) hX.ok hk2 h_98) pk_X8_ask ml_L_57 rfl rfl rfl rfl hk2 rfl rfl rfl (Nat.le_of_ble_eq_true rfl) dL_law_456 ?_
      refine r_icmp_eq (tgt := 1127) hX dL_law_459 (by decide) (fun c_99 => ?_) (fun c_99 => ?_)
      · have hf := hf_t c_99 hf
        refine V.mask [true, true, true, true] ?_
        exact vL_law_1127 hX hSc hret a1 a2 x3 hk1 hk2 k18 hc18 hf
      · have hf := hf_f c_99 hf
        refine r_iconst (v := 0) hX dL_law_462 rfl ?_
        exact absurd hf (by decide)
    have hf := hf_f c_88 hf
    by_cases c_100 : ((xs x3.toNatClampNeg) &&& (31 : Int32)) = 10
    · have hf := hf_t c_100 hf
      refine r_tsw (off := 432) (tgt := 464) hX 10 dL_law_32 c_100 (by decide) (by decide) (by decide) (by decide) ?_
      refine r_aload_n hX dL_law_464 rfl ?_
      refine r_aload_n hX dL_law_465 rfl ?_
      refine r_iload_n hX dL_law_466 rfl ?_
      refine r_iconst (v := 1) hX dL_law_467 rfl ?_
      refine r_iadd hX dL_law_468 ?_
      obtain ⟨g_101, hf⟩ := gd_some hf
      refine r_sld hX hSc g_101 dL_law_469 ?_
      refine r_aload_n hX dL_law_470 rfl ?_
      refine r_iload_n hX dL_law_471 rfl ?_
      refine r_iconst (v := 2) hX dL_law_472 rfl ?_
      refine r_iadd hX dL_law_473 ?_
      obtain ⟨g_102, hf⟩ := gd_some hf
      refine r_sld hX hSc g_102 dL_law_474 ?_
      obtain ⟨r_103, I_104, h_105, hf⟩ := bd2_some hf
      refine r_callV (As := [.int ((xs ((x3 + (1 : Int32))).toNatClampNeg)), .int ((xs ((x3 + (2 : Int32))).toNatClampNeg))]) (ci := 7) hX (k_X7_drop (l := xl X) (J := J) hX.ok hk1 h_105) pk_X7_drop ml_L_58 rfl rfl rfl rfl hk1 rfl rfl rfl (Nat.le_of_ble_eq_true rfl) dL_law_475 ?_
      refine r_aload_n hX dL_law_478 rfl ?_
      refine r_aload_n hX dL_law_479 rfl ?_
      refine r_iload_n hX dL_law_480 rfl ?_
      refine r_iconst (v := 1) hX dL_law_481 rfl ?_
      refine r_iadd hX dL_law_482 ?_
      obtain ⟨g_106, hf⟩ := gd_some hf
      refine r_sld hX hSc g_106 dL_law_483 ?_
      refine r_aload_n hX dL_law_484 rfl ?_
      refine r_iload_n hX dL_law_485 rfl ?_
      refine r_iconst (v := 2) hX dL_law_486 rfl ?_
      refine r_iadd hX dL_law_487 ?_
      obtain ⟨g_107, hf⟩ := gd_some hf
      refine r_sld hX hSc g_107 dL_law_488 ?_
      obtain ⟨r_108, I_109, h_110, hf⟩ := bd2_some hf
      refine r_callV (As := [.int ((xs ((x3 + (1 : Int32))).toNatClampNeg)), .int ((xs ((x3 + (2 : Int32))).toNatClampNeg))]) (ci := 8) hX (k_X8_drop (l := xl X) (J := J) hX.ok hk2 h_110) pk_X8_drop ml_L_61 rfl rfl rfl rfl hk2 rfl rfl rfl (Nat.le_of_ble_eq_true rfl) dL_law_489 ?_
      refine r_icmp_eq (tgt := 1127) hX dL_law_492 (by decide) (fun c_111 => ?_) (fun c_111 => ?_)
      · have hf := hf_t c_111 hf
        refine V.mask [true, true, true, true] ?_
        exact vL_law_1127 hX hSc hret a1 a2 x3 hk1 hk2 k18 hc18 hf
      · have hf := hf_f c_111 hf
        refine r_iconst (v := 0) hX dL_law_495 rfl ?_
        exact absurd hf (by decide)
    have hf := hf_f c_100 hf
    by_cases c_112 : ((xs x3.toNatClampNeg) &&& (31 : Int32)) = 11
    · have hf := hf_t c_112 hf
      refine r_tsw (off := 465) (tgt := 497) hX 11 dL_law_32 c_112 (by decide) (by decide) (by decide) (by decide) ?_
      refine r_aload_n hX dL_law_497 rfl ?_
      refine r_aload_n hX dL_law_498 rfl ?_
      refine r_iload_n hX dL_law_499 rfl ?_
      refine r_iconst (v := 1) hX dL_law_500 rfl ?_
      refine r_iadd hX dL_law_501 ?_
      obtain ⟨g_113, hf⟩ := gd_some hf
      refine r_sld hX hSc g_113 dL_law_502 ?_
      obtain ⟨r_114, I_115, h_116, hf⟩ := bd2_some hf
      refine r_callV (As := [.int ((xs ((x3 + (1 : Int32))).toNatClampNeg))]) (ci := 7) hX (k_X7_send (l := xl X) (J := J) hX.ok hk1 h_116) pk_X7_send ml_L_62 rfl rfl rfl rfl hk1 rfl rfl rfl (Nat.le_of_ble_eq_true rfl) dL_law_503 ?_
      refine r_aload_n hX dL_law_506 rfl ?_
      refine r_aload_n hX dL_law_507 rfl ?_
      refine r_iload_n hX dL_law_508 rfl ?_
      refine r_iconst (v := 1) hX dL_law_509 rfl ?_
      refine r_iadd hX dL_law_510 ?_
      obtain ⟨g_117, hf⟩ := gd_some hf
      refine r_sld hX hSc g_117 dL_law_511 ?_
      obtain ⟨r_118, I_119, h_120, hf⟩ := bd2_some hf
      refine r_callV (As := [.int ((xs ((x3 + (1 : Int32))).toNatClampNeg))]) (ci := 8) hX (k_X8_send (l := xl X) (J := J) hX.ok hk2 h_120) pk_X8_send ml_L_65 rfl rfl rfl rfl hk2 rfl rfl rfl (Nat.le_of_ble_eq_true rfl) dL_law_512 ?_
      refine r_icmp_eq (tgt := 1127) hX dL_law_515 (by decide) (fun c_121 => ?_) (fun c_121 => ?_)
      · have hf := hf_t c_121 hf
        refine V.mask [true, true, true, true] ?_
        exact vL_law_1127 hX hSc hret a1 a2 x3 hk1 hk2 k18 hc18 hf
      · have hf := hf_f c_121 hf
        refine r_iconst (v := 0) hX dL_law_518 rfl ?_
        exact absurd hf (by decide)
    have hf := hf_f c_112 hf
    by_cases c_122 : ((xs x3.toNatClampNeg) &&& (31 : Int32)) = 12
    · have hf := hf_t c_122 hf
      refine r_tsw (off := 488) (tgt := 520) hX 12 dL_law_32 c_122 (by decide) (by decide) (by decide) (by decide) ?_
      refine r_aload_n hX dL_law_520 rfl ?_
      refine r_aload_n hX dL_law_521 rfl ?_
      refine r_iload_n hX dL_law_522 rfl ?_
      refine r_iconst (v := 1) hX dL_law_523 rfl ?_
      refine r_iadd hX dL_law_524 ?_
      obtain ⟨g_123, hf⟩ := gd_some hf
      refine r_sld hX hSc g_123 dL_law_525 ?_
      refine r_aload_n hX dL_law_526 rfl ?_
      refine r_iload_n hX dL_law_527 rfl ?_
      refine r_iconst (v := 2) hX dL_law_528 rfl ?_
      refine r_iadd hX dL_law_529 ?_
      obtain ⟨g_124, hf⟩ := gd_some hf
      refine r_sld hX hSc g_124 dL_law_530 ?_
      obtain ⟨r_125, I_126, h_127, hf⟩ := bd2_some hf
      refine r_callV (As := [.int ((xs ((x3 + (1 : Int32))).toNatClampNeg)), .int ((xs ((x3 + (2 : Int32))).toNatClampNeg))]) (ci := 7) hX (k_X7_threshold (l := xl X) (J := J) hX.ok hk1 h_127) pk_X7_threshold ml_L_66 rfl rfl rfl rfl hk1 rfl rfl rfl (Nat.le_of_ble_eq_true rfl) dL_law_531 ?_
      refine r_aload_n hX dL_law_534 rfl ?_
      refine r_aload_n hX dL_law_535 rfl ?_
      refine r_iload_n hX dL_law_536 rfl ?_
      refine r_iconst (v := 1) hX dL_law_537 rfl ?_
      refine r_iadd hX dL_law_538 ?_
      obtain ⟨g_128, hf⟩ := gd_some hf
      refine r_sld hX hSc g_128 dL_law_539 ?_
      refine r_aload_n hX dL_law_540 rfl ?_
      refine r_iload_n hX dL_law_541 rfl ?_
      refine r_iconst (v := 2) hX dL_law_542 rfl ?_
      refine r_iadd hX dL_law_543 ?_
      obtain ⟨g_129, hf⟩ := gd_some hf
      refine r_sld hX hSc g_129 dL_law_544 ?_
      obtain ⟨r_130, I_131, h_132, hf⟩ := bd2_some hf
      refine r_callV (As := [.int ((xs ((x3 + (1 : Int32))).toNatClampNeg)), .int ((xs ((x3 + (2 : Int32))).toNatClampNeg))]) (ci := 8) hX (k_X8_threshold (l := xl X) (J := J) hX.ok hk2 h_132) pk_X8_threshold ml_L_69 rfl rfl rfl rfl hk2 rfl rfl rfl (Nat.le_of_ble_eq_true rfl) dL_law_545 ?_
      refine r_icmp_eq (tgt := 1127) hX dL_law_548 (by decide) (fun c_133 => ?_) (fun c_133 => ?_)
      · have hf := hf_t c_133 hf
        refine V.mask [true, true, true, true] ?_
        exact vL_law_1127 hX hSc hret a1 a2 x3 hk1 hk2 k18 hc18 hf
      · have hf := hf_f c_133 hf
        refine r_iconst (v := 0) hX dL_law_551 rfl ?_
        exact absurd hf (by decide)
    have hf := hf_f c_122 hf
    by_cases c_134 : ((xs x3.toNatClampNeg) &&& (31 : Int32)) = 13
    · have hf := hf_t c_134 hf
      refine r_tsw (off := 521) (tgt := 553) hX 13 dL_law_32 c_134 (by decide) (by decide) (by decide) (by decide) ?_
      refine r_aload_n hX dL_law_553 rfl ?_
      refine r_aload_n hX dL_law_554 rfl ?_
      refine r_iload_n hX dL_law_555 rfl ?_
      refine r_iconst (v := 1) hX dL_law_556 rfl ?_
      refine r_iadd hX dL_law_557 ?_
      obtain ⟨g_135, hf⟩ := gd_some hf
      refine r_sld hX hSc g_135 dL_law_558 ?_
      obtain ⟨r_136, I_137, h_138, hf⟩ := bd2_some hf
      refine r_callV (As := [.int ((xs ((x3 + (1 : Int32))).toNatClampNeg))]) (ci := 7) hX (k_X7_use (l := xl X) (J := J) hX.ok hk1 h_138) pk_X7_use ml_L_70 rfl rfl rfl rfl hk1 rfl rfl rfl (Nat.le_of_ble_eq_true rfl) dL_law_559 ?_
      refine r_aload_n hX dL_law_562 rfl ?_
      refine r_aload_n hX dL_law_563 rfl ?_
      refine r_iload_n hX dL_law_564 rfl ?_
      refine r_iconst (v := 1) hX dL_law_565 rfl ?_
      refine r_iadd hX dL_law_566 ?_
      obtain ⟨g_139, hf⟩ := gd_some hf
      refine r_sld hX hSc g_139 dL_law_567 ?_
      obtain ⟨r_140, I_141, h_142, hf⟩ := bd2_some hf
      refine r_callV (As := [.int ((xs ((x3 + (1 : Int32))).toNatClampNeg))]) (ci := 8) hX (k_X8_use (l := xl X) (J := J) hX.ok hk2 h_142) pk_X8_use ml_L_73 rfl rfl rfl rfl hk2 rfl rfl rfl (Nat.le_of_ble_eq_true rfl) dL_law_568 ?_
      refine r_icmp_eq (tgt := 1127) hX dL_law_571 (by decide) (fun c_143 => ?_) (fun c_143 => ?_)
      · have hf := hf_t c_143 hf
        refine V.mask [true, true, true, true] ?_
        exact vL_law_1127 hX hSc hret a1 a2 x3 hk1 hk2 k18 hc18 hf
      · have hf := hf_f c_143 hf
        refine r_iconst (v := 0) hX dL_law_574 rfl ?_
        exact absurd hf (by decide)
    have hf := hf_f c_134 hf
    by_cases c_144 : ((xs x3.toNatClampNeg) &&& (31 : Int32)) = 14
    · have hf := hf_t c_144 hf
      refine r_tsw (off := 544) (tgt := 576) hX 14 dL_law_32 c_144 (by decide) (by decide) (by decide) (by decide) ?_
      refine r_aload_n hX dL_law_576 rfl ?_
      obtain ⟨r_145, I_146, h_147, hf⟩ := bd2_some hf
      refine r_callV (As := []) (ci := 7) hX (k_X7_undo (l := xl X) (J := J) hX.ok hk1 h_147) pk_X7_undo ml_L_74 rfl rfl rfl rfl hk1 rfl rfl rfl (Nat.le_of_ble_eq_true rfl) dL_law_577 ?_
      refine r_aload_n hX dL_law_580 rfl ?_
      obtain ⟨r_148, I_149, h_150, hf⟩ := bd2_some hf
      refine r_callV (As := []) (ci := 8) hX (k_X8_undo (l := xl X) (J := J) hX.ok hk2 h_150) pk_X8_undo ml_L_77 rfl rfl rfl rfl hk2 rfl rfl rfl (Nat.le_of_ble_eq_true rfl) dL_law_581 ?_
      refine r_icmp_eq (tgt := 1127) hX dL_law_584 (by decide) (fun c_151 => ?_) (fun c_151 => ?_)
      · have hf := hf_t c_151 hf
        refine V.mask [true, true, true, true] ?_
        exact vL_law_1127 hX hSc hret a1 a2 x3 hk1 hk2 k18 hc18 hf
      · have hf := hf_f c_151 hf
        refine r_iconst (v := 0) hX dL_law_587 rfl ?_
        exact absurd hf (by decide)
    have hf := hf_f c_144 hf
    by_cases c_152 : ((xs x3.toNatClampNeg) &&& (31 : Int32)) = 15
    · have hf := hf_t c_152 hf
      refine r_tsw (off := 557) (tgt := 589) hX 15 dL_law_32 c_152 (by decide) (by decide) (by decide) (by decide) ?_
      refine r_aload_n hX dL_law_589 rfl ?_
      refine r_aload_n hX dL_law_590 rfl ?_
      refine r_iload_n hX dL_law_591 rfl ?_
      refine r_iconst (v := 1) hX dL_law_592 rfl ?_
      refine r_iadd hX dL_law_593 ?_
      obtain ⟨g_153, hf⟩ := gd_some hf
      refine r_sld hX hSc g_153 dL_law_594 ?_
      obtain ⟨r_154, h_155, hf⟩ := bd1_some hf
      refine r_callV (As := [.int ((xs ((x3 + (1 : Int32))).toNatClampNeg))]) (ci := 7) hX (k_X7_weight (l := xl X) (J := J) hX.ok hk1 h_155) pk_X7_weight ml_L_78 rfl rfl rfl rfl hk1 rfl rfl rfl (Nat.le_of_ble_eq_true rfl) dL_law_595 ?_
      refine r_aload_n hX dL_law_598 rfl ?_
      refine r_aload_n hX dL_law_599 rfl ?_
      refine r_iload_n hX dL_law_600 rfl ?_
      refine r_iconst (v := 1) hX dL_law_601 rfl ?_
      refine r_iadd hX dL_law_602 ?_
      obtain ⟨g_156, hf⟩ := gd_some hf
      refine r_sld hX hSc g_156 dL_law_603 ?_
      obtain ⟨r_157, I_158, h_159, hf⟩ := bd2_some hf
      refine r_callV (As := [.int ((xs ((x3 + (1 : Int32))).toNatClampNeg))]) (ci := 8) hX (k_X8_weight (l := xl X) (J := J) hX.ok hk2 h_159) pk_X8_weight ml_L_81 rfl rfl rfl rfl hk2 rfl rfl rfl (Nat.le_of_ble_eq_true rfl) dL_law_604 ?_
      refine r_icmp_eq (tgt := 1127) hX dL_law_607 (by decide) (fun c_160 => ?_) (fun c_160 => ?_)
      · have hf := hf_t c_160 hf
        refine V.mask [true, true, true, true] ?_
        exact vL_law_1127 hX hSc hret a1 a2 x3 hk1 hk2 k18 hc18 hf
      · have hf := hf_f c_160 hf
        refine r_iconst (v := 0) hX dL_law_610 rfl ?_
        exact absurd hf (by decide)
    have hf := hf_f c_152 hf
    by_cases c_161 : ((xs x3.toNatClampNeg) &&& (31 : Int32)) = 16
    · have hf := hf_t c_161 hf
      refine r_tsw (off := 580) (tgt := 612) hX 16 dL_law_32 c_161 (by decide) (by decide) (by decide) (by decide) ?_
      refine r_aload_n hX dL_law_612 rfl ?_
      refine r_aload_n hX dL_law_613 rfl ?_
      refine r_iload_n hX dL_law_614 rfl ?_
      refine r_iconst (v := 1) hX dL_law_615 rfl ?_
      refine r_iadd hX dL_law_616 ?_
      obtain ⟨g_162, hf⟩ := gd_some hf
      refine r_sld hX hSc g_162 dL_law_617 ?_
      refine r_aload_n hX dL_law_618 rfl ?_
      refine r_iload_n hX dL_law_619 rfl ?_
      refine r_iconst (v := 2) hX dL_law_620 rfl ?_
      refine r_iadd hX dL_law_621 ?_
      obtain ⟨g_163, hf⟩ := gd_some hf
      refine r_sld hX hSc g_163 dL_law_622 ?_
      obtain ⟨r_164, h_165, hf⟩ := bd1_some hf
      refine r_callV (As := [.int ((xs ((x3 + (1 : Int32))).toNatClampNeg)), .int ((xs ((x3 + (2 : Int32))).toNatClampNeg))]) (ci := 7) hX (k_X7_best (l := xl X) (J := J) hX.ok hk1 h_165) pk_X7_best ml_L_82 rfl rfl rfl rfl hk1 rfl rfl rfl (Nat.le_of_ble_eq_true rfl) dL_law_623 ?_
      refine r_aload_n hX dL_law_626 rfl ?_
      refine r_aload_n hX dL_law_627 rfl ?_
      refine r_iload_n hX dL_law_628 rfl ?_
      refine r_iconst (v := 1) hX dL_law_629 rfl ?_
      refine r_iadd hX dL_law_630 ?_
      obtain ⟨g_166, hf⟩ := gd_some hf
      refine r_sld hX hSc g_166 dL_law_631 ?_
      refine r_aload_n hX dL_law_632 rfl ?_
      refine r_iload_n hX dL_law_633 rfl ?_
      refine r_iconst (v := 2) hX dL_law_634 rfl ?_
      refine r_iadd hX dL_law_635 ?_
      obtain ⟨g_167, hf⟩ := gd_some hf
      refine r_sld hX hSc g_167 dL_law_636 ?_
      obtain ⟨r_168, I_169, h_170, hf⟩ := bd2_some hf
      refine r_callV (As := [.int ((xs ((x3 + (1 : Int32))).toNatClampNeg)), .int ((xs ((x3 + (2 : Int32))).toNatClampNeg))]) (ci := 8) hX (k_X8_best (l := xl X) (J := J) hX.ok hk2 h_170) pk_X8_best ml_L_85 rfl rfl rfl rfl hk2 rfl rfl rfl (Nat.le_of_ble_eq_true rfl) dL_law_637 ?_
      refine r_icmp_eq (tgt := 1127) hX dL_law_640 (by decide) (fun c_171 => ?_) (fun c_171 => ?_)
      · have hf := hf_t c_171 hf
        refine V.mask [true, true, true, true] ?_
        exact vL_law_1127 hX hSc hret a1 a2 x3 hk1 hk2 k18 hc18 hf
      · have hf := hf_f c_171 hf
        refine r_iconst (v := 0) hX dL_law_643 rfl ?_
        exact absurd hf (by decide)
    have hf := hf_f c_161 hf
    by_cases c_172 : ((xs x3.toNatClampNeg) &&& (31 : Int32)) = 17
    · have hf := hf_t c_172 hf
      refine r_tsw (off := 613) (tgt := 645) hX 17 dL_law_32 c_172 (by decide) (by decide) (by decide) (by decide) ?_
      refine r_aload_n hX dL_law_645 rfl ?_
      refine r_aload_n hX dL_law_646 rfl ?_
      refine r_iload_n hX dL_law_647 rfl ?_
      refine r_iconst (v := 1) hX dL_law_648 rfl ?_
      refine r_iadd hX dL_law_649 ?_
      obtain ⟨g_173, hf⟩ := gd_some hf
      refine r_sld hX hSc g_173 dL_law_650 ?_
      refine r_aload_n hX dL_law_651 rfl ?_
      refine r_iload_n hX dL_law_652 rfl ?_
      refine r_iconst (v := 2) hX dL_law_653 rfl ?_
      refine r_iadd hX dL_law_654 ?_
      obtain ⟨g_174, hf⟩ := gd_some hf
      refine r_sld hX hSc g_174 dL_law_655 ?_
      refine r_aload_n hX dL_law_656 rfl ?_
      refine r_iload_n hX dL_law_657 rfl ?_
      refine r_iconst (v := 3) hX dL_law_658 rfl ?_
      refine r_iadd hX dL_law_659 ?_
      obtain ⟨g_175, hf⟩ := gd_some hf
      refine r_sld hX hSc g_175 dL_law_660 ?_
      obtain ⟨r_176, I_177, h_178, hf⟩ := bd2_some hf
      refine r_callV (As := [.int ((xs ((x3 + (1 : Int32))).toNatClampNeg)), .int ((xs ((x3 + (2 : Int32))).toNatClampNeg)), .int ((xs ((x3 + (3 : Int32))).toNatClampNeg))]) (ci := 7) hX (k_X7_plan (l := xl X) (J := J) hX.ok hk1 h_178) pk_X7_plan ml_L_86 rfl rfl rfl rfl hk1 rfl rfl rfl (Nat.le_of_ble_eq_true rfl) dL_law_661 ?_
      refine r_aload_n hX dL_law_664 rfl ?_
      refine r_aload_n hX dL_law_665 rfl ?_
      refine r_iload_n hX dL_law_666 rfl ?_
      refine r_iconst (v := 1) hX dL_law_667 rfl ?_
      refine r_iadd hX dL_law_668 ?_
      obtain ⟨g_179, hf⟩ := gd_some hf
      refine r_sld hX hSc g_179 dL_law_669 ?_
      refine r_aload_n hX dL_law_670 rfl ?_
      refine r_iload_n hX dL_law_671 rfl ?_
      refine r_iconst (v := 2) hX dL_law_672 rfl ?_
      refine r_iadd hX dL_law_673 ?_
      obtain ⟨g_180, hf⟩ := gd_some hf
      refine r_sld hX hSc g_180 dL_law_674 ?_
      refine r_aload_n hX dL_law_675 rfl ?_
      refine r_iload_n hX dL_law_676 rfl ?_
      refine r_iconst (v := 3) hX dL_law_677 rfl ?_
      refine r_iadd hX dL_law_678 ?_
      obtain ⟨g_181, hf⟩ := gd_some hf
      refine r_sld hX hSc g_181 dL_law_679 ?_
      obtain ⟨r_182, I_183, h_184, hf⟩ := bd2_some hf
      refine r_callV (As := [.int ((xs ((x3 + (1 : Int32))).toNatClampNeg)), .int ((xs ((x3 + (2 : Int32))).toNatClampNeg)), .int ((xs ((x3 + (3 : Int32))).toNatClampNeg))]) (ci := 8) hX (k_X8_plan (l := xl X) (J := J) hX.ok hk2 h_184) pk_X8_plan ml_L_89 rfl rfl rfl rfl hk2 rfl rfl rfl (Nat.le_of_ble_eq_true rfl) dL_law_680 ?_
      refine r_icmp_eq (tgt := 1127) hX dL_law_683 (by decide) (fun c_185 => ?_) (fun c_185 => ?_)
      · have hf := hf_t c_185 hf
        refine V.mask [true, true, true, true] ?_
        exact vL_law_1127 hX hSc hret a1 a2 x3 hk1 hk2 k18 hc18 hf
      · have hf := hf_f c_185 hf
        refine r_iconst (v := 0) hX dL_law_686 rfl ?_
        exact absurd hf (by decide)
    have hf := hf_f c_172 hf
    by_cases c_186 : ((xs x3.toNatClampNeg) &&& (31 : Int32)) = 18
    · have hf := hf_t c_186 hf
      refine r_tsw (off := 656) (tgt := 688) hX 18 dL_law_32 c_186 (by decide) (by decide) (by decide) (by decide) ?_
      refine r_aload_n hX dL_law_688 rfl ?_
      refine r_aload_n hX dL_law_689 rfl ?_
      refine r_iload_n hX dL_law_690 rfl ?_
      refine r_iconst (v := 1) hX dL_law_691 rfl ?_
      refine r_iadd hX dL_law_692 ?_
      obtain ⟨g_187, hf⟩ := gd_some hf
      refine r_sld hX hSc g_187 dL_law_693 ?_
      refine r_aload_n hX dL_law_694 rfl ?_
      refine r_iload_n hX dL_law_695 rfl ?_
      refine r_iconst (v := 2) hX dL_law_696 rfl ?_
      refine r_iadd hX dL_law_697 ?_
      obtain ⟨g_188, hf⟩ := gd_some hf
      refine r_sld hX hSc g_188 dL_law_698 ?_
      refine r_aload_n hX dL_law_699 rfl ?_
      refine r_iload_n hX dL_law_700 rfl ?_
      refine r_iconst (v := 3) hX dL_law_701 rfl ?_
      refine r_iadd hX dL_law_702 ?_
      obtain ⟨g_189, hf⟩ := gd_some hf
      refine r_sld hX hSc g_189 dL_law_703 ?_
      obtain ⟨r_190, I_191, h_192, hf⟩ := bd2_some hf
      refine r_callV (As := [.int ((xs ((x3 + (1 : Int32))).toNatClampNeg)), .int ((xs ((x3 + (2 : Int32))).toNatClampNeg)), .int ((xs ((x3 + (3 : Int32))).toNatClampNeg))]) (ci := 7) hX (k_X7_order (l := xl X) (J := J) hX.ok hk1 h_192) pk_X7_order ml_L_90 rfl rfl rfl rfl hk1 rfl rfl rfl (Nat.le_of_ble_eq_true rfl) dL_law_704 ?_
      refine r_aload_n hX dL_law_707 rfl ?_
      refine r_aload_n hX dL_law_708 rfl ?_
      refine r_iload_n hX dL_law_709 rfl ?_
      refine r_iconst (v := 1) hX dL_law_710 rfl ?_
      refine r_iadd hX dL_law_711 ?_
      obtain ⟨g_193, hf⟩ := gd_some hf
      refine r_sld hX hSc g_193 dL_law_712 ?_
      refine r_aload_n hX dL_law_713 rfl ?_
      refine r_iload_n hX dL_law_714 rfl ?_
      refine r_iconst (v := 2) hX dL_law_715 rfl ?_
      refine r_iadd hX dL_law_716 ?_
      obtain ⟨g_194, hf⟩ := gd_some hf
      refine r_sld hX hSc g_194 dL_law_717 ?_
      refine r_aload_n hX dL_law_718 rfl ?_
      refine r_iload_n hX dL_law_719 rfl ?_
      refine r_iconst (v := 3) hX dL_law_720 rfl ?_
      refine r_iadd hX dL_law_721 ?_
      obtain ⟨g_195, hf⟩ := gd_some hf
      refine r_sld hX hSc g_195 dL_law_722 ?_
      obtain ⟨r_196, I_197, h_198, hf⟩ := bd2_some hf
      refine r_callV (As := [.int ((xs ((x3 + (1 : Int32))).toNatClampNeg)), .int ((xs ((x3 + (2 : Int32))).toNatClampNeg)), .int ((xs ((x3 + (3 : Int32))).toNatClampNeg))]) (ci := 8) hX (k_X8_order (l := xl X) (J := J) hX.ok hk2 h_198) pk_X8_order ml_L_93 rfl rfl rfl rfl hk2 rfl rfl rfl (Nat.le_of_ble_eq_true rfl) dL_law_723 ?_
      refine r_icmp_eq (tgt := 1127) hX dL_law_726 (by decide) (fun c_199 => ?_) (fun c_199 => ?_)
      · have hf := hf_t c_199 hf
        refine V.mask [true, true, true, true] ?_
        exact vL_law_1127 hX hSc hret a1 a2 x3 hk1 hk2 k18 hc18 hf
      · have hf := hf_f c_199 hf
        refine r_iconst (v := 0) hX dL_law_729 rfl ?_
        exact absurd hf (by decide)
    have hf := hf_f c_186 hf
    by_cases c_200 : ((xs x3.toNatClampNeg) &&& (31 : Int32)) = 19
    · have hf := hf_t c_200 hf
      refine r_tsw (off := 699) (tgt := 731) hX 19 dL_law_32 c_200 (by decide) (by decide) (by decide) (by decide) ?_
      refine r_aload_n hX dL_law_731 rfl ?_
      refine r_aload_n hX dL_law_732 rfl ?_
      refine r_iload_n hX dL_law_733 rfl ?_
      refine r_iconst (v := 1) hX dL_law_734 rfl ?_
      refine r_iadd hX dL_law_735 ?_
      obtain ⟨g_201, hf⟩ := gd_some hf
      refine r_sld hX hSc g_201 dL_law_736 ?_
      refine r_aload_n hX dL_law_737 rfl ?_
      refine r_iload_n hX dL_law_738 rfl ?_
      refine r_iconst (v := 2) hX dL_law_739 rfl ?_
      refine r_iadd hX dL_law_740 ?_
      obtain ⟨g_202, hf⟩ := gd_some hf
      refine r_sld hX hSc g_202 dL_law_741 ?_
      refine r_i2l hX dL_law_742 ?_
      refine r_bipush (v := 32) hX dL_law_743 (by decide) ?_
      refine r_lshl hX dL_law_745 ?_
      refine r_aload_n hX dL_law_746 rfl ?_
      refine r_iload_n hX dL_law_747 rfl ?_
      refine r_iconst (v := 3) hX dL_law_748 rfl ?_
      refine r_iadd hX dL_law_749 ?_
      obtain ⟨g_203, hf⟩ := gd_some hf
      refine r_sld hX hSc g_203 dL_law_750 ?_
      refine r_i2l hX dL_law_751 ?_
      refine r_ldc2 hX dL_law_752 cn_L_94 ?_
      refine r_land hX dL_law_755 ?_
      refine r_lor hX dL_law_756 ?_
      obtain ⟨r_204, I_205, h_206, hf⟩ := bd2_some hf
      refine r_callV (As := [.int ((xs ((x3 + (1 : Int32))).toNatClampNeg)), .long (((((xs ((x3 + (2 : Int32))).toNatClampNeg)).toInt64 <<< (((32 : Int32)).toInt64 &&& 63)) ||| (((xs ((x3 + (3 : Int32))).toNatClampNeg)).toInt64 &&& (4294967295 : Int64))))]) (ci := 7) hX (k_X7_judge (l := xl X) (J := J) hX.ok hk1 h_206) pk_X7_judge ml_L_96 rfl rfl rfl rfl hk1 rfl rfl rfl (Nat.le_of_ble_eq_true rfl) dL_law_757 ?_
      refine r_aload_n hX dL_law_760 rfl ?_
      refine r_aload_n hX dL_law_761 rfl ?_
      refine r_iload_n hX dL_law_762 rfl ?_
      refine r_iconst (v := 1) hX dL_law_763 rfl ?_
      refine r_iadd hX dL_law_764 ?_
      obtain ⟨g_207, hf⟩ := gd_some hf
      refine r_sld hX hSc g_207 dL_law_765 ?_
      refine r_aload_n hX dL_law_766 rfl ?_
      refine r_iload_n hX dL_law_767 rfl ?_
      refine r_iconst (v := 2) hX dL_law_768 rfl ?_
      refine r_iadd hX dL_law_769 ?_
      obtain ⟨g_208, hf⟩ := gd_some hf
      refine r_sld hX hSc g_208 dL_law_770 ?_
      refine r_i2l hX dL_law_771 ?_
      refine r_bipush (v := 32) hX dL_law_772 (by decide) ?_
      refine r_lshl hX dL_law_774 ?_
      refine r_aload_n hX dL_law_775 rfl ?_
      refine r_iload_n hX dL_law_776 rfl ?_
      refine r_iconst (v := 3) hX dL_law_777 rfl ?_
      refine r_iadd hX dL_law_778 ?_
      obtain ⟨g_209, hf⟩ := gd_some hf
      refine r_sld hX hSc g_209 dL_law_779 ?_
      refine r_i2l hX dL_law_780 ?_
      refine r_ldc2 hX dL_law_781 cn_L_94 ?_
      refine r_land hX dL_law_784 ?_
      refine r_lor hX dL_law_785 ?_
      obtain ⟨r_210, I_211, h_212, hf⟩ := bd2_some hf
      refine r_callV (As := [.int ((xs ((x3 + (1 : Int32))).toNatClampNeg)), .long (((((xs ((x3 + (2 : Int32))).toNatClampNeg)).toInt64 <<< (((32 : Int32)).toInt64 &&& 63)) ||| (((xs ((x3 + (3 : Int32))).toNatClampNeg)).toInt64 &&& (4294967295 : Int64))))]) (ci := 8) hX (k_X8_judge (l := xl X) (J := J) hX.ok hk2 h_212) pk_X8_judge ml_L_100 rfl rfl rfl rfl hk2 rfl rfl rfl (Nat.le_of_ble_eq_true rfl) dL_law_786 ?_
      refine r_icmp_eq (tgt := 1127) hX dL_law_789 (by decide) (fun c_213 => ?_) (fun c_213 => ?_)
      · have hf := hf_t c_213 hf
        refine V.mask [true, true, true, true] ?_
        exact vL_law_1127 hX hSc hret a1 a2 x3 hk1 hk2 k18 hc18 hf
      · have hf := hf_f c_213 hf
        refine r_iconst (v := 0) hX dL_law_792 rfl ?_
        exact absurd hf (by decide)
    have hf := hf_f c_200 hf
    by_cases c_214 : ((xs x3.toNatClampNeg) &&& (31 : Int32)) = 20
    · have hf := hf_t c_214 hf
      refine r_tsw (off := 762) (tgt := 794) hX 20 dL_law_32 c_214 (by decide) (by decide) (by decide) (by decide) ?_
      refine r_aload_n hX dL_law_794 rfl ?_
      refine r_aload_n hX dL_law_795 rfl ?_
      refine r_iload_n hX dL_law_796 rfl ?_
      refine r_iconst (v := 1) hX dL_law_797 rfl ?_
      refine r_iadd hX dL_law_798 ?_
      obtain ⟨g_215, hf⟩ := gd_some hf
      refine r_sld hX hSc g_215 dL_law_799 ?_
      refine r_aload_n hX dL_law_800 rfl ?_
      refine r_iload_n hX dL_law_801 rfl ?_
      refine r_iconst (v := 2) hX dL_law_802 rfl ?_
      refine r_iadd hX dL_law_803 ?_
      obtain ⟨g_216, hf⟩ := gd_some hf
      refine r_sld hX hSc g_216 dL_law_804 ?_
      refine r_aload_n hX dL_law_805 rfl ?_
      refine r_iload_n hX dL_law_806 rfl ?_
      refine r_iconst (v := 3) hX dL_law_807 rfl ?_
      refine r_iadd hX dL_law_808 ?_
      obtain ⟨g_217, hf⟩ := gd_some hf
      refine r_sld hX hSc g_217 dL_law_809 ?_
      obtain ⟨r_218, I_219, h_220, hf⟩ := bd2_some hf
      refine r_callV (As := [.int ((xs ((x3 + (1 : Int32))).toNatClampNeg)), .int ((xs ((x3 + (2 : Int32))).toNatClampNeg)), .int ((xs ((x3 + (3 : Int32))).toNatClampNeg))]) (ci := 7) hX (k_X7_see (l := xl X) (J := J) hX.ok hk1 h_220) pk_X7_see ml_L_101 rfl rfl rfl rfl hk1 rfl rfl rfl (Nat.le_of_ble_eq_true rfl) dL_law_810 ?_
      refine r_aload_n hX dL_law_813 rfl ?_
      refine r_aload_n hX dL_law_814 rfl ?_
      refine r_iload_n hX dL_law_815 rfl ?_
      refine r_iconst (v := 1) hX dL_law_816 rfl ?_
      refine r_iadd hX dL_law_817 ?_
      obtain ⟨g_221, hf⟩ := gd_some hf
      refine r_sld hX hSc g_221 dL_law_818 ?_
      refine r_aload_n hX dL_law_819 rfl ?_
      refine r_iload_n hX dL_law_820 rfl ?_
      refine r_iconst (v := 2) hX dL_law_821 rfl ?_
      refine r_iadd hX dL_law_822 ?_
      obtain ⟨g_222, hf⟩ := gd_some hf
      refine r_sld hX hSc g_222 dL_law_823 ?_
      refine r_aload_n hX dL_law_824 rfl ?_
      refine r_iload_n hX dL_law_825 rfl ?_
      refine r_iconst (v := 3) hX dL_law_826 rfl ?_
      refine r_iadd hX dL_law_827 ?_
      obtain ⟨g_223, hf⟩ := gd_some hf
      refine r_sld hX hSc g_223 dL_law_828 ?_
      obtain ⟨r_224, I_225, h_226, hf⟩ := bd2_some hf
      refine r_callV (As := [.int ((xs ((x3 + (1 : Int32))).toNatClampNeg)), .int ((xs ((x3 + (2 : Int32))).toNatClampNeg)), .int ((xs ((x3 + (3 : Int32))).toNatClampNeg))]) (ci := 8) hX (k_X8_see (l := xl X) (J := J) hX.ok hk2 h_226) pk_X8_see ml_L_104 rfl rfl rfl rfl hk2 rfl rfl rfl (Nat.le_of_ble_eq_true rfl) dL_law_829 ?_
      refine r_icmp_eq (tgt := 1127) hX dL_law_832 (by decide) (fun c_227 => ?_) (fun c_227 => ?_)
      · have hf := hf_t c_227 hf
        refine V.mask [true, true, true, true] ?_
        exact vL_law_1127 hX hSc hret a1 a2 x3 hk1 hk2 k18 hc18 hf
      · have hf := hf_f c_227 hf
        refine r_iconst (v := 0) hX dL_law_835 rfl ?_
        exact absurd hf (by decide)
    have hf := hf_f c_214 hf
    by_cases c_228 : ((xs x3.toNatClampNeg) &&& (31 : Int32)) = 21
    · have hf := hf_t c_228 hf
      refine r_tsw (off := 805) (tgt := 837) hX 21 dL_law_32 c_228 (by decide) (by decide) (by decide) (by decide) ?_
      refine r_aload_n hX dL_law_837 rfl ?_
      obtain ⟨r_229, I_230, h_231, hf⟩ := bd2_some hf
      refine r_callV (As := []) (ci := 7) hX (k_X7_unsee (l := xl X) (J := J) hX.ok hk1 h_231) pk_X7_unsee ml_L_105 rfl rfl rfl rfl hk1 rfl rfl rfl (Nat.le_of_ble_eq_true rfl) dL_law_838 ?_
      refine r_aload_n hX dL_law_841 rfl ?_
      obtain ⟨r_232, I_233, h_234, hf⟩ := bd2_some hf
      refine r_callV (As := []) (ci := 8) hX (k_X8_unsee (l := xl X) (J := J) hX.ok hk2 h_234) pk_X8_unsee ml_L_108 rfl rfl rfl rfl hk2 rfl rfl rfl (Nat.le_of_ble_eq_true rfl) dL_law_842 ?_
      refine r_icmp_eq (tgt := 1127) hX dL_law_845 (by decide) (fun c_235 => ?_) (fun c_235 => ?_)
      · have hf := hf_t c_235 hf
        refine V.mask [true, true, true, true] ?_
        exact vL_law_1127 hX hSc hret a1 a2 x3 hk1 hk2 k18 hc18 hf
      · have hf := hf_f c_235 hf
        refine r_iconst (v := 0) hX dL_law_848 rfl ?_
        exact absurd hf (by decide)
    have hf := hf_f c_228 hf
    by_cases c_236 : ((xs x3.toNatClampNeg) &&& (31 : Int32)) = 22
    · have hf := hf_t c_236 hf
      refine r_tsw (off := 818) (tgt := 850) hX 22 dL_law_32 c_236 (by decide) (by decide) (by decide) (by decide) ?_
      refine r_aload_n hX dL_law_850 rfl ?_
      obtain ⟨r_237, h_238, hf⟩ := bd1_some hf
      refine r_callV (As := []) (ci := 7) hX (k_X7_which (l := xl X) (J := J) hX.ok hk1 h_238) pk_X7_which ml_L_109 rfl rfl rfl rfl hk1 rfl rfl rfl (Nat.le_of_ble_eq_true rfl) dL_law_851 ?_
      refine r_aload_n hX dL_law_854 rfl ?_
      obtain ⟨r_239, I_240, h_241, hf⟩ := bd2_some hf
      refine r_callV (As := []) (ci := 8) hX (k_X8_which (l := xl X) (J := J) hX.ok hk2 h_241) pk_X8_which ml_L_112 rfl rfl rfl rfl hk2 rfl rfl rfl (Nat.le_of_ble_eq_true rfl) dL_law_855 ?_
      refine r_icmp_eq (tgt := 1127) hX dL_law_858 (by decide) (fun c_242 => ?_) (fun c_242 => ?_)
      · have hf := hf_t c_242 hf
        refine V.mask [true, true, true, true] ?_
        exact vL_law_1127 hX hSc hret a1 a2 x3 hk1 hk2 k18 hc18 hf
      · have hf := hf_f c_242 hf
        refine r_iconst (v := 0) hX dL_law_861 rfl ?_
        exact absurd hf (by decide)
    have hf := hf_f c_236 hf
    by_cases c_243 : ((xs x3.toNatClampNeg) &&& (31 : Int32)) = 23
    · have hf := hf_t c_243 hf
      refine r_tsw (off := 831) (tgt := 863) hX 23 dL_law_32 c_243 (by decide) (by decide) (by decide) (by decide) ?_
      refine r_aload_n hX dL_law_863 rfl ?_
      refine r_aload_n hX dL_law_864 rfl ?_
      refine r_iload_n hX dL_law_865 rfl ?_
      refine r_iconst (v := 1) hX dL_law_866 rfl ?_
      refine r_iadd hX dL_law_867 ?_
      obtain ⟨g_244, hf⟩ := gd_some hf
      refine r_sld hX hSc g_244 dL_law_868 ?_
      refine r_aload_n hX dL_law_869 rfl ?_
      refine r_iload_n hX dL_law_870 rfl ?_
      refine r_iconst (v := 2) hX dL_law_871 rfl ?_
      refine r_iadd hX dL_law_872 ?_
      obtain ⟨g_245, hf⟩ := gd_some hf
      refine r_sld hX hSc g_245 dL_law_873 ?_
      refine r_if_eq (tgt := 881) hX dL_law_874 (by decide) (fun c_246 => ?_) (fun c_246 => ?_)
      · have hf := hf_t c_246 hf
        refine r_iconst (v := 0) hX dL_law_881 rfl ?_
        refine V.mask [true, true, true, true] ?_
        exact vL_law_882 hX hSc hret a1 a2 x3 a1 ((xs ((x3 + (1 : Int32))).toNatClampNeg)) ((0 : Int32)) hk1 hk2 hk1 k18 hc18 hf
      · have hf := hf_f c_246 hf
        refine r_iconst (v := 1) hX dL_law_877 rfl ?_
        refine r_goto (tgt := 882) hX dL_law_878 (by decide) ?_
        refine V.mask [true, true, true, true] ?_
        exact vL_law_882 hX hSc hret a1 a2 x3 a1 ((xs ((x3 + (1 : Int32))).toNatClampNeg)) ((1 : Int32)) hk1 hk2 hk1 k18 hc18 hf
    have hf := hf_f c_243 hf
    by_cases c_247 : ((xs x3.toNatClampNeg) &&& (31 : Int32)) = 24
    · have hf := hf_t c_247 hf
      refine r_tsw (off := 880) (tgt := 912) hX 24 dL_law_32 c_247 (by decide) (by decide) (by decide) (by decide) ?_
      refine r_aload_n hX dL_law_912 rfl ?_
      refine r_aload_n hX dL_law_913 rfl ?_
      refine r_iload_n hX dL_law_914 rfl ?_
      refine r_iconst (v := 1) hX dL_law_915 rfl ?_
      refine r_iadd hX dL_law_916 ?_
      obtain ⟨g_248, hf⟩ := gd_some hf
      refine r_sld hX hSc g_248 dL_law_917 ?_
      refine r_aload_n hX dL_law_918 rfl ?_
      refine r_iload_n hX dL_law_919 rfl ?_
      refine r_iconst (v := 2) hX dL_law_920 rfl ?_
      refine r_iadd hX dL_law_921 ?_
      obtain ⟨g_249, hf⟩ := gd_some hf
      refine r_sld hX hSc g_249 dL_law_922 ?_
      refine r_aload_n hX dL_law_923 rfl ?_
      refine r_iload_n hX dL_law_924 rfl ?_
      refine r_iconst (v := 3) hX dL_law_925 rfl ?_
      refine r_iadd hX dL_law_926 ?_
      obtain ⟨g_250, hf⟩ := gd_some hf
      refine r_sld hX hSc g_250 dL_law_927 ?_
      refine r_aload_n hX dL_law_928 rfl ?_
      refine r_iload_n hX dL_law_929 rfl ?_
      refine r_iconst (v := 4) hX dL_law_930 rfl ?_
      refine r_iadd hX dL_law_931 ?_
      obtain ⟨g_251, hf⟩ := gd_some hf
      refine r_sld hX hSc g_251 dL_law_932 ?_
      refine r_if_eq (tgt := 940) hX dL_law_933 (by decide) (fun c_252 => ?_) (fun c_252 => ?_)
      · have hf := hf_t c_252 hf
        refine r_iconst (v := 0) hX dL_law_940 rfl ?_
        refine V.mask [true, true, true, true] ?_
        exact vL_law_941 hX hSc hret a1 a2 x3 a1 ((xs ((x3 + (1 : Int32))).toNatClampNeg)) ((xs ((x3 + (2 : Int32))).toNatClampNeg)) ((xs ((x3 + (3 : Int32))).toNatClampNeg)) ((0 : Int32)) hk1 hk2 hk1 k18 hc18 hf
      · have hf := hf_f c_252 hf
        refine r_iconst (v := 1) hX dL_law_936 rfl ?_
        refine r_goto (tgt := 941) hX dL_law_937 (by decide) ?_
        refine V.mask [true, true, true, true] ?_
        exact vL_law_941 hX hSc hret a1 a2 x3 a1 ((xs ((x3 + (1 : Int32))).toNatClampNeg)) ((xs ((x3 + (2 : Int32))).toNatClampNeg)) ((xs ((x3 + (3 : Int32))).toNatClampNeg)) ((1 : Int32)) hk1 hk2 hk1 k18 hc18 hf
    have hf := hf_f c_247 hf
    by_cases c_253 : ((xs x3.toNatClampNeg) &&& (31 : Int32)) = 25
    · have hf := hf_t c_253 hf
      refine r_tsw (off := 949) (tgt := 981) hX 25 dL_law_32 c_253 (by decide) (by decide) (by decide) (by decide) ?_
      refine r_aload_n hX dL_law_981 rfl ?_
      refine r_aload_n hX dL_law_982 rfl ?_
      refine r_iload_n hX dL_law_983 rfl ?_
      refine r_iconst (v := 1) hX dL_law_984 rfl ?_
      refine r_iadd hX dL_law_985 ?_
      obtain ⟨g_254, hf⟩ := gd_some hf
      refine r_sld hX hSc g_254 dL_law_986 ?_
      refine r_i2l hX dL_law_987 ?_
      refine r_bipush (v := 32) hX dL_law_988 (by decide) ?_
      refine r_lshl hX dL_law_990 ?_
      refine r_aload_n hX dL_law_991 rfl ?_
      refine r_iload_n hX dL_law_992 rfl ?_
      refine r_iconst (v := 2) hX dL_law_993 rfl ?_
      refine r_iadd hX dL_law_994 ?_
      obtain ⟨g_255, hf⟩ := gd_some hf
      refine r_sld hX hSc g_255 dL_law_995 ?_
      refine r_i2l hX dL_law_996 ?_
      refine r_ldc2 hX dL_law_997 cn_L_94 ?_
      refine r_land hX dL_law_1000 ?_
      refine r_lor hX dL_law_1001 ?_
      obtain ⟨r_256, J_257, h_258, hf⟩ := bd2_some hf
      refine r_callV (As := [.long (((((xs ((x3 + (1 : Int32))).toNatClampNeg)).toInt64 <<< (((32 : Int32)).toInt64 &&& 63)) ||| (((xs ((x3 + (2 : Int32))).toNatClampNeg)).toInt64 &&& (4294967295 : Int64))))]) (ci := 7) hX (k_X7_seed (l := xl X) (I := I) hX.ok hk1 h_258) pk_X7_seed ml_L_123 rfl rfl rfl rfl hk1 rfl rfl rfl (Nat.le_of_ble_eq_true rfl) dL_law_1002 ?_
      refine r_aload_n hX dL_law_1005 rfl ?_
      refine r_aload_n hX dL_law_1006 rfl ?_
      refine r_iload_n hX dL_law_1007 rfl ?_
      refine r_iconst (v := 1) hX dL_law_1008 rfl ?_
      refine r_iadd hX dL_law_1009 ?_
      obtain ⟨g_259, hf⟩ := gd_some hf
      refine r_sld hX hSc g_259 dL_law_1010 ?_
      refine r_i2l hX dL_law_1011 ?_
      refine r_bipush (v := 32) hX dL_law_1012 (by decide) ?_
      refine r_lshl hX dL_law_1014 ?_
      refine r_aload_n hX dL_law_1015 rfl ?_
      refine r_iload_n hX dL_law_1016 rfl ?_
      refine r_iconst (v := 2) hX dL_law_1017 rfl ?_
      refine r_iadd hX dL_law_1018 ?_
      obtain ⟨g_260, hf⟩ := gd_some hf
      refine r_sld hX hSc g_260 dL_law_1019 ?_
      refine r_i2l hX dL_law_1020 ?_
      refine r_ldc2 hX dL_law_1021 cn_L_94 ?_
      refine r_land hX dL_law_1024 ?_
      refine r_lor hX dL_law_1025 ?_
      obtain ⟨r_261, I_262, J_263, h_264, hf⟩ := bd3_some hf
      refine r_callV (As := [.long (((((xs ((x3 + (1 : Int32))).toNatClampNeg)).toInt64 <<< (((32 : Int32)).toInt64 &&& 63)) ||| (((xs ((x3 + (2 : Int32))).toNatClampNeg)).toInt64 &&& (4294967295 : Int64))))]) (ci := 8) hX (k_X8_seed (l := xl X) hX.ok hk2 h_264) pk_X8_seed ml_L_127 rfl rfl rfl rfl hk2 rfl rfl rfl (Nat.le_of_ble_eq_true rfl) dL_law_1026 ?_
      refine r_lcmp hX dL_law_1029 ?_
      refine r_if_eq (tgt := 1127) hX dL_law_1030 (by decide) (fun c_265 => ?_) (fun c_265 => ?_)
      · have hf := hf_t c_265 hf
        refine V.mask [true, true, true, true] ?_
        exact vL_law_1127 hX hSc hret a1 a2 x3 hk1 hk2 k18 hc18 hf
      · have hf := hf_f c_265 hf
        refine r_iconst (v := 0) hX dL_law_1033 rfl ?_
        exact absurd hf (by decide)
    have hf := hf_f c_253 hf
    by_cases c_266 : ((xs x3.toNatClampNeg) &&& (31 : Int32)) = 26
    · have hf := hf_t c_266 hf
      refine r_tsw (off := 1003) (tgt := 1035) hX 26 dL_law_32 c_266 (by decide) (by decide) (by decide) (by decide) ?_
      refine r_aload_n hX dL_law_1035 rfl ?_
      refine r_aload_n hX dL_law_1036 rfl ?_
      refine r_iload_n hX dL_law_1037 rfl ?_
      refine r_iconst (v := 1) hX dL_law_1038 rfl ?_
      refine r_iadd hX dL_law_1039 ?_
      obtain ⟨g_267, hf⟩ := gd_some hf
      refine r_sld hX hSc g_267 dL_law_1040 ?_
      obtain ⟨r_268, I_269, J_270, h_271, hf⟩ := bd3_some hf
      refine r_callV (As := [.int ((xs ((x3 + (1 : Int32))).toNatClampNeg))]) (ci := 7) hX (k_X7_drawn (l := xl X) hX.ok hk1 h_271) pk_X7_drawn ml_L_128 rfl rfl rfl rfl hk1 rfl rfl rfl (Nat.le_of_ble_eq_true rfl) dL_law_1041 ?_
      refine r_aload_n hX dL_law_1044 rfl ?_
      refine r_aload_n hX dL_law_1045 rfl ?_
      refine r_iload_n hX dL_law_1046 rfl ?_
      refine r_iconst (v := 1) hX dL_law_1047 rfl ?_
      refine r_iadd hX dL_law_1048 ?_
      obtain ⟨g_272, hf⟩ := gd_some hf
      refine r_sld hX hSc g_272 dL_law_1049 ?_
      obtain ⟨r_273, I_274, J_275, h_276, hf⟩ := bd3_some hf
      refine r_callV (As := [.int ((xs ((x3 + (1 : Int32))).toNatClampNeg))]) (ci := 8) hX (k_X8_drawn (l := xl X) hX.ok hk2 h_276) pk_X8_drawn ml_L_131 rfl rfl rfl rfl hk2 rfl rfl rfl (Nat.le_of_ble_eq_true rfl) dL_law_1050 ?_
      refine r_icmp_eq (tgt := 1127) hX dL_law_1053 (by decide) (fun c_277 => ?_) (fun c_277 => ?_)
      · have hf := hf_t c_277 hf
        refine V.mask [true, true, true, true] ?_
        exact vL_law_1127 hX hSc hret a1 a2 x3 hk1 hk2 k18 hc18 hf
      · have hf := hf_f c_277 hf
        refine r_iconst (v := 0) hX dL_law_1056 rfl ?_
        exact absurd hf (by decide)
    have hf := hf_f c_266 hf
    by_cases c_278 : ((xs x3.toNatClampNeg) &&& (31 : Int32)) = 27
    · have hf := hf_t c_278 hf
      refine r_tsw (off := 1026) (tgt := 1058) hX 27 dL_law_32 c_278 (by decide) (by decide) (by decide) (by decide) ?_
      refine r_aload_n hX dL_law_1058 rfl ?_
      refine r_aload_n hX dL_law_1059 rfl ?_
      refine r_iload_n hX dL_law_1060 rfl ?_
      refine r_iconst (v := 1) hX dL_law_1061 rfl ?_
      refine r_iadd hX dL_law_1062 ?_
      obtain ⟨g_279, hf⟩ := gd_some hf
      refine r_sld hX hSc g_279 dL_law_1063 ?_
      obtain ⟨r_280, I_281, h_282, hf⟩ := bd2_some hf
      refine r_callV (As := [.int ((xs ((x3 + (1 : Int32))).toNatClampNeg))]) (ci := 7) hX (k_X7_keep (l := xl X) (J := J) hX.ok hk1 h_282) pk_X7_keep ml_L_132 rfl rfl rfl rfl hk1 rfl rfl rfl (Nat.le_of_ble_eq_true rfl) dL_law_1064 ?_
      refine r_aload_n hX dL_law_1067 rfl ?_
      refine r_aload_n hX dL_law_1068 rfl ?_
      refine r_iload_n hX dL_law_1069 rfl ?_
      refine r_iconst (v := 1) hX dL_law_1070 rfl ?_
      refine r_iadd hX dL_law_1071 ?_
      obtain ⟨g_283, hf⟩ := gd_some hf
      refine r_sld hX hSc g_283 dL_law_1072 ?_
      obtain ⟨r_284, I_285, h_286, hf⟩ := bd2_some hf
      refine r_callV (As := [.int ((xs ((x3 + (1 : Int32))).toNatClampNeg))]) (ci := 8) hX (k_X8_keep (l := xl X) (J := J) hX.ok hk2 h_286) pk_X8_keep ml_L_135 rfl rfl rfl rfl hk2 rfl rfl rfl (Nat.le_of_ble_eq_true rfl) dL_law_1073 ?_
      refine r_icmp_eq (tgt := 1127) hX dL_law_1076 (by decide) (fun c_287 => ?_) (fun c_287 => ?_)
      · have hf := hf_t c_287 hf
        refine V.mask [true, true, true, true] ?_
        exact vL_law_1127 hX hSc hret a1 a2 x3 hk1 hk2 k18 hc18 hf
      · have hf := hf_f c_287 hf
        refine r_iconst (v := 0) hX dL_law_1079 rfl ?_
        exact absurd hf (by decide)
    have hf := hf_f c_278 hf
    by_cases c_288 : ((xs x3.toNatClampNeg) &&& (31 : Int32)) = 28
    · have hf := hf_t c_288 hf
      refine r_tsw (off := 1049) (tgt := 1081) hX 28 dL_law_32 c_288 (by decide) (by decide) (by decide) (by decide) ?_
      refine r_aload_n hX dL_law_1081 rfl ?_
      refine r_aload_n hX dL_law_1082 rfl ?_
      refine r_iload_n hX dL_law_1083 rfl ?_
      refine r_iconst (v := 1) hX dL_law_1084 rfl ?_
      refine r_iadd hX dL_law_1085 ?_
      obtain ⟨g_289, hf⟩ := gd_some hf
      refine r_sld hX hSc g_289 dL_law_1086 ?_
      obtain ⟨r_290, I_291, h_292, hf⟩ := bd2_some hf
      refine r_callV (As := [.int ((xs ((x3 + (1 : Int32))).toNatClampNeg))]) (ci := 7) hX (k_X7_again (l := xl X) (J := J) hX.ok hk1 h_292) pk_X7_again ml_L_136 rfl rfl rfl rfl hk1 rfl rfl rfl (Nat.le_of_ble_eq_true rfl) dL_law_1087 ?_
      refine r_aload_n hX dL_law_1090 rfl ?_
      refine r_aload_n hX dL_law_1091 rfl ?_
      refine r_iload_n hX dL_law_1092 rfl ?_
      refine r_iconst (v := 1) hX dL_law_1093 rfl ?_
      refine r_iadd hX dL_law_1094 ?_
      obtain ⟨g_293, hf⟩ := gd_some hf
      refine r_sld hX hSc g_293 dL_law_1095 ?_
      obtain ⟨r_294, I_295, h_296, hf⟩ := bd2_some hf
      refine r_callV (As := [.int ((xs ((x3 + (1 : Int32))).toNatClampNeg))]) (ci := 8) hX (k_X8_again (l := xl X) (J := J) hX.ok hk2 h_296) pk_X8_again ml_L_139 rfl rfl rfl rfl hk2 rfl rfl rfl (Nat.le_of_ble_eq_true rfl) dL_law_1096 ?_
      refine r_icmp_eq (tgt := 1127) hX dL_law_1099 (by decide) (fun c_297 => ?_) (fun c_297 => ?_)
      · have hf := hf_t c_297 hf
        refine V.mask [true, true, true, true] ?_
        exact vL_law_1127 hX hSc hret a1 a2 x3 hk1 hk2 k18 hc18 hf
      · have hf := hf_f c_297 hf
        refine r_iconst (v := 0) hX dL_law_1102 rfl ?_
        exact absurd hf (by decide)
    have hf := hf_f c_288 hf
    by_cases c_298 : ((xs x3.toNatClampNeg) &&& (31 : Int32)) = 29
    · have hf := hf_t c_298 hf
      refine r_tsw (off := 1072) (tgt := 1104) hX 29 dL_law_32 c_298 (by decide) (by decide) (by decide) (by decide) ?_
      refine r_aload_n hX dL_law_1104 rfl ?_
      refine r_aload_n hX dL_law_1105 rfl ?_
      refine r_iload_n hX dL_law_1106 rfl ?_
      refine r_iconst (v := 1) hX dL_law_1107 rfl ?_
      refine r_iadd hX dL_law_1108 ?_
      obtain ⟨g_299, hf⟩ := gd_some hf
      refine r_sld hX hSc g_299 dL_law_1109 ?_
      obtain ⟨r_300, h_301, hf⟩ := bd1_some hf
      refine r_callV (As := [.int ((xs ((x3 + (1 : Int32))).toNatClampNeg))]) (ci := 7) hX (k_X7_count (l := xl X) (J := J) hX.ok hk1 h_301) pk_X7_count ml_L_140 rfl rfl rfl rfl hk1 rfl rfl rfl (Nat.le_of_ble_eq_true rfl) dL_law_1110 ?_
      refine r_aload_n hX dL_law_1113 rfl ?_
      refine r_aload_n hX dL_law_1114 rfl ?_
      refine r_iload_n hX dL_law_1115 rfl ?_
      refine r_iconst (v := 1) hX dL_law_1116 rfl ?_
      refine r_iadd hX dL_law_1117 ?_
      obtain ⟨g_302, hf⟩ := gd_some hf
      refine r_sld hX hSc g_302 dL_law_1118 ?_
      obtain ⟨r_303, I_304, h_305, hf⟩ := bd2_some hf
      refine r_callV (As := [.int ((xs ((x3 + (1 : Int32))).toNatClampNeg))]) (ci := 8) hX (k_X8_count (l := xl X) (J := J) hX.ok hk2 h_305) pk_X8_count ml_L_143 rfl rfl rfl rfl hk2 rfl rfl rfl (Nat.le_of_ble_eq_true rfl) dL_law_1119 ?_
      refine r_icmp_eq (tgt := 1127) hX dL_law_1122 (by decide) (fun c_306 => ?_) (fun c_306 => ?_)
      · have hf := hf_t c_306 hf
        refine V.mask [true, true, true, true] ?_
        exact vL_law_1127 hX hSc hret a1 a2 x3 hk1 hk2 k18 hc18 hf
      · have hf := hf_f c_306 hf
        refine r_iconst (v := 0) hX dL_law_1125 rfl ?_
        exact absurd hf (by decide)
    have hf := hf_f c_298 hf
    refine r_tswD (tgt := 1127) hX dL_law_32 [0, 1, 2, 3, 4, 5, 6, 7, 8, 9, 10, 11, 12, 13, 14, 15, 16, 17, 18, 19, 20, 21, 22, 23, 24, 25, 26, 27, 28, 29] (by decide) (List.forall_mem_cons.mpr ⟨c_3, List.forall_mem_cons.mpr ⟨c_13, List.forall_mem_cons.mpr ⟨c_21, List.forall_mem_cons.mpr ⟨c_29, List.forall_mem_cons.mpr ⟨c_37, List.forall_mem_cons.mpr ⟨c_48, List.forall_mem_cons.mpr ⟨c_59, List.forall_mem_cons.mpr ⟨c_70, List.forall_mem_cons.mpr ⟨c_83, List.forall_mem_cons.mpr ⟨c_88, List.forall_mem_cons.mpr ⟨c_100, List.forall_mem_cons.mpr ⟨c_112, List.forall_mem_cons.mpr ⟨c_122, List.forall_mem_cons.mpr ⟨c_134, List.forall_mem_cons.mpr ⟨c_144, List.forall_mem_cons.mpr ⟨c_152, List.forall_mem_cons.mpr ⟨c_161, List.forall_mem_cons.mpr ⟨c_172, List.forall_mem_cons.mpr ⟨c_186, List.forall_mem_cons.mpr ⟨c_200, List.forall_mem_cons.mpr ⟨c_214, List.forall_mem_cons.mpr ⟨c_228, List.forall_mem_cons.mpr ⟨c_236, List.forall_mem_cons.mpr ⟨c_243, List.forall_mem_cons.mpr ⟨c_247, List.forall_mem_cons.mpr ⟨c_253, List.forall_mem_cons.mpr ⟨c_266, List.forall_mem_cons.mpr ⟨c_278, List.forall_mem_cons.mpr ⟨c_288, List.forall_mem_cons.mpr ⟨c_298, (fun _ h => absurd h List.not_mem_nil)⟩⟩⟩⟩⟩⟩⟩⟩⟩⟩⟩⟩⟩⟩⟩⟩⟩⟩⟩⟩⟩⟩⟩⟩⟩⟩⟩⟩⟩⟩) (by decide) ?_
    refine V.mask [true, true, true, true] ?_
    exact vL_law_1127 hX hSc hret a1 a2 x3 hk1 hk2 k18 hc18 hf
noncomputable def f_L_law (L : Nat) (xs : Nat → Int32) (I : HI) (J : HJ) (a1 : Nat) (a2 : Nat) : Option (Int32) := wl3 (L_law_B18 L xs a1 a2) 5000 I J ((0 : Int32))
set_option maxHeartbeats 4000000 in
set_option maxRecDepth 100000 in
theorem vL_law_16 {X : CX} {b L : Nat} {xs : Nat → Int32} {I : HI} {J : HJ} (hX : OKX X cL_law RL 7 175 4) (hSc : SC X b L xs) (hret : RetLw X) {a1 : Nat} {a2 : Nat} (hk1 : gK (xG X) a1 = 8) (hk2 : gK (xG X) a2 = 9) (hf : f_L_law L xs I J a1 a2 = some 1) : V X I J 16 [some (.ref b), some (.ref a1), some (.ref a2), none] [] := by
  unfold f_L_law at hf
  refine r_iconst (v := 0) hX dL_law_16 rfl ?_
  refine r_istore_n hX dL_law_17 rfl rfl ?_
  refine V.mask [true, true, true, true] ?_
  exact vL_law_18 hX hSc hret a1 a2 hk1 hk2 5000 I J ((0 : Int32)) hf

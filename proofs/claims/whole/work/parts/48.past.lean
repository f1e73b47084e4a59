/-! the past: a ring of 14 nets -/
/-- where the k-th of d remembered nets stands, the next place being q -/
def rg (q d k : Nat) : Nat := (q + 14 - d + k) % 14
/-- d nets are remembered, the oldest first -/
def PsAt (I : HI) (h : Nat) (C : Cf) (d : Nat) (H : Nat → Nt) : Prop := ∃ q, q < 14 ∧ d ≤ 14 ∧ I h 1 = nI q ∧ I h 2 = nI d ∧ ∀ k, k < d → NtAt I (h + 2 + 17 * rg q d k) C (H k)
def WfH (C : Cf) (t d : Nat) (H : Nat → Nt) : Prop := ∀ k, k < d → WfN C t (H k)
/-- one more is remembered -/
def pushH (d : Nat) (H : Nat → Nt) (N : Nt) : Nat × (Nat → Nt) := if d = 14 then (14, fun k => if k = 13 then N else H (k + 1)) else (d + 1, fun k => if k = d then N else H k)
theorem WfH.push {C : Cf} {t d : Nat} {H : Nat → Nt} {N : Nt} (h : WfH C t d H) (hN : WfN C t N) : WfH C t (pushH d H N).1 (pushH d H N).2 := by
  unfold pushH
  by_cases hd : d = 14
  · rw [if_pos hd]
    intro k hk
    show WfN C t (if k = 13 then N else H (k + 1))
    by_cases h13 : k = 13
    · rw [if_pos h13]; exact hN
    · rw [if_neg h13]; exact h _ (by have : k < 14 := hk; omega)
  · rw [if_neg hd]
    intro k hk
    show WfN C t (if k = d then N else H k)
    by_cases h13 : k = d
    · rw [if_pos h13]; exact hN
    · rw [if_neg h13]; exact h _ (by have : k < d + 1 := hk; omega)
theorem x7_netAt {a e x : Nat} (hx : x < 14) : f_X7_netAt a 14 e (nI x) = some (some (e + 17 * x)) := by
  unfold f_X7_netAt
  have en : Int32.ofNat 14 = nI 14 := rfl
  rw [if_neg (nI_pos (by omega)), en, if_pos (show nI x < nI 14 by rw [nlt (by omega) (by omega)]; exact hx), gv hx (by omega), ncl (by omega)]
theorem x3_record {I : HI} {h b t d : Nat} {C : Cf} {H : Nat → Nt} {N : Nt} (hC : WfC C) (hp : PsAt I h C d H) (hb : b + 17 ≤ h) (hN : NtAt I b C N) (hw : WfN C t N) : ∃ I', (PsAt I' h C (pushH d H N).1 (pushH d H N).2 ∧ Off I I' h 240) ∧ f_X3_record I h b = some I' := by
  have hn := hC.2.2.2.2.1
  obtain ⟨q, hq, hd, e1, e2, hH⟩ := hp
  unfold f_X3_record
  rw [e1, x7_netAt hq, bd1s, mNs]
  obtain ⟨I1, ⟨a1, a2⟩, a3⟩ := x1_take (I := I) (a := h + 1 + 1 + 17 * q) (b := b) hC (by omega) hN hw
  rw [a3, bd1s]
  unfold X3_record_J21
  have c1 : I1 h = I h := a2 h (by omega)
  rw [c1, e1, i_1, nadd, i_14, rem_n (by omega) (by omega) (by omega), lt1s, sI_eq, uR_ne (by omega), c1, e2, nadd, lt1s]
  refine ⟨_, ⟨⟨(q + 1) % 14, Nat.mod_lt _ (by omega), ?_, ?_, ?_, fun k hk => ?_⟩, ?_⟩, rfl⟩
  · unfold pushH
    by_cases hd14 : d = 14
    · rw [if_pos hd14]; show 14 ≤ 14; omega
    · rw [if_neg hd14]; show d + 1 ≤ 14; omega
  · rw [sI_eq, uR_ne (by omega), sI_eq, uR_eq]
  · rw [sI_eq, uR_eq]
    unfold pushH
    by_cases hd14 : d = 14
    · rw [if_pos hd14, if_pos (show nI 14 < nI (d + 1) by rw [nlt (by omega) (by omega)]; omega)]
    · rw [if_neg hd14, if_neg (show ¬ nI 14 < nI (d + 1) by rw [nlt (by omega) (by omega)]; omega)]
  · have fin : ∀ (z : Nat) (M : Nt), NtAt I1 (h + 2 + 17 * z) C M → NtAt (sI (sI I1 h 1 (nI ((q + 1) % 14))) h 2 (if nI 14 < nI (d + 1) then nI 14 else nI (d + 1))) (h + 2 + 17 * z) C M := fun z M hM => hM.kept hn fun y h1 h2 => by rw [sI_ne (by omega), sI_ne (by omega)]
    have new : NtAt I1 (h + 2 + 17 * q) C N := a1
    have old : ∀ z M, z < 14 → z ≠ q → NtAt I (h + 2 + 17 * z) C M → NtAt I1 (h + 2 + 17 * z) C M := fun z M hz hzq hM => hM.kept hn fun y h1 h2 => a2 y (by omega)
    unfold pushH at hk ⊢
    by_cases hd14 : d = 14
    · rw [if_pos hd14] at hk ⊢
      have hk' : k < 14 := hk
      show NtAt _ (h + 2 + 17 * rg ((q + 1) % 14) 14 k) C (if k = 13 then N else H (k + 1))
      refine fin _ _ ?_
      by_cases h13 : k = 13
      · rw [if_pos h13, show rg ((q + 1) % 14) 14 k = q by unfold rg; omega]
        exact new
      · rw [if_neg h13]
        have e : rg ((q + 1) % 14) 14 k = rg q d (k + 1) := by unfold rg; omega
        rw [e]
        exact old _ _ (by unfold rg; omega) (by unfold rg; omega) (hH (k + 1) (by omega))
    · rw [if_neg hd14] at hk ⊢
      have hk' : k < d + 1 := hk
      show NtAt _ (h + 2 + 17 * rg ((q + 1) % 14) (d + 1) k) C (if k = d then N else H k)
      refine fin _ _ ?_
      by_cases h13 : k = d
      · rw [if_pos h13, show rg ((q + 1) % 14) (d + 1) k = q by unfold rg; omega]
        exact new
      · rw [if_neg h13]
        have e : rg ((q + 1) % 14) (d + 1) k = rg q d k := by unfold rg; omega
        rw [e]
        exact old _ _ (by unfold rg; omega) (by unfold rg; omega) (hH k (by omega))
  · exact ((a2.wid (by omega) (by omega)).tr (Off.s (by omega))).tr (Off.s (by omega))
theorem x3_restore0 {I : HI} {h b : Nat} {C : Cf} {H : Nat → Nt} (hp : PsAt I h C 0 H) : f_X3_restore I h b = some (0, I) := by
  obtain ⟨q, hq, hd, e1, e2, hH⟩ := hp
  unfold f_X3_restore
  rw [e1, i_14, i_1, nadd, nsub (by omega), rem_n (by omega) (by omega) (by omega), lt1s, x7_netAt (Nat.mod_lt _ (by omega)), bd1s, mNs, e2, if_neg (by decide)]
theorem x3_restore {I : HI} {h b t d : Nat} {C : Cf} {H : Nat → Nt} (hC : WfC C) (hp : PsAt I h C (d + 1) H) (hb : b + 17 ≤ h) (hw : WfN C t (H d)) : ∃ I', ((PsAt I' h C d H ∧ NtAt I' b C (H d)) ∧ (∀ z, ¬ (b ≤ z ∧ z < b + 17) → z ≠ h → I' z = I z)) ∧ f_X3_restore I h b = some (1, I') := by
  have hn := hC.2.2.2.2.1
  obtain ⟨q, hq, hd, e1, e2, hH⟩ := hp
  unfold f_X3_restore
  rw [e1, i_14, i_1, nadd, nsub (by omega), rem_n (by omega) (by omega) (by omega), lt1s, x7_netAt (Nat.mod_lt _ (by omega)), bd1s, mNs, e2, if_pos (show (0 : Int32) < nI (d + 1) by rw [n0pos (by omega)]; omega)]
  have e : (q + 14 - 1) % 14 = rg q (d + 1) d := by unfold rg; omega
  have hr : (q + 14 - 1) % 14 < 14 := Nat.mod_lt _ (by omega)
  have hs := hH d (by omega)
  rw [← e] at hs
  obtain ⟨I1, ⟨a1, a2⟩, a3⟩ := x1_take (I := I) (a := b) (b := h + 2 + 17 * ((q + 14 - 1) % 14)) hC (by omega) hs hw
  have a3' : f_X1_take I b (h + 1 + 1 + 17 * ((q + 14 - 1) % 14)) = some I1 := a3
  rw [a3', bd1s, lt1s, lt1s]
  have c1 : I1 h = I h := a2 h (by omega)
  rw [sI_eq, uR_ne (by omega), c1, e2, nsub (by omega)]
  refine ⟨_, ⟨⟨⟨(q + 14 - 1) % 14, hr, by omega, ?_, ?_, fun k hk => ?_⟩, ?_⟩, fun z h1 h2 => ?_⟩, rfl⟩
  · rw [sI_eq, uR_ne (by omega), sI_eq, uR_eq]
  · rw [sI_eq, uR_eq]; rfl
  · have e3 : rg ((q + 14 - 1) % 14) d k = rg q (d + 1) k := by unfold rg; omega
    have hz : rg q (d + 1) k < 14 := by unfold rg; omega
    rw [e3]
    exact (hH k (by omega)).kept hn fun y h1 h2 => by rw [sI_ne (by omega), sI_ne (by omega)]; exact a2 y (by omega)
  · exact a1.kept hn fun y h1 h2 => by rw [sI_ne (by omega), sI_ne (by omega)]
  · rw [sI_ne (by omega), sI_ne (by omega)]; exact a2 z h1

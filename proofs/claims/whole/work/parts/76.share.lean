/-! shares, on both sides -/
def sumN (f : Nat → Nat) : Nat → Nat
  | 0 => 0
  | k + 1 => sumN f k + f k
theorem sumN_congr {f g : Nat → Nat} : ∀ {n : Nat}, (∀ k, k < n → f k = g k) → sumN f n = sumN g n
  | 0, _ => rfl
  | n + 1, h => by rw [sumN, sumN, sumN_congr (n := n) (fun k hk => h k (by omega)), h n (by omega)]
theorem sumN_add (f g : Nat → Nat) : ∀ n, sumN (fun k => f k + g k) n = sumN f n + sumN g n
  | 0 => rfl
  | n + 1 => by rw [sumN, sumN, sumN, sumN_add f g n]; omega
theorem sumN_zero : ∀ n, sumN (fun _ => 0) n = 0
  | 0 => rfl
  | n + 1 => by rw [sumN, sumN_zero n]
theorem sumN_swap (t : Nat → Nat → Nat) (b : Nat) : ∀ a, sumN (fun s => sumN (t s) b) a = sumN (fun p => sumN (fun s => t s p) a) b
  | 0 => (sumN_zero b).symm
  | a + 1 => by
    rw [sumN, sumN_swap t b a, ← sumN_add]
    exact sumN_congr fun k _ => rfl
theorem sumN_mul (f : Nat → Nat) (c : Nat) : ∀ n, sumN (fun k => f k * c) n = sumN f n * c
  | 0 => (Nat.zero_mul c).symm
  | n + 1 => by rw [sumN, sumN, sumN_mul f c n, Nat.add_mul]
theorem sumN_le {f : Nat → Nat} {c : Nat} (h : ∀ k, f k ≤ c) : ∀ n, sumN f n ≤ c * n
  | 0 => Nat.zero_le _
  | n + 1 => by
    have := sumN_le h n
    have := h n
    rw [sumN, Nat.mul_succ]; omega
theorem sumN_one {a : Nat} (w : Nat → Nat) : ∀ n, a < n → sumN (fun p => if p = a then w p else 0) n = w a
  | n + 1, h => by
    rw [sumN]
    by_cases hn : n = a
    · subst hn
      rw [if_pos rfl, sumN_congr (g := fun _ => 0) (fun k hk => if_neg (by omega)), sumN_zero, Nat.zero_add]
    · rw [if_neg hn, sumN_one w n (by omega), Nat.add_zero]
theorem cnt_sum (f : Nat → Bool) : ∀ n, cntB f n = sumN (fun k => if f k = true then 1 else 0) n
  | 0 => rfl
  | n + 1 => by rw [cntB, sumN, cnt_sum f n]
def fct : Nat → Nat
  | 0 => 1
  | k + 1 => fct k * (k + 1)
theorem r8_factorial {k : Nat} (hk : k < 5) : f_X8_factorial (nI k) = some (nI (fct k)) := by
  unfold f_X8_factorial
  have e1 : ∀ k, fct (k - 1 + 1) = fct k := fun k => by
    cases k with
    | zero => rfl
    | succ k => rfl
  refine wl2_to (F := X8_factorial_B4 (nI k)) (fun i => nI (fct (i + 1))) (fun i => nI (i + 2)) (m := k - 1) (fun i kk hi => ?_) (fun kk => ?_) (k - 1) 0 5000 (by omega) (by omega)
  · unfold X8_factorial_B4
    rw [if_neg (show ¬ nI k < nI (i + 2) by rw [nlt (by omega) (by omega)]; omega), nmul, lt1s, lt1s, ninc]
    rfl
  · unfold X8_factorial_B4
    rw [if_pos (show nI k < nI (k - 1 + 2) by rw [nlt (by omega) (by omega)]; omega), e1]
/-- what some proxies have -/
def unn (N : Nt) (s : Int32) : Nat → Int32
  | 0 => 0
  | y + 1 => if bit s y = true then unn N s y ||| sset (pS (nP N y)) (pN (nP N y)) else unn N s y
def cov (N : Nt) (s : Int32) (p n : Nat) : Bool := anyB (fun y => bit s y && onS (nP N y) p) n
theorem unn_bit {C : Cf} {N : Nt} {s : Int32} {t p : Nat} (hw : WfN C t N) (hp : p < 32) : ∀ {n : Nat}, n ≤ cN C → bit (unn N s n) p = cov N s p n
  | 0, _ => by rw [unn, bit_0 hp]; rfl
  | n + 1, hn => by
    have ih := unn_bit (s := s) hw hp (n := n) (by omega)
    unfold cov at ih ⊢
    rw [unn, anyB, ← ih]
    cases hb : bit s n with
    | true => rw [if_pos rfl, bit_or hp, shf_bit (hw.shf (show n < cN C by omega)) hp, Bool.true_and]
    | false => rw [if_neg (by decide), Bool.false_and, Bool.or_false]
theorem r8_hadBy {I : HI} {m t : Nat} {C : Cf} {S : St} (hC : WfC C) (h : RfAt I m C S) (hw : WfS C t S) (s : Int32) : f_X8_hadBy I m s = some (nI (pop (unn S.1 s (cN C)))) := by
  have hn := hC.2.2.2.2.1
  unfold f_X8_hadBy
  refine wl2_to (F := X8_hadBy_B4 I m s) (fun i => unn S.1 s i) (fun i => nI i) (m := cN C) (fun i k hi => ?_) (fun k => ?_) (cN C) 0 5000 (by omega) (by omega)
  · unfold X8_hadBy_B4 X8_hadBy_J33
    rw [h.1.2.2.2.1, if_pos (show nI i < nI (cN C) by rw [nlt (by omega) (by omega)]; exact hi), r8_has, bd1s, unn]
    cases bit s i with
    | true => rw [if_neg bZt, r8_shelfS hC h hw hi, bd1s, lt1s, lt1s, ninc, if_pos rfl]
    | false => rw [if_pos bZf, lt1s, lt1s, ninc, Int32.or_zero, if_neg (by decide)]
  · unfold X8_hadBy_B4
    rw [h.1.2.2.2.1, if_neg (show ¬ nI (cN C) < nI (cN C) by rw [nlt (by omega) (by omega)]; omega), r8_ones, bd1s]
/-- the weight of an arrival -/
def wF (n s : Nat) : Nat := fct (cntB (bit (nI s)) n) * fct (n - 1 - cntB (bit (nI s)) n)
/-- what a page brings, whose holders are h -/
def gF (n x : Nat) (h : Nat → Bool) : Nat := sumN (fun s => if bit (nI s) x = true then 0 else if anyB (fun y => bit (nI s) y && h y) n = true then 0 else wF n s) (2 ^ n)
def vec (b0 b1 b2 b3 : Bool) (y : Nat) : Bool := if y = 0 then b0 else if y = 1 then b1 else if y = 2 then b2 else b3
theorem gF_all : ∀ n, n < 5 → ∀ x, x < n → ∀ b0 b1 b2 b3 : Bool, vec b0 b1 b2 b3 x = true → gF n x (vec b0 b1 b2 b3) * cntB (vec b0 b1 b2 b3) n = fct n := by decide +kernel
theorem any_congr {f g : Nat → Bool} : ∀ {n : Nat}, (∀ c, c < n → f c = g c) → anyB f n = anyB g n
  | 0, _ => rfl
  | n + 1, h => by rw [anyB, anyB, any_congr (n := n) (fun c hc => h c (by omega)), h n (by omega)]
theorem gF_eq {n x : Nat} (hn : n < 5) (hx : x < n) (h : Nat → Bool) (hh : h x = true) : gF n x h * cntB h n = fct n := by
  have hv : ∀ y, y < n → vec (h 0) (h 1) (h 2) (h 3) y = h y := by
    intro y hy
    unfold vec
    rcases (show y = 0 ∨ y = 1 ∨ y = 2 ∨ y = 3 by omega) with rfl | rfl | rfl | rfl <;> rfl
  have e1 : gF n x h = gF n x (vec (h 0) (h 1) (h 2) (h 3)) := by
    unfold gF
    refine sumN_congr fun s hs => ?_
    rw [any_congr (f := fun y => bit (nI s) y && h y) (g := fun y => bit (nI s) y && vec (h 0) (h 1) (h 2) (h 3) y) (fun y hy => by rw [hv y hy])]
  have e2 : cntB h n = cntB (vec (h 0) (h 1) (h 2) (h 3)) n := cnt_congr fun y hy => (hv y hy).symm
  rw [e1, e2]
  exact gF_all n hn x hx _ _ _ _ (by rw [hv x hx]; exact hh)
/-- the reference's sum -/
def upS (C : Cf) (N : Nt) (x : Nat) : Nat → Nat := sumN (fun s => if bit (nI s) x = true then 0 else wF (cN C) s * cntB (fun p => onS (nP N x) p && !cov N (nI s) p (cN C)) 32)
/-- the class's sum -/
def twS (C : Cf) (N : Nt) (x : Nat) : Nat → Nat := sumN (fun k => 12 / hld N (pS (nP N x) k) (cN C))
theorem hld_pos {C : Cf} {N : Nt} {x p : Nat} (hx : x < cN C) (h : onS (nP N x) p = true) : 0 < hld N p (cN C) := by
  unfold hld
  have : ∀ n, x < n → 0 < cntB (fun y => onS (nP N y) p) n := by
    intro n
    induction n with
    | zero => intro h; exact absurd h (Nat.not_lt_zero _)
    | succ n ih =>
      intro hn
      rw [cntB]
      by_cases hxn : x = n
      · subst hxn; rw [if_pos h]; omega
      · have := ih (by omega); omega
  exact this _ hx
theorem tw_pages {C : Cf} {N : Nt} {x : Nat} {w : Nat → Nat} {sh : Nat → Nat} : ∀ {n : Nat}, (∀ k, k < n → sh k < 32) → (∀ i j, i < n → j < n → sh i = sh j → i = j) → sumN (fun k => w (sh k)) n = sumN (fun p => if (pl sh p n).isSome = true then w p else 0) 32
  | 0, _, _ => (sumN_zero 32).symm
  | n + 1, h1, h2 => by
    have ih := tw_pages (C := C) (N := N) (x := x) (w := w) (sh := sh) (n := n) (fun k hk => h1 k (by omega)) (fun i j hi hj => h2 i j (by omega) (by omega))
    have hno : pl sh (sh n) n = none := pl_no fun k hk e => by have := h2 k n (by omega) (by omega) e; omega
    rw [sumN, ih]
    have e1 : w (sh n) = sumN (fun p => if p = sh n then w p else 0) 32 := (sumN_one w 32 (h1 n (by omega))).symm
    rw [e1, ← sumN_add]
    refine sumN_congr fun p hp => ?_
    show _ = if (match pl sh p n with
      | some k => some k
      | none => if sh n = p then some n else none).isSome = true then w p else 0
    by_cases hpn : p = sh n
    · subst hpn
      rw [hno, if_pos rfl, if_neg (show ¬ (none : Option Nat).isSome = true by decide)]
      dsimp only
      rw [if_pos rfl, if_pos (show (some n : Option Nat).isSome = true from rfl), Nat.zero_add]
    · rw [if_neg hpn, Nat.add_zero]
      cases pl sh p n with
      | some k => rfl
      | none => dsimp only; rw [if_neg (show ¬ sh n = p from fun e => hpn e.symm)]
theorem up_tw {C : Cf} {N : Nt} {x t : Nat} (hC : WfC C) (hw : WfN C t N) (hx : x < cN C) : upS C N x (2 ^ cN C) * 12 = twS C N x (pN (nP N x)) * fct (cN C) := by
  have hn := hC.2.2.2.2.1
  have hs := hw.shf hx
  have e1 : upS C N x (2 ^ cN C) = sumN (fun p => if onS (nP N x) p = true then gF (cN C) x (fun y => onS (nP N y) p) else 0) 32 := by
    unfold upS
    have e2 : ∀ s, (if bit (nI s) x = true then 0 else wF (cN C) s * cntB (fun p => onS (nP N x) p && !cov N (nI s) p (cN C)) 32) = sumN (fun p => if onS (nP N x) p = true then (if bit (nI s) x = true then 0 else if cov N (nI s) p (cN C) = true then 0 else wF (cN C) s) else 0) 32 := by
      intro s
      by_cases hb : bit (nI s) x = true
      · rw [if_pos hb, sumN_congr (g := fun _ => 0) (fun p _ => by rw [if_pos hb, ite_self]), sumN_zero]
      · rw [if_neg hb, cnt_sum, Nat.mul_comm, ← sumN_mul]
        refine sumN_congr fun p _ => ?_
        rw [if_neg hb]
        cases onS (nP N x) p with
        | false => rw [Bool.false_and, if_neg (by decide), if_neg (by decide), Nat.zero_mul]
        | true =>
          cases cov N (nI s) p (cN C) with
          | false => rw [if_pos (by decide), if_pos rfl, if_neg (by decide), Nat.one_mul]
          | true => rw [if_neg (by decide), if_pos rfl, if_pos rfl, Nat.zero_mul]
    rw [sumN_congr (fun s _ => e2 s), sumN_swap]
    refine sumN_congr fun p _ => ?_
    by_cases ho : onS (nP N x) p = true
    · rw [if_pos ho]
      unfold gF
      refine sumN_congr fun s _ => ?_
      rw [if_pos ho]; rfl
    · rw [if_neg ho, sumN_congr (g := fun _ => 0) (fun s _ => if_neg ho), sumN_zero]
  have e3 : twS C N x (pN (nP N x)) = sumN (fun p => if onS (nP N x) p = true then 12 / hld N p (cN C) else 0) 32 := tw_pages (C := C) (N := N) (x := x) (w := fun p => 12 / hld N p (cN C)) hs.2.2.1 hs.2.2.2
  rw [e1, e3, ← sumN_mul, ← sumN_mul]
  refine sumN_congr fun p _ => ?_
  by_cases ho : onS (nP N x) p = true
  · rw [if_pos ho, if_pos ho]
    have g1 := gF_eq (n := cN C) (x := x) (by omega) hx (fun y => onS (nP N y) p) ho
    have g2 := hld_pos hx ho
    have g3 := hld_le N p (cN C)
    have g1' : gF (cN C) x (fun y => onS (nP N y) p) * hld N p (cN C) = fct (cN C) := g1
    have g4 : hld N p (cN C) * (12 / hld N p (cN C)) = 12 := by
      rcases (show hld N p (cN C) = 1 ∨ hld N p (cN C) = 2 ∨ hld N p (cN C) = 3 ∨ hld N p (cN C) = 4 by omega) with e | e | e | e <;> rw [e]
    rw [← g1']
    generalize hld N p (cN C) = h at g4
    calc gF (cN C) x (fun y => onS (nP N y) p) * 12 = gF (cN C) x (fun y => onS (nP N y) p) * (h * (12 / h)) := by rw [g4]
      _ = 12 / h * (gF (cN C) x (fun y => onS (nP N y) p) * h) := by rw [← Nat.mul_assoc, Nat.mul_comm (12 / h)]
  · rw [if_neg ho, if_neg ho, Nat.zero_mul, Nat.zero_mul]
def aShare (C : Cf) (v u : Int32) (S : St) : Int32 := if isIn v (cN C) = true then frc (twS C S.1 v.toNatClampNeg (pN (nP S.1 v.toNatClampNeg))) 12 u else -1
theorem tw_le (C : Cf) (N : Nt) (x n : Nat) : twS C N x n ≤ 12 * n := sumN_le (fun k => Nat.div_le_self 12 _) n
theorem x7_share {I : HI} {B t : Nat} {C : Cf} {S : St} {v u : Int32} (hC : WfC C) (h : ClAt I B C S) (hw : WfS C t S) : f_X7_share I B v u = some (aShare C v u S) := by
  have hn := hC.2.2.2.2.1
  unfold f_X7_share
  rcases x1_proxyIn hC h.1 v with ⟨x, hx, rfl, e1, e2⟩ | ⟨e1, e2⟩
  · have hpx := h.1.2.2.2.2.2.2 x hx
    have hs := hw.1.shf hx
    have h9 : pN (nP S.1 x) ≤ 9 := Nat.le_trans hs.1 hs.2.1
    have hl := tw_le C S.1 x (pN (nP S.1 x))
    rw [e2, bd1s, mNs]
    unfold aShare
    rw [if_pos e1, ncl (by omega)]
    refine wl2_to (F := X7_share_B21 I B u (B + 20 + 4 + 1 + 3 * x)) (fun i => nI (twS C S.1 x i)) (fun i => nI i) (m := pN (nP S.1 x)) (fun i k hi => ?_) (fun k => ?_) (pN (nP S.1 x)) 0 5000 (by omega) (by omega)
    · have hp32 := hs.2.2.1 i hi
      have ho : onS (nP S.1 x) (pS (nP S.1 x) i) = true := by
        unfold onS
        cases hpl : pl (pS (nP S.1 x)) (pS (nP S.1 x) i) (pN (nP S.1 x)) with
        | none => exact absurd rfl (pl_none hpl i hi)
        | some _ => rfl
      have g2 := hld_pos hx ho
      have g3 := hld_le S.1 (pS (nP S.1 x) i) (cN C)
      unfold X7_share_B21 X7_share_J60
      rw [hpx.2.2.1, if_pos (show nI i < nI (pN (nP S.1 x)) by rw [nlt (by omega) (by omega)]; exact hi), x4_pageAt hpx hs hi, bd1s, x1_holders hC h.1 hw.1 hp32, bd1s, if_pos (by rw [n0pos (by omega)]; exact g2), gdt (by rw [n0eq (by omega)]; omega), i_12, div_n (by omega) (by omega), nadd, lt1s, lt1s, ninc]
      rfl
    · unfold X7_share_B21
      rw [hpx.2.2.1, if_neg (show ¬ nI (pN (nP S.1 x)) < nI (pN (nP S.1 x)) by rw [nlt (by omega) (by omega)]; omega), i_12, x7_ofFraction (by omega) (by omega) (by omega), bd1s]
  · have ea : aShare C v u S = -1 := if_neg (by rw [e1]; simp)
    rw [e2, bd1s, mNn, ea]
theorem fct_b : ∀ n, n < 5 → fct n ≤ 24 ∧ 0 < fct n := by decide
theorem had_sub {C : Cf} {N : Nt} {x t s : Nat} (hC : WfC C) (hw : WfN C t N) (hx : x < cN C) (hb : ¬ bit (nI s) x = true) : nI (pop (unn N (nI s ||| ((1 : Int32) <<< (nI x &&& 31))) (cN C))) - nI (pop (unn N (nI s) (cN C))) = nI (cntB (fun p => onS (nP N x) p && !cov N (nI s) p (cN C)) 32) := by
  have hn := hC.2.2.2.2.1
  have e : pop (unn N (nI s ||| ((1 : Int32) <<< (nI x &&& 31))) (cN C)) = pop (unn N (nI s) (cN C)) + cntB (fun p => onS (nP N x) p && !cov N (nI s) p (cN C)) 32 := by
    unfold pop
    have key : ∀ k, k ≤ 32 → cntB (bit (unn N (nI s ||| ((1 : Int32) <<< (nI x &&& 31))) (cN C))) k = cntB (bit (unn N (nI s) (cN C))) k + cntB (fun p => onS (nP N x) p && !cov N (nI s) p (cN C)) k := by
      intro k
      induction k with
      | zero => intro _; rfl
      | succ k ih =>
        intro hk
        have ih := ih (by omega)
        have e1 : cov N (nI s ||| ((1 : Int32) <<< (nI x &&& 31))) k (cN C) = (cov N (nI s) k (cN C) || onS (nP N x) k) := by
          unfold cov
          rw [Bool.eq_iff_iff, Bool.or_eq_true, anyB_iff, anyB_iff]
          constructor
          · rintro ⟨y, hy, h⟩
            rw [Bool.and_eq_true, bit_or (show y < 32 by omega), Bool.or_eq_true, bit_one (show x < 32 by omega) (show y < 32 by omega)] at h
            rcases h.1 with h1 | h1
            · exact Or.inl ⟨y, hy, by rw [h1, h.2]; rfl⟩
            · have := of_decide_eq_true h1
              subst this
              exact Or.inr h.2
          · rintro (⟨y, hy, h⟩ | h)
            · rw [Bool.and_eq_true] at h
              exact ⟨y, hy, by rw [Bool.and_eq_true, bit_or (show y < 32 by omega), h.1]; exact ⟨rfl, h.2⟩⟩
            · exact ⟨x, hx, by rw [Bool.and_eq_true, bit_or (show x < 32 by omega), bit_one (show x < 32 by omega) (show x < 32 by omega), decide_eq_true rfl]; exact ⟨Bool.or_true _, h⟩⟩
        rw [cntB, cntB, cntB, ih, unn_bit hw (show k < 32 by omega) (Nat.le_refl _), unn_bit hw (show k < 32 by omega) (Nat.le_refl _), e1]
        cases cov N (nI s) k (cN C) <;> cases onS (nP N x) k <;> simp <;> omega
    exact key 32 (Nat.le_refl _)
  rw [e, nsub (by omega)]
  congr 1
  omega
theorem r8_share {I : HI} {m t : Nat} {C : Cf} {S : St} {v u : Int32} (hC : WfC C) (h : RfAt I m C S) (hw : WfS C t S) : f_X8_share I m v u = some (aShare C v u S, sI I m 0 0) := by
  have hn := hC.2.2.2.2.1
  have hz := h.z
  unfold f_X8_share
  rw [lt1s, r8_noProxy hC hz.1.2.2.2.1, bd1s]
  cases e1 : isIn v (cN C) with
  | false =>
    have ea : aShare C v u S = -1 := if_neg (by rw [e1]; simp)
    rw [if_neg (show ¬ bZ (!false) = 0 from bZt), ea]
  | true =>
    obtain ⟨x, hx, rfl⟩ := isIn_of e1 (by omega)
    obtain ⟨b1, b2, b3⟩ := p10n (n := cN C) (by omega)
    have hs := hw.1.shf hx
    have h9 : pN (nP S.1 x) ≤ 9 := Nat.le_trans hs.1 hs.2.1
    have hl := tw_le C S.1 x (pN (nP S.1 x))
    obtain ⟨f1, f2⟩ := fct_b (cN C) (by omega)
    have hut := up_tw hC hw.1 hx
    have hub : upS C S.1 x (2 ^ cN C) * 12 ≤ 108 * 24 := by
      rw [hut]; exact Nat.mul_le_mul (by omega) f1
    have ef := frc_eq f2 (show 0 < 12 by omega) hut u
    unfold aShare
    rw [if_pos (show bZ (!true) = 0 from bZf), if_pos e1, ncl (by omega), ← ef]
    generalize sI I m 0 0 = I0 at hz
    refine wl2_to (F := X8_share_B20 I0 m (nI x) u) (fun s => nI (upS C S.1 x s)) (fun s => nI s) (m := 2 ^ cN C) (fun s k hs2 => ?_) (fun k => ?_) (2 ^ cN C) 0 5000 (by omega) (by omega)
    · have hcl := cnt_le (bit (nI s)) (cN C)
      have eu : upS C S.1 x (s + 1) = upS C S.1 x s + (if bit (nI s) x = true then 0 else wF (cN C) s * cntB (fun p => onS (nP S.1 x) p && !cov S.1 (nI s) p (cN C)) 32) := rfl
      unfold X8_share_B20 X8_share_J88
      rw [hz.1.2.2.2.1, shl_n _ (by omega), if_pos (show nI s < nI (2 ^ cN C) by rw [nlt (by omega) (by omega)]; exact hs2), r8_ones, bd1s, pop_n _ (by omega) s hs2, r8_has, bd1s, eu]
      by_cases hb : bit (nI s) x = true
      · rw [hb, if_neg bZt, if_pos rfl, lt1s, lt1s, ninc, Int32.add_zero]; rfl
      · have hlt : cntB (bit (nI s)) (cN C) < cN C := by
          have : ∀ n, x < n → cntB (bit (nI s)) n < n := by
            intro n
            induction n with
            | zero => intro h; exact absurd h (Nat.not_lt_zero _)
            | succ n ih =>
              intro hn2
              have hcn := cnt_le (bit (nI s)) n
              rw [cntB]
              by_cases hxn : x = n
              · subst hxn; rw [if_neg hb]; omega
              · have := ih (by omega)
                by_cases hbn : bit (nI s) n = true
                · rw [if_pos hbn]; omega
                · rw [if_neg hbn]; omega
          exact this _ hx
        rw [eq_false_of_ne_true hb, if_pos bZf, r8_factorial (by omega), bd1s, i_1, nsub (by omega), nsub (by omega), r8_factorial (by omega), bd1s, r8_hadBy hC hz hw, bd1s, r8_hadBy hC hz hw, bd1s, nmul, lt1s, lt1s, nadd, if_neg (by decide)]
        have hsub := had_sub hC hw.1 hx hb
        rw [i_1] at hsub
        rw [hsub, nmul, nadd]
        rfl
    · unfold X8_share_B20
      rw [hz.1.2.2.2.1, shl_n _ (by omega), if_neg (show ¬ nI (2 ^ cN C) < nI (2 ^ cN C) by rw [nlt (by omega) (by omega)]; omega), r8_factorial (by omega), bd1s, r8_fraction (by omega) (by omega) f2, bd1s]

/-! pure basics -/
theorem nlit (n : Nat) : (OfNat.ofNat n : Int32) = nI n := rfl
theorem nadd (a b : Nat) : nI a + nI b = nI (a + b) := nI_add a b
theorem nmul (a b : Nat) : nI a * nI b = nI (a * b) := (Int32.ofNat_mul a b).symm
theorem nsub {a b : Nat} (h : b ≤ a) : nI a - nI b = nI (a - b) := (Int32.ofNat_sub a b h).symm
theorem ninc (a : Nat) : nI a + 1 = nI (a + 1) := nI_add a 1
theorem ncl {n : Nat} (h : n < 2147483648) : (nI n).toNatClampNeg = n := nI_clamp h
theorem nlt {a b : Nat} (ha : a < 2147483648) (hb : b < 2147483648) : (nI a < nI b) = (a < b) := propext (nI_ltI ha hb)
theorem nle {a b : Nat} (ha : a < 2147483648) (hb : b < 2147483648) : (nI a ≤ nI b) = (a ≤ b) := propext (nI_leI ha hb)
theorem neq {a b : Nat} (ha : a < 2147483648) (hb : b < 2147483648) : (nI a = nI b) = (a = b) := propext (nI_eq ha hb)
theorem nvp {i n : Nat} (h : i < n) (hn : n < 2147483648) : vp_in (nI i) n := vp_in_nI h hn
theorem gdt {α : Type} {c : Prop} {x : Option α} (h : c) : gd c x = x := gd_pos h
theorem bd1s {α γ : Type} (a : α) (f : α → Option γ) : bd1 (some a) f = f a := rfl
theorem bd2s {α β γ : Type} (a : α) (b : β) (f : α → β → Option γ) : bd2 (some (a, b)) f = f a b := rfl
theorem bd3s {α β γ δ : Type} (a : α) (b : β) (c : γ) (f : α → β → γ → Option δ) : bd3 (some (a, b, c)) f = f a b c := rfl
theorem lt1s {α γ : Type} (v : α) (f : α → Option γ) : lt1 v f = f v := rfl
theorem mNn {γ : Type} (n : γ) (f : Nat → γ) : mN none n f = n := rfl
theorem mNs {γ : Type} (n : γ) (f : Nat → γ) (a : Nat) : mN (some a) n f = f a := rfl
theorem gv {α : Type} {i n : Nat} {x : Option α} (h : i < n) (hn : n < 2147483648) : gd (vp_in (nI i) n) x = x := gd_pos (nvp h hn)
theorem gzb0 {α : Type} {x : Option α} : gd (zb 0) x = x := gd_pos zb_0
theorem gzb1 {α : Type} {x : Option α} : gd (zb 1) x = x := gd_pos zb_1
/-- the answer "none" -/
def m9 : Int32 := -9
theorem neg9 : -nI 9 = m9 := rfl
theorem m9lt : m9 < 0 := by decide
theorem nI_m9 {k : Nat} (h : k < 2147483648) : (nI k = m9) = False := eq_false (fun e => by
  have h1 := nI_toInt (n := k) h
  rw [e] at h1
  have h2 : m9.toInt = -9 := by decide
  omega)
theorem n0lt {a : Nat} (h : a < 2147483648) : (nI a < 0) = False := eq_false (nI_pos h)
theorem n0pos {a : Nat} (h : a < 2147483648) : ((0 : Int32) < nI a) = (0 < a) := nlt (a := 0) (by omega) h
theorem n0eq {a : Nat} (h : a < 2147483648) : (nI a = 0) = (a = 0) := neq (b := 0) h (by omega)
theorem n1ne0 : ((1 : Int32) = 0) = False := eq_false (by decide)
theorem uR_eq (f : Nat → Int32) (k : Nat) (v : Int32) : uR f k v k = v := if_pos rfl
theorem uR_ne {f : Nat → Int32} {k j : Nat} {v : Int32} (h : j ≠ k) : uR f k v j = f j := if_neg h
theorem sI_eq (I : HI) (a k : Nat) (v : Int32) : sI I a k v a = uR (I a) k v := if_pos rfl
theorem sI_ne {I : HI} {a k q : Nat} {v : Int32} (h : q ≠ a) : sI I a k v q = I q := if_neg h
theorem sI_at (I : HI) (a k q j : Nat) (v : Int32) : sI I a k v q j = if q = a ∧ j = k then v else I q j := by
  unfold sI uR
  by_cases h : q = a
  · subst h
    by_cases h2 : j = k
    · subst h2; simp
    · simp [h2]
  · simp [h]
theorem i_not_lt_self (x : Int32) : ¬ x < x := by rw [Int32.lt_iff_toInt_lt]; omega
theorem rem_n {a b : Nat} (ha : a < 2147483648) (hb : b < 2147483648) (h0 : 0 < b) : jrem (nI a) (nI b) = nI (a % b) := by
  have hd : nI a / nI b = nI (a / b) := (Int32.ofNat_div ha hb).symm
  unfold jrem
  rw [hd, nmul, nsub (Nat.div_mul_le_self a b)]
  congr 1
  have := Nat.div_add_mod a b
  rw [Nat.mul_comm] at this
  omega
theorem div_n {a b : Nat} (ha : a < 2147483648) (hb : b < 2147483648) : nI a / nI b = nI (a / b) := (Int32.ofNat_div ha hb).symm
/-- what lies outside n cells from a on stays -/
def Off (I I' : HI) (a n : Nat) : Prop := ∀ q, ¬ (a ≤ q ∧ q < a + n) → I' q = I q
theorem Off.rf {I : HI} {a n : Nat} : Off I I a n := fun _ _ => rfl
theorem Off.tr {I I1 I2 : HI} {a n : Nat} (h1 : Off I I1 a n) (h2 : Off I1 I2 a n) : Off I I2 a n := fun q h => (h2 q h).trans (h1 q h)
theorem Off.wid {I I1 : HI} {a n b m : Nat} (h : Off I I1 a n) (h1 : b ≤ a) (h2 : a + n ≤ b + m) : Off I I1 b m := fun q hq => h q (by omega)
theorem Off.s {I : HI} {a n q k : Nat} {v : Int32} (h : a ≤ q ∧ q < a + n) : Off I (sI I q k v) a n := fun z hz => sI_ne (by rintro rfl; exact hz h)
theorem wl1_0 {α ρ : Type} (F : (α → Option ρ) → α → Option ρ) (N : Nat) (a : α) : wl1 F (N + 1) a = F (wl1 F N) a := rfl
/-- a loop with an invariant -/
theorem wl1_inv {α ρ : Type} {F : (α → Option ρ) → α → Option ρ} {Post : ρ → Prop} (Inv : Nat → α → Prop) {m : Nat} (hs : ∀ i (a : α), i < m → Inv i a → (∃ (a' : α), Inv (i + 1) a' ∧ ∀ k, F k a = k a') ∨ ∃ r, Post r ∧ ∀ k, F k a = some r) (he : ∀ (a : α), Inv m a → ∃ r, Post r ∧ ∀ k, F k a = some r) : ∀ (j i N : Nat) (a : α), i + j = m → j < N → Inv i a → ∃ r, Post r ∧ wl1 F N a = some r
  | 0, i, N, a, hi, hN, h => by
    obtain ⟨N, rfl⟩ : ∃ M, N = M + 1 := ⟨N - 1, by omega⟩
    rw [Nat.add_zero] at hi
    subst hi
    obtain ⟨r, hr, e⟩ := he a h
    exact ⟨r, hr, (wl1_0 F N a).trans (e _)⟩
  | j + 1, i, N, a, hi, hN, h => by
    obtain ⟨N, rfl⟩ : ∃ M, N = M + 1 := ⟨N - 1, by omega⟩
    rcases hs i a (by omega) h with ⟨a', h2, e⟩ | ⟨r, hr, e⟩
    · obtain ⟨r, hr, e2⟩ := wl1_inv Inv hs he j (i + 1) N a' (by omega) (by omega) h2
      exact ⟨r, hr, (wl1_0 F N a).trans ((e _).trans e2)⟩
    · exact ⟨r, hr, (wl1_0 F N a).trans (e _)⟩
theorem wl2_0 {α β ρ : Type} (F : (α → β → Option ρ) → α → β → Option ρ) (N : Nat) (a : α) (b : β) : wl2 F (N + 1) a b = F (wl2 F N) a b := rfl
/-- a loop with an invariant -/
theorem wl2_inv {α β ρ : Type} {F : (α → β → Option ρ) → α → β → Option ρ} {Post : ρ → Prop} (Inv : Nat → α → β → Prop) {m : Nat} (hs : ∀ i (a : α) (b : β), i < m → Inv i a b → (∃ (a' : α) (b' : β), Inv (i + 1) a' b' ∧ ∀ k, F k a b = k a' b') ∨ ∃ r, Post r ∧ ∀ k, F k a b = some r) (he : ∀ (a : α) (b : β), Inv m a b → ∃ r, Post r ∧ ∀ k, F k a b = some r) : ∀ (j i N : Nat) (a : α) (b : β), i + j = m → j < N → Inv i a b → ∃ r, Post r ∧ wl2 F N a b = some r
  | 0, i, N, a, b, hi, hN, h => by
    obtain ⟨N, rfl⟩ : ∃ M, N = M + 1 := ⟨N - 1, by omega⟩
    rw [Nat.add_zero] at hi
    subst hi
    obtain ⟨r, hr, e⟩ := he a b h
    exact ⟨r, hr, (wl2_0 F N a b).trans (e _)⟩
  | j + 1, i, N, a, b, hi, hN, h => by
    obtain ⟨N, rfl⟩ : ∃ M, N = M + 1 := ⟨N - 1, by omega⟩
    rcases hs i a b (by omega) h with ⟨a', b', h2, e⟩ | ⟨r, hr, e⟩
    · obtain ⟨r, hr, e2⟩ := wl2_inv Inv hs he j (i + 1) N a' b' (by omega) (by omega) h2
      exact ⟨r, hr, (wl2_0 F N a b).trans ((e _).trans e2)⟩
    · exact ⟨r, hr, (wl2_0 F N a b).trans (e _)⟩
theorem wl3_0 {α β γ ρ : Type} (F : (α → β → γ → Option ρ) → α → β → γ → Option ρ) (N : Nat) (a : α) (b : β) (c : γ) : wl3 F (N + 1) a b c = F (wl3 F N) a b c := rfl
/-- a loop with an invariant -/
theorem wl3_inv {α β γ ρ : Type} {F : (α → β → γ → Option ρ) → α → β → γ → Option ρ} {Post : ρ → Prop} (Inv : Nat → α → β → γ → Prop) {m : Nat} (hs : ∀ i (a : α) (b : β) (c : γ), i < m → Inv i a b c → (∃ (a' : α) (b' : β) (c' : γ), Inv (i + 1) a' b' c' ∧ ∀ k, F k a b c = k a' b' c') ∨ ∃ r, Post r ∧ ∀ k, F k a b c = some r) (he : ∀ (a : α) (b : β) (c : γ), Inv m a b c → ∃ r, Post r ∧ ∀ k, F k a b c = some r) : ∀ (j i N : Nat) (a : α) (b : β) (c : γ), i + j = m → j < N → Inv i a b c → ∃ r, Post r ∧ wl3 F N a b c = some r
  | 0, i, N, a, b, c, hi, hN, h => by
    obtain ⟨N, rfl⟩ : ∃ M, N = M + 1 := ⟨N - 1, by omega⟩
    rw [Nat.add_zero] at hi
    subst hi
    obtain ⟨r, hr, e⟩ := he a b c h
    exact ⟨r, hr, (wl3_0 F N a b c).trans (e _)⟩
  | j + 1, i, N, a, b, c, hi, hN, h => by
    obtain ⟨N, rfl⟩ : ∃ M, N = M + 1 := ⟨N - 1, by omega⟩
    rcases hs i a b c (by omega) h with ⟨a', b', c', h2, e⟩ | ⟨r, hr, e⟩
    · obtain ⟨r, hr, e2⟩ := wl3_inv Inv hs he j (i + 1) N a' b' c' (by omega) (by omega) h2
      exact ⟨r, hr, (wl3_0 F N a b c).trans ((e _).trans e2)⟩
    · exact ⟨r, hr, (wl3_0 F N a b c).trans (e _)⟩
theorem wl4_0 {α β γ δ ρ : Type} (F : (α → β → γ → δ → Option ρ) → α → β → γ → δ → Option ρ) (N : Nat) (a : α) (b : β) (c : γ) (d : δ) : wl4 F (N + 1) a b c d = F (wl4 F N) a b c d := rfl
/-- a loop with an invariant -/
theorem wl4_inv {α β γ δ ρ : Type} {F : (α → β → γ → δ → Option ρ) → α → β → γ → δ → Option ρ} {Post : ρ → Prop} (Inv : Nat → α → β → γ → δ → Prop) {m : Nat} (hs : ∀ i (a : α) (b : β) (c : γ) (d : δ), i < m → Inv i a b c d → (∃ (a' : α) (b' : β) (c' : γ) (d' : δ), Inv (i + 1) a' b' c' d' ∧ ∀ k, F k a b c d = k a' b' c' d') ∨ ∃ r, Post r ∧ ∀ k, F k a b c d = some r) (he : ∀ (a : α) (b : β) (c : γ) (d : δ), Inv m a b c d → ∃ r, Post r ∧ ∀ k, F k a b c d = some r) : ∀ (j i N : Nat) (a : α) (b : β) (c : γ) (d : δ), i + j = m → j < N → Inv i a b c d → ∃ r, Post r ∧ wl4 F N a b c d = some r
  | 0, i, N, a, b, c, d, hi, hN, h => by
    obtain ⟨N, rfl⟩ : ∃ M, N = M + 1 := ⟨N - 1, by omega⟩
    rw [Nat.add_zero] at hi
    subst hi
    obtain ⟨r, hr, e⟩ := he a b c d h
    exact ⟨r, hr, (wl4_0 F N a b c d).trans (e _)⟩
  | j + 1, i, N, a, b, c, d, hi, hN, h => by
    obtain ⟨N, rfl⟩ : ∃ M, N = M + 1 := ⟨N - 1, by omega⟩
    rcases hs i a b c d (by omega) h with ⟨a', b', c', d', h2, e⟩ | ⟨r, hr, e⟩
    · obtain ⟨r, hr, e2⟩ := wl4_inv Inv hs he j (i + 1) N a' b' c' d' (by omega) (by omega) h2
      exact ⟨r, hr, (wl4_0 F N a b c d).trans ((e _).trans e2)⟩
    · exact ⟨r, hr, (wl4_0 F N a b c d).trans (e _)⟩
theorem wl5_0 {α β γ δ ε ρ : Type} (F : (α → β → γ → δ → ε → Option ρ) → α → β → γ → δ → ε → Option ρ) (N : Nat) (a : α) (b : β) (c : γ) (d : δ) (p : ε) : wl5 F (N + 1) a b c d p = F (wl5 F N) a b c d p := rfl
/-- a loop with an invariant -/
theorem wl5_inv {α β γ δ ε ρ : Type} {F : (α → β → γ → δ → ε → Option ρ) → α → β → γ → δ → ε → Option ρ} {Post : ρ → Prop} (Inv : Nat → α → β → γ → δ → ε → Prop) {m : Nat} (hs : ∀ i (a : α) (b : β) (c : γ) (d : δ) (p : ε), i < m → Inv i a b c d p → (∃ (a' : α) (b' : β) (c' : γ) (d' : δ) (p' : ε), Inv (i + 1) a' b' c' d' p' ∧ ∀ k, F k a b c d p = k a' b' c' d' p') ∨ ∃ r, Post r ∧ ∀ k, F k a b c d p = some r) (he : ∀ (a : α) (b : β) (c : γ) (d : δ) (p : ε), Inv m a b c d p → ∃ r, Post r ∧ ∀ k, F k a b c d p = some r) : ∀ (j i N : Nat) (a : α) (b : β) (c : γ) (d : δ) (p : ε), i + j = m → j < N → Inv i a b c d p → ∃ r, Post r ∧ wl5 F N a b c d p = some r
  | 0, i, N, a, b, c, d, p, hi, hN, h => by
    obtain ⟨N, rfl⟩ : ∃ M, N = M + 1 := ⟨N - 1, by omega⟩
    rw [Nat.add_zero] at hi
    subst hi
    obtain ⟨r, hr, e⟩ := he a b c d p h
    exact ⟨r, hr, (wl5_0 F N a b c d p).trans (e _)⟩
  | j + 1, i, N, a, b, c, d, p, hi, hN, h => by
    obtain ⟨N, rfl⟩ : ∃ M, N = M + 1 := ⟨N - 1, by omega⟩
    rcases hs i a b c d p (by omega) h with ⟨a', b', c', d', p', h2, e⟩ | ⟨r, hr, e⟩
    · obtain ⟨r, hr, e2⟩ := wl5_inv Inv hs he j (i + 1) N a' b' c' d' p' (by omega) (by omega) h2
      exact ⟨r, hr, (wl5_0 F N a b c d p).trans ((e _).trans e2)⟩
    · exact ⟨r, hr, (wl5_0 F N a b c d p).trans (e _)⟩
theorem wl6_0 {α β γ δ ε ζ ρ : Type} (F : (α → β → γ → δ → ε → ζ → Option ρ) → α → β → γ → δ → ε → ζ → Option ρ) (N : Nat) (a : α) (b : β) (c : γ) (d : δ) (p : ε) (q : ζ) : wl6 F (N + 1) a b c d p q = F (wl6 F N) a b c d p q := rfl
/-- a loop with an invariant -/
theorem wl6_inv {α β γ δ ε ζ ρ : Type} {F : (α → β → γ → δ → ε → ζ → Option ρ) → α → β → γ → δ → ε → ζ → Option ρ} {Post : ρ → Prop} (Inv : Nat → α → β → γ → δ → ε → ζ → Prop) {m : Nat} (hs : ∀ i (a : α) (b : β) (c : γ) (d : δ) (p : ε) (q : ζ), i < m → Inv i a b c d p q → (∃ (a' : α) (b' : β) (c' : γ) (d' : δ) (p' : ε) (q' : ζ), Inv (i + 1) a' b' c' d' p' q' ∧ ∀ k, F k a b c d p q = k a' b' c' d' p' q') ∨ ∃ r, Post r ∧ ∀ k, F k a b c d p q = some r) (he : ∀ (a : α) (b : β) (c : γ) (d : δ) (p : ε) (q : ζ), Inv m a b c d p q → ∃ r, Post r ∧ ∀ k, F k a b c d p q = some r) : ∀ (j i N : Nat) (a : α) (b : β) (c : γ) (d : δ) (p : ε) (q : ζ), i + j = m → j < N → Inv i a b c d p q → ∃ r, Post r ∧ wl6 F N a b c d p q = some r
  | 0, i, N, a, b, c, d, p, q, hi, hN, h => by
    obtain ⟨N, rfl⟩ : ∃ M, N = M + 1 := ⟨N - 1, by omega⟩
    rw [Nat.add_zero] at hi
    subst hi
    obtain ⟨r, hr, e⟩ := he a b c d p q h
    exact ⟨r, hr, (wl6_0 F N a b c d p q).trans (e _)⟩
  | j + 1, i, N, a, b, c, d, p, q, hi, hN, h => by
    obtain ⟨N, rfl⟩ : ∃ M, N = M + 1 := ⟨N - 1, by omega⟩
    rcases hs i a b c d p q (by omega) h with ⟨a', b', c', d', p', q', h2, e⟩ | ⟨r, hr, e⟩
    · obtain ⟨r, hr, e2⟩ := wl6_inv Inv hs he j (i + 1) N a' b' c' d' p' q' (by omega) (by omega) h2
      exact ⟨r, hr, (wl6_0 F N a b c d p q).trans ((e _).trans e2)⟩
    · exact ⟨r, hr, (wl6_0 F N a b c d p q).trans (e _)⟩
theorem wl7_0 {α β γ δ ε ζ η ρ : Type} (F : (α → β → γ → δ → ε → ζ → η → Option ρ) → α → β → γ → δ → ε → ζ → η → Option ρ) (N : Nat) (a : α) (b : β) (c : γ) (d : δ) (p : ε) (q : ζ) (s : η) : wl7 F (N + 1) a b c d p q s = F (wl7 F N) a b c d p q s := rfl
/-- a loop with an invariant -/
theorem wl7_inv {α β γ δ ε ζ η ρ : Type} {F : (α → β → γ → δ → ε → ζ → η → Option ρ) → α → β → γ → δ → ε → ζ → η → Option ρ} {Post : ρ → Prop} (Inv : Nat → α → β → γ → δ → ε → ζ → η → Prop) {m : Nat} (hs : ∀ i (a : α) (b : β) (c : γ) (d : δ) (p : ε) (q : ζ) (s : η), i < m → Inv i a b c d p q s → (∃ (a' : α) (b' : β) (c' : γ) (d' : δ) (p' : ε) (q' : ζ) (s' : η), Inv (i + 1) a' b' c' d' p' q' s' ∧ ∀ k, F k a b c d p q s = k a' b' c' d' p' q' s') ∨ ∃ r, Post r ∧ ∀ k, F k a b c d p q s = some r) (he : ∀ (a : α) (b : β) (c : γ) (d : δ) (p : ε) (q : ζ) (s : η), Inv m a b c d p q s → ∃ r, Post r ∧ ∀ k, F k a b c d p q s = some r) : ∀ (j i N : Nat) (a : α) (b : β) (c : γ) (d : δ) (p : ε) (q : ζ) (s : η), i + j = m → j < N → Inv i a b c d p q s → ∃ r, Post r ∧ wl7 F N a b c d p q s = some r
  | 0, i, N, a, b, c, d, p, q, s, hi, hN, h => by
    obtain ⟨N, rfl⟩ : ∃ M, N = M + 1 := ⟨N - 1, by omega⟩
    rw [Nat.add_zero] at hi
    subst hi
    obtain ⟨r, hr, e⟩ := he a b c d p q s h
    exact ⟨r, hr, (wl7_0 F N a b c d p q s).trans (e _)⟩
  | j + 1, i, N, a, b, c, d, p, q, s, hi, hN, h => by
    obtain ⟨N, rfl⟩ : ∃ M, N = M + 1 := ⟨N - 1, by omega⟩
    rcases hs i a b c d p q s (by omega) h with ⟨a', b', c', d', p', q', s', h2, e⟩ | ⟨r, hr, e⟩
    · obtain ⟨r, hr, e2⟩ := wl7_inv Inv hs he j (i + 1) N a' b' c' d' p' q' s' (by omega) (by omega) h2
      exact ⟨r, hr, (wl7_0 F N a b c d p q s).trans ((e _).trans e2)⟩
    · exact ⟨r, hr, (wl7_0 F N a b c d p q s).trans (e _)⟩
theorem i_0 : (0 : Int32) = nI 0 := rfl
theorem i_1 : (1 : Int32) = nI 1 := rfl
theorem i_2 : (2 : Int32) = nI 2 := rfl
theorem i_3 : (3 : Int32) = nI 3 := rfl
theorem i_4 : (4 : Int32) = nI 4 := rfl
theorem i_5 : (5 : Int32) = nI 5 := rfl
theorem i_6 : (6 : Int32) = nI 6 := rfl
theorem i_7 : (7 : Int32) = nI 7 := rfl
theorem i_8 : (8 : Int32) = nI 8 := rfl
theorem i_9 : (9 : Int32) = nI 9 := rfl
theorem i_10 : (10 : Int32) = nI 10 := rfl
theorem i_11 : (11 : Int32) = nI 11 := rfl
theorem i_12 : (12 : Int32) = nI 12 := rfl
theorem i_13 : (13 : Int32) = nI 13 := rfl
theorem i_14 : (14 : Int32) = nI 14 := rfl
theorem i_15 : (15 : Int32) = nI 15 := rfl
theorem i_16 : (16 : Int32) = nI 16 := rfl
theorem i_17 : (17 : Int32) = nI 17 := rfl
theorem i_18 : (18 : Int32) = nI 18 := rfl
theorem i_19 : (19 : Int32) = nI 19 := rfl
theorem i_23 : (23 : Int32) = nI 23 := rfl
theorem i_26 : (26 : Int32) = nI 26 := rfl
theorem i_27 : (27 : Int32) = nI 27 := rfl
theorem i_28 : (28 : Int32) = nI 28 := rfl
theorem i_29 : (29 : Int32) = nI 29 := rfl
theorem i_31 : (31 : Int32) = nI 31 := rfl
theorem i_32 : (32 : Int32) = nI 32 := rfl
theorem i_33 : (33 : Int32) = nI 33 := rfl
theorem i_37 : (37 : Int32) = nI 37 := rfl
theorem i_48 : (48 : Int32) = nI 48 := rfl
theorem i_78 : (78 : Int32) = nI 78 := rfl
theorem i_100 : (100 : Int32) = nI 100 := rfl
theorem i_104 : (104 : Int32) = nI 104 := rfl
theorem i_112 : (112 : Int32) = nI 112 := rfl
theorem i_115 : (115 : Int32) = nI 115 := rfl
theorem i_116 : (116 : Int32) = nI 116 := rfl
theorem i_117 : (117 : Int32) = nI 117 := rfl
theorem i_118 : (118 : Int32) = nI 118 := rfl
theorem i_119 : (119 : Int32) = nI 119 := rfl
theorem i_120 : (120 : Int32) = nI 120 := rfl
theorem i_121 : (121 : Int32) = nI 121 := rfl
theorem i_255 : (255 : Int32) = nI 255 := rfl
theorem i_1000 : (1000 : Int32) = nI 1000 := rfl
theorem i_10000 : (10000 : Int32) = nI 10000 := rfl
theorem i_100000 : (100000 : Int32) = nI 100000 := rfl
theorem i_5000 : (5000 : Int32) = nI 5000 := rfl
theorem ndec {n : Nat} (h : 0 < n) : nI n + -nI 1 = nI (n - 1) := by rw [← Int32.sub_eq_add_neg, nsub h]
theorem ndec' {n : Nat} (h : 0 < n) : nI n - nI 1 = nI (n - 1) := nsub h

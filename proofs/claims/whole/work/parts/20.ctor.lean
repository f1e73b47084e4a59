/-! constructors: the world while it is made: the object at a with its fields, behind it the cells by their codes, one address each -/
def eC (G : GX) (k : Nat) (a : Nat) : va_E :=
  if k < 20000 then eR ((fun _ => k), G.2) (fun _ => 0) 0 a
  else if k < 20100 then .inl (gcP G, 4, .inr (.inr (.inr (.inr (fun i => if i < k - 20000 then some (a + 1 + 3 * i) else none)))))
  else if k < 20200 then .inl (gcN G, 14, .inr (.inr (.inr (.inr (fun i => if i < k - 20100 then some (a + 1 + 17 * i) else none)))))
  else if k < 20300 then .inl (gcN G, 2, .inr (.inr (.inr (.inr (fun i => if i < k - 20200 then some (a + 10 + 17 * i) else none)))))
  else .inl (gcI G, 3, .inl (fun i => if i = 0 then 1 else 0))
def cs (G : GX) : Nat → List Nat → va_W
  | _, [] => []
  | b, k :: t => (b, eC G k b) :: cs G (b + 1) t
theorem cs_len (G : GX) : ∀ (l : List Nat) (b : Nat), (cs G b l).length = l.length
  | [], _ => rfl
  | _ :: t, b => congrArg (· + 1) (cs_len G t (b + 1))
theorem cs_get (G : GX) : ∀ (l : List Nat) (b j k : Nat), l[j]? = some k → (cs G b l)[j]? = some (b + j, eC G k (b + j))
  | [], b, j, k, h => by simp at h
  | x :: t, b, 0, k, h => by simp at h; subst h; rfl
  | x :: t, b, j + 1, k, h => by
    have h1 := cs_get G t (b + 1) j k (by simpa using h)
    rw [cs, List.getElem?_cons_succ, h1, show b + 1 + j = b + (j + 1) by omega]
theorem cs_adr (G : GX) : ∀ (l : List Nat) (b j : Nat) (q : Nat × va_E), (cs G b l)[j]? = some q → q.1 = b + j
  | [], b, j, q, h => by simp [cs] at h
  | x :: t, b, 0, q, h => by simp [cs] at h; subst h; rfl
  | x :: t, b, j + 1, q, h => by
    rw [cs, List.getElem?_cons_succ] at h
    have := cs_adr G t (b + 1) j q h
    omega
theorem cs_app (G : GX) : ∀ (l m : List Nat) (b : Nat), cs G b (l ++ m) = cs G b l ++ cs G (b + l.length) m
  | [], m, b => rfl
  | x :: t, m, b => by
    rw [List.cons_append, cs, cs_app G t m (b + 1), cs, List.cons_append, List.length_cons, show b + 1 + t.length = b + (t.length + 1) by omega]
theorem cs_set (G : GX) : ∀ (l : List Nat) (b j k : Nat), (cs G b l).set j (b + j, eC G k (b + j)) = cs G b (l.set j k)
  | [], b, j, k => by simp [cs]
  | x :: t, b, 0, k => rfl
  | x :: t, b, j + 1, k => by
    have h1 := cs_set G t (b + 1) j k
    rw [show b + 1 + j = b + (j + 1) by omega] at h1
    rw [cs, List.set_cons_succ, h1, List.set_cons_succ, cs]
/-- the world of a constructor -/
def CWs (G : GX) (a ci : Nat) (fs : List Value) (kl : List Nat) : va_W := (a, .inr (ci, fs)) :: cs G (a + 1) kl
theorem CWs_D {G : GX} {a ci : Nat} {fs : List Value} {kl : List Nat} : va_D (fun q => a ≤ q) (CWs G a ci fs kl) := by
  have key : ∀ (k : Nat) (q : Nat × va_E), (CWs G a ci fs kl)[k]? = some q → q.1 = a + k := by
    intro k q h
    cases k with
    | zero => simp [CWs] at h; subst h; rfl
    | succ k => rw [CWs, List.getElem?_cons_succ] at h; have := cs_adr G _ _ _ _ h; omega
  exact ⟨fun i j p q hi hj e => by have := key i p hi; have := key j q hj; omega, fun k q h => by have := key k q h; omega⟩
def CW (G : GX) (a ci : Nat) (fs : List Value) (kl : List Nat) (H : Heap) : Prop := H.size = a + 1 + kl.length ∧ va_P (gD G) vwCl (CWs G a ci fs kl) H
def KC (G : GX) (U : State) : Prop := (va_K (gD G) vwCl (gT G) U ∧ NW U) ∧ va_AO "ShelfFilters$Proxy" U ∧ va_AO "ShelfFilters$Net" U
def OKC (X : CX) (cc : ByteArray) (own : String) (d loc nL mc ms a : Nat) : Prop :=
  (xp X).tables.exec = Jvm.exec ∧ (xc X).code = cc ∧ (xc X).maxLocals = nL ∧ (xs X).vm.findClass own = some (xm X).cls ∧ (∀ w ∈ gTbl, w.before (xa X) (xs X) = true) ∧ KC (xG X) (xs X) ∧ (xA X = fun q => a ≤ q) ∧ (xM X).name = "<init>" ∧ xN X = nL ∧ d ≤ (xR X).frames ∧ loc ≤ (xR X).locals ∧ mc ≤ (xR X).cells ∧ ms ≤ (xR X).slots ∧ (xs X).heap.size ≤ a + 1
/-- the machine at a place, over any world -/
def VO (X : CX) (k n : Nat) (Ω : Heap → Prop) (pc : Nat) (lv : List (Option Value)) (st : List Value) : Prop := ∀ (H : Heap) (locs : List Loc) (ls : Array Slot), Ω H → va_S (xA X) (xs X).heap H locs → lvH ls (xN X) lv → W (xp X) (xl X) (xe X) (xR X) (xs X) (xm X) (xa X) (xb X) (xM X) (xc X) H locs k n (xQ X) (F0 (xm X) pc ls st)
section CRows
variable {X : CX} {k n : Nat} {Ω : Heap → Prop} {pc : Nat} {lv : List (Option Value)} {st : List Value} {cc : ByteArray} {own : String} {d loc nL mc ms a : Nat}
theorem o_iconst (hX : OKC X cc own d loc nL mc ms a) {n1 : Int} {v : Int32} (hd : decode cc pc = .ok (.iconst n1, 1)) (hv : Int32.ofInt n1 = v) (kk : VO X k n Ω (pc + 1) lv (.int v :: st)) : VO X k n Ω pc lv st := by
  obtain ⟨hx, hb, -⟩ := hX
  intro H locs ls hW hS hl
  exact lv_iconst hx hb hd hv (kk H locs ls hW hS hl)
theorem o_bipush (hX : OKC X cc own d loc nL mc ms a) {n1 : Int} {v : Int32} (hd : decode cc pc = .ok (.bipush n1, 2)) (hv : (Int8.ofInt n1).toInt32 = v) (kk : VO X k n Ω (pc + 2) lv (.int v :: st)) : VO X k n Ω pc lv st := by
  obtain ⟨hx, hb, -⟩ := hX
  intro H locs ls hW hS hl
  exact lv_bipush hx hb hd hv (kk H locs ls hW hS hl)
theorem o_sipush (hX : OKC X cc own d loc nL mc ms a) {n1 : Int} {v : Int32} (hd : decode cc pc = .ok (.sipush n1, 3)) (hv : (Int16.ofInt n1).toInt32 = v) (kk : VO X k n Ω (pc + 3) lv (.int v :: st)) : VO X k n Ω pc lv st := by
  obtain ⟨hx, hb, -⟩ := hX
  intro H locs ls hW hS hl
  exact lv_sipush hx hb hd hv (kk H locs ls hW hS hl)
theorem o_lconst (hX : OKC X cc own d loc nL mc ms a) {n1 : Fin 2} {v : Int64} (hd : decode cc pc = .ok (.lconst n1, 1)) (hv : Int64.ofNat (n1 : Nat) = v) (kk : VO X k n Ω (pc + 1) lv (.long v :: st)) : VO X k n Ω pc lv st := by
  obtain ⟨hx, hb, -⟩ := hX
  intro H locs ls hW hS hl
  exact lv_lconst hx hb hd hv (kk H locs ls hW hS hl)
theorem o_aload_n (hX : OKC X cc own d loc nL mc ms a) {j : Fin 4} {x : Nat} (hd : decode cc pc = .ok (.aload_n j, 1)) (h : lv[(j : Nat)]? = some (some (.ref x))) (kk : VO X k n Ω (pc + 1) lv (.ref x :: st)) : VO X k n Ω pc lv st := by
  obtain ⟨hx, hb, -⟩ := hX
  intro H locs ls hW hS hl
  exact lv_aload_n hx hb hd rfl (hl.at h) (kk H locs ls hW hS hl)
theorem o_iload_n (hX : OKC X cc own d loc nL mc ms a) {j : Fin 4} {x : Int32} (hd : decode cc pc = .ok (.iload_n j, 1)) (h : lv[(j : Nat)]? = some (some (.int x))) (kk : VO X k n Ω (pc + 1) lv (.int x :: st)) : VO X k n Ω pc lv st := by
  obtain ⟨hx, hb, -⟩ := hX
  intro H locs ls hW hS hl
  exact lv_iload_n hx hb hd rfl (hl.at h) (kk H locs ls hW hS hl)
theorem o_istore_n (hX : OKC X cc own d loc nL mc ms a) {j : Fin 4} {x : Int32} (hd : decode cc pc = .ok (.istore_n j, 1)) (hn : Nat.blt j nL = true) (hc : c1 lv j = true) (kk : VO X k n Ω (pc + 1) (lv.set j (some (.int x))) st) : VO X k n Ω pc lv (.int x :: st) := by
  obtain ⟨hx, hb, -, -, -, -, -, -, hN, -⟩ := hX
  intro H locs ls hW hS hl
  have hl0 : lv_has ls (xN X) (lvA 0 lv) := hl
  exact lv_istore_n hx hb hd rfl hl0 (by rw [hN]; exact Nat.le_of_ble_eq_true hn) rfl (fun ls2 h2 => kk H locs ls2 hW hS (lvH.set1 hc h2))
theorem o_iinc (hX : OKC X cc own d loc nL mc ms a) {i : Nat} {n1 : Int} {x x' : Int32} (hd : decode cc pc = .ok (.iinc i n1, 3)) (hv : x + Int32.ofInt n1 = x') (h : lv[i]? = some (some (.int x))) (hn : Nat.blt i nL = true) (hc : c1 lv i = true) (kk : VO X k n Ω (pc + 3) (lv.set i (some (.int x'))) st) : VO X k n Ω pc lv st := by
  obtain ⟨hx, hb, -, -, -, -, -, -, hN, -⟩ := hX
  intro H locs ls hW hS hl
  have hl0 : lv_has ls (xN X) (lvA 0 lv) := hl
  obtain ⟨j, hj⟩ := List.getElem?_of_mem ((lvA_mem lv 0 i (.int x)).mpr ⟨Nat.zero_le _, h⟩)
  exact lv_iinc hx hb hd hl0 hj hv (by rw [hN]; exact Nat.le_of_ble_eq_true hn) rfl (fun ls2 h2 => kk H locs ls2 hW hS (lvH.set1 hc h2))
theorem o_goto (hX : OKC X cc own d loc nL mc ms a) {off : Int} {tgt : Nat} (hd : decode cc pc = .ok (.goto off, 3)) (ht : (pc : Int) + off = (tgt : Int)) (kk : VO X k n Ω tgt lv st) : VO X k n Ω pc lv st := by
  obtain ⟨hx, hb, -⟩ := hX
  intro H locs ls hW hS hl
  exact lv_goto hx hb hd ht (kk H locs ls hW hS hl)
theorem o_icmp_ge_f (hX : OKC X cc own d loc nL mc ms a) {x y : Int32} {off : Int} {tgt : Nat} (hd : decode cc pc = .ok (.if_icmp .ge off, 3)) (ht : (pc : Int) + off = (tgt : Int)) (h : ¬ y ≤ x) (kk : VO X k n Ω (pc + 3) lv st) : VO X k n Ω pc lv (.int y :: .int x :: st) := by
  obtain ⟨hx, hb, -⟩ := hX
  intro H locs ls hW hS hl
  exact lv_icmp_ge hx hb hd ht (fun c => absurd c h) (fun _ => kk H locs ls hW hS hl)
theorem o_icmp_ge_t (hX : OKC X cc own d loc nL mc ms a) {x y : Int32} {off : Int} {tgt : Nat} (hd : decode cc pc = .ok (.if_icmp .ge off, 3)) (ht : (pc : Int) + off = (tgt : Int)) (h : y ≤ x) (kk : VO X k n Ω tgt lv st) : VO X k n Ω pc lv (.int y :: .int x :: st) := by
  obtain ⟨hx, hb, -⟩ := hX
  intro H locs ls hW hS hl
  exact lv_icmp_ge hx hb hd ht (fun _ => kk H locs ls hW hS hl) (fun c => absurd h c)
theorem o_objInit (hX : OKC X cc own d loc nL mc ms a) {idx b : Nat} (hl0 : Cond.methodLink own idx objectInit ∈ gTbl) (hd : decode cc pc = .ok (.invokespecial idx, 3)) (h1 : Nat.ble 1 d = true) (h2 : Nat.ble ((st.map fun v => v.category).sum + 12) loc = true) (kk : VO X k n Ω (pc + 3) lv st) : VO X k n Ω pc lv (.ref b :: st) := by
  obtain ⟨hx, hb, hml, ho, hts, -, -, -, hN, hfr, hlo, -⟩ := hX
  intro H locs ls hW hS hl
  have h2' : (st.map fun v => v.category).sum + 12 ≤ loc := Nat.le_of_ble_eq_true h2
  refine W.objInit hx hb ho (hts _ hl0) (hts _ oi_inst) (hts _ oi_code) rfl (by rw [hml]; exact hl.1.trans hN) rfl hd (Nat.le_trans (Nat.le_of_ble_eq_true h1) hfr) ?_ (kk H locs ls hW hS hl)
  show 2 * 0 + _ + 12 ≤ _
  omega
end CRows
section CRows2
variable {X : CX} {k n : Nat} {fs : List Value} {kl : List Nat} {ci : Nat} {pc : Nat} {lv : List (Option Value)} {st : List Value} {cc : ByteArray} {own : String} {d loc nL mc ms a : Nat}
theorem o_putF (hX : OKC X cc own d loc nL mc ms a) {j idx : Nat} {C : String} {T : u_T} {N : Nat} {ty0 : Nat → FieldType} {ty : FieldType} {v : Value} (hC : CPk ci C T N ty0) (hlink : Cond.fieldLink own idx (T j).1 (T j).2.1 (T j).2.2.1 ∈ gTbl) (hj : Nat.blt j N = true) (hfin : (T j).2.2.2 = true) (hdecl : (T j).1 = own) (hty : parseFieldDescriptor (T j).2.2.1 = some ty) (hn : narrow ty v = v) (hfit : fits ty v = true) (hlen : Nat.blt j fs.length = true) (hd : decode cc pc = .ok (.putfield idx, 3)) (kk : VO X k n (CW (xG X) a ci (fs.set j v) kl) (pc + 3) lv st) : VO X k n (CW (xG X) a ci fs kl) pc lv (v :: .ref a :: st) := by
  obtain ⟨hx, hb, -, ho, hts, ⟨⟨hK, -⟩, -⟩, hA, hin, -⟩ := hX
  intro H locs ls hW hS hl
  obtain ⟨hz, hP⟩ := hW
  rw [hA] at hS
  have hjN : j < N := Nat.le_of_ble_eq_true hj
  obtain ⟨r, e1, cell, q1, q2, q3, q4⟩ := hP 0 _ (show (CWs (xG X) a ci fs kl)[0]? = some (a, .inr (ci, fs)) from rfl)
  cases Option.some.inj (e1.symm.trans hC.1)
  have hap := va_apart (own := own) hts hC.2.1 ty0 hC.2.2.1 hC.2.2.2 hK hC.1
  obtain ⟨hSl, hfc, kC, hkC, hkind⟩ := hK.1 ci _ hC.1
  obtain ⟨cf, kf, fi, f, hi, hsl⟩ := hSl j hjN
  have hlay := hts _ (hC.2.1 _ (u_in_lay hjN))
  unfold u_lay at hlay
  rw [if_pos hfin] at hlay
  have hcf : (xm X).cls = cf := by
    obtain ⟨_, _, c', _, _, _, -, -, hf', -, -, -, hown2, -⟩ := Cond.laysFinal_spec hlay
    have e2 := hi.symm.trans hf'
    simp at e2
    rw [hdecl] at hown2
    rw [e2.1]
    exact Option.some.inj (ho.symm.trans hown2)
  refine W.putFinK hx hb ho (hts _ hlink) hi (u_facts hfc hkC (u_lays hts hC.2.1 hjN) hi).1 hcf hin (by rw [q2]; exact u_fits hfc hkC hkind (Or.inr hlay) hi hty hn hfit) q1 q3 (by rw [hsl]; exact k2_hasslot (q4 j hjN)) rfl rfl hd fun H' g1 g2 g3 => ?_
  rw [hsl] at g1 ⊢
  refine kk H' _ ls ⟨by rw [g2]; exact hz, ?_⟩ (by rw [hA]; exact hS.put g2 g3 (Nat.le_refl a)) hl
  exact va_P.set (A := fun q => a ≤ q) (p := 0) hP CWs_D rfl ⟨_, hC.1, t_OB.to (V := updV (vp_V fs) j v) ⟨_, g1, q2, q3, t_set q4 hap hjN v⟩ (fun i _ => vp_updV_set (Nat.le_of_ble_eq_true hlen) v i)⟩ g3
theorem o_put (hX : OKC X cc own d loc nL mc ms a) {j idx : Nat} {C : String} {T : u_T} {N : Nat} {ty0 : Nat → FieldType} {ty : FieldType} {v : Value} (hC : CPk ci C T N ty0) (hlink : Cond.fieldLink own idx (T j).1 (T j).2.1 (T j).2.2.1 ∈ gTbl) (hj : Nat.blt j N = true) (hfin : (T j).2.2.2 = false) (hty : parseFieldDescriptor (T j).2.2.1 = some ty) (hn : narrow ty v = v) (hfit : fits ty v = true) (hlen : Nat.blt j fs.length = true) (hd : decode cc pc = .ok (.putfield idx, 3)) (kk : VO X k n (CW (xG X) a ci (fs.set j v) kl) (pc + 3) lv st) : VO X k n (CW (xG X) a ci fs kl) pc lv (v :: .ref a :: st) := by
  obtain ⟨hx, hb, -, ho, hts, ⟨⟨hK, -⟩, -⟩, hA, hin, -⟩ := hX
  intro H locs ls hW hS hl
  obtain ⟨hz, hP⟩ := hW
  rw [hA] at hS
  have hjN : j < N := Nat.le_of_ble_eq_true hj
  obtain ⟨r, e1, cell, q1, q2, q3, q4⟩ := hP 0 _ (show (CWs (xG X) a ci fs kl)[0]? = some (a, .inr (ci, fs)) from rfl)
  cases Option.some.inj (e1.symm.trans hC.1)
  have hap := va_apart (own := own) hts hC.2.1 ty0 hC.2.2.1 hC.2.2.2 hK hC.1
  obtain ⟨hSl, hfc, kC, hkC, hkind⟩ := hK.1 ci _ hC.1
  obtain ⟨cf, kf, fi, f, hi, hsl⟩ := hSl j hjN
  have hlay := hts _ (hC.2.1 _ (u_in_lay hjN))
  unfold u_lay at hlay
  rw [if_neg (by rw [hfin]; decide)] at hlay
  refine W.putK hx hb (f := f) ⟨ho, hts _ hlink, ⟨_, _, _, hi⟩, (u_facts hfc hkC (u_lays hts hC.2.1 hjN) hi).1⟩ (by rw [q2]; exact u_store hfc hkC hkind hlay hi hty hn hfit) q1 q3 (by rw [hsl]; exact k2_hasslot (q4 j hjN)) rfl rfl hd fun H' g1 g2 g3 => ?_
  rw [hsl] at g1 ⊢
  refine kk H' _ ls ⟨by rw [g2]; exact hz, ?_⟩ (by rw [hA]; exact hS.put g2 g3 (Nat.le_refl a)) hl
  exact va_P.set (A := fun q => a ≤ q) (p := 0) hP CWs_D rfl ⟨_, hC.1, t_OB.to (V := updV (vp_V fs) j v) ⟨_, g1, q2, q3, t_set q4 hap hjN v⟩ (fun i _ => vp_updV_set (Nat.le_of_ble_eq_true hlen) v i)⟩ g3
theorem o_get (hX : OKC X cc own d loc nL mc ms a) {j idx : Nat} {C : String} {T : u_T} {N : Nat} {ty0 : Nat → FieldType} {v : Value} (hC : CPk ci C T N ty0) (hlink : Cond.fieldLink own idx (T j).1 (T j).2.1 (T j).2.2.1 ∈ gTbl) (hj : Nat.blt j N = true) (hv : fs[j]? = some v) (hd : decode cc pc = .ok (.getfield idx, 3)) (kk : VO X k n (CW (xG X) a ci fs kl) (pc + 3) lv (v :: st)) : VO X k n (CW (xG X) a ci fs kl) pc lv (.ref a :: st) := by
  obtain ⟨hx, hb, -, ho, hts, ⟨⟨hK, -⟩, -⟩, -⟩ := hX
  intro H locs ls hW hS hl
  exact va_get hx hb hts hC.2.1 ho hK hW.2 0 rfl hC.1 j (Nat.le_of_ble_eq_true hj) (hts _ hlink) (fun _ h => h) hv hd (kk H locs ls hW hS hl)
theorem CW_at {G : GX} {H : Heap} (h : CW G a ci fs kl H) {j c : Nat} (hj : kl[j]? = some c) : (CWs G a ci fs kl)[j + 1]? = some (a + 1 + j, eC G c (a + 1 + j)) := by
  rw [CWs, List.getElem?_cons_succ]; exact cs_get G kl (a + 1) j c hj
theorem o_qlen (hX : OKC X cc own d loc nL mc ms a) (j c t0 : Nat) {b : Nat} {cA : ClassId} {x : vp_A} {ty : FieldType} {v : Int32} (hb0 : b = a + 1 + j) (hj : kl[j]? = some c) (he : eC (xG X) c (a + 1 + j) = .inl (cA, x)) (ht : (gT (xG X))[t0]? = some (cA, ty)) (hv : Int32.ofNat x.1 = v) (hd : decode cc pc = .ok (.arraylength, 1)) (kk : VO X k n (CW (xG X) a ci fs kl) (pc + 1) lv (.int v :: st)) : VO X k n (CW (xG X) a ci fs kl) pc lv (.ref b :: st) := by
  obtain ⟨hx, hb, -, ho, hts, ⟨⟨hK, -⟩, -⟩, -⟩ := hX
  intro H locs ls hW hS hl
  subst hb0
  have h1 := CW_at hW hj
  rw [he] at h1
  exact va_alen hx hb hK hW.2 (j + 1) t0 h1 ht hv hd (kk H locs ls hW hS hl)
/-- behind a cell that came: the world with it -/
theorem CW_push {G : GX} {H H1 : Heap} (hW : CW G a ci fs kl H) {c : Nat} (hz : H1.size = H.size + 1) (ho : ∀ q, q < H.size → H1[q]? = H[q]?) (he : va_at (gD G) vwCl (H.size, eC G c H.size) H1) : CW G a ci fs (kl ++ [c]) H1 := by
  obtain ⟨z, hP⟩ := hW
  refine ⟨by rw [hz, z, List.length_append]; rfl, ?_⟩
  have e : CWs G a ci fs (kl ++ [c]) = CWs G a ci fs kl ++ [(H.size, eC G c H.size)] := by
    rw [CWs, cs_app, ← z]; rfl
  rw [e]
  refine (hP.kept (fun k x hx => ho x.1 ((hP k x hx).lt))).app (fun k x hx => ?_)
  have hk : k < 1 := (List.getElem?_eq_some_iff.mp hx).1
  rw [show k = 0 by omega] at hx
  cases hx
  exact he
theorem o_newa (hX : OKC X cc own d loc nL mc ms a) {atype : ArrayType} {n1 : Int32} {N c : Nat} (harr : Cond.arrayClass (newarray.typeOf atype) ∈ gTbl) (cA : ClassId) (t0 : Nat) (ht : (gT (xG X))[t0]? = some (cA, newarray.typeOf atype)) (hnr : ∀ C, newarray.typeOf atype ≠ .object C) (he : ∀ q, eC (xG X) c q = .inl (cA, N, .inl (fun _ => 0))) (hdf : defaultValue (newarray.typeOf atype) = .int 0) (hn : ¬ n1 < 0) (hN : n1.toNatClampNeg = N) (hbytes : N * componentBytes (newarray.typeOf atype) ≤ 536870912) (hk : Nat.ble (k + 1) mc = true) (hs : Nat.ble (n + N) ms = true) (hd : decode cc pc = .ok (.newarray atype, 2)) (kk : VO X (k + 1) (n + N) (CW (xG X) a ci fs (kl ++ [c])) (pc + 2) lv (.ref (a + 1 + kl.length) :: st)) : VO X k n (CW (xG X) a ci fs kl) pc lv (.int n1 :: st) := by
  obtain ⟨hx, hb, -, ho, hts, ⟨⟨hK, -⟩, -⟩, hA, -, -, -, -, hmc, hms, hsz⟩ := hX
  intro H locs ls hW hS hl
  refine va_newaK hx hb (hts _ harr) rfl hd rfl hn hN hbytes (Nat.le_trans (Nat.le_of_ble_eq_true hk) hmc) (Nat.le_trans (Nat.le_of_ble_eq_true hs) hms) hW.1 fun H1 cA' e1 z1 o1 hAr hNm => ?_
  have hcA : cA' = cA := by
    have h2 := (hK.2 t0 _ ht).2
    unfold va_RA at h2
    split at h2
    · next C hC => exact absurd hC (hnr C)
    · exact Option.some.inj (hNm.symm.trans h2)
  subst hcA
  refine kk H1 locs ls (CW_push hW (by rw [z1, hW.1]) (by rw [hW.1]; exact o1) ?_) ⟨Nat.le_trans hS.1 (by rw [z1, hW.1]; omega), fun q h1 h2 => (o1 q (by rw [← hW.1]; exact Nat.lt_of_lt_of_le h1 hS.1)).trans (hS.2.1 q h1 h2), hS.2.2⟩ hl
  rw [he, hW.1]
  show H1[_]? = some (vp_cell _ _)
  rw [e1, vp_cell_i, hdf]
theorem o_newq (hX : OKC X cc own d loc nL mc ms a) {C : String} {idx : Nat} {n1 : Int32} {N c : Nat} (hcl : Cond.classLink own idx C ∈ gTbl) (hAO : KC (xG X) (xs X) → va_AO C (xs X)) (cA : ClassId) (t0 : Nat) (ht : (gT (xG X))[t0]? = some (cA, .object C)) (he : ∀ q, ∃ g : Nat → Nat, eC (xG X) c q = .inl (cA, N, .inr (.inr (.inr (.inr (fun i => if i < 0 then some (g i) else none)))))) (hn : ¬ n1 < 0) (hN : n1.toNatClampNeg = N) (hbytes : N * 4 ≤ 536870912) (hk : Nat.ble (k + 1) mc = true) (hs : Nat.ble (n + N) ms = true) (hd : decode cc pc = .ok (.anewarray idx, 3)) (kk : VO X (k + 1) (n + N) (CW (xG X) a ci fs (kl ++ [c])) (pc + 3) lv (.ref (a + 1 + kl.length) :: st)) : VO X k n (CW (xG X) a ci fs kl) pc lv (.int n1 :: st) := by
  obtain ⟨hx, hb, -, ho, hts, hKC, hA, -, -, -, -, hmc, hms, hsz⟩ := hX
  have hK := hKC.1.1
  intro H locs ls hW hS hl
  subst hN
  refine W.anew hx hb ho (hts _ hcl) (va_AO.use (hAO hKC)) rfl hd rfl hn hbytes (Nat.le_trans (Nat.le_of_ble_eq_true hk) hmc) (Nat.le_trans (Nat.le_of_ble_eq_true hs) hms) fun cA' kA comp f1 f2 f3 f4 => ?_
  have hcA : cA' = cA := by
    obtain ⟨-, -, -, -, -, h2⟩ := (hK.2 t0 _ ht).2
    exact Option.some.inj (f1.symm.trans h2)
  subst hcA
  generalize hH1 : H.push ({ cls := cA', slots := Array.replicate n1.toNatClampNeg .null, vm := .none } : Cell) = H1
  have z1 : H1.size = H.size + 1 := by rw [← hH1, Array.size_push]
  have e1 : H1[H.size]? = some (arrV cA' n1.toNatClampNeg (fun _ => .null)) := by rw [← hH1, Array.getElem?_push_size, ← arrV_new]
  have o1 : ∀ q : Nat, q < H.size → H1[q]? = H[q]? := fun q hq => by rw [← hH1, Array.getElem?_push, if_neg (Nat.ne_of_lt hq)]
  rw [show H.size = a + 1 + kl.length from hW.1]
  refine kk H1 locs ls (CW_push hW z1 o1 ?_) ⟨Nat.le_trans hS.1 (by rw [z1]; omega), fun q h1 h2 => (o1 q (Nat.lt_of_lt_of_le h1 hS.1)).trans (hS.2.1 q h1 h2), hS.2.2⟩ hl
  obtain ⟨g, hg⟩ := he H.size
  rw [hg]
  show H1[_]? = some (vp_cell _ _)
  rw [e1, vp_cell_q]
  congr 2
end CRows2
theorem ast_f {t v : Nat} {g : Nat → Nat} (hv : v = g t) (q : Nat) : va_up (fun i => if i < t then some (g i) else none) t (some v) q = (fun i => if i < t + 1 then some (g i) else none) q := by
  show (if q = t then some v else if q < t then some (g q) else none) = if q < t + 1 then some (g q) else none
  by_cases h : q = t
  · subst h; rw [if_pos rfl, if_pos (Nat.lt_succ_self _), hv]
  · rw [if_neg h]
    by_cases h2 : q < t
    · rw [if_pos h2, if_pos (by omega)]
    · rw [if_neg h2, if_neg (by omega)]
/-- a constructor's end -/
def QC (G : GX) (a : Nat) (kc : List Nat) : Array Value → State → Outcome → State → Prop := fun _ s0 oc t => oc = .returned none ∧ t.heap.size = a + kc.length ∧ va_P (gD G) vwCl (cs G a kc) t.heap ∧ va_F (fun q => a ≤ q) s0 t
/-- what a constructor says: the object at a, of the class ci with its fields as they were made, becomes the cells kc from a on -/
def CtrC (G : GX) (l : Launch) (z : MethodName) (bytes : ByteArray) (maxL d loc ci : Nat) (fs0 : List Value) (mc ms : Nat) (kc : List Nat) : Prop := ∀ a : Nat,
  Met l z (.code z bytes maxL none :: gTbl) { frames := d, cells := mc, slots := ms, locals := loc } (va_Pc [.ref a] (fun U => KC G U ∧ U.heap.size = a + 1 ∧ va_P (gD G) vwCl [(a, .inr (ci, fs0))] U.heap)) (QC G a kc) mc ms (fun q => a ≤ q)
theorem KC.warm {G : GX} {s U : State} (hW : s.WarmedH U.vm) (h : KC G s) : KC G U := ⟨⟨va_K.moved hW.alike h.1.1, NW.warm hW h.1.2⟩, va_AO.moved hW.alike h.2.1, va_AO.moved hW.alike h.2.2⟩
theorem KC.call {G : GX} {U : State} (h : KC G U) (g : JFrame) (mk : MethodId) (as : Array Value) : KC G (U.calling g mk as) := ⟨⟨va_K.moved (u := U) (U := U.calling g mk as) (Vm.Alike.refl U.vm) h.1.1, fun w hw => va_Nw.same rfl (u := U) (U := U.calling g mk as) rfl (h.1.2 w hw)⟩, va_AO.moved (u := U) (U := U.calling g mk as) (Vm.Alike.refl U.vm) h.2.1, va_AO.moved (u := U) (U := U.calling g mk as) (Vm.Alike.refl U.vm) h.2.2⟩
section CRows3
variable {X : CX} {k n : Nat} {fs : List Value} {kl : List Nat} {ci : Nat} {pc : Nat} {lv : List (Option Value)} {st : List Value} {cc : ByteArray} {own : String} {d loc nL mc ms a : Nat}
theorem o_newC (hX : OKC X cc own d loc nL mc ms a) {ci2 N maxL dz locz mcz msz idx1 idx2 : Nat} {C : String} {T : u_T} {ty : Nat → FieldType} {z : MethodName} {bytes : ByteArray} {fs0 : List Value} {kc : List Nat} (hC : CPk ci2 C T N ty) (hcl : Cond.classLink own idx1 C ∈ gTbl) (hit : Cond.instantiable C N ∈ gTbl) (hini : Cond.initialized C ∈ gTbl) (hfs : ∀ j, j < N → defaultValue (ty j) = vp_V fs0 j) (hcon : CtrC (xG X) (xl X) z bytes maxL dz locz ci2 fs0 mcz msz kc) (hcode : Cond.code z bytes maxL none ∈ gTbl) (hinst : Cond.instanceMethod z ∈ gTbl) (hlink : Cond.methodLink own idx2 z ∈ gTbl ∨ ∃ j : Nat, nwL[j]? = some (own, idx2, z, "ShelfFilters")) (hy1 : z.name = "<init>") (hzc : z.cls = C) (hz2 : z.cls ≠ "java/lang/invoke/MethodHandle" ∧ z.cls ≠ "java/lang/invoke/VarHandle" ∧ (parseMethodDescriptor z.desc).map (fun d => d.parameters.length) = some 0) (hkc : kc.length = mcz + 1)
    (hr : (Nat.ble (dz + 1) d && Nat.ble (8 + (maxL + 11) + locz) loc) = true) (hk : Nat.ble (k + 1 + mcz) mc = true) (hs : Nat.ble (n + N + msz) ms = true) (hw : Nat.ble ((Value.ref 0 :: st).map fun v => v.category).sum 8 = true) (hd1 : decode cc pc = .ok (.new idx1, 3)) (hd2 : decode cc (pc + 3) = .ok (.dup, 1)) (hd3 : decode cc (pc + 3 + 1) = .ok (.invokespecial idx2, 3)) (kk : VO X (k + 1 + mcz) (n + N + msz) (CW (xG X) a ci fs (kl ++ kc)) (pc + 3 + 1 + 3) lv (.ref (a + 1 + kl.length) :: st)) : VO X k n (CW (xG X) a ci fs kl) pc lv st := by
  obtain ⟨hx, hb, hml, ho, hts, hKC, hA, -, hN, hfr, hlo, hmc, hms, hsz⟩ := hX
  have hK := hKC.1.1
  rw [Bool.and_eq_true] at hr
  have hr1 := Nat.le_of_ble_eq_true hr.1
  have hr2 := Nat.le_of_ble_eq_true hr.2
  have hk1 : k + 1 + mcz ≤ mc := Nat.le_of_ble_eq_true hk
  have hs1 : n + N + msz ≤ ms := Nat.le_of_ble_eq_true hs
  intro H locs ls hW hS hl
  have hKn := hK.1 ci2 _ hC.1
  refine W.newcK hx hb ho (hts _ hcl) (hts _ hit) (hts _ hini) rfl hd1 (by omega) (by omega) hKn.2.1 rfl fun H1 kC hkC e1 z1 o1 => ?_
  refine lv_dup hx hb hd2 rfl ?_
  have hat : va_at (gD (xG X)) vwCl (H.size, .inr (ci2, fs0)) H1 := ⟨_, hC.1, (u_born ty hts hC.2.1 hKn hkC e1 hC.2.2.1).to hfs⟩
  have hb1 : va_P (gD (xG X)) vwCl [(H.size, .inr (ci2, fs0))] H1 := fun j x hx => by
    have hj : j < 1 := (List.getElem?_eq_some_iff.mp hx).1
    rw [show j = 0 by omega] at hx
    cases hx
    exact hat
  have hbl : FrameBlind (va_Pc [.ref H.size] (fun U => KC (xG X) U ∧ U.heap.size = H.size + 1 ∧ va_P (gD (xG X)) vwCl [(H.size, .inr (ci2, fs0))] U.heap)) := fun as U g mk q => ⟨q.1, q.2.1.call g mk as, q.2.2⟩
  have hpre : PreS (xs X) H1 (va_Pc [.ref H.size] (fun U => KC (xG X) U ∧ U.heap.size = H.size + 1 ∧ va_P (gD (xG X)) vwCl [(H.size, .inr (ci2, fs0))] U.heap)) [.ref H.size] := ⟨hbl, fun U hU hWU => ⟨rfl, hKC.warm hWU, by rw [hU]; exact z1, by rw [hU]; exact hb1⟩⟩
  have hini2 : Cond.initialized z.cls ∈ gTbl := by rw [hzc]; exact hini
  have hrun : va_Run (xp X) (xl X) (xe X) (xR X) (xs X) (xm X) (xa X) (xb X) (xM X) (xc X) H1 locs (k + 1) (n + N) mcz msz (F0 (xm X) (pc + 3 + 1) ls (.ref H.size :: .ref H.size :: st)) (.ref H.size :: st) (QC (xG X) H.size kc [Value.ref H.size].toArray) (fun q => H.size ≤ q) := by
    rcases hlink with hlink | ⟨j, hj⟩
    · exact va_runI (As := []) (rest := .ref H.size :: st) (R := xR X) ⟨hx, hb, hml, ho, hts⟩ (hcon H.size) (cwI 0 hts (gCode hcode) rfl rfl rfl (hts _ hini2) (hts _ hlink) (hts _ hinst) hy1 hz2 ⟨Nat.le_trans hr1 hfr, Nat.le_trans hr2 hlo⟩) hpre rfl rfl (hl.1.trans hN) rfl (lv_room (Nat.le_of_ble_eq_true hw)) hd3 ⟨by omega, by omega⟩
    · exact va_runIN (As := []) (rest := .ref H.size :: st) (R := xR X) ⟨hx, hb, hml, ho, hts⟩ (hcon H.size) ⟨va_cnB 0 hts (gCode hcode) rfl rfl rfl (hKC.1.2 _ (List.mem_of_getElem? hj)) (hts _ hini2) hz2 ⟨Nat.le_trans hr1 hfr, Nat.le_trans hr2 hlo⟩, hy1, hts _ hinst⟩ hpre rfl rfl (hl.1.trans hN) rfl (lv_room (Nat.le_of_ble_eq_true hw)) hd3 ⟨by omega, by omega⟩
  intro T hT Xs
  obtain ⟨v, s0, t, T', L, h0, X', hL, e2, e3, ⟨hv, hz3, hP3, hF⟩, stp⟩ := hrun T hT Xs
  cases hv
  obtain ⟨hz, hq⟩ := hF
  rw [h0] at hz hq
  have hle : a ≤ H.size := by rw [hW.1]; omega
  obtain ⟨t2, a1, b1⟩ := kk T'.heap (locs ++ L) ls (by
      rw [e2]
      refine ⟨by rw [hz3, hW.1, List.length_append]; omega, ?_⟩
      have e : CWs (xG X) a ci fs (kl ++ kc) = CWs (xG X) a ci fs kl ++ cs (xG X) H.size kc := by rw [CWs, cs_app, ← hW.1]; rfl
      rw [e]
      exact (hW.2.kept (fun j x hx => by
        have h1 := (hW.2 j x hx).lt
        rw [hq x.1 (by rw [z1]; omega) (by omega)]
        exact o1 x.1 h1)).app hP3)
    ⟨Nat.le_trans hS.1 (by rw [e2, hz3]; omega), fun q h1 h2 => by
      rw [hA] at h2
      have h3 : q < H.size := by omega
      rw [e2, hq q (by rw [z1]; omega) (by omega), o1 q h3]
      exact hS.2.1 q h1 (by rw [hA]; exact h2), fun q hq => by
        rcases List.mem_append.mp hq with h | h
        · exact hS.2.2 q h
        · rw [hA]; exact Nat.le_trans hle (hL q h)⟩ hl T' rfl X'
  rw [← hW.1] at a1
  exact ⟨t2, stp t2 a1, b1⟩
theorem o_aast (hX : OKC X cc own d loc nL mc ms a) (j c c' jv cv t0 ci2 : Nat) {b v N : Nat} {cA : ClassId} {f f' : Nat → Option Nat} {r : vw_C} {vs : List Value} {i : Int32} (hb0 : b = a + 1 + j) (hj : kl[j]? = some c) (he : eC (xG X) c (a + 1 + j) = .inl (cA, N, .inr (.inr (.inr (.inr f))))) (ht : (gT (xG X))[t0]? = some (cA, .object r.1)) (hv0 : v = a + 1 + jv) (hjv : kl[jv]? = some cv) (hev : eC (xG X) cv (a + 1 + jv) = .inr (ci2, vs)) (hc : vwCl[ci2]? = some r) (hin : vp_in i N) (he2 : eC (xG X) c' (a + 1 + j) = .inl (cA, N, .inr (.inr (.inr (.inr f'))))) (hf : ∀ q, va_up f i.toNatClampNeg (some (a + 1 + jv)) q = f' q) (hd : decode cc pc = .ok (.aastore, 1)) (kk : VO X k n (CW (xG X) a ci fs (kl.set j c')) (pc + 1) lv st) : VO X k n (CW (xG X) a ci fs kl) pc lv (.ref v :: .int i :: .ref b :: st) := by
  obtain ⟨hx, hb, -, ho, hts, ⟨⟨hK, -⟩, -⟩, hA, -⟩ := hX
  intro H locs ls hW hS hl
  subst hb0
  have h1 := CW_at hW hj
  rw [he] at h1
  have h2 := CW_at hW hjv
  rw [hev] at h2
  have hlt : i.toNatClampNeg < N := vp_in_lt hin
  have hcls := (hK.1 ci2 r hc).2
  obtain ⟨kA, comp, k1, k2, k3, -⟩ := (hK.2 t0 _ ht).2
  cases Option.some.inj (k3.symm.trans hcls.1)
  obtain ⟨kC, hkC, -⟩ := hcls.2
  obtain ⟨r', hr', cellV, g1, g2, g3, -⟩ := hW.2 _ _ h2
  have hca : H[a + 1 + j]? = some (vp_cell cA (N, .inr (.inr (.inr (.inr f))))) := hW.2 _ _ h1
  refine W.aast hx hb hca (fun q h => by cases h) (fun h => by cases h) k1 k2 rfl hkC ⟨fun q => hin (Or.inl q), by show _ < (arrV _ _ _).slots.size; rw [arrV_size]; exact hlt⟩ (by rw [hv0]; exact g1) (fun q h => by rw [g3] at h; cases h) (by rw [g2]; exact hkC) (by rw [g2]; exact va_assign hcls) rfl rfl hd fun H1 e z oq => ?_
  refine kk H1 _ ls ⟨by rw [z, hW.1, List.length_set], ?_⟩ (by rw [hA]; rw [hA] at hS; exact hS.put z oq (by omega)) hl
  have h3 := va_P.set (A := fun q => a ≤ q) hW.2 CWs_D h1 (e := eC (xG X) c' (a + 1 + j)) (H1 := H1) (by
    rw [he2]
    show H1[_]? = some (vp_cell _ _)
    rw [e, vp_cell_q, vp_cell_q, arrV_store]
    congr 2
    funext q
    rw [← hf q, ← hv0]
    by_cases hq : q = i.toNatClampNeg
    · subst hq
      simp [updV, va_up, va_rf]
    · simp [updV, va_up, hq]) oq
  rw [CWs, List.set_cons_succ, cs_set] at h3
  exact h3
end CRows3
theorem ctrC_of {G : GX} {l : Launch} {z : MethodName} {cc : ByteArray} {maxL d loc ci kd mc ms : Nat} {fs0 : List Value} {klE : List Nat} (hy : plainName z.cls = true) (hin : z.name = "<init>") (hm : Nat.ble 1 maxL = true) (hkd : kd = ci + 1) (h10 : Nat.blt kd 10 = true) (lv0 : List (Option Value)) (hlv : lv0 = some (.ref 0) :: lv0.tail) (hln : ∀ a : Nat, lvA 0 (some (.ref a) :: lv0.tail) = [(0, .ref a)])
    (body : ∀ (a : Nat) (X : CX), xG X = G → xl X = l → OKC X cc z.cls d loc maxL mc ms a → (∀ pc lv, decode cc pc = .ok (.return_, 1) → VO X mc ms (CW G a ci (fsR (fun _ => 0) 0 a kd) klE) pc lv []) → VO X 0 0 (CW G a ci fs0 []) 0 (some (.ref a) :: lv0.tail) []) : CtrC G l z cc maxL d loc ci fs0 mc ms (kd :: klE) := by
  intro a
  refine Met.ofW (cc := cc) (maxL := maxL) (ret := none) hy rfl ?_
  intro p e s m args below meth c s₁ B hml hv
  obtain ⟨rfl, hKC, hsz, hP⟩ := hv
  have hts := atoms_spec (ws := .code z cc maxL none :: gTbl) B.pre
  have hX : OKC (G, l, p, e, { frames := d, cells := mc, slots := ms, locals := loc }, s, m, [Value.ref a].toArray, below, meth, c, MQ below (QC G a (kd :: klE)) [Value.ref a].toArray s mc ms (fun q => a ≤ q), (fun q => a ≤ q), 0, 0, maxL) cc z.cls d loc maxL mc ms a :=
    ⟨B.exec, B.bytes, hml, findClass_of_methodNamed B.named, fun w h => hts w (List.mem_cons_of_mem _ h), hKC, rfl, (name_of_methodNamed B.named B.method).1.trans hin, rfl, Nat.le_refl _, Nat.le_refl _, Nat.le_refl _, Nat.le_refl _, by show s.heap.size ≤ a + 1; omega⟩
  have hb := body a _ rfl rfl hX (by
    intro pc lv hd H locs ls hW hS hl
    have hS' : va_S (fun q => a ≤ q) s.heap H locs := hS
    exact W.vret (Qc := QC G a (kd :: klE)) (free := fun q => a ≤ q) B.exec B.bytes B.returns (fun t ht hWt => ⟨rfl, by rw [ht, hW.1, List.length_cons]; omega, by
      rw [ht, cs, show eC G kd a = .inr (ci, fsR (fun _ => 0) 0 a kd) by
        have h3 : kd < 20000 := Nat.lt_trans (Nat.le_of_ble_eq_true h10) (by decide)
        unfold eC
        rw [if_pos h3]
        exact eR_cls (G := ((fun _ => kd), G.2)) rfl hkd h10]
      exact hW.2, hS'.F ht⟩) hS'.2.2 hd B.notSynchronized)
  have hl := lv_entry [Value.ref a] (n := maxL) (Nat.le_of_ble_eq_true hm)
  rw [lg_entry_eq]
  rw [show lv_args 0 [Value.ref a] = lvA 0 (some (.ref a) :: lv0.tail) from (hln a).symm] at hl
  exact hb s.heap [] _ ⟨hsz, hP⟩ va_S.rf hl

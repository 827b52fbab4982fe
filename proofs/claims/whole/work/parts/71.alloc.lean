/-! constructors: the machine in a method that makes cells; the world is a list -/
abbrev czE : Type := Program × Launch × Env × State × MethodId × Array Value × List Frame × Method × Code × va_G × (Nat → ClassId) × (Nat → Prop) × (State → Prop)
def nestL : List (String × Nat × MethodName) := [("OneLeg", 9, yX2_init), ("OneLeg$House", 26, yX3_init), ("OneLeg", 18, yX5_init), ("OneLeg$Thought", 34, yX5_init), ("OneLeg", 44, yX1_init), ("OneLeg", 51, yX0_init), ("OneLeg", 62, yX4_init)]
def NB (U : State) : Prop := (∀ q ∈ nestL, va_Nw (.methodLinkNest q.1 q.2.1 q.2.2 "OneLeg") U) ∧ va_AO "OneLeg$Standing" U ∧ va_AO "OneLeg$Shelf" U
theorem NB.warm {s U : State} (hW : s.WarmedH U.vm) (h : NB s) : NB U := ⟨fun q hq => va_Nw.warmM hW (h.1 q hq), va_AO.moved hW.alike h.2.1, va_AO.moved hW.alike h.2.2⟩
theorem NB.same {s U : State} (e : s.vm = U.vm) (h : NB s) : NB U := ⟨fun q hq => va_Nw.same rfl e (h.1 q hq), va_AO.moved (by rw [e]; exact Vm.Alike.refl _) h.2.1, va_AO.moved (by rw [e]; exact Vm.Alike.refl _) h.2.2⟩
def czX (E : czE) (y : MethodName) (cc : ByteArray) (nL : Nat) (ret : Option FieldType) : Prop := match E with
  | (p, _, _, s, m, args, _, meth, c, D, tc, A, _) => p.tables.exec = Jvm.exec ∧ c.code = cc ∧ meth.sig.returnType = ret ∧ c.maxLocals = nL ∧ s.vm.findClass y.cls = some m.cls ∧ (∀ w ∈ rfG, w.before args s = true) ∧ meth.locks = false ∧ va_K D vwCl (rfT tc) s ∧ (∀ q : Nat, s.heap.size ≤ q → A q) ∧ NB s
def czI (E : czE) : Prop := match E with
  | (_, _, _, _, _, _, _, meth, _, _, _, _, _) => meth.name = "<init>"
def czT (E : czE) : Nat → ClassId := E.2.2.2.2.2.2.2.2.2.2.1
def Cz (R : Room) (E : czE) (nL pc : Nat) (ls : List (Nat × Value)) (st : List Value) (ws : va_W) (k n : Nat) : Prop := match E with
  | (p, l, e, s, m, args, below, meth, c, D, _, A, Q) => ∀ (H : Heap) (locs : List Loc) (la : Array Slot), va_P D vwCl ws H → va_D A ws → va_S A s.heap H locs → lv_has la nL ls → W p l e R s m args below meth c H locs k n Q (F0 m pc la st)
section CzRules
variable {R : Room} {E : czE} {y : MethodName} {cc : ByteArray} {nL pc pc2 : Nat} {ret : Option FieldType} {ls ls2 : List (Nat × Value)} {st : List Value} {ws ws2 : va_W} {k n : Nat}
theorem Cz_aload_n (X : czX E y cc nL ret) {t : Fin 4} {i j x : Nat} (hi : (t : Nat) = i) (hj : ls[j]? = some (i, .ref x)) (hd : decode cc pc = .ok (.aload_n t, 1)) (hp : pc + 1 = pc2) (kk : Cz R E nL pc2 ls (.ref x :: st) ws k n) : Cz R E nL pc ls st ws k n := by
  subst hp
  obtain ⟨p, l, e, s, m, args, below, meth, c, D, tc, A, Q⟩ := E
  intro H locs la hP hD hS hl
  exact lv_aload_n X.1 X.2.1 hd hi (lv_at hl j hj) (kk H locs la hP hD hS hl)
theorem Cz_iload_n (X : czX E y cc nL ret) {t : Fin 4} {i j : Nat} {x : Int32} (hi : (t : Nat) = i) (hj : ls[j]? = some (i, .int x)) (hd : decode cc pc = .ok (.iload_n t, 1)) (hp : pc + 1 = pc2) (kk : Cz R E nL pc2 ls (.int x :: st) ws k n) : Cz R E nL pc ls st ws k n := by
  subst hp
  obtain ⟨p, l, e, s, m, args, below, meth, c, D, tc, A, Q⟩ := E
  intro H locs la hP hD hS hl
  exact lv_iload_n X.1 X.2.1 hd hi (lv_at hl j hj) (kk H locs la hP hD hS hl)
theorem Cz_iconst (X : czX E y cc nL ret) {z : Int} {v : Int32} (hv : Int32.ofInt z = v) (hd : decode cc pc = .ok (.iconst z, 1)) (hp : pc + 1 = pc2) (kk : Cz R E nL pc2 ls (.int v :: st) ws k n) : Cz R E nL pc ls st ws k n := by
  subst hp
  obtain ⟨p, l, e, s, m, args, below, meth, c, D, tc, A, Q⟩ := E
  intro H locs la hP hD hS hl
  exact lv_iconst X.1 X.2.1 hd hv (kk H locs la hP hD hS hl)
theorem Cz_bipush (X : czX E y cc nL ret) {z : Int} {v : Int32} (hv : (Int8.ofInt z).toInt32 = v) (hd : decode cc pc = .ok (.bipush z, 2)) (hp : pc + 2 = pc2) (kk : Cz R E nL pc2 ls (.int v :: st) ws k n) : Cz R E nL pc ls st ws k n := by
  subst hp
  obtain ⟨p, l, e, s, m, args, below, meth, c, D, tc, A, Q⟩ := E
  intro H locs la hP hD hS hl
  exact lv_bipush X.1 X.2.1 hd hv (kk H locs la hP hD hS hl)
theorem Cz_sipush (X : czX E y cc nL ret) {z : Int} {v : Int32} (hv : (Int16.ofInt z).toInt32 = v) (hd : decode cc pc = .ok (.sipush z, 3)) (hp : pc + 3 = pc2) (kk : Cz R E nL pc2 ls (.int v :: st) ws k n) : Cz R E nL pc ls st ws k n := by
  subst hp
  obtain ⟨p, l, e, s, m, args, below, meth, c, D, tc, A, Q⟩ := E
  intro H locs la hP hD hS hl
  exact lv_sipush X.1 X.2.1 hd hv (kk H locs la hP hD hS hl)
theorem Cz_dup (X : czX E y cc nL ret) {a : Value} (ha : a.category = 1) (hd : decode cc pc = .ok (.dup, 1)) (hp : pc + 1 = pc2) (kk : Cz R E nL pc2 ls (a :: a :: st) ws k n) : Cz R E nL pc ls (a :: st) ws k n := by
  subst hp
  obtain ⟨p, l, e, s, m, args, below, meth, c, D, tc, A, Q⟩ := E
  intro H locs la hP hD hS hl
  exact lv_dup X.1 X.2.1 hd ha (kk H locs la hP hD hS hl)
theorem Cz_goto (X : czX E y cc nL ret) {off : Int} {tgt : Nat} (hd : decode cc pc = .ok (.goto off, 3)) (ht : (pc : Int) + off = (tgt : Int)) (kk : Cz R E nL tgt ls st ws k n) : Cz R E nL pc ls st ws k n := by
  obtain ⟨p, l, e, s, m, args, below, meth, c, D, tc, A, Q⟩ := E
  intro H locs la hP hD hS hl
  exact lv_goto X.1 X.2.1 hd ht (kk H locs la hP hD hS hl)
theorem Cz_geT (X : czX E y cc nL ret) {x z : Int32} {off : Int} {tgt : Nat} (h : z ≤ x) (hd : decode cc pc = .ok (.if_icmp .ge off, 3)) (ht : (pc : Int) + off = (tgt : Int)) (kk : Cz R E nL tgt ls st ws k n) : Cz R E nL pc ls (.int z :: .int x :: st) ws k n := by
  obtain ⟨p, l, e, s, m, args, below, meth, c, D, tc, A, Q⟩ := E
  intro H locs la hP hD hS hl
  exact lv_icmp_ge X.1 X.2.1 hd ht (fun _ => kk H locs la hP hD hS hl) (fun q => absurd h q)
theorem Cz_geF (X : czX E y cc nL ret) {x z : Int32} {off : Int} {tgt : Nat} (h : ¬ z ≤ x) (hd : decode cc pc = .ok (.if_icmp .ge off, 3)) (ht : (pc : Int) + off = (tgt : Int)) (hp : pc + 3 = pc2) (kk : Cz R E nL pc2 ls st ws k n) : Cz R E nL pc ls (.int z :: .int x :: st) ws k n := by
  subst hp
  obtain ⟨p, l, e, s, m, args, below, meth, c, D, tc, A, Q⟩ := E
  intro H locs la hP hD hS hl
  exact lv_icmp_ge X.1 X.2.1 hd ht (fun q => absurd q h) (fun _ => kk H locs la hP hD hS hl)
theorem Cz_gtT (X : czX E y cc nL ret) {x z : Int32} {off : Int} {tgt : Nat} (h : z < x) (hd : decode cc pc = .ok (.if_icmp .gt off, 3)) (ht : (pc : Int) + off = (tgt : Int)) (kk : Cz R E nL tgt ls st ws k n) : Cz R E nL pc ls (.int z :: .int x :: st) ws k n := by
  obtain ⟨p, l, e, s, m, args, below, meth, c, D, tc, A, Q⟩ := E
  intro H locs la hP hD hS hl
  exact lv_icmp_gt X.1 X.2.1 hd ht (fun _ => kk H locs la hP hD hS hl) (fun q => absurd h q)
theorem Cz_gtF (X : czX E y cc nL ret) {x z : Int32} {off : Int} {tgt : Nat} (h : ¬ z < x) (hd : decode cc pc = .ok (.if_icmp .gt off, 3)) (ht : (pc : Int) + off = (tgt : Int)) (hp : pc + 3 = pc2) (kk : Cz R E nL pc2 ls st ws k n) : Cz R E nL pc ls (.int z :: .int x :: st) ws k n := by
  subst hp
  obtain ⟨p, l, e, s, m, args, below, meth, c, D, tc, A, Q⟩ := E
  intro H locs la hP hD hS hl
  exact lv_icmp_gt X.1 X.2.1 hd ht (fun q => absurd q h) (fun _ => kk H locs la hP hD hS hl)
theorem Cz_istore_n (X : czX E y cc nL ret) {t : Fin 4} {i : Nat} (hi : (t : Nat) = i) {x : Int32} (hn : i < nL) (hls : (i, Value.int x) :: ls.filter (fun q => !(q.1 == i) && !(q.1 + 1 == i && q.2.category == 2)) = ls2) (hd : decode cc pc = .ok (.istore_n t, 1)) (hp : pc + 1 = pc2) (kk : Cz R E nL pc2 ls2 st ws k n) : Cz R E nL pc ls (.int x :: st) ws k n := by
  subst hp
  obtain ⟨p, l, e, s, m, args, below, meth, c, D, tc, A, Q⟩ := E
  intro H locs la hP hD hS hl
  exact lv_istore_n X.1 X.2.1 hd hi hl hn (lv' := ls2) hls (fun la2 hl2 => kk H locs la2 hP hD hS hl2)
theorem Cz_astore_n (X : czX E y cc nL ret) {t : Fin 4} {i : Nat} (hi : (t : Nat) = i) {x : Nat} (hn : i < nL) (hls : (i, Value.ref x) :: ls.filter (fun q => !(q.1 == i) && !(q.1 + 1 == i && q.2.category == 2)) = ls2) (hd : decode cc pc = .ok (.astore_n t, 1)) (hp : pc + 1 = pc2) (kk : Cz R E nL pc2 ls2 st ws k n) : Cz R E nL pc ls (.ref x :: st) ws k n := by
  subst hp
  obtain ⟨p, l, e, s, m, args, below, meth, c, D, tc, A, Q⟩ := E
  intro H locs la hP hD hS hl
  exact lv_astore_n X.1 X.2.1 hd hi hl hn (lv' := ls2) hls (fun la2 hl2 => kk H locs la2 hP hD hS hl2)
theorem Cz_iinc (X : czX E y cc nL ret) {i j : Nat} {z : Int} {x v : Int32} (hj : ls[j]? = some (i, .int x)) (hv : x + Int32.ofInt z = v) (hn : i < nL) (hls : (i, Value.int v) :: ls.filter (fun q => !(q.1 == i) && !(q.1 + 1 == i && q.2.category == 2)) = ls2) (hd : decode cc pc = .ok (.iinc i z, 3)) (hp : pc + 3 = pc2) (kk : Cz R E nL pc2 ls2 st ws k n) : Cz R E nL pc ls st ws k n := by
  subst hp
  obtain ⟨p, l, e, s, m, args, below, meth, c, D, tc, A, Q⟩ := E
  intro H locs la hP hD hS hl
  exact lv_iinc X.1 X.2.1 hd hl hj hv hn (lv' := ls2) hls (fun la2 hl2 => kk H locs la2 hP hD hS hl2)
theorem Cz_ws (h : ws = ws2) (kk : Cz R E nL pc ls st ws2 k n) : Cz R E nL pc ls st ws k n := by
  rw [h]; exact kk
theorem Cz_get (X : czX E y cc nL ret) {ci j ix N a q0 : Nat} {C : String} {T : u_T} {ty : Nat → FieldType} {fs : List Value} (kc : rfCl ci C T N ty) (he : ws[q0]? = some (a, .inr (ci, fs))) (hj : j < N) (hw : Cond.fieldLink y.cls ix (T j).1 (T j).2.1 (T j).2.2.1 ∈ rfG) {v : Value} (hv : fs[j]? = some v) (hd : decode cc pc = .ok (.getfield ix, 3)) (hp : pc + 3 = pc2) (kk : Cz R E nL pc2 ls (v :: st) ws k n) : Cz R E nL pc ls (.ref a :: st) ws k n := by
  subst hp
  obtain ⟨p, l, e, s, m, args, below, meth, c, D, tc, A, Q⟩ := E
  intro H locs la hP hD hS hl
  obtain ⟨hx, hb, hr, hml, hown, hts, hlk, hK, hA, hN⟩ := X
  exact va_get (D := D) (cl := vwCl) (tys := rfT tc) hx hb hts kc.2.2.1 hown hK hP q0 he kc.1 j hj (hts _ hw) (fun _ h9 => h9) hv hd (kk H locs la hP hD hS hl)
theorem Cz_put (X : czX E y cc nL ret) (hI : czI E) {ci j ix N a q0 : Nat} {C : String} {T : u_T} {ty : Nat → FieldType} {fs : List Value} {v : Value} (kc : rfCl ci C T N ty) (he : ws[q0]? = some (a, .inr (ci, fs))) (hj : j < N) (hl9 : j < fs.length) (hdecl : (T j).1 = y.cls) (hw : Cond.fieldLink y.cls ix (T j).1 (T j).2.1 (T j).2.2.1 ∈ rfG) (hn : narrow (ty j) v = v) (hf : fits (ty j) v = true) (hd : decode cc pc = .ok (.putfield ix, 3)) (hp : pc + 3 = pc2) (hws : ws.set q0 (a, .inr (ci, fs.set j v)) = ws2) (kk : Cz R E nL pc2 ls st ws2 k n) : Cz R E nL pc ls (v :: .ref a :: st) ws k n := by
  subst hp
  subst hws
  obtain ⟨p, l, e, s, m, args, below, meth, c, D, tc, A, Q⟩ := E
  intro H locs la hP hD hS hl
  obtain ⟨hx, hb, hr, hml, hown, hts, hlk, hK, hA, hN⟩ := X
  cases hfin : (T j).2.2.2 with
  | true => exact va_putF (D := D) (cl := vwCl) (tys := rfT tc) hx hb hts kc.2.2.1 ty kc.2.2.2.1 kc.2.2.2.2 hown hK hP hD hS q0 he kc.1 j hj (hts _ hw) (fun _ h9 => h9) hfin hI hdecl (ty := ty j) (kc.2.2.2.1 j hj) hn hf hl9 hd (fun H1 locs1 hP1 hD1 hS1 => kk H1 locs1 la hP1 hD1 hS1 hl)
  | false => exact va_put (D := D) (cl := vwCl) (tys := rfT tc) hx hb hts kc.2.2.1 ty kc.2.2.2.1 kc.2.2.2.2 hown hK hP hD hS q0 he kc.1 j hj (hts _ hw) (fun _ h9 => h9) hfin (ty := ty j) (kc.2.2.2.1 j hj) hn hf hl9 hd (fun H1 locs1 hP1 hD1 hS1 => kk H1 locs1 la hP1 hD1 hS1 hl)
theorem Cz_newi (X : czX E y cc nL ret) {N : Nat} {v : Int32} (hv : v = nI N) (hN : N ≤ 2000) (hw : Cond.arrayClass .int ∈ rfG) (hk : k + 1 ≤ R.cells) (hn : n + N ≤ R.slots) (hd : decode cc pc = .ok (.newarray .int, 2)) (hp : pc + 2 = pc2) (kk : ∀ q, Cz R E nL pc2 ls (.ref q :: st) (ws ++ [(q, .inl (czT E 0, N, .inl (fun _ => 0)))]) (k + 1) (n + N)) : Cz R E nL pc ls (.int v :: st) ws k n := by
  subst hp
  subst hv
  obtain ⟨p, l, e, s, m, args, below, meth, c, D, tc, A, Q⟩ := E
  intro H locs la hP hD hS hl
  obtain ⟨hx, hb, hr, hml, hown, hts, hlk, hK, hA, hNB⟩ := X
  refine va_newa (atype := .int) hx hb (hts _ hw) rfl hK hP hD hS hA (N' := N) (a0 := (N, .inl (fun _ => 0))) (fun cA => rfl) ?_ (cl N (by omega)) (by show N * 4 ≤ _; omega) hk hn hd (fun q cA H1 hK2 hP2 hD2 hS2 => ?_)
  · rw [i_lt, nI_toInt (by omega), show (0 : Int32).toInt = 0 from rfl]
    omega
  · have e1 : s.vm.findClass ("[" ++ (FieldType.int).toString) = some cA := (hK2.2 4 (cA, .int) rfl).2
    have e2 : s.vm.findClass ("[" ++ (FieldType.int).toString) = some (tc 0) := (hK.2 0 (tc 0, .int) rfl).2
    have e3 : cA = tc 0 := Option.some.inj (e1.symm.trans e2)
    subst e3
    exact kk q H1 locs la hP2 hD2 hS2 hl
theorem Cz_newl (X : czX E y cc nL ret) {N : Nat} {v : Int32} (hv : v = nI N) (hN : N ≤ 2000) (hw : Cond.arrayClass .long ∈ rfG) (hk : k + 1 ≤ R.cells) (hn : n + N ≤ R.slots) (hd : decode cc pc = .ok (.newarray .long, 2)) (hp : pc + 2 = pc2) (kk : ∀ q, Cz R E nL pc2 ls (.ref q :: st) (ws ++ [(q, .inl (czT E 1, N, .inr (.inl (fun _ => 0))))]) (k + 1) (n + N)) : Cz R E nL pc ls (.int v :: st) ws k n := by
  subst hp
  subst hv
  obtain ⟨p, l, e, s, m, args, below, meth, c, D, tc, A, Q⟩ := E
  intro H locs la hP hD hS hl
  obtain ⟨hx, hb, hr, hml, hown, hts, hlk, hK, hA, hNB⟩ := X
  refine va_newa (atype := .long) hx hb (hts _ hw) rfl hK hP hD hS hA (N' := N) (a0 := (N, .inr (.inl (fun _ => 0)))) (fun cA => rfl) ?_ (cl N (by omega)) (by show N * 8 ≤ _; omega) hk hn hd (fun q cA H1 hK2 hP2 hD2 hS2 => ?_)
  · rw [i_lt, nI_toInt (by omega), show (0 : Int32).toInt = 0 from rfl]
    omega
  · have e1 : s.vm.findClass ("[" ++ (FieldType.long).toString) = some cA := (hK2.2 4 (cA, .long) rfl).2
    have e2 : s.vm.findClass ("[" ++ (FieldType.long).toString) = some (tc 1) := (hK.2 1 (tc 1, .long) rfl).2
    have e3 : cA = tc 1 := Option.some.inj (e1.symm.trans e2)
    subst e3
    exact kk q H1 locs la hP2 hD2 hS2 hl
theorem Cz_newq (X : czX E y cc nL ret) {C : String} {t ix N : Nat} {v : Int32} (hv : v = nI N) (hN : N ≤ 2000) (ht : ∀ tc : Nat → ClassId, (rfT tc)[t]? = some (tc t, .object C)) (hov : ∀ s, NB s → va_AO C s) (hw : Cond.classLink y.cls ix C ∈ rfG) (hk : k + 1 ≤ R.cells) (hn : n + N ≤ R.slots) (hd : decode cc pc = .ok (.anewarray ix, 3)) (hp : pc + 3 = pc2) (kk : ∀ q, Cz R E nL pc2 ls (.ref q :: st) (ws ++ [(q, .inl (czT E t, N, .inr (.inr (.inr (.inr (fun _ => none))))))]) (k + 1) (n + N)) : Cz R E nL pc ls (.int v :: st) ws k n := by
  subst hp
  subst hv
  obtain ⟨p, l, e, s, m, args, below, meth, c, D, tc, A, Q⟩ := E
  intro H locs la hP hD hS hl
  obtain ⟨hx, hb, hr, hml, hown, hts, hlk, hK, hA, hNB⟩ := X
  refine va_newq hx hb hown (hts _ hw) (hov _ hNB) hK hP hD hS hA (N' := N) ?_ (cl N (by omega)) (by omega) hk hn hd (fun q cA H1 hK2 hP2 hD2 hS2 => ?_)
  · rw [i_lt, nI_toInt (by omega), show (0 : Int32).toInt = 0 from rfl]
    omega
  · obtain ⟨_, _, _, _, _, e1⟩ := (hK2.2 4 (cA, .object C) rfl).2
    obtain ⟨_, _, _, _, _, e2⟩ := (hK.2 t (tc t, .object C) (ht tc)).2
    have e3 : cA = tc t := Option.some.inj (e1.symm.trans e2)
    subst e3
    exact kk q H1 locs la hP2 hD2 hS2 hl
theorem Cz_aastore (X : czX E y cc nL ret) {C : String} {t q0 qk ci N v a : Nat} {vs : List Value} {T : u_T} {M : Nat} {f : Nat → Option Nat} {i : Int32} (ha : ws[q0]? = some (a, .inl (czT E t, N, .inr (.inr (.inr (.inr f)))))) (ht : ∀ tc : Nat → ClassId, (rfT tc)[t]? = some (tc t, .object C)) (hv : ws[qk]? = some (v, .inr (ci, vs))) (hc : vwCl[ci]? = some (C, T, M)) (hin : vp_in i N) (hd : decode cc pc = .ok (.aastore, 1)) (hp : pc + 1 = pc2) (hws : ws.set q0 (a, .inl (czT E t, N, .inr (.inr (.inr (.inr (va_up f i.toNatClampNeg (some v))))))) = ws2) (kk : Cz R E nL pc2 ls st ws2 k n) : Cz R E nL pc ls (.ref v :: .int i :: .ref a :: st) ws k n := by
  subst hp
  subst hws
  obtain ⟨p, l, e, s, m, args, below, meth, c, D, tc, A, Q⟩ := E
  intro H locs la hP hD hS hl
  obtain ⟨hx, hb, hr, hml, hown, hts, hlk, hK, hA, hNB⟩ := X
  exact va_astq (D := D) (cl := vwCl) (tys := rfT tc) hx hb hK hP hD hS q0 t qk ci (r := (C, T, M)) ha (ht tc) hv hc hin hd (fun H1 locs1 hP1 hD1 hS1 => kk H1 locs1 la hP1 hD1 hS1 hl)
theorem Cz_iastore (X : czX E y cc nL ret) {q0 N a : Nat} {f : Nat → Int32} {i v : Int32} (ha : ws[q0]? = some (a, .inl (czT E 0, N, .inl f))) (hin : vp_in i N) (hd : decode cc pc = .ok (.iastore, 1)) (hp : pc + 1 = pc2) (hws : ws.set q0 (a, .inl (czT E 0, N, .inl (upd f i.toNatClampNeg v))) = ws2) (kk : Cz R E nL pc2 ls st ws2 k n) : Cz R E nL pc ls (.int v :: .int i :: .ref a :: st) ws k n := by
  subst hp
  subst hws
  obtain ⟨p, l, e, s, m, args, below, meth, c, D, tc, A, Q⟩ := E
  intro H locs la hP hD hS hl
  obtain ⟨hx, hb, hr, hml, hown, hts, hlk, hK, hA, hNB⟩ := X
  exact va_iast (D := D) (cl := vwCl) (tys := rfT tc) hx hb hK hP hD hS q0 0 ha rfl hin hd (fun H1 locs1 hP1 hD1 hS1 => kk H1 locs1 la hP1 hD1 hS1 hl)
theorem Cz_new (X : czX E y cc nL ret) {ci ix N : Nat} {C : String} {T : u_T} {ty : Nat → FieldType} {fs : List Value} (kc : rfCl ci C T N ty) (hw : Cond.classLink y.cls ix C ∈ rfG) (hwi : Cond.instantiable C N ∈ rfG) (hwn : Cond.initialized C ∈ rfG) (hfs : ∀ j, j < N → defaultValue (ty j) = vp_V fs j) (hk : k + 1 ≤ R.cells) (hn : n + N ≤ R.slots) (hd : decode cc pc = .ok (.new ix, 3)) (hp : pc + 3 = pc2) (kk : ∀ q, Cz R E nL pc2 ls (.ref q :: st) (ws ++ [(q, .inr (ci, fs))]) (k + 1) (n + N)) : Cz R E nL pc ls st ws k n := by
  subst hp
  obtain ⟨p, l, e, s, m, args, below, meth, c, D, tc, A, Q⟩ := E
  intro H locs la hP hD hS hl
  obtain ⟨hx, hb, hr, hml, hown, hts, hlk, hK, hA, hNB⟩ := X
  exact va_new (ci := ci) (fs := fs) (C := C) (T := T) (N := N) hx hb hts kc.2.2.1 ty kc.2.2.2.1 hown (hts _ hw) (hts _ hwi) (hts _ hwn) hK hP hD hS hA kc.1 hfs hk hn hd (fun q H1 hP1 hD1 hS1 => kk q H1 locs la hP1 hD1 hS1 hl)
theorem Cz_obj (X : czX E y cc nL ret) {ix a : Nat} (hw : Cond.methodLink y.cls ix objectInit ∈ rfG) (hwi : Cond.instanceMethod objectInit ∈ rfG) (hwc : Cond.code objectInit ⟨#[0xb1]⟩ 1 none ∈ rfG) (hst : (st.map fun v => v.category).sum ≤ 8) (hf : 1 ≤ R.frames) (hlo : 20 ≤ R.locals) (hd : decode cc pc = .ok (.invokespecial ix, 3)) (hp : pc + 3 = pc2) (kk : Cz R E nL pc2 ls st ws k n) : Cz R E nL pc ls (.ref a :: st) ws k n := by
  subst hp
  obtain ⟨p, l, e, s, m, args, below, meth, c, D, tc, A, Q⟩ := E
  intro H locs la hP hD hS hl
  obtain ⟨hx, hb, hr, hml, hown, hts, hlk, hK, hA, hNB⟩ := X
  refine W.objInit hx hb hown (hts _ hw) (hts _ hwi) (hts _ hwc) rfl (by rw [hml]; exact hl.1) rfl hd hf (Nat.le_trans ?_ hlo) ?_
  · have h0 : 2 * (F0 m pc la (.ref a :: st)).monitorRoom = 0 := rfl
    rw [h0]
    omega
  · exact W.eq (g2 := F0 m (pc + 3) la st) rfl (kk H locs la hP hD hS hl)
end CzRules

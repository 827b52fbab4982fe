/-! constructors' contracts -/
def CM (R : Room) (y : MethodName) (cc : ByteArray) (nL : Nat) (as : List Value) (ci : Nat) (fs0 : List Value) (WX : (Nat → ClassId) → Nat → (Nat → Nat) → va_W) : Prop := ∀ (l : Launch) (D : va_G) (tc : Nat → ClassId) (h0 sz : Nat), Met l y (Cond.code y cc nL none :: rfG) R (va_Pc (.ref h0 :: as) (fun U => U.heap.size = sz ∧ va_P D vwCl [(h0, .inr (ci, fs0))] U.heap ∧ va_K D vwCl (rfT tc) U ∧ NB U)) (va_Qv (fun _ : Nat → Nat => True) (fun u t => va_P D vwCl (WX tc h0 u) t.heap ∧ va_D (va_A [(h0, .inr (ci, fs0))] sz) (WX tc h0 u)) (va_A [(h0, .inr (ci, fs0))] sz)) R.cells R.slots (va_A [(h0, .inr (ci, fs0))] sz)
def czQ (R : Room) (E : czE) (WX : (Nat → ClassId) → Nat → (Nat → Nat) → va_W) (h0 : Nat) : Prop := match E with
  | (_, _, _, s, _, args, below, _, _, D, tc, A, Q) => Q = MQ below (va_Qv (fun _ : Nat → Nat => True) (fun u t => va_P D vwCl (WX tc h0 u) t.heap ∧ va_D A (WX tc h0 u)) A) args s R.cells R.slots A
theorem CM.intro {R : Room} {y : MethodName} {cc : ByteArray} {nL : Nat} {as : List Value} {ci : Nat} {fs0 : List Value} {WX : (Nat → ClassId) → Nat → (Nat → Nat) → va_W} (hy : plainName y.cls = true) (hin : y.name = "<init>") (hnl : ∀ h0, (lg_sl (.ref h0 :: as)).length ≤ nL) (h : ∀ (E : czE) (h0 : Nat), czX E y cc nL none → czI E → czQ R E WX h0 → Cz R E nL 0 (lv_args 0 (.ref h0 :: as)) [] [(h0, .inr (ci, fs0))] 0 0) : CM R y cc nL as ci fs0 WX := by
  intro l D tc h0 sz
  refine Met.ofW (cc := cc) (maxL := nL) (ret := none) hy rfl ?_
  intro p e s m args below meth c s₁ B hml hv
  obtain ⟨rfl, hsz, hP, hK, hNB⟩ := hv
  have hts := atoms_spec (ws := Cond.code y cc nL none :: rfG) B.pre
  have hown : s.vm.findClass y.cls = some m.cls := findClass_of_methodNamed B.named
  have hmn : meth.name = y.name := (name_of_methodNamed B.named B.method).1
  subst hsz
  have hl := lv_entry (.ref h0 :: as) (n := nL) (hnl h0)
  rw [lg_entry_eq]
  generalize (lg_sl (.ref h0 :: as) ++ List.replicate (nL - (lg_sl (.ref h0 :: as)).length) Slot.unset).toArray = la at hl ⊢
  have hD : va_D (va_A [(h0, .inr (ci, fs0))] s.heap.size) [(h0, .inr (ci, fs0))] := by
    refine ⟨fun i j p q hi hj _ => ?_, fun k q hq => va_A.in hq⟩
    have h1 : i < 1 := (List.getElem?_eq_some_iff.mp hi).1
    have h2 : j < 1 := (List.getElem?_eq_some_iff.mp hj).1
    omega
  exact h (p, l, e, s, m, (.ref h0 :: as).toArray, below, meth, c, D, tc, va_A [(h0, .inr (ci, fs0))] s.heap.size, _) h0 ⟨B.exec, B.bytes, B.returns, hml, hown, fun w hw => hts w (List.mem_cons_of_mem _ hw), B.notSynchronized, hK, fun q hq => Or.inr hq, hNB⟩ (hmn.trans hin) rfl s.heap [] la hP hD va_S.rf hl
theorem va_nd_of : ∀ {l : List Nat}, l.Nodup → va_nd l = true
  | [], _ => rfl
  | a :: l, h => by
    rw [List.nodup_cons] at h
    unfold va_nd
    rw [decide_eq_true h.1, va_nd_of h.2]
    rfl
theorem rg_map {ws1 ws2 : va_W} : (List.range ws1.length).map (fun i => (ws1 ++ ws2)[i]?) = ws1.map some := by
  apply List.ext_getElem?
  intro i
  rw [List.getElem?_map, List.getElem?_map]
  by_cases hi : i < ws1.length
  · rw [List.getElem?_range hi, Option.map_some, List.getElem?_append_left hi, List.getElem?_eq_getElem hi]
    rfl
  · rw [List.getElem?_eq_none (by simpa using hi), List.getElem?_eq_none (by simpa using hi)]
    rfl
section CzCalls
variable {R : Room} {E : czE} {y : MethodName} {cc : ByteArray} {nL pc pc2 : Nat} {ret : Option FieldType} {ls ls2 : List (Nat × Value)} {st : List Value} {ws ws2 : va_W} {k n : Nat}
theorem Cz_ret {WX : (Nat → ClassId) → Nat → (Nat → Nat) → va_W} {h0 : Nat} (X : czX E y cc nL none) (hQ : czQ R E WX h0) (u : Nat → Nat) (hk : k = R.cells) (hn : n = R.slots) (hw : ws = WX (czT E) h0 u) (hd : decode cc pc = .ok (.return_, 1)) : Cz R E nL pc ls [] ws k n := by
  subst hk hn
  obtain ⟨p, l, e, s, m, args, below, meth, c, D, tc, A, Q⟩ := E
  have hQ : Q = _ := hQ
  subst hQ
  subst hw
  intro H locs la hP hD hS hl
  obtain ⟨hx, hb, hr, hml, hown, hts, hlk, hK, hA, hNB⟩ := X
  exact W.vret hx hb hr (fun t ht hW => ⟨⟨u, rfl, trivial, by rw [ht]; exact hP, hD⟩, hS.F ht⟩) hS.2.2 hd hlk
theorem Cz_callN (X : czX E y cc nL ret) {ix nL2 : Nat} {y2 : MethodName} {cc2 : ByteArray} {R2 : Room} {as stk : List Value} {ci q : Nat} {fs0 : List Value} {WX : (Nat → ClassId) → Nat → (Nat → Nat) → va_W} {ws1 : va_W} (hM : CM R2 y2 cc2 nL2 as ci fs0 WX) (hq : (y.cls, ix, y2) ∈ nestL) (hwi : Cond.instanceMethod y2 ∈ rfG) (hwn : Cond.initialized y2.cls ∈ rfG) (hwc : Cond.code y2 cc2 nL2 none ∈ rfG) (hnm : y2.name = "<init>") (hdn : y2.cls ≠ "java/lang/invoke/MethodHandle" ∧ y2.cls ≠ "java/lang/invoke/VarHandle" ∧ (parseMethodDescriptor y2.desc).map (fun d => d.parameters.length) = some as.length) (hR : R2.frames + 1 ≤ R.frames ∧ 8 + (nL2 + 11) + R2.locals ≤ R.locals) (hc : k + R2.cells ≤ R.cells ∧ n + R2.slots ≤ R.slots) (hstk : stk = as.reverse ++ .ref q :: st) (hst : (st.map fun v => v.category).sum ≤ 8) (hd : decode cc pc = .ok (.invokespecial ix, 3)) (hp : pc + 3 = pc2) (hws : ws = ws1 ++ [(q, .inr (ci, fs0))]) (kk : ∀ u, Cz R E nL pc2 ls st (ws1 ++ WX (czT E) q u) (k + R2.cells) (n + R2.slots)) : Cz R E nL pc ls stk ws k n := by
  subst hp
  subst hstk
  subst hws
  obtain ⟨p, l, e, s, m, args, below, meth, c, D, tc, A, Q⟩ := E
  intro H locs la hP hD hS hl
  obtain ⟨hx, hb, hr, hml, hown, hts, hlk, hK, hA, hNB⟩ := X
  have hg : (ws1 ++ [(q, .inr (ci, fs0))])[ws1.length]? = some ((q, .inr (ci, fs0)) : Nat × va_E) := by rw [List.getElem?_append_right (Nat.le_refl _), Nat.sub_self]; rfl
  have hFc := va_free (wc := [(q, .inr (ci, fs0))]) hD hS hA [ws1.length] (by rw [List.map_singleton, hg]; rfl)
  have hPc : va_P D vwCl [(q, .inr (ci, fs0))] H := hP.sub (ws' := [(q, .inr (ci, fs0))]) [ws1.length] (by simp [hg])
  have hG : GoodIn rfG (Cond.code y2 cc2 nL2 none :: rfG) := rf_good (fun w hw => by
    rcases List.mem_cons.mp hw with h | h
    · rw [h]; exact hwc
    · exact h)
  refine va_callv (va_runIN (As := as) (rest := st) (host := "OneLeg") ⟨hx, hb, hml, hown, hts⟩ (hM l D tc q H.size) ⟨va_cnB as.length hts hG rfl rfl rfl (hNB.1 _ hq) (hts _ hwn) hdn hR, hnm, hts _ hwi⟩ ⟨fun a U g mk qq => ?_, fun U hU hW => ⟨rfl, by rw [hU], by rw [hU]; exact hPc, va_K.moved hW.alike hK, hNB.warm hW⟩⟩ rfl rfl hl.1 rfl (lv_room hst) hd hc) hS (fun q _ h => hFc q h) hFc (fun u t H1 locs1 ht hvm _ hB hz1 hk1 hS1 => ?_)
  · obtain ⟨q0, q1, qP, qK, qN⟩ := qq
    exact ⟨q0, q1, qP, va_K.moved (u := U) (U := U.calling g mk a) (Vm.Alike.refl U.vm) qK, NB.same (s := U) (U := U.calling g mk a) rfl qN⟩
  · obtain ⟨hP1, hD1⟩ := hB
    rw [ht] at hP1
    obtain ⟨hP2, hD2⟩ := va_join (wr := ws1) (w1 := WX tc q u) hP hD [ws1.length] (List.range ws1.length) (by rw [List.map_singleton, hg]; rfl) rg_map (va_nd_of List.nodup_range) (fun i hi hi2 => by
      have h1 := List.mem_range.mp hi
      have h2 := List.mem_singleton.mp hi2
      omega) hk1 hFc hP1 hD1
    exact kk u H1 locs1 la hP2 hD2 hS1 hl
theorem Cz_callI (X : czX E y cc nL ret) {ix nL2 : Nat} {y2 : MethodName} {cc2 : ByteArray} {R2 : Room} {as stk : List Value} {ci q : Nat} {fs0 : List Value} {WX : (Nat → ClassId) → Nat → (Nat → Nat) → va_W} {ws1 : va_W} (hM : CM R2 y2 cc2 nL2 as ci fs0 WX) (hw : Cond.methodLink y.cls ix y2 ∈ rfG) (hwi : Cond.instanceMethod y2 ∈ rfG) (hwn : Cond.initialized y2.cls ∈ rfG) (hwc : Cond.code y2 cc2 nL2 none ∈ rfG) (hnm : y2.name = "<init>") (hdn : y2.cls ≠ "java/lang/invoke/MethodHandle" ∧ y2.cls ≠ "java/lang/invoke/VarHandle" ∧ (parseMethodDescriptor y2.desc).map (fun d => d.parameters.length) = some as.length) (hR : R2.frames + 1 ≤ R.frames ∧ 8 + (nL2 + 11) + R2.locals ≤ R.locals) (hc : k + R2.cells ≤ R.cells ∧ n + R2.slots ≤ R.slots) (hstk : stk = as.reverse ++ .ref q :: st) (hst : (st.map fun v => v.category).sum ≤ 8) (hd : decode cc pc = .ok (.invokespecial ix, 3)) (hp : pc + 3 = pc2) (hws : ws = ws1 ++ [(q, .inr (ci, fs0))]) (kk : ∀ u, Cz R E nL pc2 ls st (ws1 ++ WX (czT E) q u) (k + R2.cells) (n + R2.slots)) : Cz R E nL pc ls stk ws k n := by
  subst hp
  subst hstk
  subst hws
  obtain ⟨p, l, e, s, m, args, below, meth, c, D, tc, A, Q⟩ := E
  intro H locs la hP hD hS hl
  obtain ⟨hx, hb, hr, hml, hown, hts, hlk, hK, hA, hNB⟩ := X
  have hg : (ws1 ++ [(q, .inr (ci, fs0))])[ws1.length]? = some ((q, .inr (ci, fs0)) : Nat × va_E) := by rw [List.getElem?_append_right (Nat.le_refl _), Nat.sub_self]; rfl
  have hFc := va_free (wc := [(q, .inr (ci, fs0))]) hD hS hA [ws1.length] (by rw [List.map_singleton, hg]; rfl)
  have hPc : va_P D vwCl [(q, .inr (ci, fs0))] H := hP.sub (ws' := [(q, .inr (ci, fs0))]) [ws1.length] (by simp [hg])
  have hG : GoodIn rfG (Cond.code y2 cc2 nL2 none :: rfG) := rf_good (fun w hw => by
    rcases List.mem_cons.mp hw with h | h
    · rw [h]; exact hwc
    · exact h)
  refine va_callv (va_runI (As := as) (rest := st) ⟨hx, hb, hml, hown, hts⟩ (hM l D tc q H.size) (cwI as.length hts hG rfl rfl rfl (hts _ hwn) (hts _ hw) (hts _ hwi) hnm hdn hR) ⟨fun a U g mk qq => ?_, fun U hU hW => ⟨rfl, by rw [hU], by rw [hU]; exact hPc, va_K.moved hW.alike hK, hNB.warm hW⟩⟩ rfl rfl hl.1 rfl (lv_room hst) hd hc) hS (fun q _ h => hFc q h) hFc (fun u t H1 locs1 ht hvm _ hB hz1 hk1 hS1 => ?_)
  · obtain ⟨q0, q1, qP, qK, qN⟩ := qq
    exact ⟨q0, q1, qP, va_K.moved (u := U) (U := U.calling g mk a) (Vm.Alike.refl U.vm) qK, NB.same (s := U) (U := U.calling g mk a) rfl qN⟩
  · obtain ⟨hP1, hD1⟩ := hB
    rw [ht] at hP1
    obtain ⟨hP2, hD2⟩ := va_join (wr := ws1) (w1 := WX tc q u) hP hD [ws1.length] (List.range ws1.length) (by rw [List.map_singleton, hg]; rfl) rg_map (va_nd_of List.nodup_range) (fun i hi hi2 => by
      have h1 := List.mem_range.mp hi
      have h2 := List.mem_singleton.mp hi2
      omega) hk1 hFc hP1 hD1
    exact kk u H1 locs1 la hP2 hD2 hS1 hl
/-- an array of references, read where it has places -/
theorem Cz_refs {t q0 a N : Nat} {f g : Nat → Option Nat} (ha : ws[q0]? = some (a, .inl (czT E t, N, .inr (.inr (.inr (.inr f)))))) (hfg : ∀ j, j < N → f j = g j) (hws : ws.set q0 (a, .inl (czT E t, N, .inr (.inr (.inr (.inr g))))) = ws2) (kk : Cz R E nL pc ls st ws2 k n) : Cz R E nL pc ls st ws k n := by
  subst hws
  obtain ⟨p, l, e, s, m, args, below, meth, c, D, tc, A, Q⟩ := E
  intro H locs la hP hD hS hl
  refine kk H locs la (fun i q hq => ?_) (hD.set ha) hS hl
  rw [List.getElem?_set] at hq
  by_cases e1 : q0 = i
  · subst e1
    rw [if_pos rfl] at hq
    split at hq
    · cases hq
      have h1 : H[a]? = some (vp_cell (tc t) (N, .inr (.inr (.inr (.inr f))))) := hP q0 _ ha
      show H[a]? = some (vp_cell (tc t) (N, .inr (.inr (.inr (.inr g)))))
      rw [h1, vp_cell_q, vp_cell_q]
      congr 1
      unfold arrV
      congr 1
      apply congrArg
      funext j
      show va_rf (f j.1) = va_rf (g j.1)
      rw [hfg j.1 j.2]
    · cases hq
  · rw [if_neg e1] at hq
    exact hP i q hq
end CzCalls

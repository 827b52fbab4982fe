/-! the law: the entry; both classes are new, the relation holds -/
theorem rel_init : RelE iC iM := by
  refine ⟨0, 0, ⟨by decide, rfl, rfl, fun w i hw hi => ?_⟩, ⟨0, by decide, rfl, rfl, fun i hi => absurd hi (Nat.not_lt_zero i)⟩, Or.inl ⟨rfl, rfl⟩, fun _ _ => rfl, Or.inl ⟨rfl, rfl⟩, ⟨0, 0, by decide, by decide, rfl, rfl, rfl, rfl, fun i hi => absurd hi (Nat.not_lt_zero i)⟩, ⟨by decide, rfl, rfl, fun i hi => absurd hi (Nat.not_lt_zero i)⟩, ⟨0, by decide, rfl, rfl, fun i hi => absurd hi (Nat.not_lt_zero i)⟩, fun s hs => ?_, fun _ _ _ => rfl⟩
  · rcases (show w = 0 ∨ w = 1 ∨ w = 2 ∨ w = 3 ∨ w = 4 ∨ w = 5 ∨ w = 6 ∨ w = 7 by omega) with rfl | rfl | rfl | rfl | rfl | rfl | rfl | rfl
    · exact absurd hi (Nat.not_lt_zero i)
    · exact absurd hi (Nat.not_lt_zero i)
    · exact absurd hi (Nat.not_lt_zero i)
    · exact absurd hi (Nat.not_lt_zero i)
    · exact ⟨rfl, show (0 : Int32) ≤ 0 by decide, show (0 : Int32) ≤ 3 by decide⟩
    · exact ⟨rfl, show (0 : Int32) ≤ 0 by decide, show (0 : Int32) ≤ 7 by decide⟩
    · exact ⟨rfl, show (0 : Int32) ≤ 0 by decide, show (0 : Int32) ≤ 99 by decide⟩
    · exact ⟨rfl, show (0 : Int32) ≤ 0 by decide, show (0 : Int32) ≤ 6 by decide⟩
  · refine Or.inl ?_
    rcases (show s = 0 ∨ s = 1 ∨ s = 2 ∨ s = 3 ∨ s = 4 ∨ s = 5 by omega) with rfl | rfl | rfl | rfl | rfl | rfl <;> exact ⟨by decide, by decide⟩
theorem va_P.lft {D : va_G} {cl : List vw_C} {w1 w2 : va_W} {H : Heap} (h : va_P D cl (w1 ++ w2) H) : va_P D cl w1 H := fun k q hq => h k q (by rw [List.getElem?_append_left (List.getElem?_eq_some_iff.mp hq).1]; exact hq)
theorem va_P.rgt {D : va_G} {cl : List vw_C} {w1 w2 : va_W} {H : Heap} (h : va_P D cl (w1 ++ w2) H) : va_P D cl w2 H := fun k q hq => h (w1.length + k) q (by rw [List.getElem?_append_right (Nat.le_add_right _ _), Nat.add_sub_cancel_left]; exact hq)
theorem rfW_len {Λ : rfL} {tc : Nat → ClassId} {ad : Nat → Nat} {σ : rfS} : (rfW Λ tc ad σ).length = Λ.1 := by simp [rfW]
theorem ws_cl {s : State} {args : Array Value} (hg : ∀ w ∈ rfG, w.before args s = true) {ci N n : Nat} {C : String} {T : u_T} {ty : Nat → FieldType} (kc : rfCl ci C T N ty) (hi : Cond.instantiable C n ∈ rfG) : ∃ z : ClassId × (Nat → Nat), ∀ q : vw_C, vwCl[ci]? = some q → u_Kn s q.1 q.2.1 q.2.2 z.1 z.2 := by
  obtain ⟨cC, iS, h⟩ := u_known (ws := rfG) hg kc.2.2.1 (hg _ hi)
  exact ⟨(cC, iS), fun q hq => by rw [kc.1] at hq; cases hq; exact h⟩
theorem ws_D {s : State} {args : Array Value} (hg : ∀ w ∈ rfG, w.before args s = true) : ∃ D : va_G, ∀ (c : Nat) (q : vw_C), vwCl[c]? = some q → u_Kn s q.1 q.2.1 q.2.2 (D.1 c) (D.2 c) := by
  have h : ∀ c : Nat, ∃ z : ClassId × (Nat → Nat), ∀ q : vw_C, vwCl[c]? = some q → u_Kn s q.1 q.2.1 q.2.2 z.1 z.2 := by
    intro c
    match c with
    | 0 => exact ws_cl hg kc0 ci_s0
    | 1 => exact ws_cl hg kc1 ci_s1
    | 2 => exact ws_cl hg kc2 ci_s2
    | 3 => exact ws_cl hg kc3 ci_s3
    | 4 => exact ws_cl hg kc4 ci_s4
    | 5 => exact ws_cl hg kc5 ci_s5
    | 6 => exact ws_cl hg kc6 ci_s6
    | 7 => exact ws_cl hg kc7 ci_s7
    | 8 => exact ws_cl hg kc8 ci_s8
    | n + 9 =>
      obtain ⟨z, -⟩ := ws_cl hg kc0 ci_s0
      exact ⟨z, fun q hq => absurd (List.getElem?_eq_some_iff.mp hq).1 (Nat.not_lt.mpr (Nat.le_add_left 9 n))⟩
  exact ⟨(fun c => (Classical.choose (h c)).1, fun c => (Classical.choose (h c)).2), fun c q hq => Classical.choose_spec (h c) q hq⟩
set_option maxRecDepth 40000 in
theorem ws_ov1 {s : State} {args : Array Value} (hts : ∀ w ∈ lw_tbl, w.before args s = true) : (Cond.arrayOver (.object "OneLeg$Standing")).before args s = true := hts _ (List.mem_of_getElem? (i := 208) rfl)
set_option maxRecDepth 40000 in
theorem ws_ov2 {s : State} {args : Array Value} (hts : ∀ w ∈ lw_tbl, w.before args s = true) : (Cond.arrayOver (.object "OneLeg$Shelf")).before args s = true := hts _ (List.mem_of_getElem? (i := 300) rfl)
theorem ws_T {s : State} {args : Array Value} (hts : ∀ w ∈ lw_tbl, w.before args s = true) (hg : ∀ w ∈ rfG, w.before args s = true) : ∃ tc : Nat → ClassId, ∀ (k : Nat) (q : ClassId × FieldType), (rfT tc)[k]? = some q → ArrOfT s q.1 q.2 ∧ va_RA s q.1 q.2 := by
  obtain ⟨c0, k0, m0, a0, b0, d0⟩ := Cond.arrayClass_spec (hg _ ac_i)
  obtain ⟨c1, k1, m1, a1, b1, d1⟩ := Cond.arrayClass_spec (hg _ ac_l)
  obtain ⟨m2, c2, k2, f2, g2, a2, b2, d2⟩ := Cond.arrayOver_spec (ws_ov1 hts)
  obtain ⟨m3, c3, k3, f3, g3, a3, b3, d3⟩ := Cond.arrayOver_spec (ws_ov2 hts)
  refine ⟨fun k => if k = 0 then c0 else if k = 1 then c1 else if k = 2 then c2 else c3, fun k q hq => ?_⟩
  match k with
  | 0 =>
    cases hq
    exact ⟨fun n z => ⟨(fun k h => by cases h), k0, b0, m0, d0⟩, a0⟩
  | 1 =>
    cases hq
    exact ⟨fun n z => ⟨(fun k h => by cases h), k1, b1, m1, d1⟩, a1⟩
  | 2 =>
    cases hq
    exact ⟨fun n z => ⟨(fun k h => by cases h), k2, a2, m2, b2⟩, k2, m2, a2, b2, f2, d2⟩
  | 3 =>
    cases hq
    exact ⟨fun n z => ⟨(fun k h => by cases h), k3, a3, m3, b3⟩, k3, m3, a3, b3, f3, d3⟩
  | n + 4 => exact absurd (List.getElem?_eq_some_iff.mp hq).1 (Nat.not_lt.mpr (Nat.le_add_left 4 n))
set_option maxRecDepth 40000 in
theorem ws_NB {s : State} {args : Array Value} (hts : ∀ w ∈ lw_tbl, w.before args s = true) : NB s := by
  refine ⟨fun q hq => ?_, va_AO.of (ws_ov1 hts), va_AO.of (ws_ov2 hts)⟩
  simp only [nestL, List.mem_cons, List.not_mem_nil, or_false] at hq
  rcases hq with rfl | rfl | rfl | rfl | rfl | rfl | rfl
  · exact va_Nw.of rfl (hts _ (List.mem_of_getElem? (i := 106) rfl))
  · exact va_Nw.of rfl (hts _ (List.mem_of_getElem? (i := 112) rfl))
  · exact va_Nw.of rfl (hts _ (List.mem_of_getElem? (i := 176) rfl))
  · exact va_Nw.of rfl (hts _ (List.mem_of_getElem? (i := 209) rfl))
  · exact va_Nw.of rfl (hts _ (List.mem_of_getElem? (i := 247) rfl))
  · exact va_Nw.of rfl (hts _ (List.mem_of_getElem? (i := 278) rfl))
  · exact va_Nw.of rfl (hts _ (List.mem_of_getElem? (i := 302) rfl))
def stP (s : State) (C n : String) (xs : List Int32) (a : Nat) : Prop := va_Z C n "[I" (.ref a) (fun x => s.heap.size ≤ x) s s.heap ∧ va_T .int a xs.length (fun j => .int (xs.getD j 0)) (fun x => s.heap.size ≤ x) s s.heap
theorem ws_st {s : State} {args : Array Value} {C n : String} (xs : List Int32) (hN : xs.length < 2 ^ 31) (harr : (Cond.arrayOf (.static C n "[I") .int).before args s = true) (hlen : (Cond.eq (.length (.static C n "[I")) (.int (Int32.ofNat xs.length))).before args s = true) (hel : ∀ j, j < xs.length → (Cond.eq (.elem (.static C n "[I") (.int (Int32.ofNat j))) (.int (xs.getD j 0))).before args s = true) (hl : (Cond.laysStatic C n "[I").before args s = true) (hini : (Cond.initialized C).before args s = true) : ∃ a : Nat, stP s C n xs a := by
  have hA : ∀ a : Nat, a < s.heap.size → ¬ s.heap.size ≤ a := fun a h1 h2 => absurd h1 (Nat.not_lt.mpr h2)
  obtain ⟨t, h1, h2⟩ := va_Tof (tm := .static C n "[I") (ty := .int) (N := xs.length) (f := fun j => .int (xs.getD j 0)) (A := fun x => s.heap.size ≤ x) hN harr (va_eqt hlen) (fun j hj => va_eqt (hel j hj)) hA
  exact ⟨t, va_Zof hl hini h1 hA, h2⟩
theorem st_of {s : State} {a0 a1 a2 a3 : Nat} {ad : Nat → Nat} (e0 : ad 1000 = a0) (e1 : ad 1001 = a1) (e2 : ad 1002 = a2) (e3 : ad 1003 = a3) (h0 : stP s "OneLeg" "LEAST_OF" [0, 0, 0, 1, 0, 0, 0, 0] a0) (h1 : stP s "OneLeg" "MOST_OF" [127, 99, 255, 9, 3, 7, 99, 6] a1) (h2 : stP s "OneLeg$Boots" "ABOVE" [-1, 0, 0, 2, 1, 3, 0, 4] a2) (h3 : stP s "OneLeg$Boots" "BODIES" [1, 10, 11, 2, 20, 0, 0, 0, 0, 30, 0, 0, 0, 41, 40, 0, 0, 0, 50, 0, 0, 0, 0, 60, 70, 0, 0, 0, 0, 80, 0, 81] a3) : rfSt ad s.heap.size s s.heap := by
  subst e0 e1 e2 e3
  intro q hq
  simp only [rfSL, List.mem_cons, List.not_mem_nil, or_false] at hq
  rcases hq with rfl | rfl | rfl | rfl
  · exact h0
  · exact h1
  · exact h2
  · exact h3
set_option maxRecDepth 40000 in
theorem ws_l0 {s : State} {args : Array Value} (hts : ∀ w ∈ lw_tbl, w.before args s = true) : (Cond.laysStatic "OneLeg" "LEAST_OF" "[I").before args s = true := hts _ (List.mem_of_getElem? (i := 395) rfl)
set_option maxRecDepth 40000 in
theorem ws_l1 {s : State} {args : Array Value} (hts : ∀ w ∈ lw_tbl, w.before args s = true) : (Cond.laysStatic "OneLeg" "MOST_OF" "[I").before args s = true := hts _ (List.mem_of_getElem? (i := 397) rfl)
set_option maxRecDepth 40000 in
theorem ws_l2 {s : State} {args : Array Value} (hts : ∀ w ∈ lw_tbl, w.before args s = true) : (Cond.laysStatic "OneLeg$Boots" "ABOVE" "[I").before args s = true := hts _ (List.mem_of_getElem? (i := 776) rfl)
set_option maxRecDepth 40000 in
theorem ws_l3 {s : State} {args : Array Value} (hts : ∀ w ∈ lw_tbl, w.before args s = true) : (Cond.laysStatic "OneLeg$Boots" "BODIES" "[I").before args s = true := hts _ (List.mem_of_getElem? (i := 774) rfl)

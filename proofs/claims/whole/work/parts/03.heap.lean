
/-- what is known of class number ci -/
def rfCl (ci : Nat) (C : String) (T : u_T) (N : Nat) (ty : Nat → FieldType) : Prop := vwCl[ci]? = some (C, T, N) ∧ rfN ci = N ∧ (∀ w ∈ u_ws C T N, w ∈ rfG) ∧ (∀ k, k < N → parseFieldDescriptor (T k).2.2.1 = some (ty k)) ∧ (∀ a, a < N → ∀ b, b < N → a ≠ b → (T a).2.1 ≠ (T b).2.1)
theorem rf_ws {C : String} {T : u_T} {N : Nat} (h : ∀ w ∈ u_ws C T N, w ∈ lw_tbl) : ∀ w ∈ u_ws C T N, w ∈ rfG := by
  intro w hw
  refine rf_g (h w hw) ?_
  obtain ⟨k, -, rfl⟩ := List.mem_map.mp hw
  unfold u_lay
  split <;> rfl
section RfHeap
variable {Λ : rfL} {d : Nat} {E : rfE} {y : MethodName} {cc : ByteArray} {nL : Nat} {ret : Option FieldType} {Q : Option Value → rfS → Prop} {pc pc2 : Nat} {ls ls2 : List (Nat × Value)} {st : List Value} {σ : rfS}
theorem rfCell_obj {tc : Nat → ClassId} {ad : Nat → Nat} {k ci : Nat} (h : Λ.2.1 k = ci + 4) : rfCell Λ tc ad σ k = .inr (ci, (List.range (rfN ci)).map (fun j => rfV ad (rfFl Λ σ ci k j))) := by
  unfold rfCell
  rw [h]
theorem rfCell_i {tc : Nat → ClassId} {ad : Nat → Nat} {k : Nat} (h : Λ.2.1 k = 0) : rfCell Λ tc ad σ k = .inl (tc 0, Λ.2.2.1 k, .inl (σ.2.1 k)) := by
  unfold rfCell
  rw [h]
theorem rfCell_l {tc : Nat → ClassId} {ad : Nat → Nat} {k : Nat} (h : Λ.2.1 k = 1) : rfCell Λ tc ad σ k = .inl (tc 1, Λ.2.2.1 k, .inr (.inl (σ.2.2 k))) := by
  unfold rfCell
  rw [h]
theorem rfCell_2 {tc : Nat → ClassId} {ad : Nat → Nat} {k : Nat} (h : Λ.2.1 k = 2) : rfCell Λ tc ad σ k = .inl (tc 2, Λ.2.2.1 k, .inr (.inr (.inr (.inr (fun j => some (ad (Λ.2.2.2.2 k j))))))) := by
  unfold rfCell
  rw [h]
theorem rfCell_3 {tc : Nat → ClassId} {ad : Nat → Nat} {k : Nat} (h : Λ.2.1 k = 3) : rfCell Λ tc ad σ k = .inl (tc 3, Λ.2.2.1 k, .inr (.inr (.inr (.inr (fun j => some (ad (Λ.2.2.2.2 k j))))))) := by
  unfold rfCell
  rw [h]
/-- cells that a change of other places leaves as they are -/
theorem rfCell_eq {tc : Nat → ClassId} {ad : Nat → Nat} {σ2 : rfS} {j : Nat} (h1 : ∀ b, σ2.1 j b = σ.1 j b) (h2 : σ2.2.1 j = σ.2.1 j) (h3 : σ2.2.2 j = σ.2.2 j) : rfCell Λ tc ad σ2 j = rfCell Λ tc ad σ j := by
  unfold rfCell
  rw [h2, h3]
  split <;> try rfl
  refine congrArg Sum.inr (congrArg _ ?_)
  refine List.map_congr_left (fun a _ => ?_)
  unfold rfFl
  rw [h1]

theorem Rf_get (X : rfX Λ E y cc nL ret) {ci k j ix N : Nat} {C : String} {T : u_T} {ty : Nat → FieldType} (kc : rfCl ci C T N ty) (hk : k < Λ.1) (hkd : Λ.2.1 k = ci + 4) (hj : j < N) (hw : Cond.fieldLink y.cls ix (T j).1 (T j).2.1 (T j).2.2.1 ∈ rfG) {v : Value} (hv : rfFl Λ σ ci k j = v) (hd : decode cc pc = .ok (.getfield ix, 3)) (hp : pc + 3 = pc2) (kk : Rf Λ d E nL Q pc2 ls (v :: st) σ) : Rf Λ d E nL Q pc ls (.ref k :: st) σ := by
  subst hp
  obtain ⟨p, l, e, s, m, args, below, meth, c, D, tc, ad, b0⟩ := E
  intro H locs la hP hS hl
  obtain ⟨hx, hb, hr, hml, hown, hts, hlk, hK, hI, hz, hSt⟩ := X
  refine va_get (D := D) (cl := vwCl) (tys := rfT tc) hx hb hts kc.2.2.1 hown hK hP k (by rw [rfW_at hk, rfCell_obj hkd]) kc.1 j hj (hts _ hw) (fun _ h9 => h9) (v := rfV ad v) ?_ hd (kk H locs la hP hS hl)
  rw [kc.2.1, List.getElem?_map, List.getElem?_range hj, Option.map_some, hv]
theorem Rf_put (X : rfX Λ E y cc nL ret) {ci k j ix N : Nat} {C : String} {T : u_T} {ty : Nat → FieldType} (kc : rfCl ci C T N ty) (hk : k < Λ.1) (hkd : Λ.2.1 k = ci + 4) (hj : j < N) (hfin : (T j).2.2.2 = false) (hw : Cond.fieldLink y.cls ix (T j).1 (T j).2.1 (T j).2.2.1 ∈ rfG) {v : Int32} (hr : Λ.2.2.2.1 ci k j = none) (hn : narrow (ty j) (.int v) = .int v) (hf : fits (ty j) (.int v) = true) (hd : decode cc pc = .ok (.putfield ix, 3)) (hp : pc + 3 = pc2) (kk : Rf Λ d E nL Q pc2 ls st (sI σ k j v)) : Rf Λ d E nL Q pc ls (.int v :: .ref k :: st) σ := by
  subst hp
  obtain ⟨p, l, e, s, m, args, below, meth, c, D, tc, ad, b0⟩ := E
  intro H locs la hP hS hl
  obtain ⟨hx, hb, hrt, hml, hown, hts, hlk, hK, hI, hz, hSt⟩ := X
  refine va_put (D := D) (cl := vwCl) (tys := rfT tc) hx hb hts kc.2.2.1 ty kc.2.2.2.1 kc.2.2.2.2 hown hK hP (rfW_D (b0 := b0) σ hI) hS k (by rw [rfW_at hk, rfCell_obj hkd]) kc.1 j hj (hts _ hw) (fun _ h9 => h9) hfin (ty := ty j) (kc.2.2.2.1 j hj) hn hf (by simp [kc.2.1, hj]) hd (fun H1 locs1 hP1 _ hS1 => kk H1 locs1 la ?_ hS1 hl)
  have e : (rfW Λ tc ad σ).set k (ad k, .inr (ci, ((List.range (rfN ci)).map (fun j => rfV ad (rfFl Λ σ ci k j))).set j (.int v))) = rfW Λ tc ad (sI σ k j v) := by
    refine rfW_set ?_ (fun i hi => ?_)
    · rw [rfCell_obj hkd]
      refine congrArg Sum.inr (congrArg _ ?_)
      apply List.ext_getElem?
      intro i
      rw [List.getElem?_set]
      by_cases hji : j = i
      · subst hji
        rw [if_pos rfl, List.getElem?_map]
        have hjr : j < rfN ci := by rw [kc.2.1]; exact hj
        rw [List.getElem?_range hjr]
        simp only [List.length_map, List.length_range, hjr, if_true, Option.map_some]
        unfold rfFl
        rw [hr]
        simp [sI, rfV]
      · rw [if_neg hji, List.getElem?_map, List.getElem?_map]
        by_cases hin : i < rfN ci
        · rw [List.getElem?_range hin]
          simp only [Option.map_some]
          unfold rfFl
          simp [sI, Ne.symm hji]
        · rw [List.getElem?_eq_none (by simp; omega)]
          rfl
    · exact rfCell_eq (fun b => by simp [sI, hi]) rfl rfl
  rw [← e]
  exact hP1
theorem Rf_iaload (X : rfX Λ E y cc nL ret) {k : Nat} {i : Int32} (hk : k < Λ.1) (hkd : Λ.2.1 k = 0) {N : Nat} (hN : Λ.2.2.1 k = N) (hin : vp_in i N) (hd : decode cc pc = .ok (.iaload, 1)) (hp : pc + 1 = pc2) {v : Int32} (hv : gF σ k i.toNatClampNeg = v) (kk : Rf Λ d E nL Q pc2 ls (.int v :: st) σ) : Rf Λ d E nL Q pc ls (.int i :: .ref k :: st) σ := by
  subst hp
  subst hN
  subst hv
  obtain ⟨p, l, e, s, m, args, below, meth, c, D, tc, ad, b0⟩ := E
  intro H locs la hP hS hl
  obtain ⟨hx, hb, hr, hml, hown, hts, hlk, hK, hI, hz, hSt⟩ := X
  exact va_iald (D := D) (cl := vwCl) (tys := rfT tc) hx hb hK hP k 0 (f := σ.2.1 k) (by rw [rfW_at hk, rfCell_i hkd]) rfl hin hd (kk H locs la hP hS hl)
theorem Rf_laload (X : rfX Λ E y cc nL ret) {k : Nat} {i : Int32} (hk : k < Λ.1) (hkd : Λ.2.1 k = 1) {N : Nat} (hN : Λ.2.2.1 k = N) (hin : vp_in i N) (hd : decode cc pc = .ok (.laload, 1)) (hp : pc + 1 = pc2) {v : Int64} (hv : gL σ k i.toNatClampNeg = v) (kk : Rf Λ d E nL Q pc2 ls (.long v :: st) σ) : Rf Λ d E nL Q pc ls (.int i :: .ref k :: st) σ := by
  subst hp
  subst hN
  subst hv
  obtain ⟨p, l, e, s, m, args, below, meth, c, D, tc, ad, b0⟩ := E
  intro H locs la hP hS hl
  obtain ⟨hx, hb, hr, hml, hown, hts, hlk, hK, hI, hz, hSt⟩ := X
  exact va_lald (D := D) (cl := vwCl) (tys := rfT tc) hx hb hK hP k 1 (f := σ.2.2 k) (by rw [rfW_at hk, rfCell_l hkd]) rfl hin hd (kk H locs la hP hS hl)
theorem Rf_aaload2 (X : rfX Λ E y cc nL ret) {k : Nat} {i : Int32} (hk : k < Λ.1) (hkd : Λ.2.1 k = 2) {N : Nat} (hN : Λ.2.2.1 k = N) (hin : vp_in i N) (hd : decode cc pc = .ok (.aaload, 1)) (hp : pc + 1 = pc2) (kk : Rf Λ d E nL Q pc2 ls (.ref (Λ.2.2.2.2 k i.toNatClampNeg) :: st) σ) : Rf Λ d E nL Q pc ls (.int i :: .ref k :: st) σ := by
  subst hp
  subst hN
  obtain ⟨p, l, e, s, m, args, below, meth, c, D, tc, ad, b0⟩ := E
  intro H locs la hP hS hl
  obtain ⟨hx, hb, hr, hml, hown, hts, hlk, hK, hI, hz, hSt⟩ := X
  exact va_aldq (D := D) (cl := vwCl) (tys := rfT tc) hx hb hK hP k 2 (f := fun j => some (ad (Λ.2.2.2.2 k j))) (by rw [rfW_at hk, rfCell_2 hkd]) rfl hin hd (kk H locs la hP hS hl)
theorem Rf_aaload3 (X : rfX Λ E y cc nL ret) {k : Nat} {i : Int32} (hk : k < Λ.1) (hkd : Λ.2.1 k = 3) {N : Nat} (hN : Λ.2.2.1 k = N) (hin : vp_in i N) (hd : decode cc pc = .ok (.aaload, 1)) (hp : pc + 1 = pc2) (kk : Rf Λ d E nL Q pc2 ls (.ref (Λ.2.2.2.2 k i.toNatClampNeg) :: st) σ) : Rf Λ d E nL Q pc ls (.int i :: .ref k :: st) σ := by
  subst hp
  subst hN
  obtain ⟨p, l, e, s, m, args, below, meth, c, D, tc, ad, b0⟩ := E
  intro H locs la hP hS hl
  obtain ⟨hx, hb, hr, hml, hown, hts, hlk, hK, hI, hz, hSt⟩ := X
  exact va_aldq (D := D) (cl := vwCl) (tys := rfT tc) hx hb hK hP k 3 (f := fun j => some (ad (Λ.2.2.2.2 k j))) (by rw [rfW_at hk, rfCell_3 hkd]) rfl hin hd (kk H locs la hP hS hl)
theorem Rf_iastore (X : rfX Λ E y cc nL ret) {k : Nat} {i : Int32} {v : Int32} (hk : k < Λ.1) (hkd : Λ.2.1 k = 0) {N : Nat} (hN : Λ.2.2.1 k = N) (hin : vp_in i N) (hd : decode cc pc = .ok (.iastore, 1)) (hp : pc + 1 = pc2) (kk : Rf Λ d E nL Q pc2 ls st (sF σ k i.toNatClampNeg v)) : Rf Λ d E nL Q pc ls (.int v :: .int i :: .ref k :: st) σ := by
  subst hp
  subst hN
  obtain ⟨p, l, e, s, m, args, below, meth, c, D, tc, ad, b0⟩ := E
  intro H locs la hP hS hl
  obtain ⟨hx, hb, hr, hml, hown, hts, hlk, hK, hI, hz, hSt⟩ := X
  refine va_iast (D := D) (cl := vwCl) (tys := rfT tc) hx hb hK hP (rfW_D (b0 := b0) σ hI) hS k 0 (by rw [rfW_at hk, rfCell_i hkd]) rfl hin hd (fun H1 locs1 hP1 _ hS1 => kk H1 locs1 la ?_ hS1 hl)
  have e := rfW_set (Λ := Λ) (tc := tc) (ad := ad) (σ := σ) (σ' := sF σ k i.toNatClampNeg v) (k := k) rfl (fun j hj => rfCell_eq (fun b => rfl) (by simp [sF, hj]) (by simp [sF, hj]))
  rw [rfCell_i hkd] at e
  rw [← e]
  have h2 := hP1
  simpa [sF] using h2
theorem Rf_lastore (X : rfX Λ E y cc nL ret) {k : Nat} {i : Int32} {v : Int64} (hk : k < Λ.1) (hkd : Λ.2.1 k = 1) {N : Nat} (hN : Λ.2.2.1 k = N) (hin : vp_in i N) (hd : decode cc pc = .ok (.lastore, 1)) (hp : pc + 1 = pc2) (kk : Rf Λ d E nL Q pc2 ls st (sL σ k i.toNatClampNeg v)) : Rf Λ d E nL Q pc ls (.long v :: .int i :: .ref k :: st) σ := by
  subst hp
  subst hN
  obtain ⟨p, l, e, s, m, args, below, meth, c, D, tc, ad, b0⟩ := E
  intro H locs la hP hS hl
  obtain ⟨hx, hb, hr, hml, hown, hts, hlk, hK, hI, hz, hSt⟩ := X
  refine va_last (D := D) (cl := vwCl) (tys := rfT tc) hx hb hK hP (rfW_D (b0 := b0) σ hI) hS k 1 (by rw [rfW_at hk, rfCell_l hkd]) rfl hin hd (fun H1 locs1 hP1 _ hS1 => kk H1 locs1 la ?_ hS1 hl)
  have e := rfW_set (Λ := Λ) (tc := tc) (ad := ad) (σ := σ) (σ' := sL σ k i.toNatClampNeg v) (k := k) rfl (fun j hj => rfCell_eq (fun b => rfl) (by simp [sL, hj]) (by simp [sL, hj]))
  rw [rfCell_l hkd] at e
  rw [← e]
  have h2 := hP1
  simpa [sL] using h2
theorem Rf_getstatic (X : rfX Λ E y cc nL ret) {ix : Nat} {q : Nat × String × String × List Int32} (hq : q ∈ rfSL) (hw : Cond.fieldLink y.cls ix q.2.1 q.2.2.1 "[I" ∈ rfG) (hd : decode cc pc = .ok (.getstatic ix, 3)) (hp : pc + 3 = pc2) (kk : Rf Λ d E nL Q pc2 ls (.ref q.1 :: st) σ) : Rf Λ d E nL Q pc ls st σ := by
  subst hp
  obtain ⟨p, l, e, s, m, args, below, meth, c, D, tc, ad, b0⟩ := E
  intro H locs la hP hS hl
  obtain ⟨hx, hb, hr, hml, hown, hts, hlk, hK, hI, hz, hSt⟩ := X
  have hn : ∀ x, rfA Λ ad s.heap.size x → b0 ≤ x := by
    intro x hx1
    rcases hx1 with ⟨k, h1, rfl⟩ | h1
    · exact hI.2 k h1
    · omega
  exact va_gets hx hb ((hSt q hq).1.narrow hn) hS hown (hts _ hw) (fun _ h9 => h9) hd (kk H locs la hP hS hl)
theorem Rf_siaload (X : rfX Λ E y cc nL ret) {q : Nat × String × String × List Int32} (hq : q ∈ rfSL) {i : Int32} (hin : vp_in i q.2.2.2.length) (hd : decode cc pc = .ok (.iaload, 1)) (hp : pc + 1 = pc2) (kk : Rf Λ d E nL Q pc2 ls (.int (q.2.2.2.getD i.toNatClampNeg 0) :: st) σ) : Rf Λ d E nL Q pc ls (.int i :: .ref q.1 :: st) σ := by
  subst hp
  obtain ⟨p, l, e, s, m, args, below, meth, c, D, tc, ad, b0⟩ := E
  intro H locs la hP hS hl
  obtain ⟨hx, hb, hr, hml, hown, hts, hlk, hK, hI, hz, hSt⟩ := X
  have hn : ∀ x, rfA Λ ad s.heap.size x → b0 ≤ x := by
    intro x hx1
    rcases hx1 with ⟨k, h1, rfl⟩ | h1
    · exact hI.2 k h1
    · omega
  exact va_ti hx hb ((hSt q hq).2.narrow hn) hS hin rfl hd (kk H locs la hP hS hl)
theorem Rf_copyi (X : rfX Λ E y cc nL ret) {ix k k2 N N2 : Nat} {sp dp n : Int32} (hw : Cond.methodLink y.cls ix arraycopyName ∈ rfG) (hw2 : Cond.native arraycopyName ∈ rfG) (hw3 : Cond.static arraycopyName ∈ rfG) (hw4 : Cond.initialized "java/lang/System" ∈ rfG) (hk : k < Λ.1) (hkd : Λ.2.1 k = 0) (hN : Λ.2.2.1 k = N) (hk2 : k2 < Λ.1) (hkd2 : Λ.2.1 k2 = 0) (hN2 : Λ.2.2.1 k2 = N2) (h1 : ¬ sp < 0) (h2 : ¬ dp < 0) (h3 : ¬ n < 0) (h4 : sp.toNatClampNeg + n.toNatClampNeg ≤ N) (h5 : dp.toNatClampNeg + n.toNatClampNeg ≤ N2) (hd1 : 1 ≤ d) (hst : (st.map fun v => v.category).sum ≤ 8) (hd : decode cc pc = .ok (.invokestatic ix, 3)) (hp : pc + 3 = pc2) (kk : Rf Λ d E nL Q pc2 ls st (cF σ k k2 sp.toNatClampNeg dp.toNatClampNeg n.toNatClampNeg)) : Rf Λ d E nL Q pc ls (.int n :: .int dp :: .ref k2 :: .int sp :: .ref k :: st) σ := by
  subst hp
  subst hN
  subst hN2
  obtain ⟨p, l, e, s, m, args, below, meth, c, D, tc, ad, b0⟩ := E
  intro H locs la hP hS hl
  obtain ⟨hx, hb, hr, hml, hown, hts, hlk, hK, hI, hz, hSt⟩ := X
  have hcat : ((st.map (rfV ad)).map fun v => v.category).sum = (st.map fun v => v.category).sum := by
    rw [List.map_map]
    congr 1
    exact List.map_congr_left (fun v _ => rfV_cat ad v)
  refine va_copyi (D := D) (cl := vwCl) (tys := rfT tc) hx hb (hml.trans hl.1.symm) hown (hts _ hw) (hts _ hw2) (hts _ hw3) (hts _ hw4) hK hP (rfW_D (b0 := b0) σ hI) hS k k2 0 0 (by rw [rfW_at hk, rfCell_i hkd]) (by rw [rfW_at hk2, rfCell_i hkd2]) rfl rfl rfl h1 h2 h3 h4 h5 (fun i _ => rfl) (by show 1 ≤ d; exact hd1) (by rw [hcat]; show _ + (7 + 11) ≤ 64 * d; omega) hd (fun H1 locs1 hP1 _ hS1 => kk H1 locs1 la ?_ hS1 hl)
  have e := rfW_set (Λ := Λ) (tc := tc) (ad := ad) (σ := σ) (σ' := cF σ k k2 sp.toNatClampNeg dp.toNatClampNeg n.toNatClampNeg) (k := k2) rfl (fun j hj => rfCell_eq (fun b => rfl) (by simp [cF, hj]) (by simp [cF, hj]))
  rw [rfCell_i hkd2] at e
  rw [← e]
  have h9 := hP1
  simpa [cF] using h9
theorem Rf_copyl (X : rfX Λ E y cc nL ret) {ix k k2 N N2 : Nat} {sp dp n : Int32} (hw : Cond.methodLink y.cls ix arraycopyName ∈ rfG) (hw2 : Cond.native arraycopyName ∈ rfG) (hw3 : Cond.static arraycopyName ∈ rfG) (hw4 : Cond.initialized "java/lang/System" ∈ rfG) (hk : k < Λ.1) (hkd : Λ.2.1 k = 1) (hN : Λ.2.2.1 k = N) (hk2 : k2 < Λ.1) (hkd2 : Λ.2.1 k2 = 1) (hN2 : Λ.2.2.1 k2 = N2) (h1 : ¬ sp < 0) (h2 : ¬ dp < 0) (h3 : ¬ n < 0) (h4 : sp.toNatClampNeg + n.toNatClampNeg ≤ N) (h5 : dp.toNatClampNeg + n.toNatClampNeg ≤ N2) (hd1 : 1 ≤ d) (hst : (st.map fun v => v.category).sum ≤ 8) (hd : decode cc pc = .ok (.invokestatic ix, 3)) (hp : pc + 3 = pc2) (kk : Rf Λ d E nL Q pc2 ls st (cL σ k k2 sp.toNatClampNeg dp.toNatClampNeg n.toNatClampNeg)) : Rf Λ d E nL Q pc ls (.int n :: .int dp :: .ref k2 :: .int sp :: .ref k :: st) σ := by
  subst hp
  subst hN
  subst hN2
  obtain ⟨p, l, e, s, m, args, below, meth, c, D, tc, ad, b0⟩ := E
  intro H locs la hP hS hl
  obtain ⟨hx, hb, hr, hml, hown, hts, hlk, hK, hI, hz, hSt⟩ := X
  have hcat : ((st.map (rfV ad)).map fun v => v.category).sum = (st.map fun v => v.category).sum := by
    rw [List.map_map]
    congr 1
    exact List.map_congr_left (fun v _ => rfV_cat ad v)
  refine va_copyl (D := D) (cl := vwCl) (tys := rfT tc) hx hb (hml.trans hl.1.symm) hown (hts _ hw) (hts _ hw2) (hts _ hw3) (hts _ hw4) hK hP (rfW_D (b0 := b0) σ hI) hS k k2 1 1 (by rw [rfW_at hk, rfCell_l hkd]) (by rw [rfW_at hk2, rfCell_l hkd2]) rfl rfl rfl h1 h2 h3 h4 h5 (fun i _ => rfl) (by show 1 ≤ d; exact hd1) (by rw [hcat]; show _ + (7 + 11) ≤ 64 * d; omega) hd (fun H1 locs1 hP1 _ hS1 => kk H1 locs1 la ?_ hS1 hl)
  have e := rfW_set (Λ := Λ) (tc := tc) (ad := ad) (σ := σ) (σ' := cL σ k k2 sp.toNatClampNeg dp.toNatClampNeg n.toNatClampNeg) (k := k2) rfl (fun j hj => rfCell_eq (fun b => rfl) (by simp [cL, hj]) (by simp [cL, hj]))
  rw [rfCell_l hkd2] at e
  rw [← e]
  have h9 := hP1
  simpa [cL] using h9
theorem Rf_max (X : rfX Λ E y cc nL ret) {ix : Nat} {x z : Int32} (hw : Cond.methodLink y.cls ix Lib.Math.max.name ∈ rfG) (hw2 : Cond.static Lib.Math.max.name ∈ rfG) (hw3 : Cond.initialized "java/lang/Math" ∈ rfG) (hw4 : Cond.code Lib.Math.max.name Lib.Math.max.code 2 (some .int) ∈ rfG) (hd1 : 1 ≤ d) (hst : (st.map fun v => v.category).sum ≤ 8) (hd : decode cc pc = .ok (.invokestatic ix, 3)) (hp : pc + 3 = pc2) (kk : Rf Λ d E nL Q pc2 ls (.int (if x < z then z else x) :: st) σ) : Rf Λ d E nL Q pc ls (.int z :: .int x :: st) σ := by
  subst hp
  obtain ⟨p, l, e, s, m, args, below, meth, c, D, tc, ad, b0⟩ := E
  intro H locs la hP hS hl
  obtain ⟨hx, hb, hr, hml, hown, hts, hlk, hK, hI, hz, hSt⟩ := X
  have hcat : ((st.map (rfV ad)).map fun v => v.category).sum = (st.map fun v => v.category).sum := by
    rw [List.map_map]
    congr 1
    exact List.map_congr_left (fun v _ => rfV_cat ad v)
  exact va_mmax hx hb (hml.trans hl.1.symm) hown (hts _ hw) (hts _ hw2) (hts _ hw3) (hts _ hw4) (by show 1 ≤ d; exact hd1) (by rw [hcat]; show _ + 13 ≤ 64 * d; omega) (Nat.zero_le _) (Nat.zero_le _) hd (kk H locs la hP hS hl)
theorem Rf_min (X : rfX Λ E y cc nL ret) {ix : Nat} {x z : Int32} (hw : Cond.methodLink y.cls ix Lib.Math.min.name ∈ rfG) (hw2 : Cond.static Lib.Math.min.name ∈ rfG) (hw3 : Cond.initialized "java/lang/Math" ∈ rfG) (hw4 : Cond.code Lib.Math.min.name Lib.Math.min.code 2 (some .int) ∈ rfG) (hd1 : 1 ≤ d) (hst : (st.map fun v => v.category).sum ≤ 8) (hd : decode cc pc = .ok (.invokestatic ix, 3)) (hp : pc + 3 = pc2) (kk : Rf Λ d E nL Q pc2 ls (.int (if z < x then z else x) :: st) σ) : Rf Λ d E nL Q pc ls (.int z :: .int x :: st) σ := by
  subst hp
  obtain ⟨p, l, e, s, m, args, below, meth, c, D, tc, ad, b0⟩ := E
  intro H locs la hP hS hl
  obtain ⟨hx, hb, hr, hml, hown, hts, hlk, hK, hI, hz, hSt⟩ := X
  have hcat : ((st.map (rfV ad)).map fun v => v.category).sum = (st.map fun v => v.category).sum := by
    rw [List.map_map]
    congr 1
    exact List.map_congr_left (fun v _ => rfV_cat ad v)
  exact va_mmin hx hb (hml.trans hl.1.symm) hown (hts _ hw) (hts _ hw2) (hts _ hw3) (hts _ hw4) (by show 1 ≤ d; exact hd1) (by rw [hcat]; show _ + 13 ≤ 64 * d; omega) (Nat.zero_le _) (Nat.zero_le _) hd (kk H locs la hP hS hl)
theorem rf_end {p : Program} {l : Launch} {e : Env} {s : State} {m : MethodId} {args : Array Value} {below : List Frame} {meth : Method} {c : Code} {D : va_G} {tc : Nat → ClassId} {ad : Nat → Nat} {b0 : Nat} {H : Heap} {locs : List Loc} {r : Option Value} (X : rfX Λ (p, l, e, s, m, args, below, meth, c, D, tc, ad, b0) y cc nL ret) (hP : va_P D vwCl (rfW Λ tc ad σ) H) (hS : va_S (rfA Λ ad s.heap.size) s.heap H locs) (hq : Q r σ) {t : State} (ht : t.heap = H) (hW : s.WarmedH t.vm) : rfQ Λ D tc ad b0 s.heap.size Q args s (.returned (r.map (rfV ad))) t := by
  obtain ⟨hx, hb, hr, hml, hown, hts, hlk, hK, hI, hz, hSt⟩ := X
  have hn : ∀ x, rfA Λ ad s.heap.size x → b0 ≤ x := by
    intro x hx1
    rcases hx1 with ⟨k, h1, rfl⟩ | h1
    · exact hI.2 k h1
    · omega
  refine ⟨⟨r, σ, rfl, hq, by rw [ht]; exact hP, va_K.moved hW.alike hK, hI, by rw [ht]; exact Nat.le_trans hz hS.1, ?_⟩, hS.F ht⟩
  rw [ht]
  exact (hSt.kept (fun a h1 h2 => hS.2.1 a h1 (fun q => h2 (hn a q)))).moved hW.alike
theorem Rf_iret {ty : FieldType} (X : rfX Λ E y cc nL (some ty)) {v : Int32} (hn : narrow ty (.int v) = .int v) (hd : decode cc pc = .ok (.ireturn, 1)) (hq : Q (some (.int v)) σ) : Rf Λ d E nL Q pc ls [.int v] σ := by
  obtain ⟨p, l, e, s, m, args, below, meth, c, D, tc, ad, b0⟩ := E
  intro H locs la hP hS hl
  have X0 := X
  obtain ⟨hx, hb, hr, hml, hown, hts, hlk, hK, hI, hz, hSt⟩ := X
  exact W.zret hx hb hr hn (fun t ht hW => rf_end (r := some (.int v)) X0 hP hS hq ht hW) hS.2.2 hd hlk
theorem Rf_lret (X : rfX Λ E y cc nL (some .long)) {v : Int64} (hd : decode cc pc = .ok (.lreturn, 1)) (hq : Q (some (.long v)) σ) : Rf Λ d E nL Q pc ls [.long v] σ := by
  obtain ⟨p, l, e, s, m, args, below, meth, c, D, tc, ad, b0⟩ := E
  intro H locs la hP hS hl
  have X0 := X
  obtain ⟨hx, hb, hr, hml, hown, hts, hlk, hK, hI, hz, hSt⟩ := X
  exact W.lret hx hb hr (fun t ht hW => rf_end (r := some (.long v)) X0 hP hS hq ht hW) hS.2.2 hd hlk
theorem Rf_aret {C : String} (X : rfX Λ E y cc nL (some (.object C))) {k : Nat} (hd : decode cc pc = .ok (.areturn, 1)) (hq : Q (some (.ref k)) σ) : Rf Λ d E nL Q pc ls [.ref k] σ := by
  obtain ⟨p, l, e, s, m, args, below, meth, c, D, tc, ad, b0⟩ := E
  intro H locs la hP hS hl
  have X0 := X
  obtain ⟨hx, hb, hr, hml, hown, hts, hlk, hK, hI, hz, hSt⟩ := X
  exact W.aret hx hb hr (Or.inl ⟨_, rfl⟩) (Or.inr ⟨_, rfl⟩) (fun t ht hW => rf_end (r := some (.ref k)) X0 hP hS hq ht hW) hS.2.2 hd hlk
theorem Rf_vret (X : rfX Λ E y cc nL none) (hd : decode cc pc = .ok (.return_, 1)) (hq : Q none σ) : Rf Λ d E nL Q pc ls [] σ := by
  obtain ⟨p, l, e, s, m, args, below, meth, c, D, tc, ad, b0⟩ := E
  intro H locs la hP hS hl
  have X0 := X
  obtain ⟨hx, hb, hr, hml, hown, hts, hlk, hK, hI, hz, hSt⟩ := X
  exact W.vret hx hb hr (fun t ht hW => rf_end (r := none) X0 hP hS hq ht hW) hS.2.2 hd hlk
theorem RM.intro {as : List Value} (hy : plainName y.cls = true) (hnl : (lg_sl as).length ≤ nL) (h : ∀ E : rfE, rfX Λ E y cc nL ret → Rf Λ d E nL Q 0 (lv_args 0 as) [] σ) : RM Λ d y cc nL ret as σ Q := by
  intro l D tc ad b0 sz
  refine Met.ofW (cc := cc) (maxL := nL) (ret := ret) hy rfl ?_
  intro p e s m args below meth c s₁ B hml hv
  obtain ⟨rfl, hsz, hP, hK, hI, hz, hSt⟩ := hv
  have hts := atoms_spec (ws := Cond.code y cc nL ret :: rfG) B.pre
  have hown : s.vm.findClass y.cls = some m.cls := findClass_of_methodNamed B.named
  subst hsz
  have X : rfX Λ (p, l, e, s, m, (as.map (rfV ad)).toArray, below, meth, c, D, tc, ad, b0) y cc nL ret := ⟨B.exec, B.bytes, B.returns, hml, hown, fun w hw => hts w (List.mem_cons_of_mem _ hw), B.notSynchronized, hK, hI, hz, hSt⟩
  have hsl : (lg_sl (as.map (rfV ad))).length = (lg_sl as).length := by
    unfold lg_sl
    rw [List.length_flatMap, List.length_flatMap, List.map_map]
    congr 1
    refine List.map_congr_left (fun v _ => ?_)
    simp only [Function.comp, rfV_cat]
    split <;> rfl
  have hl := lv_entry (as.map (rfV ad)) (n := nL) (by rw [hsl]; exact hnl)
  rw [lg_entry_eq]
  generalize (lg_sl (as.map (rfV ad)) ++ List.replicate (nL - (lg_sl (as.map (rfV ad))).length) Slot.unset).toArray = la at hl ⊢
  have ha : ∀ (as : List Value) (n : Nat), lv_args n (as.map (rfV ad)) = (lv_args n as).map (fun q => (q.1, rfV ad q.2)) := by
    intro as
    induction as with
    | nil => intro n; rfl
    | cons v r ih =>
      intro n
      simp only [List.map_cons, lv_args, rfV_cat, ih]
  rw [ha] at hl
  exact h _ X s.heap [] la hP va_S.rf hl
theorem rf_run {p : Program} {l : Launch} {e : Env} {s : State} {m : MethodId} {args a : Array Value} {below : List Frame} {meth : Method} {c : Code} {D : va_G} {tc : Nat → ClassId} {ad : Nat → Nat} {b0 : Nat} {H : Heap} {locs : List Loc} {la : Array Slot} {rest st0 : List Value} {Q2 : Option Value → rfS → Prop}
    (hr : va_Run p l e (rfR d) s m args below meth c H locs 0 0 0 0 (F0 m pc la st0) (rest.map (rfV ad)) (rfQ Λ D tc ad b0 H.size Q2 a) (rfA Λ ad H.size)) (hS : va_S (rfA Λ ad s.heap.size) s.heap H locs) (hl : lv_has la nL (ls.map (fun q => (q.1, rfV ad q.2)))) (kk : ∀ r σ3, Q2 r σ3 → Rf Λ d (p, l, e, s, m, args, below, meth, c, D, tc, ad, b0) nL Q (pc + 3) ls (r.toList ++ rest) σ3) :
    W p l e (rfR d) s m args below meth c H locs 0 0 (MQ below (rfQ Λ D tc ad b0 s.heap.size Q) args s 0 0 (rfA Λ ad s.heap.size)) (F0 m pc la st0) := by
  intro T hT X
  obtain ⟨v, st₀, t, T', L, h0, X', hL, e1, e2, ⟨⟨r, σ3, hv, hq, hB⟩, hz, hk⟩, st⟩ := hr T hT X
  cases hv
  rw [h0] at hz hk
  have hA : ∀ q, q < H.size → rfA Λ ad H.size q → rfA Λ ad s.heap.size q := by
    intro q h1 h2
    rcases h2 with h2 | h2
    · exact Or.inl h2
    · omega
  have hf : ∀ q, rfA Λ ad H.size q → rfA Λ ad s.heap.size q := by
    intro q h2
    rcases h2 with h2 | h2
    · exact Or.inl h2
    · exact Or.inr (Nat.le_trans hS.1 h2)
  obtain ⟨t2, a1, b1⟩ := kk r σ3 hq T'.heap (locs ++ L) la (by rw [e1]; exact hB.1)
    ⟨Nat.le_trans hS.1 (by rw [e1]; exact hz), fun q h1 h2 => by rw [e1, hk q (Nat.lt_of_lt_of_le h1 hS.1) (fun z => h2 (hA q (Nat.lt_of_lt_of_le h1 hS.1) z))]; exact hS.2.1 q h1 h2, fun q hq => by
      rcases List.mem_append.mp hq with h | h
      · exact hS.2.2 q h
      · exact hf _ (hL q h)⟩ hl T' rfl X'
  refine ⟨t2, st t2 ?_, b1⟩
  have e9 : List.map (rfV ad) (r.toList ++ rest) = (r.map (rfV ad)).toList ++ rest.map (rfV ad) := by
    rw [List.map_append]
    cases r <;> rfl
  rw [e9] at a1
  exact a1
theorem Rf_callV (X : rfX Λ E y cc nL ret) {ix n2 d2 nL2 : Nat} {y2 : MethodName} {cc2 : ByteArray} {ret2 : Option FieldType} {as stk : List Value} {Q2 : Option Value → rfS → Prop} {k ci : Nat} {C : String} {T : u_T} {N : Nat} (hcl : vwCl[ci]? = some (C, T, N)) (hk : k < Λ.1) (hkd : Λ.2.1 k = ci + 4) (hM : RM Λ d2 y2 cc2 nL2 ret2 (.ref k :: as) σ Q2) (hdd : d2 + 1 ≤ d) (hnl : nL2 ≤ 45) (hw : Cond.methodLink y.cls ix y2 ∈ rfG) (hwi : Cond.instanceMethod y2 ∈ rfG) (hws : Cond.selects C y2 y2 ∈ rfG) (hwn : Cond.initialized C ∈ rfG) (hwc : Cond.code y2 cc2 nL2 ret2 ∈ rfG) (hdn : y2.cls = C ∧ y2.cls ≠ "java/lang/invoke/MethodHandle" ∧ y2.cls ≠ "java/lang/invoke/VarHandle" ∧ (parseMethodDescriptor y2.desc).map (fun d => d.parameters.length) = some n2) (hlen : as.length = n2) (hstk : stk = as.reverse ++ .ref k :: st) (hst : (st.map fun v => v.category).sum ≤ 8) (hd : decode cc pc = .ok (.invokevirtual ix, 3)) (hp : pc + 3 = pc2) (kk : ∀ r σ2, Q2 r σ2 → Rf Λ d E nL Q pc2 ls (r.toList ++ st) σ2) : Rf Λ d E nL Q pc ls stk σ := by
  subst hp
  subst hstk
  obtain ⟨p, l, e, s, m, args, below, meth, c, D, tc, ad, b0⟩ := E
  intro H locs la hP hS hl
  obtain ⟨hx, hb, hr, hml, hown, hts, hlk, hK, hI, hz, hSt⟩ := X
  have hblind : ∀ (as2 : List Value), FrameBlind (va_Pc (as2.map (rfV ad)) (fun U => U.heap.size = H.size ∧ rfB Λ D tc ad b0 σ U)) := by
    intro as2 a U g mk q
    obtain ⟨q0, q1, qP, qK, qI, qz, qS⟩ := q
    exact ⟨q0, q1, qP, va_K.moved (u := U) (U := U.calling g mk a) (Vm.Alike.refl U.vm) qK, qI, qz, rfSt.moved (s := U) (t := U.calling g mk a) (Vm.Alike.refl U.vm) qS⟩
  have hn : ∀ x, rfA Λ ad s.heap.size x → b0 ≤ x := by
    intro x hx1
    rcases hx1 with ⟨k, h1, rfl⟩ | h1
    · exact hI.2 k h1
    · omega
  have hB : ∀ U : State, U.heap = H → s.WarmedH U.vm → U.heap.size = H.size ∧ rfB Λ D tc ad b0 σ U := by
    intro U hU hW
    refine ⟨by rw [hU], by rw [hU]; exact hP, va_K.moved hW.alike hK, hI, by rw [hU]; exact Nat.le_trans hz hS.1, ?_⟩
    rw [hU]
    exact (hSt.kept (fun a h1 h2 => hS.2.1 a h1 (fun q => h2 (hn a q)))).moved hW.alike
  have hcat : ((st.map (rfV ad)).map fun v => v.category).sum = (st.map fun v => v.category).sum := by
    rw [List.map_map]
    congr 1
    exact List.map_congr_left (fun v _ => rfV_cat ad v)
  have hG : GoodIn rfG (Cond.code y2 cc2 nL2 ret2 :: rfG) := rf_good (fun w hw => by
    rcases List.mem_cons.mp hw with h | h
    · rw [h]; exact hwc
    · exact h)
  have hroom : (rfR d2).frames + 1 ≤ (rfR d).frames ∧ 8 + (nL2 + 11) + (rfR d2).locals ≤ (rfR d).locals := ⟨hdd, by show 8 + (nL2 + 11) + 64 * d2 ≤ 64 * d; omega⟩
  refine rf_run (la := la) (va_runV (As := as.map (rfV ad)) (rest := st.map (rfV ad)) (C := C) (b := ad k) ⟨hx, hb, hml, hown, hts⟩ (hM l D tc ad b0 H.size) (cwV n2 hts (C := C) (index := ix) (rf_good (fun w hw9 => ?_)) rfl rfl rfl hdn hroom) ⟨hblind _, va_recv hK hP hcl (q0 := k) (by rw [rfW_at hk, rfCell_obj hkd]), fun U hU hW => ⟨rfl, hB U hU hW⟩⟩ rfl (by rw [List.length_map]; exact hlen) hl.1 (by rw [List.map_append, List.map_reverse]; rfl) (lv_room (by rw [hcat]; exact hst)) hd ⟨Nat.zero_le _, Nat.zero_le _⟩) hS hl kk
  unfold wsV at hw9
  rcases List.mem_append.mp hw9 with h | h
  · simp only [List.mem_cons, List.not_mem_nil, or_false] at h
    rcases h with h | h | h | h
    · rw [h]; exact hw
    · rw [h]; exact hwi
    · rw [h]; exact hws
    · rw [h]; exact hwn
  · exact (hG w h).1
theorem Rf_callS (X : rfX Λ E y cc nL ret) {ix n2 d2 nL2 : Nat} {y2 : MethodName} {cc2 : ByteArray} {ret2 : Option FieldType} {as stk : List Value} {Q2 : Option Value → rfS → Prop} (hM : RM Λ d2 y2 cc2 nL2 ret2 as σ Q2) (hdd : d2 + 1 ≤ d) (hnl : nL2 ≤ 45) (hw : Cond.methodLink y.cls ix y2 ∈ rfG) (hws : Cond.static y2 ∈ rfG) (hwn : Cond.initialized y2.cls ∈ rfG) (hwc : Cond.code y2 cc2 nL2 ret2 ∈ rfG) (hdn : y2.cls ≠ "java/lang/invoke/MethodHandle" ∧ y2.cls ≠ "java/lang/invoke/VarHandle" ∧ (parseMethodDescriptor y2.desc).map (fun d => d.parameters.length) = some n2) (hlen : as.length = n2) (hstk : stk = as.reverse ++ st) (hst : (st.map fun v => v.category).sum ≤ 8) (hd : decode cc pc = .ok (.invokestatic ix, 3)) (hp : pc + 3 = pc2) (kk : ∀ r σ2, Q2 r σ2 → Rf Λ d E nL Q pc2 ls (r.toList ++ st) σ2) : Rf Λ d E nL Q pc ls stk σ := by
  subst hp
  subst hstk
  obtain ⟨p, l, e, s, m, args, below, meth, c, D, tc, ad, b0⟩ := E
  intro H locs la hP hS hl
  obtain ⟨hx, hb, hr, hml, hown, hts, hlk, hK, hI, hz, hSt⟩ := X
  have hblind : ∀ (as2 : List Value), FrameBlind (va_Pc (as2.map (rfV ad)) (fun U => U.heap.size = H.size ∧ rfB Λ D tc ad b0 σ U)) := by
    intro as2 a U g mk q
    obtain ⟨q0, q1, qP, qK, qI, qz, qS⟩ := q
    exact ⟨q0, q1, qP, va_K.moved (u := U) (U := U.calling g mk a) (Vm.Alike.refl U.vm) qK, qI, qz, rfSt.moved (s := U) (t := U.calling g mk a) (Vm.Alike.refl U.vm) qS⟩
  have hn : ∀ x, rfA Λ ad s.heap.size x → b0 ≤ x := by
    intro x hx1
    rcases hx1 with ⟨k, h1, rfl⟩ | h1
    · exact hI.2 k h1
    · omega
  have hB : ∀ U : State, U.heap = H → s.WarmedH U.vm → U.heap.size = H.size ∧ rfB Λ D tc ad b0 σ U := by
    intro U hU hW
    refine ⟨by rw [hU], by rw [hU]; exact hP, va_K.moved hW.alike hK, hI, by rw [hU]; exact Nat.le_trans hz hS.1, ?_⟩
    rw [hU]
    exact (hSt.kept (fun a h1 h2 => hS.2.1 a h1 (fun q => h2 (hn a q)))).moved hW.alike
  have hcat : ((st.map (rfV ad)).map fun v => v.category).sum = (st.map fun v => v.category).sum := by
    rw [List.map_map]
    congr 1
    exact List.map_congr_left (fun v _ => rfV_cat ad v)
  have hG : GoodIn rfG (Cond.code y2 cc2 nL2 ret2 :: rfG) := rf_good (fun w hw => by
    rcases List.mem_cons.mp hw with h | h
    · rw [h]; exact hwc
    · exact h)
  have hroom : (rfR d2).frames + 1 ≤ (rfR d).frames ∧ 8 + (nL2 + 11) + (rfR d2).locals ≤ (rfR d).locals := ⟨hdd, by show 8 + (nL2 + 11) + 64 * d2 ≤ 64 * d; omega⟩
  exact rf_run (la := la) (va_runS (As := as.map (rfV ad)) (rest := st.map (rfV ad)) ⟨hx, hb, hml, hown, hts⟩ (hM l D tc ad b0 H.size) ⟨callB_of n2 hts hG rfl rfl rfl (hts _ hwn) (hts _ hw) hdn hroom, hts _ hws⟩ ⟨hblind _, fun U hU hW => ⟨rfl, hB U hU hW⟩⟩ rfl (by rw [List.length_map]; exact hlen) hl.1 (by rw [List.map_append, List.map_reverse]) (lv_room (by rw [hcat]; exact hst)) hd ⟨Nat.zero_le _, Nat.zero_le _⟩) hS hl kk
end RfHeap

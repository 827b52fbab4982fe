
/-! the abstract state: int fields, int arrays, long arrays, each by cell and place -/
abbrev rfS : Type := (Nat → Nat → Int32) × (Nat → Nat → Int32) × (Nat → Nat → Int64)
def gI (σ : rfS) (k j : Nat) : Int32 := σ.1 k j
def gF (σ : rfS) (k j : Nat) : Int32 := σ.2.1 k j
def gL (σ : rfS) (k j : Nat) : Int64 := σ.2.2 k j
def sI (σ : rfS) (k j : Nat) (v : Int32) : rfS := (fun a b => if b = j ∧ a = k then v else σ.1 a b, σ.2.1, σ.2.2)
def sF (σ : rfS) (k j : Nat) (v : Int32) : rfS := (σ.1, fun a => if a = k then upd (σ.2.1 k) j v else σ.2.1 a, σ.2.2)
def sL (σ : rfS) (k j : Nat) (v : Int64) : rfS := (σ.1, σ.2.1, fun a => if a = k then vp_updL (σ.2.2 k) j v else σ.2.2 a)
def cF (σ : rfS) (k k2 sp dp n : Nat) : rfS := (σ.1, fun a => if a = k2 then va_cpy (σ.2.1 k) (σ.2.1 k2) sp dp n else σ.2.1 a, σ.2.2)
def cL (σ : rfS) (k k2 sp dp n : Nat) : rfS := (σ.1, σ.2.1, fun a => if a = k2 then va_cpy (σ.2.2 k) (σ.2.2 k2) sp dp n else σ.2.2 a)
theorem gI_sI (σ : rfS) (k j : Nat) (v : Int32) (a b : Nat) : gI (sI σ k j v) a b = if b = j ∧ a = k then v else gI σ a b := rfl
theorem gI_sF (σ : rfS) (k j : Nat) (v : Int32) (a b : Nat) : gI (sF σ k j v) a b = gI σ a b := rfl
theorem gI_sL (σ : rfS) (k j : Nat) (v : Int64) (a b : Nat) : gI (sL σ k j v) a b = gI σ a b := rfl
theorem gF_sI (σ : rfS) (k j : Nat) (v : Int32) (a b : Nat) : gF (sI σ k j v) a b = gF σ a b := rfl
theorem gF_sF (σ : rfS) (k j : Nat) (v : Int32) (a b : Nat) : gF (sF σ k j v) a b = if a = k ∧ b = j then v else gF σ a b := by
  unfold gF sF
  by_cases h : a = k
  · subst h
    by_cases h2 : b = j
    · simp [upd, h2]
    · simp [upd, h2]
  · simp [h]
theorem gF_sL (σ : rfS) (k j : Nat) (v : Int64) (a b : Nat) : gF (sL σ k j v) a b = gF σ a b := rfl
theorem gL_sI (σ : rfS) (k j : Nat) (v : Int32) (a b : Nat) : gL (sI σ k j v) a b = gL σ a b := rfl
theorem gL_sF (σ : rfS) (k j : Nat) (v : Int32) (a b : Nat) : gL (sF σ k j v) a b = gL σ a b := rfl
theorem gL_sL (σ : rfS) (k j : Nat) (v : Int64) (a b : Nat) : gL (sL σ k j v) a b = if a = k ∧ b = j then v else gL σ a b := by
  unfold gL sL
  by_cases h : a = k
  · subst h
    by_cases h2 : b = j
    · simp [vp_updL, h2]
    · simp [vp_updL, h2]
  · simp [h]
theorem gI_cF (σ : rfS) (k k2 sp dp n a b : Nat) : gI (cF σ k k2 sp dp n) a b = gI σ a b := rfl
theorem gL_cF (σ : rfS) (k k2 sp dp n a b : Nat) : gL (cF σ k k2 sp dp n) a b = gL σ a b := rfl
theorem gF_cF (σ : rfS) (k k2 sp dp n a b : Nat) : gF (cF σ k k2 sp dp n) a b = if a = k2 ∧ dp ≤ b ∧ b < dp + n then gF σ k (sp + (b - dp)) else gF σ a b := by
  unfold gF cF va_cpy
  by_cases h : a = k2
  · subst h
    by_cases h2 : dp ≤ b ∧ b < dp + n
    · simp [h2]
    · simp [h2]
  · simp [h]
theorem gI_cL (σ : rfS) (k k2 sp dp n a b : Nat) : gI (cL σ k k2 sp dp n) a b = gI σ a b := rfl
theorem gF_cL (σ : rfS) (k k2 sp dp n a b : Nat) : gF (cL σ k k2 sp dp n) a b = gF σ a b := rfl
theorem gL_cL (σ : rfS) (k k2 sp dp n a b : Nat) : gL (cL σ k k2 sp dp n) a b = if a = k2 ∧ dp ≤ b ∧ b < dp + n then gL σ k (sp + (b - dp)) else gL σ a b := by
  unfold gL cL va_cpy
  by_cases h : a = k2
  · subst h
    by_cases h2 : dp ≤ b ∧ b < dp + n
    · simp [h2]
    · simp [h2]
  · simp [h]
/-! a layout: how many cells; of which kind (0 ints, 1 longs, 2 and 3 references, c + 4 an object of class c); how long; where fields and rows point -/
abbrev rfL : Type := Nat × (Nat → Nat) × (Nat → Nat) × (Nat → Nat → Nat → Option Nat) × (Nat → Nat → Nat)
def rfN (c : Nat) : Nat := match vwCl[c]? with
  | some q => q.2.2
  | none => 0
def rfV (ad : Nat → Nat) (v : Value) : Value := match v with
  | .ref k => .ref (ad k)
  | w => w
def rfFl (Λ : rfL) (σ : rfS) (c k j : Nat) : Value := match Λ.2.2.2.1 c k j with
  | some q => .ref q
  | none => .int (σ.1 k j)
def rfCell (Λ : rfL) (tc : Nat → ClassId) (ad : Nat → Nat) (σ : rfS) (k : Nat) : va_E := match Λ.2.1 k with
  | 0 => .inl (tc 0, Λ.2.2.1 k, .inl (σ.2.1 k))
  | 1 => .inl (tc 1, Λ.2.2.1 k, .inr (.inl (σ.2.2 k)))
  | 2 => .inl (tc 2, Λ.2.2.1 k, .inr (.inr (.inr (.inr (fun j => some (ad (Λ.2.2.2.2 k j)))))))
  | 3 => .inl (tc 3, Λ.2.2.1 k, .inr (.inr (.inr (.inr (fun j => some (ad (Λ.2.2.2.2 k j)))))))
  | c + 4 => .inr (c, (List.range (rfN c)).map (fun j => rfV ad (rfFl Λ σ c k j)))
def rfW (Λ : rfL) (tc : Nat → ClassId) (ad : Nat → Nat) (σ : rfS) : va_W := (List.range Λ.1).map (fun k => (ad k, rfCell Λ tc ad σ k))
def rfT (tc : Nat → ClassId) : List (ClassId × FieldType) := [(tc 0, .int), (tc 1, .long), (tc 2, .object "OneLeg$Standing"), (tc 3, .object "OneLeg$Shelf")]
def rfA (Λ : rfL) (ad : Nat → Nat) (sz : Nat) : Nat → Prop := fun q => (∃ k, k < Λ.1 ∧ q = ad k) ∨ sz ≤ q
def rfG : List Cond := lw_tbl.filter goodWord
theorem rf_g {w : Cond} (h : w ∈ lw_tbl) (hg : goodWord w = true) : w ∈ rfG := List.mem_filter.mpr ⟨h, hg⟩
theorem rf_gl {w : Cond} (i : Nat) (h : lw_tbl[i]? = some w) (hg : goodWord w = true) : w ∈ rfG := rf_g (List.mem_of_getElem? h) hg
theorem rf_good {ws : List Cond} (h : ∀ w ∈ ws, w ∈ rfG) : GoodIn rfG ws := fun w hw => ⟨h w hw, good_of_word (List.mem_filter.mp (h w hw)).2⟩
def rfR (d : Nat) : Room := { frames := d, cells := 0, slots := 0, locals := 64 * d }
/-! the class's four static rows -/
def rfSL : List (Nat × String × String × List Int32) := [(1000, "OneLeg", "LEAST_OF", [0, 0, 0, 1, 0, 0, 0, 0]), (1001, "OneLeg", "MOST_OF", [127, 99, 255, 9, 3, 7, 99, 6]), (1002, "OneLeg$Boots", "ABOVE", [-1, 0, 0, 2, 1, 3, 0, 4]), (1003, "OneLeg$Boots", "BODIES", [1, 10, 11, 2, 20, 0, 0, 0, 0, 30, 0, 0, 0, 41, 40, 0, 0, 0, 50, 0, 0, 0, 0, 60, 70, 0, 0, 0, 0, 80, 0, 81])]
def rfSt (ad : Nat → Nat) (b0 : Nat) (s : State) (H : Heap) : Prop := ∀ q ∈ rfSL, va_Z q.2.1 q.2.2.1 "[I" (.ref (ad q.1)) (fun x => b0 ≤ x) s H ∧ va_T .int (ad q.1) q.2.2.2.length (fun j => .int (q.2.2.2.getD j 0)) (fun x => b0 ≤ x) s H
theorem rfSt.moved {ad : Nat → Nat} {b0 : Nat} {s t : State} {H : Heap} (hv : s.vm.Alike t.vm) (h : rfSt ad b0 s H) : rfSt ad b0 t H := fun q hq => ⟨(h q hq).1.moved hv, (h q hq).2.moved hv⟩
theorem rfSt.kept {ad : Nat → Nat} {b0 : Nat} {s : State} {H H1 : Heap} (h : rfSt ad b0 s H) (hq : ∀ a : Nat, a < H.size → ¬ b0 ≤ a → H1[a]? = H[a]?) : rfSt ad b0 s H1 := fun q h1 => ⟨(h q h1).1.kept hq, (h q h1).2.kept hq⟩
def rfInj (Λ : rfL) (ad : Nat → Nat) (b0 : Nat) : Prop := (∀ i j, i < Λ.1 → j < Λ.1 → ad i = ad j → i = j) ∧ ∀ k, k < Λ.1 → b0 ≤ ad k
/-- the world of a state -/
def rfB (Λ : rfL) (D : va_G) (tc : Nat → ClassId) (ad : Nat → Nat) (b0 : Nat) (σ : rfS) (U : State) : Prop :=
  va_P D vwCl (rfW Λ tc ad σ) U.heap ∧ va_K D vwCl (rfT tc) U ∧ rfInj Λ ad b0 ∧ b0 ≤ U.heap.size ∧ rfSt ad b0 U U.heap
def rfQ (Λ : rfL) (D : va_G) (tc : Nat → ClassId) (ad : Nat → Nat) (b0 sz : Nat) (Q : Option Value → rfS → Prop) : Array Value → State → Outcome → State → Prop := fun _ st oc t =>
  (∃ (r : Option Value) (σ : rfS), oc = .returned (r.map (rfV ad)) ∧ Q r σ ∧ rfB Λ D tc ad b0 σ t) ∧ va_F (rfA Λ ad sz) st t
/-- a method's contract: from the state σ with these arguments it ends with Q -/
def RM (Λ : rfL) (d : Nat) (y : MethodName) (cc : ByteArray) (nL : Nat) (ret : Option FieldType) (as : List Value) (σ : rfS) (Q : Option Value → rfS → Prop) : Prop :=
  ∀ (l : Launch) (D : va_G) (tc : Nat → ClassId) (ad : Nat → Nat) (b0 sz : Nat), Met l y (Cond.code y cc nL ret :: rfG) (rfR d) (va_Pc (as.map (rfV ad)) (fun U => U.heap.size = sz ∧ rfB Λ D tc ad b0 σ U)) (rfQ Λ D tc ad b0 sz Q) 0 0 (rfA Λ ad sz)
abbrev rfE : Type := Program × Launch × Env × State × MethodId × Array Value × List Frame × Method × Code × va_G × (Nat → ClassId) × (Nat → Nat) × Nat
def rfX (Λ : rfL) (E : rfE) (y : MethodName) (cc : ByteArray) (nL : Nat) (ret : Option FieldType) : Prop := match E with
  | (p, _, _, s, m, args, _, meth, c, D, tc, ad, b0) => p.tables.exec = Jvm.exec ∧ c.code = cc ∧ meth.sig.returnType = ret ∧ c.maxLocals = nL ∧ s.vm.findClass y.cls = some m.cls ∧ (∀ w ∈ rfG, w.before args s = true) ∧ meth.locks = false ∧ va_K D vwCl (rfT tc) s ∧ rfInj Λ ad b0 ∧ b0 ≤ s.heap.size ∧ rfSt ad b0 s s.heap
/-- the machine, now in this method at pc, comes to its end with Q -/
def Rf (Λ : rfL) (d : Nat) (E : rfE) (nL : Nat) (Q : Option Value → rfS → Prop) (pc : Nat) (ls : List (Nat × Value)) (st : List Value) (σ : rfS) : Prop := match E with
  | (p, l, e, s, m, args, below, meth, c, D, tc, ad, b0) => ∀ (H : Heap) (locs : List Loc) (la : Array Slot), va_P D vwCl (rfW Λ tc ad σ) H → va_S (rfA Λ ad s.heap.size) s.heap H locs → lv_has la nL (ls.map (fun q => (q.1, rfV ad q.2))) →
      W p l e (rfR d) s m args below meth c H locs 0 0 (MQ below (rfQ Λ D tc ad b0 s.heap.size Q) args s 0 0 (rfA Λ ad s.heap.size)) (F0 m pc la (st.map (rfV ad)))
theorem rfV_cat (ad : Nat → Nat) (v : Value) : (rfV ad v).category = v.category := by cases v <;> rfl
theorem rfW_at {Λ : rfL} {tc : Nat → ClassId} {ad : Nat → Nat} {σ : rfS} {k : Nat} (h : k < Λ.1) : (rfW Λ tc ad σ)[k]? = some (ad k, rfCell Λ tc ad σ k) := by
  simp [rfW, List.getElem?_map, List.getElem?_range h]
theorem rfW_set {Λ : rfL} {tc : Nat → ClassId} {ad : Nat → Nat} {σ σ' : rfS} {k : Nat} {e : va_E} (hk : rfCell Λ tc ad σ' k = e) (ho : ∀ j, j ≠ k → rfCell Λ tc ad σ' j = rfCell Λ tc ad σ j) : (rfW Λ tc ad σ).set k (ad k, e) = rfW Λ tc ad σ' := by
  apply List.ext_getElem?
  intro i
  rw [List.getElem?_set]
  by_cases hi : i < Λ.1
  · rw [rfW_at hi, rfW_at hi]
    by_cases hki : k = i
    · subst hki
      simp [rfW, hi, hk]
    · rw [if_neg hki, ho i (fun q => hki q.symm)]
  · have h1 : (rfW Λ tc ad σ)[i]? = none := List.getElem?_eq_none (by simp [rfW]; omega)
    have h2 : (rfW Λ tc ad σ')[i]? = none := List.getElem?_eq_none (by simp [rfW]; omega)
    rw [h1, h2]
    by_cases hki : k = i
    · subst hki
      simp [rfW, hi]
    · rw [if_neg hki]
theorem rfW_D {Λ : rfL} {tc : Nat → ClassId} {ad : Nat → Nat} {b0 sz : Nat} (σ : rfS) (h : rfInj Λ ad b0) : va_D (rfA Λ ad sz) (rfW Λ tc ad σ) := by
  have at' : ∀ (i : Nat) (q : Nat × va_E), (rfW Λ tc ad σ)[i]? = some q → i < Λ.1 ∧ q.1 = ad i := by
    intro i q hq
    by_cases hi : i < Λ.1
    · rw [rfW_at hi] at hq
      cases hq
      exact ⟨hi, rfl⟩
    · rw [List.getElem?_eq_none (by simp [rfW]; omega)] at hq
      cases hq
  refine ⟨fun i j p q hp hq e => ?_, fun k q hq => ?_⟩
  · obtain ⟨a1, a2⟩ := at' i p hp
    obtain ⟨b1, b2⟩ := at' j q hq
    exact h.1 i j a1 b1 (by rw [← a2, ← b2]; exact e)
  · obtain ⟨a1, a2⟩ := at' k q hq
    exact Or.inl ⟨k, a1, a2⟩
theorem rf_map {ad : Nat → Nat} {ls : List (Nat × Value)} {k i : Nat} {v : Value} (h : ls[k]? = some (i, v)) : (ls.map (fun q => (q.1, rfV ad q.2)))[k]? = some (i, rfV ad v) := by
  simp [List.getElem?_map, h]
theorem rf_filt {ad : Nat → Nat} {ls : List (Nat × Value)} (f : Nat → Nat → Bool) : (ls.map (fun q => (q.1, rfV ad q.2))).filter (fun q => f q.1 q.2.category) = (ls.filter (fun q => f q.1 q.2.category)).map (fun q => (q.1, rfV ad q.2)) := by
  rw [List.filter_map]
  congr 1
  apply List.filter_congr
  intro q _
  simp [Function.comp, rfV_cat]


section RfRules
variable {Λ : rfL} {d : Nat} {E : rfE} {y : MethodName} {cc : ByteArray} {nL : Nat} {ret : Option FieldType} {Q : Option Value → rfS → Prop} {pc pc2 : Nat} {ls ls2 : List (Nat × Value)} {st : List Value} {σ : rfS}

theorem Rf_iconst (X : rfX Λ E y cc nL ret) {n : Int} {v : Int32} (hv : Int32.ofInt n = v) (hd : decode cc pc = .ok (.iconst n, 1)) (hp : pc + 1 = pc2) (k : Rf Λ d E nL Q pc2 ls (.int v :: st) σ) : Rf Λ d E nL Q pc ls st σ := by
  subst hp
  obtain ⟨p, l, e, s, m, args, below, meth, c, D, tc, ad, b0⟩ := E
  intro H locs la hP hS hl
  obtain ⟨hx, hb, hr, hml, hown, hts, hlk, hK, hI, hz, hSt⟩ := X
  exact lv_iconst hx hb hd hv (k H locs la hP hS hl)
theorem Rf_bipush (X : rfX Λ E y cc nL ret) {n : Int} {v : Int32} (hv : (Int8.ofInt n).toInt32 = v) (hd : decode cc pc = .ok (.bipush n, 2)) (hp : pc + 2 = pc2) (k : Rf Λ d E nL Q pc2 ls (.int v :: st) σ) : Rf Λ d E nL Q pc ls st σ := by
  subst hp
  obtain ⟨p, l, e, s, m, args, below, meth, c, D, tc, ad, b0⟩ := E
  intro H locs la hP hS hl
  obtain ⟨hx, hb, hr, hml, hown, hts, hlk, hK, hI, hz, hSt⟩ := X
  exact lv_bipush hx hb hd hv (k H locs la hP hS hl)
theorem Rf_sipush (X : rfX Λ E y cc nL ret) {n : Int} {v : Int32} (hv : (Int16.ofInt n).toInt32 = v) (hd : decode cc pc = .ok (.sipush n, 3)) (hp : pc + 3 = pc2) (k : Rf Λ d E nL Q pc2 ls (.int v :: st) σ) : Rf Λ d E nL Q pc ls st σ := by
  subst hp
  obtain ⟨p, l, e, s, m, args, below, meth, c, D, tc, ad, b0⟩ := E
  intro H locs la hP hS hl
  obtain ⟨hx, hb, hr, hml, hown, hts, hlk, hK, hI, hz, hSt⟩ := X
  exact lv_sipush hx hb hd hv (k H locs la hP hS hl)
theorem Rf_lconst (X : rfX Λ E y cc nL ret) {n : Fin 2} {v : Int64} (hv : Int64.ofNat (n : Nat) = v) (hd : decode cc pc = .ok (.lconst n, 1)) (hp : pc + 1 = pc2) (k : Rf Λ d E nL Q pc2 ls (.long v :: st) σ) : Rf Λ d E nL Q pc ls st σ := by
  subst hp
  obtain ⟨p, l, e, s, m, args, below, meth, c, D, tc, ad, b0⟩ := E
  intro H locs la hP hS hl
  obtain ⟨hx, hb, hr, hml, hown, hts, hlk, hK, hI, hz, hSt⟩ := X
  exact lv_lconst hx hb hd hv (k H locs la hP hS hl)
theorem Rf_ldc (X : rfX Λ E y cc nL ret) {ix : Nat} {v : Int32} (hw : Cond.constant y.cls ix v ∈ rfG) (hd : decode cc pc = .ok (.ldc ix, 2)) (hp : pc + 2 = pc2) (k : Rf Λ d E nL Q pc2 ls (.int v :: st) σ) : Rf Λ d E nL Q pc ls st σ := by
  subst hp
  obtain ⟨p, l, e, s, m, args, below, meth, c, D, tc, ad, b0⟩ := E
  intro H locs la hP hS hl
  obtain ⟨hx, hb, hr, hml, hown, hts, hlk, hK, hI, hz, hSt⟩ := X
  exact lv_ldc hx hb hown (hts _ hw) hd (k H locs la hP hS hl)
theorem Rf_ldcw (X : rfX Λ E y cc nL ret) {ix : Nat} {v : Int32} (hw : Cond.constant y.cls ix v ∈ rfG) (hd : decode cc pc = .ok (.ldc_w ix, 3)) (hp : pc + 3 = pc2) (k : Rf Λ d E nL Q pc2 ls (.int v :: st) σ) : Rf Λ d E nL Q pc ls st σ := by
  subst hp
  obtain ⟨p, l, e, s, m, args, below, meth, c, D, tc, ad, b0⟩ := E
  intro H locs la hP hS hl
  obtain ⟨hx, hb, hr, hml, hown, hts, hlk, hK, hI, hz, hSt⟩ := X
  exact lv_ldcw hx hb hown (hts _ hw) hd (k H locs la hP hS hl)
theorem Rf_ldc2 (X : rfX Λ E y cc nL ret) {ix : Nat} {v : Int64} (hw : Cond.constantLong y.cls ix v ∈ rfG) (hd : decode cc pc = .ok (.ldc2_w ix, 3)) (hp : pc + 3 = pc2) (k : Rf Λ d E nL Q pc2 ls (.long v :: st) σ) : Rf Λ d E nL Q pc ls st σ := by
  subst hp
  obtain ⟨p, l, e, s, m, args, below, meth, c, D, tc, ad, b0⟩ := E
  intro H locs la hP hS hl
  obtain ⟨hx, hb, hr, hml, hown, hts, hlk, hK, hI, hz, hSt⟩ := X
  exact lv_ldc2 hx hb hown (hts _ hw) hd (k H locs la hP hS hl)
theorem Rf_iload_n (X : rfX Λ E y cc nL ret) {n : Fin 4} {i j : Nat} {x : Int32} (hi : (n : Nat) = i) (hj : ls[j]? = some (i, .int x)) (hd : decode cc pc = .ok (.iload_n n, 1)) (hp : pc + 1 = pc2) (k : Rf Λ d E nL Q pc2 ls (.int x :: st) σ) : Rf Λ d E nL Q pc ls st σ := by
  subst hp
  obtain ⟨p, l, e, s, m, args, below, meth, c, D, tc, ad, b0⟩ := E
  intro H locs la hP hS hl
  obtain ⟨hx, hb, hr, hml, hown, hts, hlk, hK, hI, hz, hSt⟩ := X
  exact lv_iload_n hx hb hd hi (lv_at hl j (rf_map hj)) (k H locs la hP hS hl)
theorem Rf_iload (X : rfX Λ E y cc nL ret) {i j : Nat} {x : Int32} (hj : ls[j]? = some (i, .int x)) (hd : decode cc pc = .ok (.iload i, 2)) (hp : pc + 2 = pc2) (k : Rf Λ d E nL Q pc2 ls (.int x :: st) σ) : Rf Λ d E nL Q pc ls st σ := by
  subst hp
  obtain ⟨p, l, e, s, m, args, below, meth, c, D, tc, ad, b0⟩ := E
  intro H locs la hP hS hl
  obtain ⟨hx, hb, hr, hml, hown, hts, hlk, hK, hI, hz, hSt⟩ := X
  exact lv_iload hx hb hd (lv_at hl j (rf_map hj)) (k H locs la hP hS hl)
theorem Rf_lload_n (X : rfX Λ E y cc nL ret) {n : Fin 4} {i j : Nat} {x : Int64} (hi : (n : Nat) = i) (hj : ls[j]? = some (i, .long x)) (hd : decode cc pc = .ok (.lload_n n, 1)) (hp : pc + 1 = pc2) (k : Rf Λ d E nL Q pc2 ls (.long x :: st) σ) : Rf Λ d E nL Q pc ls st σ := by
  subst hp
  obtain ⟨p, l, e, s, m, args, below, meth, c, D, tc, ad, b0⟩ := E
  intro H locs la hP hS hl
  obtain ⟨hx, hb, hr, hml, hown, hts, hlk, hK, hI, hz, hSt⟩ := X
  exact lv_lload_n hx hb hd hi (lv_at hl j (rf_map hj)) (k H locs la hP hS hl)
theorem Rf_lload (X : rfX Λ E y cc nL ret) {i j : Nat} {x : Int64} (hj : ls[j]? = some (i, .long x)) (hd : decode cc pc = .ok (.lload i, 2)) (hp : pc + 2 = pc2) (k : Rf Λ d E nL Q pc2 ls (.long x :: st) σ) : Rf Λ d E nL Q pc ls st σ := by
  subst hp
  obtain ⟨p, l, e, s, m, args, below, meth, c, D, tc, ad, b0⟩ := E
  intro H locs la hP hS hl
  obtain ⟨hx, hb, hr, hml, hown, hts, hlk, hK, hI, hz, hSt⟩ := X
  exact lv_lload hx hb hd (lv_at hl j (rf_map hj)) (k H locs la hP hS hl)
theorem Rf_aload_n (X : rfX Λ E y cc nL ret) {n : Fin 4} {i j : Nat} {x : Nat} (hi : (n : Nat) = i) (hj : ls[j]? = some (i, .ref x)) (hd : decode cc pc = .ok (.aload_n n, 1)) (hp : pc + 1 = pc2) (k : Rf Λ d E nL Q pc2 ls (.ref x :: st) σ) : Rf Λ d E nL Q pc ls st σ := by
  subst hp
  obtain ⟨p, l, e, s, m, args, below, meth, c, D, tc, ad, b0⟩ := E
  intro H locs la hP hS hl
  obtain ⟨hx, hb, hr, hml, hown, hts, hlk, hK, hI, hz, hSt⟩ := X
  exact lv_aload_n hx hb hd hi (lv_at hl j (rf_map hj)) (k H locs la hP hS hl)
theorem Rf_aload (X : rfX Λ E y cc nL ret) {i j : Nat} {x : Nat} (hj : ls[j]? = some (i, .ref x)) (hd : decode cc pc = .ok (.aload i, 2)) (hp : pc + 2 = pc2) (k : Rf Λ d E nL Q pc2 ls (.ref x :: st) σ) : Rf Λ d E nL Q pc ls st σ := by
  subst hp
  obtain ⟨p, l, e, s, m, args, below, meth, c, D, tc, ad, b0⟩ := E
  intro H locs la hP hS hl
  obtain ⟨hx, hb, hr, hml, hown, hts, hlk, hK, hI, hz, hSt⟩ := X
  exact lv_aload hx hb hd (lv_at hl j (rf_map hj)) (k H locs la hP hS hl)
theorem Rf_istore_n (X : rfX Λ E y cc nL ret) {n : Fin 4} {i : Nat} (hi : (n : Nat) = i) {x : Int32} (hn : i < nL) (hls : (i, Value.int x) :: ls.filter (fun q => !(q.1 == i) && !(q.1 + 1 == i && q.2.category == 2)) = ls2) (hd : decode cc pc = .ok (.istore_n n, 1)) (hp : pc + 1 = pc2) (k : Rf Λ d E nL Q pc2 ls2 st σ) : Rf Λ d E nL Q pc ls (.int x :: st) σ := by
  subst hp
  obtain ⟨p, l, e, s, m, args, below, meth, c, D, tc, ad, b0⟩ := E
  intro H locs la hP hS hl
  obtain ⟨hx, hb, hr, hml, hown, hts, hlk, hK, hI, hz, hSt⟩ := X
  refine lv_istore_n hx hb hd hi hl hn (lv' := ls2.map (fun q => (q.1, rfV ad q.2))) ?_ (fun la2 hl2 => k H locs la2 hP hS hl2)
  rw [← hls, List.map_cons]
  exact congrArg _ (rf_filt (fun a b => !(a == i) && !(a + 1 == i && b == 2)))
theorem Rf_istore (X : rfX Λ E y cc nL ret) {i : Nat} {x : Int32} (hn : i < nL) (hls : (i, Value.int x) :: ls.filter (fun q => !(q.1 == i) && !(q.1 + 1 == i && q.2.category == 2)) = ls2) (hd : decode cc pc = .ok (.istore i, 2)) (hp : pc + 2 = pc2) (k : Rf Λ d E nL Q pc2 ls2 st σ) : Rf Λ d E nL Q pc ls (.int x :: st) σ := by
  subst hp
  obtain ⟨p, l, e, s, m, args, below, meth, c, D, tc, ad, b0⟩ := E
  intro H locs la hP hS hl
  obtain ⟨hx, hb, hr, hml, hown, hts, hlk, hK, hI, hz, hSt⟩ := X
  refine lv_istore hx hb hd hl hn (lv' := ls2.map (fun q => (q.1, rfV ad q.2))) ?_ (fun la2 hl2 => k H locs la2 hP hS hl2)
  rw [← hls, List.map_cons]
  exact congrArg _ (rf_filt (fun a b => !(a == i) && !(a + 1 == i && b == 2)))
theorem Rf_astore_n (X : rfX Λ E y cc nL ret) {n : Fin 4} {i : Nat} (hi : (n : Nat) = i) {x : Nat} (hn : i < nL) (hls : (i, Value.ref x) :: ls.filter (fun q => !(q.1 == i) && !(q.1 + 1 == i && q.2.category == 2)) = ls2) (hd : decode cc pc = .ok (.astore_n n, 1)) (hp : pc + 1 = pc2) (k : Rf Λ d E nL Q pc2 ls2 st σ) : Rf Λ d E nL Q pc ls (.ref x :: st) σ := by
  subst hp
  obtain ⟨p, l, e, s, m, args, below, meth, c, D, tc, ad, b0⟩ := E
  intro H locs la hP hS hl
  obtain ⟨hx, hb, hr, hml, hown, hts, hlk, hK, hI, hz, hSt⟩ := X
  refine lv_astore_n hx hb hd hi hl hn (lv' := ls2.map (fun q => (q.1, rfV ad q.2))) ?_ (fun la2 hl2 => k H locs la2 hP hS hl2)
  rw [← hls, List.map_cons]
  exact congrArg _ (rf_filt (fun a b => !(a == i) && !(a + 1 == i && b == 2)))
theorem Rf_astore (X : rfX Λ E y cc nL ret) {i : Nat} {x : Nat} (hn : i < nL) (hls : (i, Value.ref x) :: ls.filter (fun q => !(q.1 == i) && !(q.1 + 1 == i && q.2.category == 2)) = ls2) (hd : decode cc pc = .ok (.astore i, 2)) (hp : pc + 2 = pc2) (k : Rf Λ d E nL Q pc2 ls2 st σ) : Rf Λ d E nL Q pc ls (.ref x :: st) σ := by
  subst hp
  obtain ⟨p, l, e, s, m, args, below, meth, c, D, tc, ad, b0⟩ := E
  intro H locs la hP hS hl
  obtain ⟨hx, hb, hr, hml, hown, hts, hlk, hK, hI, hz, hSt⟩ := X
  refine lv_astore hx hb hd hl hn (lv' := ls2.map (fun q => (q.1, rfV ad q.2))) ?_ (fun la2 hl2 => k H locs la2 hP hS hl2)
  rw [← hls, List.map_cons]
  exact congrArg _ (rf_filt (fun a b => !(a == i) && !(a + 1 == i && b == 2)))
theorem Rf_lstore_n (X : rfX Λ E y cc nL ret) {n : Fin 4} {i : Nat} (hi : (n : Nat) = i) {x : Int64} (hn : i + 1 < nL) (hls : (i, Value.long x) :: ls.filter (fun q => !(q.1 == i) && (!(q.1 == i + 1) && !(q.1 + 1 == i && q.2.category == 2))) = ls2) (hd : decode cc pc = .ok (.lstore_n n, 1)) (hp : pc + 1 = pc2) (k : Rf Λ d E nL Q pc2 ls2 st σ) : Rf Λ d E nL Q pc ls (.long x :: st) σ := by
  subst hp
  obtain ⟨p, l, e, s, m, args, below, meth, c, D, tc, ad, b0⟩ := E
  intro H locs la hP hS hl
  obtain ⟨hx, hb, hr, hml, hown, hts, hlk, hK, hI, hz, hSt⟩ := X
  refine lv_lstore_n hx hb hd hi hl hn (lv' := ls2.map (fun q => (q.1, rfV ad q.2))) ?_ (fun la2 hl2 => k H locs la2 hP hS hl2)
  rw [← hls, List.map_cons]
  exact congrArg _ (rf_filt (fun a b => !(a == i) && (!(a == i + 1) && !(a + 1 == i && b == 2))))
theorem Rf_lstore (X : rfX Λ E y cc nL ret) {i : Nat} {x : Int64} (hn : i + 1 < nL) (hls : (i, Value.long x) :: ls.filter (fun q => !(q.1 == i) && (!(q.1 == i + 1) && !(q.1 + 1 == i && q.2.category == 2))) = ls2) (hd : decode cc pc = .ok (.lstore i, 2)) (hp : pc + 2 = pc2) (k : Rf Λ d E nL Q pc2 ls2 st σ) : Rf Λ d E nL Q pc ls (.long x :: st) σ := by
  subst hp
  obtain ⟨p, l, e, s, m, args, below, meth, c, D, tc, ad, b0⟩ := E
  intro H locs la hP hS hl
  obtain ⟨hx, hb, hr, hml, hown, hts, hlk, hK, hI, hz, hSt⟩ := X
  refine lv_lstore hx hb hd hl hn (lv' := ls2.map (fun q => (q.1, rfV ad q.2))) ?_ (fun la2 hl2 => k H locs la2 hP hS hl2)
  rw [← hls, List.map_cons]
  exact congrArg _ (rf_filt (fun a b => !(a == i) && (!(a == i + 1) && !(a + 1 == i && b == 2))))
theorem Rf_iinc (X : rfX Λ E y cc nL ret) {i j : Nat} {n : Int} {x v : Int32} (hj : ls[j]? = some (i, .int x)) (hv : x + Int32.ofInt n = v) (hn : i < nL) (hls : (i, Value.int v) :: ls.filter (fun q => !(q.1 == i) && !(q.1 + 1 == i && q.2.category == 2)) = ls2) (hd : decode cc pc = .ok (.iinc i n, 3)) (hp : pc + 3 = pc2) (k : Rf Λ d E nL Q pc2 ls2 st σ) : Rf Λ d E nL Q pc ls st σ := by
  subst hp
  obtain ⟨p, l, e, s, m, args, below, meth, c, D, tc, ad, b0⟩ := E
  intro H locs la hP hS hl
  obtain ⟨hx, hb, hr, hml, hown, hts, hlk, hK, hI, hz, hSt⟩ := X
  refine lv_iinc hx hb hd hl (rf_map hj) hv hn (lv' := ls2.map (fun q => (q.1, rfV ad q.2))) ?_ (fun la2 hl2 => k H locs la2 hP hS hl2)
  rw [← hls, List.map_cons]
  exact congrArg _ (rf_filt (fun a b => !(a == i) && !(a + 1 == i && b == 2)))
theorem Rf_iadd (X : rfX Λ E y cc nL ret) {x z : Int32} (hd : decode cc pc = .ok (.iadd, 1)) (hp : pc + 1 = pc2) (k : Rf Λ d E nL Q pc2 ls (.int (x + z) :: st) σ) : Rf Λ d E nL Q pc ls (.int z :: .int x :: st) σ := by
  subst hp
  obtain ⟨p, l, e, s, m, args, below, meth, c, D, tc, ad, b0⟩ := E
  intro H locs la hP hS hl
  obtain ⟨hx, hb, hr, hml, hown, hts, hlk, hK, hI, hz, hSt⟩ := X
  exact lv_iadd hx hb hd (k H locs la hP hS hl)
theorem Rf_isub (X : rfX Λ E y cc nL ret) {x z : Int32} (hd : decode cc pc = .ok (.isub, 1)) (hp : pc + 1 = pc2) (k : Rf Λ d E nL Q pc2 ls (.int (x - z) :: st) σ) : Rf Λ d E nL Q pc ls (.int z :: .int x :: st) σ := by
  subst hp
  obtain ⟨p, l, e, s, m, args, below, meth, c, D, tc, ad, b0⟩ := E
  intro H locs la hP hS hl
  obtain ⟨hx, hb, hr, hml, hown, hts, hlk, hK, hI, hz, hSt⟩ := X
  exact lv_isub hx hb hd (k H locs la hP hS hl)
theorem Rf_imul (X : rfX Λ E y cc nL ret) {x z : Int32} (hd : decode cc pc = .ok (.imul, 1)) (hp : pc + 1 = pc2) (k : Rf Λ d E nL Q pc2 ls (.int (x * z) :: st) σ) : Rf Λ d E nL Q pc ls (.int z :: .int x :: st) σ := by
  subst hp
  obtain ⟨p, l, e, s, m, args, below, meth, c, D, tc, ad, b0⟩ := E
  intro H locs la hP hS hl
  obtain ⟨hx, hb, hr, hml, hown, hts, hlk, hK, hI, hz, hSt⟩ := X
  exact lv_imul hx hb hd (k H locs la hP hS hl)
theorem Rf_iand (X : rfX Λ E y cc nL ret) {x z : Int32} (hd : decode cc pc = .ok (.iand, 1)) (hp : pc + 1 = pc2) (k : Rf Λ d E nL Q pc2 ls (.int (x &&& z) :: st) σ) : Rf Λ d E nL Q pc ls (.int z :: .int x :: st) σ := by
  subst hp
  obtain ⟨p, l, e, s, m, args, below, meth, c, D, tc, ad, b0⟩ := E
  intro H locs la hP hS hl
  obtain ⟨hx, hb, hr, hml, hown, hts, hlk, hK, hI, hz, hSt⟩ := X
  exact lv_iand hx hb hd (k H locs la hP hS hl)
theorem Rf_ior (X : rfX Λ E y cc nL ret) {x z : Int32} (hd : decode cc pc = .ok (.ior, 1)) (hp : pc + 1 = pc2) (k : Rf Λ d E nL Q pc2 ls (.int (x ||| z) :: st) σ) : Rf Λ d E nL Q pc ls (.int z :: .int x :: st) σ := by
  subst hp
  obtain ⟨p, l, e, s, m, args, below, meth, c, D, tc, ad, b0⟩ := E
  intro H locs la hP hS hl
  obtain ⟨hx, hb, hr, hml, hown, hts, hlk, hK, hI, hz, hSt⟩ := X
  exact lv_ior hx hb hd (k H locs la hP hS hl)
theorem Rf_ixor (X : rfX Λ E y cc nL ret) {x z : Int32} (hd : decode cc pc = .ok (.ixor, 1)) (hp : pc + 1 = pc2) (k : Rf Λ d E nL Q pc2 ls (.int (x ^^^ z) :: st) σ) : Rf Λ d E nL Q pc ls (.int z :: .int x :: st) σ := by
  subst hp
  obtain ⟨p, l, e, s, m, args, below, meth, c, D, tc, ad, b0⟩ := E
  intro H locs la hP hS hl
  obtain ⟨hx, hb, hr, hml, hown, hts, hlk, hK, hI, hz, hSt⟩ := X
  exact lv_ixor hx hb hd (k H locs la hP hS hl)
theorem Rf_ishl (X : rfX Λ E y cc nL ret) {x z : Int32} (hd : decode cc pc = .ok (.ishl, 1)) (hp : pc + 1 = pc2) (k : Rf Λ d E nL Q pc2 ls (.int (x <<< (z &&& 31)) :: st) σ) : Rf Λ d E nL Q pc ls (.int z :: .int x :: st) σ := by
  subst hp
  obtain ⟨p, l, e, s, m, args, below, meth, c, D, tc, ad, b0⟩ := E
  intro H locs la hP hS hl
  obtain ⟨hx, hb, hr, hml, hown, hts, hlk, hK, hI, hz, hSt⟩ := X
  exact lv_ishl hx hb hd (k H locs la hP hS hl)
theorem Rf_ishr (X : rfX Λ E y cc nL ret) {x z : Int32} (hd : decode cc pc = .ok (.ishr, 1)) (hp : pc + 1 = pc2) (k : Rf Λ d E nL Q pc2 ls (.int (x >>> (z &&& 31)) :: st) σ) : Rf Λ d E nL Q pc ls (.int z :: .int x :: st) σ := by
  subst hp
  obtain ⟨p, l, e, s, m, args, below, meth, c, D, tc, ad, b0⟩ := E
  intro H locs la hP hS hl
  obtain ⟨hx, hb, hr, hml, hown, hts, hlk, hK, hI, hz, hSt⟩ := X
  exact lv_ishr hx hb hd (k H locs la hP hS hl)
theorem Rf_idiv (X : rfX Λ E y cc nL ret) {x z : Int32} (hne : ¬ z = 0) (hd : decode cc pc = .ok (.idiv, 1)) (hp : pc + 1 = pc2) (k : Rf Λ d E nL Q pc2 ls (.int (x / z) :: st) σ) : Rf Λ d E nL Q pc ls (.int z :: .int x :: st) σ := by
  subst hp
  obtain ⟨p, l, e, s, m, args, below, meth, c, D, tc, ad, b0⟩ := E
  intro H locs la hP hS hl
  obtain ⟨hx, hb, hr, hml, hown, hts, hlk, hK, hI, hz, hSt⟩ := X
  exact lv_idiv hx hb hd hne (k H locs la hP hS hl)
theorem Rf_irem (X : rfX Λ E y cc nL ret) {x z : Int32} (hne : ¬ z = 0) (hd : decode cc pc = .ok (.irem, 1)) (hp : pc + 1 = pc2) (k : Rf Λ d E nL Q pc2 ls (.int (x - x / z * z) :: st) σ) : Rf Λ d E nL Q pc ls (.int z :: .int x :: st) σ := by
  subst hp
  obtain ⟨p, l, e, s, m, args, below, meth, c, D, tc, ad, b0⟩ := E
  intro H locs la hP hS hl
  obtain ⟨hx, hb, hr, hml, hown, hts, hlk, hK, hI, hz, hSt⟩ := X
  exact lv_irem hx hb hd hne (k H locs la hP hS hl)
theorem Rf_ineg (X : rfX Λ E y cc nL ret) {x : Int32} (hd : decode cc pc = .ok (.ineg, 1)) (hp : pc + 1 = pc2) (k : Rf Λ d E nL Q pc2 ls (.int (-x) :: st) σ) : Rf Λ d E nL Q pc ls (.int x :: st) σ := by
  subst hp
  obtain ⟨p, l, e, s, m, args, below, meth, c, D, tc, ad, b0⟩ := E
  intro H locs la hP hS hl
  obtain ⟨hx, hb, hr, hml, hown, hts, hlk, hK, hI, hz, hSt⟩ := X
  exact lv_ineg hx hb hd (k H locs la hP hS hl)
theorem Rf_iushr (X : rfX Λ E y cc nL ret) {x z : Int32} (hd : decode cc pc = .ok (.iushr, 1)) (hp : pc + 1 = pc2) (k : Rf Λ d E nL Q pc2 ls (.int (x.toUInt32 >>> (z.toUInt32 &&& Int32.toUInt32 31)).toInt32 :: st) σ) : Rf Λ d E nL Q pc ls (.int z :: .int x :: st) σ := by
  subst hp
  obtain ⟨p, l, e, s, m, args, below, meth, c, D, tc, ad, b0⟩ := E
  intro H locs la hP hS hl
  obtain ⟨hx, hb, hr, hml, hown, hts, hlk, hK, hI, hz, hSt⟩ := X
  exact lv_iushr hx hb hd rfl (k H locs la hP hS hl)
theorem Rf_ladd (X : rfX Λ E y cc nL ret) {x z : Int64} (hd : decode cc pc = .ok (.ladd, 1)) (hp : pc + 1 = pc2) (k : Rf Λ d E nL Q pc2 ls (.long (x + z) :: st) σ) : Rf Λ d E nL Q pc ls (.long z :: .long x :: st) σ := by
  subst hp
  obtain ⟨p, l, e, s, m, args, below, meth, c, D, tc, ad, b0⟩ := E
  intro H locs la hP hS hl
  obtain ⟨hx, hb, hr, hml, hown, hts, hlk, hK, hI, hz, hSt⟩ := X
  exact lv_ladd hx hb hd (k H locs la hP hS hl)
theorem Rf_lsub (X : rfX Λ E y cc nL ret) {x z : Int64} (hd : decode cc pc = .ok (.lsub, 1)) (hp : pc + 1 = pc2) (k : Rf Λ d E nL Q pc2 ls (.long (x - z) :: st) σ) : Rf Λ d E nL Q pc ls (.long z :: .long x :: st) σ := by
  subst hp
  obtain ⟨p, l, e, s, m, args, below, meth, c, D, tc, ad, b0⟩ := E
  intro H locs la hP hS hl
  obtain ⟨hx, hb, hr, hml, hown, hts, hlk, hK, hI, hz, hSt⟩ := X
  exact lv_lsub hx hb hd (k H locs la hP hS hl)
theorem Rf_lmul (X : rfX Λ E y cc nL ret) {x z : Int64} (hd : decode cc pc = .ok (.lmul, 1)) (hp : pc + 1 = pc2) (k : Rf Λ d E nL Q pc2 ls (.long (x * z) :: st) σ) : Rf Λ d E nL Q pc ls (.long z :: .long x :: st) σ := by
  subst hp
  obtain ⟨p, l, e, s, m, args, below, meth, c, D, tc, ad, b0⟩ := E
  intro H locs la hP hS hl
  obtain ⟨hx, hb, hr, hml, hown, hts, hlk, hK, hI, hz, hSt⟩ := X
  exact lv_lmul hx hb hd (k H locs la hP hS hl)
theorem Rf_land (X : rfX Λ E y cc nL ret) {x z : Int64} (hd : decode cc pc = .ok (.land, 1)) (hp : pc + 1 = pc2) (k : Rf Λ d E nL Q pc2 ls (.long (x &&& z) :: st) σ) : Rf Λ d E nL Q pc ls (.long z :: .long x :: st) σ := by
  subst hp
  obtain ⟨p, l, e, s, m, args, below, meth, c, D, tc, ad, b0⟩ := E
  intro H locs la hP hS hl
  obtain ⟨hx, hb, hr, hml, hown, hts, hlk, hK, hI, hz, hSt⟩ := X
  exact lv_land hx hb hd (k H locs la hP hS hl)
theorem Rf_lor (X : rfX Λ E y cc nL ret) {x z : Int64} (hd : decode cc pc = .ok (.lor, 1)) (hp : pc + 1 = pc2) (k : Rf Λ d E nL Q pc2 ls (.long (x ||| z) :: st) σ) : Rf Λ d E nL Q pc ls (.long z :: .long x :: st) σ := by
  subst hp
  obtain ⟨p, l, e, s, m, args, below, meth, c, D, tc, ad, b0⟩ := E
  intro H locs la hP hS hl
  obtain ⟨hx, hb, hr, hml, hown, hts, hlk, hK, hI, hz, hSt⟩ := X
  exact lv_lor hx hb hd (k H locs la hP hS hl)
theorem Rf_lshl (X : rfX Λ E y cc nL ret) {x : Int64} {z : Int32} (hd : decode cc pc = .ok (.lshl, 1)) (hp : pc + 1 = pc2) (k : Rf Λ d E nL Q pc2 ls (.long (x <<< (z.toInt64 &&& 63)) :: st) σ) : Rf Λ d E nL Q pc ls (.int z :: .long x :: st) σ := by
  subst hp
  obtain ⟨p, l, e, s, m, args, below, meth, c, D, tc, ad, b0⟩ := E
  intro H locs la hP hS hl
  obtain ⟨hx, hb, hr, hml, hown, hts, hlk, hK, hI, hz, hSt⟩ := X
  exact lv_lshl hx hb hd rfl (k H locs la hP hS hl)
theorem Rf_lshr (X : rfX Λ E y cc nL ret) {x : Int64} {z : Int32} (hd : decode cc pc = .ok (.lshr, 1)) (hp : pc + 1 = pc2) (k : Rf Λ d E nL Q pc2 ls (.long (x >>> (z.toInt64 &&& 63)) :: st) σ) : Rf Λ d E nL Q pc ls (.int z :: .long x :: st) σ := by
  subst hp
  obtain ⟨p, l, e, s, m, args, below, meth, c, D, tc, ad, b0⟩ := E
  intro H locs la hP hS hl
  obtain ⟨hx, hb, hr, hml, hown, hts, hlk, hK, hI, hz, hSt⟩ := X
  exact lv_lshr hx hb hd rfl (k H locs la hP hS hl)
theorem Rf_lcmp (X : rfX Λ E y cc nL ret) {x z : Int64} (hd : decode cc pc = .ok (.lcmp, 1)) (hp : pc + 1 = pc2) (k : Rf Λ d E nL Q pc2 ls (.int (lg_cmp x z) :: st) σ) : Rf Λ d E nL Q pc ls (.long z :: .long x :: st) σ := by
  subst hp
  obtain ⟨p, l, e, s, m, args, below, meth, c, D, tc, ad, b0⟩ := E
  intro H locs la hP hS hl
  obtain ⟨hx, hb, hr, hml, hown, hts, hlk, hK, hI, hz, hSt⟩ := X
  exact W.lcmp hx hb hd (k H locs la hP hS hl)
theorem Rf_i2l (X : rfX Λ E y cc nL ret) {x : Int32} (hd : decode cc pc = .ok (.i2l, 1)) (hp : pc + 1 = pc2) (k : Rf Λ d E nL Q pc2 ls (.long x.toInt64 :: st) σ) : Rf Λ d E nL Q pc ls (.int x :: st) σ := by
  subst hp
  obtain ⟨p, l, e, s, m, args, below, meth, c, D, tc, ad, b0⟩ := E
  intro H locs la hP hS hl
  obtain ⟨hx, hb, hr, hml, hown, hts, hlk, hK, hI, hz, hSt⟩ := X
  exact lv_i2l hx hb hd rfl (k H locs la hP hS hl)
theorem Rf_l2i (X : rfX Λ E y cc nL ret) {x : Int64} (hd : decode cc pc = .ok (.l2i, 1)) (hp : pc + 1 = pc2) (k : Rf Λ d E nL Q pc2 ls (.int x.toInt32 :: st) σ) : Rf Λ d E nL Q pc ls (.long x :: st) σ := by
  subst hp
  obtain ⟨p, l, e, s, m, args, below, meth, c, D, tc, ad, b0⟩ := E
  intro H locs la hP hS hl
  obtain ⟨hx, hb, hr, hml, hown, hts, hlk, hK, hI, hz, hSt⟩ := X
  exact lv_l2i hx hb hd rfl (k H locs la hP hS hl)
theorem Rf_i2b (X : rfX Λ E y cc nL ret) {x : Int32} (hd : decode cc pc = .ok (.i2b, 1)) (hp : pc + 1 = pc2) (k : Rf Λ d E nL Q pc2 ls (.int x.toInt8.toInt32 :: st) σ) : Rf Λ d E nL Q pc ls (.int x :: st) σ := by
  subst hp
  obtain ⟨p, l, e, s, m, args, below, meth, c, D, tc, ad, b0⟩ := E
  intro H locs la hP hS hl
  obtain ⟨hx, hb, hr, hml, hown, hts, hlk, hK, hI, hz, hSt⟩ := X
  exact lv_i2b hx hb hd rfl (k H locs la hP hS hl)
theorem Rf_i2s (X : rfX Λ E y cc nL ret) {x : Int32} (hd : decode cc pc = .ok (.i2s, 1)) (hp : pc + 1 = pc2) (k : Rf Λ d E nL Q pc2 ls (.int x.toInt16.toInt32 :: st) σ) : Rf Λ d E nL Q pc ls (.int x :: st) σ := by
  subst hp
  obtain ⟨p, l, e, s, m, args, below, meth, c, D, tc, ad, b0⟩ := E
  intro H locs la hP hS hl
  obtain ⟨hx, hb, hr, hml, hown, hts, hlk, hK, hI, hz, hSt⟩ := X
  exact lv_i2s hx hb hd rfl (k H locs la hP hS hl)
theorem Rf_dup (X : rfX Λ E y cc nL ret) {a : Value} (ha : a.category = 1) (hd : decode cc pc = .ok (.dup, 1)) (hp : pc + 1 = pc2) (k : Rf Λ d E nL Q pc2 ls (a :: a :: st) σ) : Rf Λ d E nL Q pc ls (a :: st) σ := by
  subst hp
  obtain ⟨p, l, e, s, m, args, below, meth, c, D, tc, ad, b0⟩ := E
  intro H locs la hP hS hl
  obtain ⟨hx, hb, hr, hml, hown, hts, hlk, hK, hI, hz, hSt⟩ := X
  exact lv_dup hx hb hd ((rfV_cat ad _).trans ha) (k H locs la hP hS hl)
theorem Rf_pop (X : rfX Λ E y cc nL ret) {a : Value} (ha : a.category = 1) (hd : decode cc pc = .ok (.pop, 1)) (hp : pc + 1 = pc2) (k : Rf Λ d E nL Q pc2 ls st σ) : Rf Λ d E nL Q pc ls (a :: st) σ := by
  subst hp
  obtain ⟨p, l, e, s, m, args, below, meth, c, D, tc, ad, b0⟩ := E
  intro H locs la hP hS hl
  obtain ⟨hx, hb, hr, hml, hown, hts, hlk, hK, hI, hz, hSt⟩ := X
  exact lv_pop hx hb hd ((rfV_cat ad _).trans ha) (k H locs la hP hS hl)
theorem Rf_dup_x1 (X : rfX Λ E y cc nL ret) {a b : Value} (ha : a.category = 1) (hb2 : b.category = 1) (hd : decode cc pc = .ok (.dup_x1, 1)) (hp : pc + 1 = pc2) (k : Rf Λ d E nL Q pc2 ls (a :: b :: a :: st) σ) : Rf Λ d E nL Q pc ls (a :: b :: st) σ := by
  subst hp
  obtain ⟨p, l, e, s, m, args, below, meth, c, D, tc, ad, b0⟩ := E
  intro H locs la hP hS hl
  obtain ⟨hx, hb, hr, hml, hown, hts, hlk, hK, hI, hz, hSt⟩ := X
  exact lv_dup_x1 hx hb hd ((rfV_cat ad _).trans ha) ((rfV_cat ad _).trans hb2) (k H locs la hP hS hl)
theorem Rf_dup2 (X : rfX Λ E y cc nL ret) {a b : Value} (ha : a.category = 1) (hb2 : b.category = 1) (hd : decode cc pc = .ok (.dup2, 1)) (hp : pc + 1 = pc2) (k : Rf Λ d E nL Q pc2 ls (a :: b :: a :: b :: st) σ) : Rf Λ d E nL Q pc ls (a :: b :: st) σ := by
  subst hp
  obtain ⟨p, l, e, s, m, args, below, meth, c, D, tc, ad, b0⟩ := E
  intro H locs la hP hS hl
  obtain ⟨hx, hb, hr, hml, hown, hts, hlk, hK, hI, hz, hSt⟩ := X
  exact lv_dup2_11 hx hb hd ((rfV_cat ad _).trans ha) ((rfV_cat ad _).trans hb2) (k H locs la hP hS hl)
theorem Rf_icmp_eq (X : rfX Λ E y cc nL ret) {x z : Int32} {off : Int} {tgt : Nat} (hd : decode cc pc = .ok (.if_icmp .eq off, 3)) (ht : (pc : Int) + off = (tgt : Int)) (hp : pc + 3 = pc2) (kt : x = z → Rf Λ d E nL Q tgt ls st σ) (kf : ¬ (x = z) → Rf Λ d E nL Q pc2 ls st σ) : Rf Λ d E nL Q pc ls (.int z :: .int x :: st) σ := by
  subst hp
  obtain ⟨p, l, e, s, m, args, below, meth, c, D, tc, ad, b0⟩ := E
  intro H locs la hP hS hl
  obtain ⟨hx, hb, hr, hml, hown, hts, hlk, hK, hI, hz, hSt⟩ := X
  exact lv_icmp_eq hx hb hd ht (fun q => kt q H locs la hP hS hl) (fun q => kf q H locs la hP hS hl)
theorem Rf_if_eq (X : rfX Λ E y cc nL ret) {x : Int32} {off : Int} {tgt : Nat} (hd : decode cc pc = .ok (.ifCond .eq off, 3)) (ht : (pc : Int) + off = (tgt : Int)) (hp : pc + 3 = pc2) (kt : x = 0 → Rf Λ d E nL Q tgt ls st σ) (kf : ¬ (x = 0) → Rf Λ d E nL Q pc2 ls st σ) : Rf Λ d E nL Q pc ls (.int x :: st) σ := by
  subst hp
  obtain ⟨p, l, e, s, m, args, below, meth, c, D, tc, ad, b0⟩ := E
  intro H locs la hP hS hl
  obtain ⟨hx, hb, hr, hml, hown, hts, hlk, hK, hI, hz, hSt⟩ := X
  exact lv_if_eq hx hb hd ht (fun q => kt q H locs la hP hS hl) (fun q => kf q H locs la hP hS hl)
theorem Rf_icmp_ne (X : rfX Λ E y cc nL ret) {x z : Int32} {off : Int} {tgt : Nat} (hd : decode cc pc = .ok (.if_icmp .ne off, 3)) (ht : (pc : Int) + off = (tgt : Int)) (hp : pc + 3 = pc2) (kt : ¬ x = z → Rf Λ d E nL Q tgt ls st σ) (kf : x = z → Rf Λ d E nL Q pc2 ls st σ) : Rf Λ d E nL Q pc ls (.int z :: .int x :: st) σ := by
  subst hp
  obtain ⟨p, l, e, s, m, args, below, meth, c, D, tc, ad, b0⟩ := E
  intro H locs la hP hS hl
  obtain ⟨hx, hb, hr, hml, hown, hts, hlk, hK, hI, hz, hSt⟩ := X
  exact lv_icmp_ne hx hb hd ht (fun q => kt q H locs la hP hS hl) (fun q => kf q H locs la hP hS hl)
theorem Rf_if_ne (X : rfX Λ E y cc nL ret) {x : Int32} {off : Int} {tgt : Nat} (hd : decode cc pc = .ok (.ifCond .ne off, 3)) (ht : (pc : Int) + off = (tgt : Int)) (hp : pc + 3 = pc2) (kt : ¬ x = 0 → Rf Λ d E nL Q tgt ls st σ) (kf : x = 0 → Rf Λ d E nL Q pc2 ls st σ) : Rf Λ d E nL Q pc ls (.int x :: st) σ := by
  subst hp
  obtain ⟨p, l, e, s, m, args, below, meth, c, D, tc, ad, b0⟩ := E
  intro H locs la hP hS hl
  obtain ⟨hx, hb, hr, hml, hown, hts, hlk, hK, hI, hz, hSt⟩ := X
  exact lv_if_ne hx hb hd ht (fun q => kt q H locs la hP hS hl) (fun q => kf q H locs la hP hS hl)
theorem Rf_icmp_lt (X : rfX Λ E y cc nL ret) {x z : Int32} {off : Int} {tgt : Nat} (hd : decode cc pc = .ok (.if_icmp .lt off, 3)) (ht : (pc : Int) + off = (tgt : Int)) (hp : pc + 3 = pc2) (kt : x < z → Rf Λ d E nL Q tgt ls st σ) (kf : ¬ (x < z) → Rf Λ d E nL Q pc2 ls st σ) : Rf Λ d E nL Q pc ls (.int z :: .int x :: st) σ := by
  subst hp
  obtain ⟨p, l, e, s, m, args, below, meth, c, D, tc, ad, b0⟩ := E
  intro H locs la hP hS hl
  obtain ⟨hx, hb, hr, hml, hown, hts, hlk, hK, hI, hz, hSt⟩ := X
  exact lv_icmp_lt hx hb hd ht (fun q => kt q H locs la hP hS hl) (fun q => kf q H locs la hP hS hl)
theorem Rf_if_lt (X : rfX Λ E y cc nL ret) {x : Int32} {off : Int} {tgt : Nat} (hd : decode cc pc = .ok (.ifCond .lt off, 3)) (ht : (pc : Int) + off = (tgt : Int)) (hp : pc + 3 = pc2) (kt : x < 0 → Rf Λ d E nL Q tgt ls st σ) (kf : ¬ (x < 0) → Rf Λ d E nL Q pc2 ls st σ) : Rf Λ d E nL Q pc ls (.int x :: st) σ := by
  subst hp
  obtain ⟨p, l, e, s, m, args, below, meth, c, D, tc, ad, b0⟩ := E
  intro H locs la hP hS hl
  obtain ⟨hx, hb, hr, hml, hown, hts, hlk, hK, hI, hz, hSt⟩ := X
  exact lv_if_lt hx hb hd ht (fun q => kt q H locs la hP hS hl) (fun q => kf q H locs la hP hS hl)
theorem Rf_icmp_ge (X : rfX Λ E y cc nL ret) {x z : Int32} {off : Int} {tgt : Nat} (hd : decode cc pc = .ok (.if_icmp .ge off, 3)) (ht : (pc : Int) + off = (tgt : Int)) (hp : pc + 3 = pc2) (kt : z ≤ x → Rf Λ d E nL Q tgt ls st σ) (kf : ¬ (z ≤ x) → Rf Λ d E nL Q pc2 ls st σ) : Rf Λ d E nL Q pc ls (.int z :: .int x :: st) σ := by
  subst hp
  obtain ⟨p, l, e, s, m, args, below, meth, c, D, tc, ad, b0⟩ := E
  intro H locs la hP hS hl
  obtain ⟨hx, hb, hr, hml, hown, hts, hlk, hK, hI, hz, hSt⟩ := X
  exact lv_icmp_ge hx hb hd ht (fun q => kt q H locs la hP hS hl) (fun q => kf q H locs la hP hS hl)
theorem Rf_if_ge (X : rfX Λ E y cc nL ret) {x : Int32} {off : Int} {tgt : Nat} (hd : decode cc pc = .ok (.ifCond .ge off, 3)) (ht : (pc : Int) + off = (tgt : Int)) (hp : pc + 3 = pc2) (kt : 0 ≤ x → Rf Λ d E nL Q tgt ls st σ) (kf : ¬ (0 ≤ x) → Rf Λ d E nL Q pc2 ls st σ) : Rf Λ d E nL Q pc ls (.int x :: st) σ := by
  subst hp
  obtain ⟨p, l, e, s, m, args, below, meth, c, D, tc, ad, b0⟩ := E
  intro H locs la hP hS hl
  obtain ⟨hx, hb, hr, hml, hown, hts, hlk, hK, hI, hz, hSt⟩ := X
  exact lv_if_ge hx hb hd ht (fun q => kt q H locs la hP hS hl) (fun q => kf q H locs la hP hS hl)
theorem Rf_icmp_gt (X : rfX Λ E y cc nL ret) {x z : Int32} {off : Int} {tgt : Nat} (hd : decode cc pc = .ok (.if_icmp .gt off, 3)) (ht : (pc : Int) + off = (tgt : Int)) (hp : pc + 3 = pc2) (kt : z < x → Rf Λ d E nL Q tgt ls st σ) (kf : ¬ (z < x) → Rf Λ d E nL Q pc2 ls st σ) : Rf Λ d E nL Q pc ls (.int z :: .int x :: st) σ := by
  subst hp
  obtain ⟨p, l, e, s, m, args, below, meth, c, D, tc, ad, b0⟩ := E
  intro H locs la hP hS hl
  obtain ⟨hx, hb, hr, hml, hown, hts, hlk, hK, hI, hz, hSt⟩ := X
  exact lv_icmp_gt hx hb hd ht (fun q => kt q H locs la hP hS hl) (fun q => kf q H locs la hP hS hl)
theorem Rf_if_gt (X : rfX Λ E y cc nL ret) {x : Int32} {off : Int} {tgt : Nat} (hd : decode cc pc = .ok (.ifCond .gt off, 3)) (ht : (pc : Int) + off = (tgt : Int)) (hp : pc + 3 = pc2) (kt : 0 < x → Rf Λ d E nL Q tgt ls st σ) (kf : ¬ (0 < x) → Rf Λ d E nL Q pc2 ls st σ) : Rf Λ d E nL Q pc ls (.int x :: st) σ := by
  subst hp
  obtain ⟨p, l, e, s, m, args, below, meth, c, D, tc, ad, b0⟩ := E
  intro H locs la hP hS hl
  obtain ⟨hx, hb, hr, hml, hown, hts, hlk, hK, hI, hz, hSt⟩ := X
  exact lv_if_gt hx hb hd ht (fun q => kt q H locs la hP hS hl) (fun q => kf q H locs la hP hS hl)
theorem Rf_icmp_le (X : rfX Λ E y cc nL ret) {x z : Int32} {off : Int} {tgt : Nat} (hd : decode cc pc = .ok (.if_icmp .le off, 3)) (ht : (pc : Int) + off = (tgt : Int)) (hp : pc + 3 = pc2) (kt : x ≤ z → Rf Λ d E nL Q tgt ls st σ) (kf : ¬ (x ≤ z) → Rf Λ d E nL Q pc2 ls st σ) : Rf Λ d E nL Q pc ls (.int z :: .int x :: st) σ := by
  subst hp
  obtain ⟨p, l, e, s, m, args, below, meth, c, D, tc, ad, b0⟩ := E
  intro H locs la hP hS hl
  obtain ⟨hx, hb, hr, hml, hown, hts, hlk, hK, hI, hz, hSt⟩ := X
  exact lv_icmp_le hx hb hd ht (fun q => kt q H locs la hP hS hl) (fun q => kf q H locs la hP hS hl)
theorem Rf_if_le (X : rfX Λ E y cc nL ret) {x : Int32} {off : Int} {tgt : Nat} (hd : decode cc pc = .ok (.ifCond .le off, 3)) (ht : (pc : Int) + off = (tgt : Int)) (hp : pc + 3 = pc2) (kt : x ≤ 0 → Rf Λ d E nL Q tgt ls st σ) (kf : ¬ (x ≤ 0) → Rf Λ d E nL Q pc2 ls st σ) : Rf Λ d E nL Q pc ls (.int x :: st) σ := by
  subst hp
  obtain ⟨p, l, e, s, m, args, below, meth, c, D, tc, ad, b0⟩ := E
  intro H locs la hP hS hl
  obtain ⟨hx, hb, hr, hml, hown, hts, hlk, hK, hI, hz, hSt⟩ := X
  exact lv_if_le hx hb hd ht (fun q => kt q H locs la hP hS hl) (fun q => kf q H locs la hP hS hl)
theorem Rf_goto (X : rfX Λ E y cc nL ret) {off : Int} {tgt : Nat} (hd : decode cc pc = .ok (.goto off, 3)) (ht : (pc : Int) + off = (tgt : Int)) (k : Rf Λ d E nL Q tgt ls st σ) : Rf Λ d E nL Q pc ls st σ := by
  obtain ⟨p, l, e, s, m, args, below, meth, c, D, tc, ad, b0⟩ := E
  intro H locs la hP hS hl
  exact lv_goto X.1 X.2.1 hd ht (k H locs la hP hS hl)
theorem Rf_sub (is : List Nat) (h : lv_pick ls is = ls2) (k : Rf Λ d E nL Q pc ls2 st σ) : Rf Λ d E nL Q pc ls st σ := by
  obtain ⟨p, l, e, s, m, args, below, meth, c, D, tc, ad, b0⟩ := E
  intro H locs la hP hS hl
  refine k H locs la hP hS (lv_sub hl is ?_)
  rw [← h]
  unfold lv_pick
  rw [List.map_filterMap]
  congr 1
  funext q
  simp [List.getElem?_map]
end RfRules

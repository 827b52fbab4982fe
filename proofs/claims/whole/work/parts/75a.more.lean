/-! constructors: rows for long worlds -/
section CzMore
variable {R : Room} {E : czE} {y : MethodName} {cc : ByteArray} {nL pc pc2 : Nat} {ret : Option FieldType} {ls ls2 : List (Nat × Value)} {st : List Value} {ws ws2 : va_W} {k n : Nat}
theorem Cz_put0 (X : czX E y cc nL ret) (hI : czI E) {ci j ix N a : Nat} {C : String} {T : u_T} {ty : Nat → FieldType} {fs fs2 : List Value} {v : Value} {W : va_W} (kc : rfCl ci C T N ty) (hj : j < N) (hl9 : j < fs.length) (hdecl : (T j).1 = y.cls) (hw : Cond.fieldLink y.cls ix (T j).1 (T j).2.1 (T j).2.2.1 ∈ rfG) (hn : narrow (ty j) v = v) (hf : fits (ty j) v = true) (hd : decode cc pc = .ok (.putfield ix, 3)) (hp : pc + 3 = pc2) (hfs : fs.set j v = fs2) (kk : Cz R E nL pc2 ls st ((a, .inr (ci, fs2)) :: W) k n) : Cz R E nL pc ls (v :: .ref a :: st) ((a, .inr (ci, fs)) :: W) k n := by
  subst hfs
  exact Cz_put X hI (q0 := 0) kc rfl hj hl9 hdecl hw hn hf hd hp rfl kk
theorem Cz_get0 (X : czX E y cc nL ret) {ci j ix N a : Nat} {C : String} {T : u_T} {ty : Nat → FieldType} {fs : List Value} {W : va_W} (kc : rfCl ci C T N ty) (hj : j < N) (hw : Cond.fieldLink y.cls ix (T j).1 (T j).2.1 (T j).2.2.1 ∈ rfG) {v : Value} (hv : fs[j]? = some v) (hd : decode cc pc = .ok (.getfield ix, 3)) (hp : pc + 3 = pc2) (kk : Cz R E nL pc2 ls (v :: st) ((a, .inr (ci, fs)) :: W) k n) : Cz R E nL pc ls (.ref a :: st) ((a, .inr (ci, fs)) :: W) k n :=
  Cz_get X (q0 := 0) kc rfl hj hw hv hd hp kk
theorem get_mid {α : Type} (A B : List α) (x : α) : (A ++ (x :: B))[A.length]? = some x := by
  rw [List.getElem?_append_right (Nat.le_refl _), Nat.sub_self]
  rfl
theorem set_mid {α : Type} (A B : List α) (x z : α) : (A ++ (x :: B)).set A.length z = A ++ (z :: B) := by
  rw [List.set_append_right _ _ (Nat.le_refl _), Nat.sub_self]
  rfl
theorem Cz_aast0 (X : czX E y cc nL ret) {C : String} {t ci N v a M : Nat} {vs : List Value} {T : u_T} {f : Nat → Option Nat} {i : Int32} {W1 W2 W3 : va_W} (hws : ws = W1 ++ ((a, .inl (czT E t, N, .inr (.inr (.inr (.inr f))))) :: (W2 ++ ((v, .inr (ci, vs)) :: W3)))) (ht : ∀ tc : Nat → ClassId, (rfT tc)[t]? = some (tc t, .object C)) (hc : vwCl[ci]? = some (C, T, M)) (hin : vp_in i N) (hd : decode cc pc = .ok (.aastore, 1)) (hp : pc + 1 = pc2) (kk : Cz R E nL pc2 ls st (W1 ++ ((a, .inl (czT E t, N, .inr (.inr (.inr (.inr (va_up f i.toNatClampNeg (some v))))))) :: (W2 ++ ((v, .inr (ci, vs)) :: W3)))) k n) : Cz R E nL pc ls (.ref v :: .int i :: .ref a :: st) ws k n := by
  subst hws
  refine Cz_aastore X (vs := vs) (q0 := W1.length) (qk := W1.length + 1 + W2.length) (get_mid _ _ _) ht ?_ hc hin hd hp (set_mid _ _ _ _) kk
  rw [List.getElem?_append_right (by omega), show W1.length + 1 + W2.length - W1.length = W2.length + 1 by omega, List.getElem?_cons_succ]
  exact get_mid _ _ _
theorem va_D_fst {A : Nat → Prop} {ws1 ws2 : va_W} (h : ws1.map (fun q => q.1) = ws2.map (fun q => q.1)) (hD : va_D A ws1) : va_D A ws2 := by
  have g : ∀ (k : Nat) (q : Nat × va_E), ws2[k]? = some q → ∃ q1 : Nat × va_E, ws1[k]? = some q1 ∧ q1.1 = q.1 := by
    intro k q hq
    have h1 : (ws2.map (fun q => q.1))[k]? = some q.1 := by rw [List.getElem?_map, hq]; rfl
    rw [← h, List.getElem?_map] at h1
    cases hz : ws1[k]? with
    | none => rw [hz] at h1; cases h1
    | some q1 => rw [hz] at h1; exact ⟨q1, rfl, Option.some.inj h1⟩
  refine ⟨fun i j p q hi hj e => ?_, fun k q hq => ?_⟩
  · obtain ⟨p1, a1, a2⟩ := g i p hi
    obtain ⟨q1, b1, b2⟩ := g j q hj
    exact hD.1 i j p1 q1 a1 b1 (a2.trans (e.trans b2.symm))
  · obtain ⟨q1, b1, b2⟩ := g k q hq
    rw [← b2]
    exact hD.2 k q1 b1
theorem Cz_ret2 {WX : (Nat → ClassId) → Nat → (Nat → Nat) → va_W} {h0 : Nat} (X : czX E y cc nL none) (hQ : czQ R E WX h0) (u : Nat → Nat) (hk : k = R.cells) (hn : n = R.slots) (hw : ∀ D H, va_P D vwCl ws H → va_P D vwCl (WX (czT E) h0 u) H) (hw2 : ws.map (fun q => q.1) = (WX (czT E) h0 u).map (fun q => q.1)) (hd : decode cc pc = .ok (.return_, 1)) : Cz R E nL pc ls [] ws k n := by
  subst hk hn
  obtain ⟨p, l, e, s, m, args, below, meth, c, D, tc, A, Q⟩ := E
  have hQ : Q = _ := hQ
  subst hQ
  intro H locs la hP hD hS hl
  obtain ⟨hx, hb, hr, hml, hown, hts, hlk, hK, hA, hNB⟩ := X
  have hP2 := hw D H hP
  have hD2 := va_D_fst hw2 hD
  exact W.vret hx hb hr (fun t ht hW => ⟨⟨u, rfl, trivial, by rw [ht]; exact hP2, hD2⟩, hS.F ht⟩) hS.2.2 hd hlk
theorem rf_refs {D : va_G} {H : Heap} {a : Nat} {cA : ClassId} {N : Nat} {f g : Nat → Option Nat} (h : va_at D vwCl (a, .inl (cA, N, .inr (.inr (.inr (.inr f))))) H) (hfg : ∀ j, j < N → f j = g j) : va_at D vwCl (a, .inl (cA, N, .inr (.inr (.inr (.inr g))))) H := by
  have h1 : H[a]? = some (vp_cell cA (N, .inr (.inr (.inr (.inr f))))) := h
  show H[a]? = some (vp_cell cA (N, .inr (.inr (.inr (.inr g)))))
  rw [h1, vp_cell_q, vp_cell_q]
  congr 1
  unfold arrV
  congr 1
  apply congrArg
  funext j
  show va_rf (f j.1) = va_rf (g j.1)
  rw [hfg j.1 j.2]
end CzMore
theorem cz_mid {W1 W2 X Y : va_W} {c : Nat × va_E} (h : X = Y) : (W1 ++ (c :: W2)) ++ X = W1 ++ (c :: (W2 ++ Y)) := by
  rw [h, List.append_assoc]
  rfl

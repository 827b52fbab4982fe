/-! changes: pushed, undone, done again -/
/-- only these cells differ -/
def Fr (c c2 : rfS) (I F : List Nat) : Prop := (∀ k, k ∉ I → gI c2 k = gI c k) ∧ (∀ k, k ∉ F → gF c2 k = gF c k) ∧ ∀ k, gL c2 k = gL c k
theorem Fr.rf (c : rfS) (I F : List Nat) : Fr c c I F := ⟨fun _ _ => rfl, fun _ _ => rfl, fun _ => rfl⟩
/-- what adding a change does: of dn kept ones, d of them stay, at o further on -/
def addC (c : rfS) (d : Nat) (x1 x2 x3 x4 : Int32) : rfS := sI (sI (sF (sF (sF (sF c 45 d x1) 46 d x2) 47 d x3) 48 d x4) 44 4 (nI (d + 1))) 44 5 (nI (d + 1))
theorem addC_wj {c : rfS} {d : Nat} {x1 x2 x3 x4 : Int32} {Q : rfS → Prop} (hd : d < 40) (hc : gI c 44 4 = nI d) (hq : Q (addC c d x1 x2 x3 x4)) : wj_X1_add_13 Q x1 x2 x3 x4 c := by
  unfold wj_X1_add_13
  rw [hc, cl d, nI_1]
  exact ⟨vin hd, vin hd, vin hd, vin hd, hq⟩
def dropC (c : rfS) : rfS := sI (cF (cF (cF (cF c 45 45 1 0 39) 46 46 1 0 39) 47 47 1 0 39) 48 48 1 0 39) 44 4 39
theorem dropC_F (c : rfS) {k i : Nat} (hk : k = 45 ∨ k = 46 ∨ k = 47 ∨ k = 48) (hi : i < 39) : gF (dropC c) k i = gF c k (i + 1) := by
  unfold dropC
  rcases hk with rfl | rfl | rfl | rfl <;> simp [gF_sI, gF_cF, hi, Nat.add_comm]
theorem addC_F {c : rfS} {d : Nat} {x1 x2 x3 x4 : Int32} (i : Nat) : gF (addC c d x1 x2 x3 x4) 45 i = (if i = d then x1 else gF c 45 i) ∧ gF (addC c d x1 x2 x3 x4) 46 i = (if i = d then x2 else gF c 46 i) ∧ gF (addC c d x1 x2 x3 x4) 47 i = (if i = d then x3 else gF c 47 i) ∧ gF (addC c d x1 x2 x3 x4) 48 i = (if i = d then x4 else gF c 48 i) := by
  unfold addC
  refine ⟨?_, ?_, ?_, ?_⟩ <;> simp [gF_sI, gF_sF]
theorem addC_I {c : rfS} {d : Nat} {x1 x2 x3 x4 : Int32} : gI (addC c d x1 x2 x3 x4) 44 4 = nI (d + 1) ∧ gI (addC c d x1 x2 x3 x4) 44 5 = nI (d + 1) := by
  unfold addC
  exact ⟨by simp [gI_sI], by simp [gI_sI]⟩
theorem addC_fr {c : rfS} {d : Nat} {x1 x2 x3 x4 : Int32} : Fr c (addC c d x1 x2 x3 x4) [44] [45, 46, 47, 48] := by
  unfold addC
  refine ⟨fun k hk => ?_, fun k hk => ?_, fun k => rfl⟩
  · simp only [List.mem_cons, List.not_mem_nil, or_false] at hk
    funext b
    rw [gI_sIk hk, gI_sIk hk]
    rfl
  · simp only [List.mem_cons, List.not_mem_nil, or_false, not_or] at hk
    rw [gF_sI_f, gF_sI_f, gF_sF_ne hk.2.2.2, gF_sF_ne hk.2.2.1, gF_sF_ne hk.2.1, gF_sF_ne hk.1]
theorem dropC_fr {c : rfS} : Fr c (dropC c) [44] [45, 46, 47, 48] := by
  unfold dropC
  refine ⟨fun k hk => ?_, fun k hk => ?_, fun k => rfl⟩
  · simp only [List.mem_cons, List.not_mem_nil, or_false] at hk
    funext b
    rw [gI_sIk hk]
    rfl
  · simp only [List.mem_cons, List.not_mem_nil, or_false, not_or] at hk
    rw [gF_sI_f, gF_cF_ne hk.2.2.2, gF_cF_ne hk.2.2.1, gF_cF_ne hk.2.1, gF_cF_ne hk.1]
theorem Fr.trans {a b c : rfS} {I F : List Nat} (h1 : Fr a b I F) (h2 : Fr b c I F) : Fr a c I F := ⟨fun k hk => (h2.1 k hk).trans (h1.1 k hk), fun k hk => (h2.2.1 k hk).trans (h1.2.1 k hk), fun k => (h2.2.2 k).trans (h1.2.2 k)⟩
/-- the model's -/
def addM (m : rfS) (d : Nat) (x1 x2 x3 x4 : Int32) : rfS := sI (sI (sF (sF (sF (sF m 17 (4 * d) x1) 17 (4 * d + 1) x2) 17 (4 * d + 2) x3) 17 (4 * d + 3) x4) 0 27 (nI (d + 1))) 0 26 (nI (d + 1))
theorem addM_wj {m : rfS} {d : Nat} {x1 x2 x3 x4 : Int32} {Q : Int32 → rfS → Prop} (hd : d < 40) (hc : gI m 0 27 = nI d) (hq : Q x4 (addM m d x1 x2 x4 x3)) : wj_X8_mend_95 Q x1 x2 x3 x4 m := by
  unfold wj_X8_mend_95
  rw [hc, show (4 : Int32) = nI 4 from rfl, pk_mul, nI_1, nI_1, show (2 : Int32) = nI 2 from rfl, nI_add, show (3 : Int32) = nI 3 from rfl, nI_add, cl (4 * d), cl (4 * d + 1), cl (4 * d + 2), cl (4 * d + 3)]
  exact ⟨vin (by omega), vin (by omega), vin (by omega), vin (by omega), hq⟩
theorem addM_F {m : rfS} {d : Nat} {x1 x2 x3 x4 : Int32} (i : Nat) : gF (addM m d x1 x2 x3 x4) 17 (4 * i) = (if i = d then x1 else gF m 17 (4 * i)) ∧ gF (addM m d x1 x2 x3 x4) 17 (4 * i + 1) = (if i = d then x2 else gF m 17 (4 * i + 1)) ∧ gF (addM m d x1 x2 x3 x4) 17 (4 * i + 2) = (if i = d then x3 else gF m 17 (4 * i + 2)) ∧ gF (addM m d x1 x2 x3 x4) 17 (4 * i + 3) = (if i = d then x4 else gF m 17 (4 * i + 3)) := by
  unfold addM
  by_cases h : i = d
  · subst h
    refine ⟨?_, ?_, ?_, ?_⟩ <;> simp [gF_sI, gF_sF]
  · simp only [gF_sI, gF_sF, h, if_false]
    refine ⟨?_, ?_, ?_, ?_⟩ <;> (repeat rw [if_neg (by omega)])
theorem addM_fr {m : rfS} {d : Nat} {x1 x2 x3 x4 : Int32} : (∀ k, k ≠ 17 → gF (addM m d x1 x2 x3 x4) k = gF m k) ∧ (∀ j, j ≠ 26 → j ≠ 27 → gI (addM m d x1 x2 x3 x4) 0 j = gI m 0 j) ∧ (∀ k, gL (addM m d x1 x2 x3 x4) k = gL m k) ∧ gI (addM m d x1 x2 x3 x4) 0 27 = nI (d + 1) ∧ gI (addM m d x1 x2 x3 x4) 0 26 = nI (d + 1) := by
  unfold addM
  refine ⟨fun k hk => ?_, fun j h1 h2 => ?_, fun k => rfl, by simp [gI_sI], by simp [gI_sI]⟩
  · rw [gF_sI_f, gF_sI_f, gF_sF_ne hk, gF_sF_ne hk, gF_sF_ne hk, gF_sF_ne hk]
  · rw [gI_sIj h1, gI_sIj h2]
    rfl
/-- the model's loop that drops the eldest change -/
theorem dropM {Q : Int32 → rfS → Prop} {kx : Int32 → Int32 → Int32 → Int32 → rfS → Prop} {x1 x2 x3 x4 : Int32} : ∀ (f i : Nat) (m : rfS), i ≤ 156 → 156 - i < f → (∀ m2 : rfS, (∀ j, i ≤ j → j < 156 → gF m2 17 j = gF m 17 (j + 4)) → (∀ k, k ≠ 17 → gF m2 k = gF m k) → (∀ k, gI m2 k = gI m k) → (∀ k, gL m2 k = gL m k) → (∀ j, j < i → gF m2 17 j = gF m 17 j) → kx x1 x2 x3 x4 m2) → wl_X8_mend_55 Q kx f x1 x2 x3 x4 (nI i) m := by
  intro f
  induction f with
  | zero => intro i m _ h; omega
  | succ f ih =>
    intro i m hi hf hk
    unfold wl_X8_mend_55
    refine ⟨fun h => ?_, fun h => ?_⟩
    · have e : 156 ≤ i := (nI_leI (a := 156) (by decide) (by omega)).mp h
      exact hk m (fun j h1 h2 => by omega) (fun _ _ => rfl) (fun _ => rfl) (fun _ => rfl) (fun _ _ => rfl)
    · have e : i < 156 := by
        rcases Nat.lt_or_ge i 156 with q | q
        · exact q
        · exact absurd ((nI_leI (a := 156) (by decide) (by omega)).mpr q) h
      rw [show (4 : Int32) = nI 4 from rfl, nI_add, cl (i + 4), cl i, nI_1]
      refine ⟨vin (by omega), vin (by omega), ih (i + 1) _ (by omega) (by omega) (fun m2 a1 a2 a3 a4 a5 => hk m2 ?_ ?_ ?_ ?_ ?_)⟩
      · intro j h1 h2
        by_cases hj : j = i
        · subst hj
          rw [a5 j (by omega), gF_sFs]
        · rw [a1 j (by omega) h2, gF_sFi (by omega)]
      · intro k hk2
        rw [a2 k hk2, gF_sF_ne hk2]
      · intro k
        rw [a3 k]
        rfl
      · intro k
        rw [a4 k]
        rfl
      · intro j hj
        rw [a5 j (by omega), gF_sFi (by omega)]
/-- a change is kept on both sides -/
theorem RCh.push {n : Nat} {c m : rfS} {d i w : Nat} {v0 v : Int32} (hd : d < 40) (hold : ∀ j, j < d → chOK n c m j) (hw : w < 8) (hi : i < bnd n w) (h0 : rg (wLo w) (wHi w) v0) (hv : rg (wLo w) (wHi w) v) : RCh n (addC c d (nI i) (nI w) v0 v) (addM m d (nI i) (nI w) v0 v) := by
  obtain ⟨b1, b2⟩ := addC_I (c := c) (d := d) (x1 := nI i) (x2 := nI w) (x3 := v0) (x4 := v)
  have b3 := addM_fr (m := m) (d := d) (x1 := nI i) (x2 := nI w) (x3 := v0) (x4 := v)
  refine ⟨d + 1, d + 1, by omega, by omega, b1, b3.2.2.2.1, b2, b3.2.2.2.2, fun j hj => ?_⟩
  obtain ⟨f1, f2, f3, f4⟩ := addC_F (c := c) (d := d) (x1 := nI i) (x2 := nI w) (x3 := v0) (x4 := v) j
  obtain ⟨g1, g2, g3, g4⟩ := addM_F (m := m) (d := d) (x1 := nI i) (x2 := nI w) (x3 := v0) (x4 := v) j
  unfold chOK
  rw [f1, f2, f3, f4, g1, g2, g3, g4]
  by_cases e : j = d
  · subst e
    rw [if_pos rfl, if_pos rfl, if_pos rfl, if_pos rfl, if_pos rfl, if_pos rfl, if_pos rfl, if_pos rfl]
    exact ⟨i, w, hw, hi, rfl, rfl, rfl, rfl, rfl, h0, rfl, hv⟩
  · simp only [e, if_false]
    exact hold j (by omega)
/-- all but the changes stays -/
theorem Rel.chs {n bs : Nat} {c m c2 m2 : rfS} (h : Rel n bs c m) (hch : RCh n c2 m2) (hf : Fr c c2 [44] [45, 46, 47, 48]) (g1 : ∀ k, k ≠ 17 → gF m2 k = gF m k) (g2 : ∀ j, j ≠ 26 → j ≠ 27 → gI m2 0 j = gI m 0 j) (g3 : ∀ k, gL m2 k = gL m k) : Rel n bs c2 m2 := by
  obtain ⟨hV, hT, hL, hLd, hIm, -, hBo, hTr, hSh, hMd⟩ := h
  obtain ⟨h2, h1, h3⟩ := hf
  refine ⟨?_, hT.fr (by rw [h2 6 (by decide)]) (h1 9 (by decide)) (g2 3 (by decide) (by decide)) (g1 3 (by decide)), hL.fr (by rw [h2 6 (by decide)]) (h1 7 (by decide)) (g2 5 (by decide) (by decide)) (g2 6 (by decide) (by decide)) (g1 4 (by decide)) (g1 5 (by decide)) (g1 6 (by decide)) (g1 7 (by decide)), hLd.fr (h1 15 (by decide)) (g1 14 (by decide)), ?_, hch, ?_, ?_, ?_, hMd.fr (h1 24 (by decide))⟩
  · obtain ⟨a1, a2, a3, a4⟩ := hV
    refine ⟨a1, by rw [h2 1 (by decide)]; exact a2, by rw [g2 0 (by decide) (by decide)]; exact a3, fun w i hw hi => ?_⟩
    have e1 : vC c2 w i = vC c w i := by
      unfold vC
      rw [h1 2 (by decide), h1 13 (by decide), h1 14 (by decide), h1 3 (by decide), h1 4 (by decide), h1 5 (by decide), h2 12 (by decide)]
    have e2 : vM m2 w i = vM m w i := by
      unfold vM
      rw [g1 1 (by decide), g1 2 (by decide)]
    rw [e1, e2]
    exact a4 w i hw hi
  · exact hIm.fr (h2 0 (by decide)) (h2 16 (by decide)) (h1 17 (by decide)) (h1 18 (by decide)) (h1 19 (by decide)) (g2 22 (by decide) (by decide)) (g2 23 (by decide) (by decide)) (g1 15 (by decide)) (g1 16 (by decide))
  · exact hBo.fr (by rw [h2 49 (by decide)]) (h1 50 (by decide)) (g2 29 (by decide) (by decide)) (g1 18 (by decide))
  · exact hTr.fr (by rw [h2 49 (by decide)]) (h1 51 (by decide)) (g2 31 (by decide) (by decide)) (g1 19 (by decide))
  · exact hSh.fr (fun k hk => ⟨h2 k (by simp only [List.mem_cons, List.not_mem_nil, or_false]; omega), h3 k⟩) (g1 20 (by decide)) (g1 21 (by decide)) (g3 22)
theorem sF_sF (σ : rfS) (k j k2 j2 : Nat) (a b : Int32) (h : k ≠ k2) : sF (sF σ k j a) k2 j2 b = sF (sF σ k2 j2 b) k j a := by
  unfold sF
  refine Prod.ext rfl (Prod.ext ?_ rfl)
  funext q
  by_cases h1 : q = k
  · subst h1
    simp [h, Ne.symm h]
  · by_cases h2 : q = k2
    · subst h2
      simp [h, Ne.symm h]
    · simp [h1, h2]
theorem sI_sI (σ : rfS) (k j k2 j2 : Nat) (a b : Int32) (h : k ≠ k2) : sI (sI σ k j a) k2 j2 b = sI (sI σ k2 j2 b) k j a := by
  unfold sI
  refine Prod.ext ?_ rfl
  funext q r
  by_cases h1 : q = k
  · subst h1
    simp [h]
  · simp [h1]
theorem cF_sF (σ : rfS) (k j a sp dp n : Nat) (v : Int32) (h : k ≠ a) : sF (cF σ a a sp dp n) k j v = cF (sF σ k j v) a a sp dp n := by
  unfold sF cF
  refine Prod.ext rfl (Prod.ext ?_ rfl)
  funext q
  by_cases h1 : q = k
  · subst h1
    simp [h]
  · by_cases h2 : q = a
    · subst h2
      simp [h1, Ne.symm h]
    · simp [h1, h2]
theorem sF_add4 (c : rfS) (d k i : Nat) (x1 x2 x3 x4 v : Int32) (h : k ∉ [45, 46, 47, 48]) : sF (sF (sF (sF (sF c 45 d x1) 46 d x2) 47 d x3) 48 d x4) k i v = sF (sF (sF (sF (sF c k i v) 45 d x1) 46 d x2) 47 d x3) 48 d x4 := by
  simp only [List.mem_cons, List.not_mem_nil, or_false, not_or] at h
  rw [sF_sF _ 48 d k i x4 v (Ne.symm h.2.2.2), sF_sF _ 47 d k i x3 v (Ne.symm h.2.2.1), sF_sF _ 46 d k i x2 v (Ne.symm h.2.1), sF_sF _ 45 d k i x1 v (Ne.symm h.1)]
theorem upC_addC {c : rfS} {w i d : Nat} {v x1 x2 x3 x4 : Int32} (hw : w < 8) : upC (addC c d x1 x2 x3 x4) w i v = addC (upC c w i v) d x1 x2 x3 x4 := by
  have key : ∀ k, k ∉ [45, 46, 47, 48] → sF (addC c d x1 x2 x3 x4) k i v = addC (sF c k i v) d x1 x2 x3 x4 := by
    intro k hk
    unfold addC
    rw [← sF_add4 c d k i x1 x2 x3 x4 v hk]
    rfl
  have key2 : ∀ j, sI (addC c d x1 x2 x3 x4) 12 j v = addC (sI c 12 j v) d x1 x2 x3 x4 := by
    intro j
    unfold addC
    rw [sI_sI _ 44 5 12 j _ v (by decide), sI_sI _ 44 4 12 j _ v (by decide)]
    rfl
  rcases w8 hw with rfl | rfl | rfl | rfl | rfl | rfl | rfl | rfl <;> simp only [upC] <;> first | exact key _ (by decide) | exact key2 _
theorem upC_dropC {c : rfS} {w i : Nat} {v : Int32} (hw : w < 8) : upC (dropC c) w i v = dropC (upC c w i v) := by
  have key : ∀ k, k ∉ [45, 46, 47, 48] → sF (dropC c) k i v = dropC (sF c k i v) := by
    intro k hk
    simp only [List.mem_cons, List.not_mem_nil, or_false, not_or] at hk
    unfold dropC
    rw [← cF_sF _ _ _ _ _ _ _ _ hk.1, ← cF_sF _ _ _ _ _ _ _ _ hk.2.1, ← cF_sF _ _ _ _ _ _ _ _ hk.2.2.1, ← cF_sF _ _ _ _ _ _ _ _ hk.2.2.2]
    rfl
  have key2 : ∀ j, sI (dropC c) 12 j v = dropC (sI c 12 j v) := by
    intro j
    unfold dropC
    rw [sI_sI _ 44 4 12 j _ v (by decide)]
    rfl
  rcases w8 hw with rfl | rfl | rfl | rfl | rfl | rfl | rfl | rfl <;> simp only [upC] <;> first | exact key _ (by decide) | exact key2 _
theorem op_mend {n bs : Nat} {c m : rfS} (h : Rel n bs c m) (x1 x2 x3 : Int32) : wp_X7_mend c x1 x2 x3 (fun r1 c2 => wp_X8_mend m x1 x2 x3 (fun r2 m2 => r1 = r2 ∧ RelE c2 m2)) := by
  obtain ⟨hn7, hnC, hnM, hV⟩ := h.1
  obtain ⟨dn, kp, d1, d2, d3, d4, d5, d6, d7⟩ := h.2.2.2.2.2.1
  unfold wp_X7_mend wp_X8_mend
  rw [isNumC hnC]
  simp only [isNumM hn7 hnM]
  refine ⟨fun h0 => ⟨fun _ => ⟨by simp, n, bs, h⟩, fun q => absurd h0 q⟩, fun h0 => ?_⟩
  obtain ⟨w, i, hw, hi, rfl, rfl⟩ := numB_ix hn7 h0
  have hlo : rfSL[0].2.2.2.getD (nI w).toNatClampNeg 0 = wLo w := by
    rw [cl w]
    rcases w8 hw with rfl | rfl | rfl | rfl | rfl | rfl | rfl | rfl <;> rfl
  have hhi : rfSL[1].2.2.2.getD (nI w).toNatClampNeg 0 = wHi w := by
    rw [cl w]
    rcases w8 hw with rfl | rfl | rfl | rfl | rfl | rfl | rfl | rfl <;> rfl
  refine ⟨vin hw, vin hw, ?_⟩
  rw [hlo, hhi]
  simp only [w_isWithin, fitM hw, bI_0, Classical.not_not]
  refine ⟨fun hr => numC hn7 hw hi ⟨fun e => ⟨fun q => absurd q h0, fun _ => ⟨fun _ => numM hn7 hw hi ⟨fun q => ?_, fun q => ?_⟩, fun q => absurd hr q⟩⟩, fun e => ?_⟩, fun hr => ⟨fun q => absurd q h0, fun _ => ⟨fun q => absurd q hr, fun _ => ⟨by simp, n, bs, h⟩⟩⟩⟩
  · exact absurd ((hV w i hw hi).1.symm.trans e) q
  · exact ⟨(hV w i hw hi).1, n, bs, h⟩
  · have ev := (hV w i hw hi).1
    have er := (hV w i hw hi).2
    have key : ∀ (c1 m1 : rfS) (d : Nat), d < 40 → Rel n bs c1 m1 → (∀ j, j < d → chOK n c1 m1 j) → RelE (upC (addC c1 d (nI i) (nI w) (vC c w i) x3) w i x3) (addM (upM m1 w i x3) d (nI i) (nI w) (vC c w i) x3) := by
      intro c1 m1 d hd h1 hold
      have h2 := h1.up (v := x3) hw hi hr
      refine ⟨n, bs, ?_⟩
      rw [upC_addC hw]
      refine h2.chs (RCh.push hd (fun j hj => ?_) hw hi er hr) addC_fr addM_fr.1 addM_fr.2.1 addM_fr.2.2.1
      have := hold j hj
      unfold chOK at this ⊢
      rw [gF_upC hw (by decide), gF_upC hw (by decide), gF_upC hw (by decide), gF_upC hw (by decide), gF_upM (by decide) (by decide)]
      exact this
    have g27 : gI (upM m w i x3) 0 27 = nI dn := by rw [gI_upM]; exact d4
    rcases Nat.lt_or_ge dn 40 with q | q
    · have ne : ¬ nI dn = 40 := fun z => by
        have := (nI_eq (a := dn) (b := 40) (by omega) (by decide)).mp z
        omega
      unfold wp_X1_add
      rw [d3]
      refine ⟨fun _ => addC_wj q d3 (becC hn7 hw hi ⟨fun z => absurd z h0, fun _ => ⟨fun _ => numM hn7 hw hi ⟨fun _ => becM hn7 hw hi ?_, fun z => absurd (ev.trans z) e⟩, fun z => absurd hr z⟩⟩), fun z => absurd z ne⟩
      rw [g27]
      refine ⟨fun _ => addM_wj q g27 ⟨ev, ?_⟩, fun z => absurd z ne⟩
      rw [← ev]
      exact key c m dn q h (fun j hj => d7 j (by omega))
    · have e40 : dn = 40 := by omega
      subst e40
      have k40 : kp = 40 := by omega
      unfold wp_X1_add wp_X1_dropOldest
      rw [d3]
      refine ⟨fun z => absurd rfl z, fun _ => ?_⟩
      show wj_X1_add_13 _ _ _ _ _ (dropC c)
      refine addC_wj (d := 39) (by decide) (by unfold dropC; rw [gI_sIs]; rfl) (becC hn7 hw hi ⟨fun z => absurd z h0, fun _ => ⟨fun _ => numM hn7 hw hi ⟨fun _ => becM hn7 hw hi ?_, fun z => absurd (ev.trans z) e⟩, fun z => absurd hr z⟩⟩)
      rw [g27]
      refine ⟨fun z => absurd rfl z, fun _ => ⟨157, dropM 157 0 _ (by decide) (by decide) (fun m2 a1 a2 a3 a4 a5 => ?_)⟩⟩
      refine addM_wj (d := 39) (by decide) ?_ ⟨ev, ?_⟩
      · rw [gI_sIs, a3, g27]
        rfl
      · rw [← ev]
        have h2 := h.up (v := x3) hw hi hr
        refine ⟨n, bs, ?_⟩
        rw [upC_addC hw, upC_dropC hw]
        refine h2.chs (RCh.push (by decide) (fun j hj => ?_) hw hi er hr) (dropC_fr.trans addC_fr) (fun k hk => ?_) (fun j j1 j2 => ?_) (fun k => ?_)
        · have := d7 (j + 1) (by omega)
          unfold chOK at this ⊢
          rw [dropC_F _ (by decide) hj, dropC_F _ (by decide) hj, dropC_F _ (by decide) hj, dropC_F _ (by decide) hj, gF_upC hw (by decide), gF_upC hw (by decide), gF_upC hw (by decide), gF_upC hw (by decide)]
          rw [gF_sI_f, a1 (4 * j) (by omega) (by omega), a1 (4 * j + 1) (by omega) (by omega), a1 (4 * j + 2) (by omega) (by omega), a1 (4 * j + 3) (by omega) (by omega), gF_upM (by decide) (by decide)]
          rw [show 4 * j + 4 = 4 * (j + 1) by omega, show 4 * j + 1 + 4 = 4 * (j + 1) + 1 by omega, show 4 * j + 2 + 4 = 4 * (j + 1) + 2 by omega, show 4 * j + 3 + 4 = 4 * (j + 1) + 3 by omega]
          exact this
        · rw [addM_fr.1 k hk, gF_sI_f, a2 k hk]
        · rw [addM_fr.2.1 j j1 j2, gI_sIj j2, a3]
        · rw [addM_fr.2.2.1 k, gL_sI_f, a4]
theorem op_undo {n bs : Nat} {c m : rfS} (h : Rel n bs c m) : wp_X7_undo c (fun r1 c2 => wp_X8_undo m (fun r2 m2 => r1 = r2 ∧ RelE c2 m2)) := by
  obtain ⟨hn7, hnC, hnM, hV⟩ := h.1
  obtain ⟨dn, kp, d1, d2, d3, d4, d5, d6, d7⟩ := h.2.2.2.2.2.1
  unfold wp_X7_undo wp_X8_undo
  simp only [d3, d4]
  refine ⟨fun h0 => ?_, fun h0 => ⟨fun q => absurd h0 q, fun _ => ⟨by simp, n, bs, h⟩⟩⟩
  obtain ⟨k, rfl⟩ : ∃ k, dn = k + 1 := ⟨dn - 1, by
    have : dn ≠ 0 := fun q => h0 (by rw [q]; rfl)
    omega⟩
  obtain ⟨i, w, hw, hi, e1, e2, e3, e4, e5, e6, e7, e8⟩ := d7 k (by omega)
  rw [nI_pred]
  rw [show (4 : Int32) = nI 4 from rfl, pk_mul, nI_1, show (2 : Int32) = nI 2 from rfl, nI_add, cl k, cl (4 * k), cl (4 * k + 1), cl (4 * k + 2), e1, e2, e3, e4]
  refine ⟨vin (by omega), vin (by omega), vin (by omega), becC hn7 hw hi ⟨fun _ => ⟨vin (by omega), vin (by omega), vin (by omega), becM hn7 hw hi ?_⟩, fun q => absurd q h0⟩⟩
  rw [← e5]
  have h1 : Rel n bs (sI c 44 4 (nI k)) (sI m 0 27 (nI k)) := by
    refine h.chs ⟨k, kp, by omega, d2, gI_sIs, gI_sIs, ?_, ?_, d7⟩ ⟨fun q hq => ?_, fun _ _ => rfl, fun _ => rfl⟩ (fun _ _ => rfl) (fun j j1 j2 => gI_sIj j2) (fun _ => rfl)
    · rw [gI_sIj (by decide)]; exact d5
    · rw [gI_sIj (by decide)]; exact d6
    · simp only [List.mem_cons, List.not_mem_nil, or_false] at hq
      funext b
      exact gI_sIk hq
  refine ⟨?_, n, bs, h1.up hw hi e6⟩
  rw [gI_upC hw (by decide), gI_upM, gI_sIs, gI_sIs]
theorem op_redo {n bs : Nat} {c m : rfS} (h : Rel n bs c m) : wp_X7_redo c (fun r1 c2 => wp_X8_redo m (fun r2 m2 => r1 = r2 ∧ RelE c2 m2)) := by
  obtain ⟨hn7, hnC, hnM, hV⟩ := h.1
  obtain ⟨dn, kp, d1, d2, d3, d4, d5, d6, d7⟩ := h.2.2.2.2.2.1
  unfold wp_X7_redo wp_X8_redo
  simp only [d3, d4, d5, d6]
  refine ⟨fun h0 => ?_, fun h0 => ⟨fun q => absurd h0 q, fun _ => ⟨by simp, n, bs, h⟩⟩⟩
  have hlt : dn < kp := by
    have : dn ≠ kp := fun q => h0 (by rw [q])
    omega
  obtain ⟨i, w, hw, hi, e1, e2, e3, e4, e5, e6, e7, e8⟩ := d7 dn hlt
  rw [show (4 : Int32) = nI 4 from rfl, pk_mul, nI_1, show (3 : Int32) = nI 3 from rfl, nI_add, cl dn, cl (4 * dn), cl (4 * dn + 1), cl (4 * dn + 3), e1, e2, e3, e4]
  refine ⟨vin (by omega), vin (by omega), vin (by omega), becC hn7 hw hi ⟨fun _ => ⟨vin (by omega), vin (by omega), vin (by omega), becM hn7 hw hi ?_⟩, fun q => absurd q h0⟩⟩
  rw [← e7, gI_upC hw (by decide), gI_upM, d3, d4, d5, d6]
  refine ⟨rfl, n, bs, (h.up hw hi e8).chs ⟨dn + 1, kp, by omega, d2, ?_, ?_, ?_, ?_, fun j hj => ?_⟩ ⟨fun q hq => ?_, fun _ _ => rfl, fun _ => rfl⟩ (fun _ _ => rfl) (fun j j1 j2 => gI_sIj j2) (fun _ => rfl)⟩
  · rw [gI_sIs, nI_1]
  · rw [gI_sIs, nI_1]
  · rw [gI_sIj (by decide), gI_upC hw (by decide)]; exact d5
  · rw [gI_sIj (by decide), gI_upM]; exact d6
  · have := d7 j hj
    unfold chOK at this ⊢
    rw [gF_sI_f, gF_sI_f, gF_sI_f, gF_sI_f, gF_sI_f, gF_upC hw (by decide), gF_upC hw (by decide), gF_upC hw (by decide), gF_upC hw (by decide), gF_upM (by decide) (by decide)]
    exact this
  · simp only [List.mem_cons, List.not_mem_nil, or_false] at hq
    funext b
    exact gI_sIk hq

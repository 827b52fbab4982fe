/-! does, day -/
theorem Rel.env {n bs : Nat} {c m : rfS} (h : Rel n bs c m) : ∃ (lo : Option lwT) (d : Nat), d < 7 ∧ gI c 12 3 = nI d ∧ heC c (n, gF c 2, gF c 4, gF c 5, lo) ∧ heM m (n, gF c 2, gF c 4, gF c 5, lo) ∧ stC c 12 n (gF c 13, gF c 14, gI c 12 2, d) ∧ stM m n (gF c 13, gF c 14, gI c 12 2, d) := by
  obtain ⟨hn7, hnC, hnM, hV⟩ := h.1
  obtain ⟨lo, l1, l2⟩ := h.2.2.1.two
  obtain ⟨v7, r7⟩ := hV 7 0 (by decide) (by simp [bnd])
  obtain ⟨d, hd, ed⟩ := i_below (k := 6) (by decide) r7
  have ed : gI c 12 3 = nI d := ed
  refine ⟨lo, d, hd, ed, ⟨hn7, hnC, fun _ _ => rfl, fun _ _ => ⟨rfl, rfl⟩, l1⟩, ⟨hn7, hnM, fun i hi => ?_, fun i hi => ⟨?_, ?_⟩, l2⟩, ⟨fun _ _ => rfl, fun _ _ => rfl, rfl, ed, hd⟩, ⟨fun i hi => ?_, fun i hi => ?_, ?_, ?_, hd⟩⟩
  · have := (hV 0 i (by decide) (by simpa [bnd] using hi)).1
    have this : gF c 2 i = gF m 1 (7 * 0 + i) := this
    show gF m 1 i = gF c 2 i
    rw [this]; simp
  · exact (hV 4 i (by decide) (by simpa [bnd] using hi)).1.symm
  · exact (hV 5 i (by decide) (by simpa [bnd] using hi)).1.symm
  · exact (hV 1 i (by decide) (by simpa [bnd] using hi)).1.symm
  · exact (hV 2 i (by decide) (by simpa [bnd] using hi)).1.symm
  · exact (hV 6 0 (by decide) (by simp [bnd])).1.symm
  · rw [← ed]; exact v7.symm
theorem l_lt (x z : Int32) : x.toInt64 < z.toInt64 ↔ x < z := by
  rw [Int64.lt_iff_toInt_lt, Int32.toInt_toInt64, Int32.toInt_toInt64, i_lt]
theorem l_le (x z : Int32) : x.toInt64 ≤ z.toInt64 ↔ x ≤ z := by
  rw [Int64.le_iff_toInt_le, Int32.toInt_toInt64, Int32.toInt_toInt64, i_le]
theorem l_eq (x z : Int32) : x.toInt64 = z.toInt64 ↔ x = z := by
  rw [← Int64.toInt_inj, Int32.toInt_toInt64, Int32.toInt_toInt64, Int32.toInt_inj]
theorem w_mayHave (c : rfS) (y : Int64) (Q : Int32 → rfS → Prop) : wp_X2_mayHave c y Q = Q (bI ((0 ≤ y ∧ y < (gI c 1 0).toInt64) ∨ y = 7)) c := by
  unfold wp_X2_mayHave wj_X2_mayHave_16
  simp only [lg_cmp_lt, lg_cmp_eq]
  by_cases h1 : y < 0
  · have h1' : ¬ 0 ≤ y := Int64.not_le.mpr h1
    by_cases h2 : y = 7
    · exact absurd (h2 ▸ h1 : (7 : Int64) < 0) (by decide)
    · rw [bI_f (fun q => q.elim (fun z => h1' z.1) h2)]; simp [h1, h2]
  · have h1' : 0 ≤ y := Int64.not_lt.mp h1
    by_cases h3 : y < (gI c 1 0).toInt64
    · rw [bI_t (Or.inl ⟨h1', h3⟩)]; simp [h1, h3]
    · by_cases h2 : y = 7
      · rw [bI_t (Or.inr h2)]; exact propext ⟨fun q => ((q.2 h1).2 h3).2 h2, fun q => ⟨fun z => absurd z h1, fun _ => ⟨fun z => absurd z h3, fun _ => ⟨fun z => absurd h2 z, fun _ => q⟩⟩⟩⟩
      · rw [bI_f (fun q => q.elim (fun z => h3 z.2) h2)]; simp [h1, h2, h3]
theorem may_i {n : Nat} (x : Int32) : ((0 ≤ x.toInt64 ∧ x.toInt64 < (nI n).toInt64) ∨ x.toInt64 = 7) ↔ ((0 ≤ x ∧ x < nI n) ∨ x = 7) := by
  rw [show (0 : Int64) = (0 : Int32).toInt64 from rfl, show (7 : Int64) = (7 : Int32).toInt64 from rfl, l_le, l_lt, l_eq]
def sOK (n : Nat) (s : sdT) : Prop := (∀ i, i < n → rg 0 99 (s.1 i) ∧ rg 0 255 (s.2.1 i)) ∧ rg 0 99 s.2.2.1 ∧ s.2.2.2 < 7
def eOK (E : heT) : Prop := ∀ d, d < 7 → rg 0 3 (E.2.2.1 d) ∧ rg 0 7 (E.2.2.2.1 d)
theorem rg_ob {o b : Int32} {i w : Nat} (h : rg 0 99 o) : rg 0 99 (obV o i w b) := by
  obtain ⟨x, hx, rfl⟩ := rg_n (hi := 99) (by decide) h
  unfold obV
  by_cases e : i = w
  · rw [if_pos e]
    by_cases q : 2 ≤ x
    · rw [show (2 : Int32) = nI 2 from rfl, pk_sub q]
      by_cases z : 0 < nI (x - 2)
      · rw [if_pos z]; exact rg_of (hi := 99) (by decide) (by omega)
      · rw [if_neg z]; exact ⟨by decide, by decide⟩
    · have : x = 0 ∨ x = 1 := by omega
      rcases this with rfl | rfl <;> exact ⟨by decide, by decide⟩
  · rw [if_neg e]
    by_cases q : b = 0
    · rw [if_pos q]; exact h
    · rw [if_neg q, nI_1]
      by_cases z : nI (x + 1) < 99
      · rw [if_pos z]
        have := (nI_ltI (b := 99) (by omega) (by decide)).mp z
        exact rg_of (hi := 99) (by decide) (by omega)
      · rw [if_neg z]; exact ⟨by decide, by decide⟩
theorem rg_fact {f : Int32} (h : rg 0 7 f) : rg 0 255 ((1 : Int32) <<< (f &&& 31)) := by
  obtain ⟨x, hx, rfl⟩ := rg_n (hi := 7) (by decide) h
  rw [sh1 hx]
  have := p2 hx
  exact rg_of (hi := 255) (by decide) (by omega)
theorem sOK.dy {E : heT} {s : sdT} {w : Nat} (h : sOK E.1 s) (hE : eOK E) : sOK E.1 (dyS E s w) := by
  obtain ⟨h1, h2, h3⟩ := h
  have kF : ∀ i, i < E.1 → rg 0 255 (dyF E s w i) := by
    intro i hi
    unfold dyF
    by_cases e : i = w ∧ E.2.2.1 s.2.2.2 = 2
    · rw [if_pos e]; exact rg_or (h1 i hi).2 (rg_fact (hE _ h3).2)
    · rw [if_neg e]; exact (h1 i hi).2
  refine ⟨fun i hi => ⟨rg_ob (h1 i hi).1, ?_⟩, ?_, Nat.mod_lt _ (by decide)⟩
  · show rg 0 255 (dyK E s w i)
    unfold dyK
    by_cases hw : w < E.1
    · rw [if_pos hw]
      by_cases e : i = nxt E.1 w
      · rw [if_pos e]; exact rg_or (kF i hi) (kF w hw)
      · rw [if_neg e]; exact kF i hi
    · rw [if_neg hw]; exact (h1 i hi).2
  · show rg 0 99 (dyW E s w)
    unfold dyW
    by_cases hw : w < E.1
    · rw [if_pos hw]
      obtain ⟨x, hx, e⟩ := rg_n (hi := 99) (by decide) h2
      obtain ⟨z, hz, e2⟩ := rg_n (hi := 3) (by decide) (hE _ h3).1
      rw [e, e2, nI_add]
      by_cases q : nI (x + z) < 99
      · rw [if_pos q]
        have := (nI_ltI (b := 99) (by omega) (by decide)).mp q
        exact rg_of (hi := 99) (by decide) (by omega)
      · rw [if_neg q]; exact ⟨by decide, by decide⟩
    · rw [if_neg hw]; exact h2
theorem Rel.sok {n bs d : Nat} {c m : rfS} (h : Rel n bs c m) (hd : d < 7) : sOK n (gF c 13, gF c 14, gI c 12 2, d) ∧ ∀ lo, eOK (n, gF c 2, gF c 4, gF c 5, lo) := by
  have hV := h.1.2.2.2
  exact ⟨⟨fun i hi => ⟨(hV 1 i (by decide) (by simpa [bnd] using hi)).2, (hV 2 i (by decide) (by simpa [bnd] using hi)).2⟩, (hV 6 0 (by decide) (by simp [bnd])).2, hd⟩, fun lo i hi => ⟨(hV 4 i (by decide) (by simpa [bnd] using hi)).2, (hV 5 i (by decide) (by simpa [bnd] using hi)).2⟩⟩
/-- a new standing on both sides, and led's numbers as they were -/
theorem Rel.stand {n bs : Nat} {c m c2 m2 : rfS} (h : Rel n bs c m) {s : sdT} (hs : sOK n s) (h1 : stC c2 12 n s) (h2 : stM m2 n s) (f1 : FrP 12 c c2) (f2 : FrQ n m m2) : Rel n bs c2 m2 := by
  obtain ⟨⟨hn7, hnC, hnM, hV⟩, hT, hL, hLd, hIm, hCh, hBo, hTr, hSh, hMd⟩ := h
  have fF : ∀ q, q ≠ 13 → q ≠ 14 → q ≠ 8 → q ≠ 11 → gF c2 q = gF c q := f1.1
  have fI := f1.2.1
  have mF := f2.1
  have mI := f2.2.2.1
  refine ⟨⟨hn7, by rw [fI 1 (by decide)]; exact hnC, by rw [mI]; exact hnM, fun w i hw hi => ?_⟩, hT.fr (by rw [fI 6 (by decide)]) (fF 9 (by decide) (by decide) (by decide) (by decide)) (by rw [mI]) (mF 3 (by decide) (by decide) (by decide) (by decide)), hL.fr (by rw [fI 6 (by decide)]) (fF 7 (by decide) (by decide) (by decide) (by decide)) (by rw [mI]) (by rw [mI]) (mF 4 (by decide) (by decide) (by decide) (by decide)) (mF 5 (by decide) (by decide) (by decide) (by decide)) (mF 6 (by decide) (by decide) (by decide) (by decide)) (mF 7 (by decide) (by decide) (by decide) (by decide)), hLd.fr (fF 15 (by decide) (by decide) (by decide) (by decide)) (mF 14 (by decide) (by decide) (by decide) (by decide)), ?_, ?_, ?_, ?_, ?_, hMd.fr (fF 24 (by decide) (by decide) (by decide) (by decide))⟩
  · have old := hV w i hw hi
    have b7 := bnd_le hn7 hi
    rcases w8 hw with rfl | rfl | rfl | rfl | rfl | rfl | rfl | rfl
    · have x1 : vC c2 0 i = vC c 0 i := by show gF c2 2 i = gF c 2 i; rw [fF 2 (by decide) (by decide) (by decide) (by decide)]
      have x2 : vM m2 0 i = vM m 0 i := by show gF m2 1 (7 * 0 + i) = gF m 1 (7 * 0 + i); exact f2.2.1 _ (fun j hj => by omega)
      rw [x1, x2]; exact old
    · have hin : i < n := by simpa [bnd] using hi
      have x1 : vC c2 1 i = s.1 i := h1.1 i hin
      have x2 : vM m2 1 i = s.1 i := h2.1 i hin
      rw [x1, x2]; exact ⟨rfl, (hs.1 i hin).1⟩
    · have hin : i < n := by simpa [bnd] using hi
      have x1 : vC c2 2 i = s.2.1 i := h1.2.1 i hin
      have x2 : vM m2 2 i = s.2.1 i := h2.2.1 i hin
      rw [x1, x2]; exact ⟨rfl, (hs.1 i hin).2⟩
    · have x1 : vC c2 3 i = vC c 3 i := by show gF c2 3 i = gF c 3 i; rw [fF 3 (by decide) (by decide) (by decide) (by decide)]
      have x2 : vM m2 3 i = vM m 3 i := by show gF m2 1 (7 * 3 + i) = gF m 1 (7 * 3 + i); exact f2.2.1 _ (fun j hj => by omega)
      rw [x1, x2]; exact old
    · have x1 : vC c2 4 i = vC c 4 i := by show gF c2 4 i = gF c 4 i; rw [fF 4 (by decide) (by decide) (by decide) (by decide)]
      have x2 : vM m2 4 i = vM m 4 i := by show gF m2 1 (7 * 4 + i) = gF m 1 (7 * 4 + i); exact f2.2.1 _ (fun j hj => by omega)
      rw [x1, x2]; exact old
    · have x1 : vC c2 5 i = vC c 5 i := by show gF c2 5 i = gF c 5 i; rw [fF 5 (by decide) (by decide) (by decide) (by decide)]
      have x2 : vM m2 5 i = vM m 5 i := by show gF m2 1 (7 * 5 + i) = gF m 1 (7 * 5 + i); exact f2.2.1 _ (fun j hj => by omega)
      rw [x1, x2]; exact old
    · have x1 : vC c2 6 i = s.2.2.1 := h1.2.2.1
      have x2 : vM m2 6 i = s.2.2.1 := h2.2.2.1
      rw [x1, x2]; exact ⟨rfl, hs.2.1⟩
    · have x1 : vC c2 7 i = nI s.2.2.2 := h1.2.2.2.1
      have x2 : vM m2 7 i = nI s.2.2.2 := h2.2.2.2.1
      rw [x1, x2]
      have := hs.2.2
      exact ⟨rfl, rg_of (hi := 6) (by decide) (by omega)⟩
  · exact hIm.fr (fI 0 (by decide)) (fI 16 (by decide)) (fF 17 (by decide) (by decide) (by decide) (by decide)) (fF 18 (by decide) (by decide) (by decide) (by decide)) (fF 19 (by decide) (by decide) (by decide) (by decide)) (by rw [mI]) (by rw [mI]) (mF 15 (by decide) (by decide) (by decide) (by decide)) (mF 16 (by decide) (by decide) (by decide) (by decide))
  · exact hCh.fr (fI 44 (by decide)) (fF 45 (by decide) (by decide) (by decide) (by decide)) (fF 46 (by decide) (by decide) (by decide) (by decide)) (fF 47 (by decide) (by decide) (by decide) (by decide)) (fF 48 (by decide) (by decide) (by decide) (by decide)) (by rw [mI]) (by rw [mI]) (mF 17 (by decide) (by decide) (by decide) (by decide))
  · exact hBo.fr (by rw [fI 49 (by decide)]) (fF 50 (by decide) (by decide) (by decide) (by decide)) (by rw [mI]) (mF 18 (by decide) (by decide) (by decide) (by decide))
  · exact hTr.fr (by rw [fI 49 (by decide)]) (fF 51 (by decide) (by decide) (by decide) (by decide)) (by rw [mI]) (mF 19 (by decide) (by decide) (by decide) (by decide))
  · exact hSh.fr (fun k hk => ⟨fI k (by omega), f1.2.2 k⟩) (mF 20 (by decide) (by decide) (by decide) (by decide)) (mF 21 (by decide) (by decide) (by decide) (by decide)) (f2.2.2.2 22)
theorem isSt12 : isSt 12 := by unfold isSt; decide
theorem op_day {n bs : Nat} {c m : rfS} (h : Rel n bs c m) (x : Int32) : wp_X7_day c x (fun r1 c2 => wp_X8_day m x (fun r2 m2 => r1 = r2 ∧ RelE c2 m2)) := by
  obtain ⟨lo, d, hd, ed, e1, e2, s1, s2⟩ := h.env
  obtain ⟨so, eo⟩ := h.sok hd
  have hn7 := h.1.1
  have hnC := h.1.2.1
  have hnM := h.1.2.2.1
  unfold wp_X7_day wp_X8_day
  simp only [w_mayHave, w_mOne, hnC, hnM, i_pred (n := n) (by omega), bI_0, Classical.not_not, may_i]
  refine ⟨fun hx => ?_, fun hx => ⟨fun q => absurd (Or.inl q) hx, fun _ => ⟨fun q => absurd (Or.inr q) hx, fun _ => ⟨by simp, n, bs, h⟩⟩⟩⟩
  obtain ⟨w, hw, rfl⟩ : ∃ w, (w < n ∨ w = 7) ∧ x = nI w := by
    rcases hx with q | q
    · obtain ⟨w, h1, h2⟩ := i_ix (by omega) q.1 q.2
      exact ⟨w, Or.inl h1, h2⟩
    · exact ⟨7, Or.inr rfl, q⟩
  refine passC (E := (n, gF c 2, gF c 4, gF c 5, lo)) isSt12 e1 s1 hw (fun c2 f2 t2 => ?_)
  have mrun : wj_X8_day_16 (fun r2 m2 => dyD (n, gF c 2, gF c 4, gF c 5, lo) (gF c 13, gF c 14, gI c 12 2, d) w = r2 ∧ RelE (sF (sF c2 15 0 (gF c2 15 0 + 1)) 15 1 (gF c2 15 1 + dyD (n, gF c 2, gF c 4, gF c 5, lo) (gF c 13, gF c 14, gI c 12 2, d) w)) m2) (nI w) m := by
    unfold wj_X8_day_16
    refine passM (E := (n, gF c 2, gF c 4, gF c 5, lo)) e2 s2 hw (fun m2 f3 t3 => ⟨rfl, n, bs, ?_⟩)
    have hR := h.stand (so.dy (E := (n, gF c 2, gF c 4, gF c 5, lo)) (w := w) (eo lo)) t2 t3 f2 f3
    have l0 := hR.2.2.2.1 0 (by decide)
    have l1 := hR.2.2.2.1 1 (by decide)
    have := (hR.led 0 (gF m2 14 0 + 1)).led 1 (gF m2 14 1 + dyD (n, gF c 2, gF c 4, gF c 5, lo) (gF c 13, gF c 14, gI c 12 2, d) w)
    rw [l0, l1]
    exact this
  exact ⟨fun _ => mrun, fun _ => ⟨fun _ => mrun, fun q => absurd (hx.resolve_left ‹_›) q⟩⟩
/-- only scratch cells differ -/
def ScC (c c2 : rfS) : Prop := (∀ q, q ≠ 8 → q ≠ 10 → q ≠ 11 → (q < 20 ∨ 43 < q ∨ q = 24) → gF c2 q = gF c q) ∧ (∀ q, (q < 20 ∨ 43 < q) → gI c2 q = gI c q) ∧ ∀ q, gL c2 q = gL c q
def ScM (m m2 : rfS) : Prop := (∀ q, q ≠ 12 → q ≠ 13 → (q < 23 ∨ 27 < q) → gF m2 q = gF m q) ∧ (∀ j, j ≠ 40 → j ≠ 41 → gI m2 0 j = gI m 0 j) ∧ ∀ q, gL m2 q = gL m q
theorem Rel.scr {n bs : Nat} {c m c2 m2 : rfS} (h : Rel n bs c m) (f1 : ScC c c2) (f2 : ScM m m2) : Rel n bs c2 m2 := by
  obtain ⟨hV, hT, hL, hLd, hIm, hCh, hBo, hTr, hSh, hMd⟩ := h
  obtain ⟨fF, fI, fL⟩ := f1
  obtain ⟨mF, mI, mL⟩ := f2
  refine ⟨hV.fr (by rw [fI 1 (by decide)]) (fF 2 (by decide) (by decide) (by decide) (by decide)) (fF 3 (by decide) (by decide) (by decide) (by decide)) (fF 4 (by decide) (by decide) (by decide) (by decide)) (fF 5 (by decide) (by decide) (by decide) (by decide)) (fF 13 (by decide) (by decide) (by decide) (by decide)) (fF 14 (by decide) (by decide) (by decide) (by decide)) (by rw [fI 12 (by decide)]) (by rw [fI 12 (by decide)]) (mI 0 (by decide) (by decide)) (mF 1 (by decide) (by decide) (by decide)) (mF 2 (by decide) (by decide) (by decide)), hT.fr (by rw [fI 6 (by decide)]) (fF 9 (by decide) (by decide) (by decide) (by decide)) (mI 3 (by decide) (by decide)) (mF 3 (by decide) (by decide) (by decide)), hL.fr (by rw [fI 6 (by decide)]) (fF 7 (by decide) (by decide) (by decide) (by decide)) (mI 5 (by decide) (by decide)) (mI 6 (by decide) (by decide)) (mF 4 (by decide) (by decide) (by decide)) (mF 5 (by decide) (by decide) (by decide)) (mF 6 (by decide) (by decide) (by decide)) (mF 7 (by decide) (by decide) (by decide)), hLd.fr (fF 15 (by decide) (by decide) (by decide) (by decide)) (mF 14 (by decide) (by decide) (by decide)), ?_, ?_, ?_, ?_, ?_, hMd.fr (fF 24 (by decide) (by decide) (by decide) (by decide))⟩
  · exact hIm.fr (fI 0 (by decide)) (fI 16 (by decide)) (fF 17 (by decide) (by decide) (by decide) (by decide)) (fF 18 (by decide) (by decide) (by decide) (by decide)) (fF 19 (by decide) (by decide) (by decide) (by decide)) (mI 22 (by decide) (by decide)) (mI 23 (by decide) (by decide)) (mF 15 (by decide) (by decide) (by decide)) (mF 16 (by decide) (by decide) (by decide))
  · exact hCh.fr (fI 44 (by decide)) (fF 45 (by decide) (by decide) (by decide) (by decide)) (fF 46 (by decide) (by decide) (by decide) (by decide)) (fF 47 (by decide) (by decide) (by decide) (by decide)) (fF 48 (by decide) (by decide) (by decide) (by decide)) (mI 27 (by decide) (by decide)) (mI 26 (by decide) (by decide)) (mF 17 (by decide) (by decide) (by decide))
  · exact hBo.fr (by rw [fI 49 (by decide)]) (fF 50 (by decide) (by decide) (by decide) (by decide)) (mI 29 (by decide) (by decide)) (mF 18 (by decide) (by decide) (by decide))
  · exact hTr.fr (by rw [fI 49 (by decide)]) (fF 51 (by decide) (by decide) (by decide) (by decide)) (mI 31 (by decide) (by decide)) (mF 19 (by decide) (by decide) (by decide))
  · exact hSh.fr (fun k hk => ⟨fI k (by omega), fL k⟩) (mF 20 (by decide) (by decide) (by decide)) (mF 21 (by decide) (by decide) (by decide)) (mL 22)
theorem op_does {n bs : Nat} {c m : rfS} (h : Rel n bs c m) (x : Int32) : wp_X7_does c x (fun r1 c2 => wp_X8_does m x (fun r2 m2 => r1 = r2 ∧ RelE c2 m2)) := by
  obtain ⟨lo, d, hd, ed, e1, e2, s1, s2⟩ := h.env
  have hn7 := h.1.1
  have hnC := h.1.2.1
  have hnM := h.1.2.2.1
  unfold wp_X7_does wp_X8_does
  simp only [w_isOne, w_mOne, hnC, hnM, i_pred (n := n) (by omega), bI_0, Classical.not_not]
  refine ⟨fun hx => ⟨fun _ => ⟨by simp, n, bs, h⟩, fun q => absurd q hx⟩, fun hx => ?_⟩
  obtain ⟨w, hw, rfl⟩ := i_ix (by omega) hx.1 hx.2
  refine doneC (n := n) isSt12 e1.2.2.2.2 hd (by omega) ed (fun c2 f2 => ⟨fun q => absurd hx q, fun _ => doneM e2.2.2.2.2 hd (by omega) s2.2.2.2.1 (fun m2 f3 => ⟨?_, n, bs, ?_⟩)⟩)
  · have a1 := (e2.2.2.2.1 d hd).1
    have a2 := s2.1 w hw
    have a3 := s2.2.2.1
    have a4 := e2.2.2.1 w hw
    have a5 := s2.2.1 w hw
    simp only at a1 a2 a3 a4 a5
    rw [a1, a2, a3, a4, a5]
  · exact h.scr ⟨fun q q1 _ q2 _ => f2.1 q q1 q2, fun q _ => f2.2.1 q, f2.2.2⟩ ⟨fun q q1 q2 _ => f3.1 q q1 q2, fun j _ _ => by rw [f3.2.1], f3.2.2⟩

/-! back; the frame of calls in thought -/
theorem backL1 {Q : Int32 → rfS → Prop} {kx : rfS → Prop} {K : Nat} (hK : K ≤ 7) : ∀ (f i : Nat) (m : rfS), gI m 0 23 = nI K → i ≤ K → K - i < f → (∀ m2 : rfS, (∀ j, i ≤ j → j < K → gF m2 1 (7 + j) = gF m 15 j ∧ gF m2 1 (14 + j) = gF m 15 (7 + j)) → (∀ j, (∀ q, i ≤ q → q < K → j ≠ 7 + q ∧ j ≠ 14 + q) → gF m2 1 j = gF m 1 j) → (∀ k, k ≠ 1 → gF m2 k = gF m k) → (∀ k, gI m2 k = gI m k) → (∀ k, gL m2 k = gL m k) → kx m2) → wl_X8_back_12 Q kx f (nI i) m := by
  intro f
  induction f with
  | zero => intro i m _ _ h; omega
  | succ f ih =>
    intro i m h23 hi hf hk
    unfold wl_X8_back_12
    rw [h23]
    refine ⟨fun h => ?_, fun h => ?_⟩
    · have e : K ≤ i := (nI_leI (by omega) (by omega)).mp h
      exact hk m (fun j h1 h2 => by omega) (fun _ _ => rfl) (fun _ _ => rfl) (fun _ => rfl) (fun _ => rfl)
    · have e : i < K := by
        rcases Nat.lt_or_ge i K with q | q
        · exact q
        · exact absurd ((nI_leI (by omega) (by omega)).mpr q) h
      rw [show (7 : Int32) = nI 7 from rfl, show (14 : Int32) = nI 14 from rfl, nI_add, nI_add, cl i, cl (7 + i), cl (14 + i), nI_1]
      refine ⟨vin (by omega), vin (by omega), vin (by omega), vin (by omega), ih (i + 1) _ (by rw [← h23]; rfl) (by omega) (by omega) (fun m2 a1 a2 a3 a4 a5 => hk m2 (fun j h1 h2 => ?_) (fun j hj => ?_) (fun k hk => ?_) (fun k => ?_) (fun k => ?_))⟩
      · by_cases hj : j = i
        · subst hj
          rw [a2 (7 + j) (fun q q1 q2 => by omega), a2 (14 + j) (fun q q1 q2 => by omega), gF_sFi (by omega), gF_sFs, gF_sFs]
          exact ⟨rfl, rfl⟩
        · obtain ⟨b1, b2⟩ := a1 j (by omega) h2
          rw [b1, b2, gF_sFn (by decide), gF_sFn (by decide), gF_sFn (by decide), gF_sFn (by decide)]
          exact ⟨rfl, rfl⟩
      · have := hj i (by omega) e
        rw [a2 j (fun q q1 q2 => hj q (by omega) q2), gF_sFi this.2, gF_sFi this.1]
      · rw [a3 k hk, gF_sF_ne hk, gF_sF_ne hk]
      · rw [a4 k]; rfl
      · rw [a5 k]; rfl
theorem backL2 {m2 : rfS} : ∀ (f i : Nat) (m3 : rfS), i ≤ 5 → 5 - i < f → (∀ j, j < i → gF m3 14 j = gF m2 16 j) → (∀ k, k ≠ 14 → gF m3 k = gF m2 k) → (∀ k, gI m3 k = gI m2 k) → (∀ k, gL m3 k = gL m2 k) → ∀ (Q : Int32 → rfS → Prop), (∀ m4 : rfS, (∀ j, j < 5 → gF m4 14 j = gF m2 16 j) → (∀ k, k ≠ 14 → gF m4 k = gF m2 k) → (∀ k, gI m4 k = gI m2 k) → (∀ k, gL m4 k = gL m2 k) → Q (gF m2 16 0) m4) → wl_X8_back_87 Q f (nI i) m3 := by
  intro f
  induction f with
  | zero => intro i m3 _ h; omega
  | succ f ih =>
    intro i m3 hi hf b1 b2 b3 b4 Q hq
    unfold wl_X8_back_87
    refine ⟨fun h => ?_, fun h => ?_⟩
    · have e : 5 ≤ i := (nI_leI (a := 5) (by decide) (by omega)).mp h
      rw [b1 0 (by omega)]
      exact hq m3 (fun j hj => b1 j (by omega)) b2 b3 b4
    · have e : i < 5 := by
        rcases Nat.lt_or_ge i 5 with q | q
        · exact q
        · exact absurd ((nI_leI (a := 5) (by decide) (by omega)).mpr q) h
      rw [cl i, nI_1]
      refine ⟨vin e, vin e, ih (i + 1) _ (by omega) (by omega) (fun j hj => ?_) (fun k hk => ?_) (fun k => ?_) (fun k => ?_) Q hq⟩
      · by_cases hj2 : j = i
        · subst hj2
          rw [gF_sFs, b2 16 (by decide)]
        · rw [gF_sFi (by omega)]
          exact b1 j (by omega)
      · rw [gF_sF_ne hk, b2 k hk]
      · rw [← b3 k]; rfl
      · rw [← b4 k]; rfl
/-- all but the views and led's numbers stays -/
theorem Rel.vl {n bs : Nat} {c m c2 m2 : rfS} (h : Rel n bs c m) (hv : RV n c2 m2) (hl : RLd c2 m2) (h1 : ∀ k, k ∉ [2, 3, 4, 5, 13, 14, 15] → gF c2 k = gF c k) (h2 : ∀ k, k ≠ 12 → k ≠ 1 → gI c2 k = gI c k) (h3 : ∀ k, gL c2 k = gL c k) (g1 : ∀ k, k ≠ 1 → k ≠ 2 → k ≠ 14 → gF m2 k = gF m k) (g2 : ∀ j, j ≠ 0 → gI m2 0 j = gI m 0 j) (g3 : ∀ k, gL m2 k = gL m k) : Rel n bs c2 m2 := by
  obtain ⟨-, hT, hL, -, hIm, hCh, hBo, hTr, hSh, hMd⟩ := h
  refine ⟨hv, hT.fr (by rw [h2 6 (by decide) (by decide)]) (h1 9 (by decide)) (g2 3 (by decide)) (g1 3 (by decide) (by decide) (by decide)), hL.fr (by rw [h2 6 (by decide) (by decide)]) (h1 7 (by decide)) (g2 5 (by decide)) (g2 6 (by decide)) (g1 4 (by decide) (by decide) (by decide)) (g1 5 (by decide) (by decide) (by decide)) (g1 6 (by decide) (by decide) (by decide)) (g1 7 (by decide) (by decide) (by decide)), hl, ?_, ?_, ?_, ?_, ?_, hMd.fr (h1 24 (by decide))⟩
  · exact hIm.fr (h2 0 (by decide) (by decide)) (h2 16 (by decide) (by decide)) (h1 17 (by decide)) (h1 18 (by decide)) (h1 19 (by decide)) (g2 22 (by decide)) (g2 23 (by decide)) (g1 15 (by decide) (by decide) (by decide)) (g1 16 (by decide) (by decide) (by decide))
  · exact hCh.fr (h2 44 (by decide) (by decide)) (h1 45 (by decide)) (h1 46 (by decide)) (h1 47 (by decide)) (h1 48 (by decide)) (g2 27 (by decide)) (g2 26 (by decide)) (g1 17 (by decide) (by decide) (by decide))
  · exact hBo.fr (by rw [h2 49 (by decide) (by decide)]) (h1 50 (by decide)) (g2 29 (by decide)) (g1 18 (by decide) (by decide) (by decide))
  · exact hTr.fr (by rw [h2 49 (by decide) (by decide)]) (h1 51 (by decide)) (g2 31 (by decide)) (g1 19 (by decide) (by decide) (by decide))
  · exact hSh.fr (fun k hk => ⟨h2 k (by omega) (by omega), h3 k⟩) (g1 20 (by decide) (by decide) (by decide)) (g1 21 (by decide) (by decide) (by decide)) (g3 22)
theorem op_back {n bs : Nat} {c m : rfS} (h : Rel n bs c m) : wp_X7_back c (fun r1 c2 => wp_X8_back m (fun r2 m2 => r1 = r2 ∧ RelE c2 m2)) := by
  obtain ⟨⟨hn7, hnC, hnM, hV⟩, hT, hL, hLd, hIm, hCh, hBo, hTr, hSh, hMd⟩ := id h
  unfold wp_X7_back wp_X8_back
  rcases hIm with ⟨i1, i2⟩ | ⟨i1, i2, K, i3, i4, i5, i6, i7, i8, i9, i10, i11⟩
  · rw [i1, i2]
    exact ⟨fun q => absurd rfl q, fun _ => ⟨fun q => absurd rfl q, fun _ => ⟨rfl, n, bs, h⟩⟩⟩
  · rw [i1, i2]
    refine ⟨fun _ => ?_, fun q => absurd q (by decide)⟩
    rw [i4]
    refine copyC (by omega) ⟨fun _ => ⟨8, backL1 (K := K) (by omega) 8 0 m i5 (by omega) (by omega) (fun m2 a1 a2 a3 a4 a5 => ⟨6, backL2 (m2 := sF (sF m2 2 0 (gF m2 15 14)) 2 1 (gF m2 15 15)) 6 0 _ (by decide) (by decide) (fun j hj => by omega) (fun _ _ => rfl) (fun _ => rfl) (fun _ => rfl) _ (fun m4 k1 k2 k3 k4 => ⟨?_, n, bs, ?_⟩)⟩)⟩, fun q => absurd q (by decide)⟩
    all_goals
      have e1 := cpC_fr c (a0 := 12) (a1 := 16) (k := K) (by decide)
      have r1 : ∀ i, gF (cpC c 12 16 K) 13 i = if i < K then gF c 17 i else gF c 13 i := fun i => by
        rw [cpC_F c (by decide)]
        by_cases q : i < K
        · rw [if_pos ⟨rfl, q⟩, if_pos q]
        · rw [if_neg (by omega), if_neg (by omega), if_neg q]
      have r2 : ∀ i, gF (cpC c 12 16 K) 14 i = if i < K then gF c 18 i else gF c 14 i := fun i => by
        rw [cpC_F c (by decide)]
        by_cases q : i < K
        · rw [if_neg (by omega), if_pos ⟨rfl, q⟩, if_pos q]
        · rw [if_neg (by omega), if_neg (by omega), if_neg q]
      have r3 : gI (cpC c 12 16 K) 12 2 = gI c 16 2 := by rw [cpC_I, if_neg (by decide), if_pos ⟨rfl, rfl⟩]
      have r4 : gI (cpC c 12 16 K) 12 3 = gI c 16 3 := by rw [cpC_I, if_pos ⟨rfl, rfl⟩]
      generalize cpC c 12 16 K = cc at e1 r1 r2 r3 r4 ⊢
      obtain ⟨e2, e3, e4⟩ := e1
    · rw [gF_cF, if_pos ⟨rfl, by omega, by omega⟩, e2 19 (by decide) (by decide), gF_sFn (by decide), gF_sFn (by decide), a3 16 (by decide)]
      simpa using i11 0 (by decide)
    · have mF : ∀ q, q ≠ 1 → q ≠ 2 → q ≠ 14 → gF m4 q = gF m q := fun q q1 q2 q3 => by rw [k2 q q3, gF_sF_ne q2, gF_sF_ne q2, a3 q q1]
      have mI : ∀ k, gI m4 k = gI m k := fun k => by rw [k3, ← a4 k]; rfl
      have mL : ∀ k, gL m4 k = gL m k := fun k => by rw [k4, ← a5 k]; rfl
      have m1 : gF m4 1 = gF m2 1 := by rw [k2 1 (by decide), gF_sF_ne (by decide), gF_sF_ne (by decide)]
      refine h.vl ⟨hn7, by rw [gI_cF_f, e3 1 (by decide)]; exact hnC, by rw [mI]; exact hnM, fun w i hw hi => ?_⟩ (fun i hi => ?_) (fun k hk => ?_) (fun k q1 q2 => by rw [gI_cF_f, e3 k q1]) (fun k => by rw [gL_cF_f, e4 k]) mF (fun j _ => by rw [mI]) mL
      · have b7 := bnd_le hn7 hi
        have old := hV w i hw hi
        rcases w8 hw with rfl | rfl | rfl | rfl | rfl | rfl | rfl | rfl
        · have x1 : vC (cF cc 19 15 0 0 5) 0 i = vC c 0 i := by show gF (cF cc 19 15 0 0 5) 2 i = gF c 2 i; rw [gF_cFn (by decide), e2 2 (by decide) (by decide)]
          have x2 : vM m4 0 i = vM m 0 i := by show gF m4 1 (7 * 0 + i) = gF m 1 (7 * 0 + i); rw [m1, a2 _ (fun q q1 q2 => by omega)]
          rw [x1, x2]; exact old
        · have x1 : vC (cF cc 19 15 0 0 5) 1 i = if i < K then gF c 17 i else gF c 13 i := by show gF (cF cc 19 15 0 0 5) 13 i = _; rw [gF_cFn (by decide), r1]
          have x2 : vM m4 1 i = if i < K then gF m 15 i else gF m 1 (7 + i) := by
            show gF m4 1 (7 * 1 + i) = _
            rw [m1]
            by_cases q : i < K
            · rw [if_pos q]; exact (a1 i (by omega) q).1
            · rw [if_neg q]; exact a2 _ (fun z z1 z2 => by omega)
          rw [x1, x2]
          by_cases q : i < K
          · rw [if_pos q, if_pos q]; exact ⟨(i6 i q).1, (i6 i q).2.1⟩
          · rw [if_neg q, if_neg q]; exact old
        · have x1 : vC (cF cc 19 15 0 0 5) 2 i = if i < K then gF c 18 i else gF c 14 i := by show gF (cF cc 19 15 0 0 5) 14 i = _; rw [gF_cFn (by decide), r2]
          have x2 : vM m4 2 i = if i < K then gF m 15 (7 + i) else gF m 1 (14 + i) := by
            show gF m4 1 (7 * 2 + i) = _
            rw [m1]
            by_cases q : i < K
            · rw [if_pos q]; exact (a1 i (by omega) q).2
            · rw [if_neg q]; exact a2 _ (fun z z1 z2 => by omega)
          rw [x1, x2]
          by_cases q : i < K
          · rw [if_pos q, if_pos q]; exact ⟨(i6 i q).2.2.1, (i6 i q).2.2.2⟩
          · rw [if_neg q, if_neg q]; exact old
        · have x1 : vC (cF cc 19 15 0 0 5) 3 i = vC c 3 i := by show gF (cF cc 19 15 0 0 5) 3 i = gF c 3 i; rw [gF_cFn (by decide), e2 3 (by decide) (by decide)]
          have x2 : vM m4 3 i = vM m 3 i := by show gF m4 1 (7 * 3 + i) = gF m 1 (7 * 3 + i); rw [m1, a2 _ (fun q q1 q2 => by omega)]
          rw [x1, x2]; exact old
        · have x1 : vC (cF cc 19 15 0 0 5) 4 i = vC c 4 i := by show gF (cF cc 19 15 0 0 5) 4 i = gF c 4 i; rw [gF_cFn (by decide), e2 4 (by decide) (by decide)]
          have x2 : vM m4 4 i = vM m 4 i := by show gF m4 1 (7 * 4 + i) = gF m 1 (7 * 4 + i); rw [m1, a2 _ (fun q q1 q2 => by omega)]
          rw [x1, x2]; exact old
        · have x1 : vC (cF cc 19 15 0 0 5) 5 i = vC c 5 i := by show gF (cF cc 19 15 0 0 5) 5 i = gF c 5 i; rw [gF_cFn (by decide), e2 5 (by decide) (by decide)]
          have x2 : vM m4 5 i = vM m 5 i := by show gF m4 1 (7 * 5 + i) = gF m 1 (7 * 5 + i); rw [m1, a2 _ (fun q q1 q2 => by omega)]
          rw [x1, x2]; exact old
        · have x1 : vC (cF cc 19 15 0 0 5) 6 i = gI c 16 2 := by show gI (cF cc 19 15 0 0 5) 12 2 = _; rw [gI_cF, r3]
          have x2 : vM m4 6 i = gF m 15 14 := by show gF m4 2 0 = _; rw [k2 2 (by decide), gF_sFi (by decide), gF_sFs, a3 15 (by decide)]
          rw [x1, x2]; exact ⟨i7, i8⟩
        · have x1 : vC (cF cc 19 15 0 0 5) 7 i = gI c 16 3 := by show gI (cF cc 19 15 0 0 5) 12 3 = _; rw [gI_cF, r4]
          have x2 : vM m4 7 i = gF m 15 15 := by show gF m4 2 1 = _; rw [k2 2 (by decide), gF_sFs, a3 15 (by decide)]
          rw [x1, x2]; exact ⟨i9, i10⟩
      · rw [gF_cF, if_pos ⟨rfl, by omega, by omega⟩, e2 19 (by decide) (by decide), k1 i hi, gF_sFn (by decide), gF_sFn (by decide), a3 16 (by decide)]
        simpa using i11 i hi
      · simp only [List.mem_cons, List.not_mem_nil, or_false, not_or] at hk
        rw [gF_cF_ne hk.2.2.2.2.2.2, e2 k hk.2.2.2.2.1 hk.2.2.2.2.2.1]

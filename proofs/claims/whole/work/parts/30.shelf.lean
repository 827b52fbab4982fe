/-! shelves: keep, row, put, element, taken -/
theorem Rel.shelf {n bs : Nat} {c m c2 m2 : rfS} (h : Rel n bs c m) (hs : RSh bs c2 m2) (h1 : ∀ k, gF c2 k = gF c k) (h2 : ∀ k, k < 53 → gI c2 k = gI c k) (g1 : ∀ k, k ≠ 20 → k ≠ 21 → gF m2 k = gF m k) (g2 : ∀ k, gI m2 k = gI m k) : Rel n bs c2 m2 := by
  obtain ⟨hV, hT, hL, hLd, hIm, hCh, hBo, hTr, -, hMd⟩ := h
  refine ⟨hV.fr (by rw [h2 1 (by decide)]) (h1 2) (h1 3) (h1 4) (h1 5) (h1 13) (h1 14) (by rw [h2 12 (by decide)]) (by rw [h2 12 (by decide)]) (by rw [g2]) (g1 1 (by decide) (by decide)) (g1 2 (by decide) (by decide)), hT.fr (by rw [h2 6 (by decide)]) (h1 9) (by rw [g2]) (g1 3 (by decide) (by decide)), hL.fr (by rw [h2 6 (by decide)]) (h1 7) (by rw [g2]) (by rw [g2]) (g1 4 (by decide) (by decide)) (g1 5 (by decide) (by decide)) (g1 6 (by decide) (by decide)) (g1 7 (by decide) (by decide)), hLd.fr (h1 15) (g1 14 (by decide) (by decide)), ?_, ?_, ?_, ?_, hs, hMd.fr (h1 24)⟩
  · exact hIm.fr (h2 0 (by decide)) (h2 16 (by decide)) (h1 17) (h1 18) (h1 19) (by rw [g2]) (by rw [g2]) (g1 15 (by decide) (by decide)) (g1 16 (by decide) (by decide))
  · exact hCh.fr (h2 44 (by decide)) (h1 45) (h1 46) (h1 47) (h1 48) (by rw [g2]) (by rw [g2]) (g1 17 (by decide) (by decide))
  · exact hBo.fr (by rw [h2 49 (by decide)]) (h1 50) (by rw [g2]) (g1 18 (by decide) (by decide))
  · exact hTr.fr (by rw [h2 49 (by decide)]) (h1 51) (by rw [g2]) (g1 19 (by decide) (by decide))
theorem w_isRow {m : rfS} {s : Nat} (hs : s < 6) (Q : Int32 → rfS → Prop) : wp_X8_isRow m (nI s) Q = Q (bI (0 ≤ gF m 20 s ∧ gF m 20 s ≤ 4)) m := by
  unfold wp_X8_isRow
  rw [w_within, cl s]
  simp [bI_Z, vin hs]
/-- what a shelf holds, as both sides see it -/
theorem sh_row {t : Nat} (ht : t < 5) : (0 : Int32) ≤ nI t ∧ nI t ≤ 4 ∧ ¬ nI t = -1 ∧ ¬ nI t = -2 := by
  have : t = 0 ∨ t = 1 ∨ t = 2 ∨ t = 3 ∨ t = 4 := by omega
  rcases this with rfl | rfl | rfl | rfl | rfl <;> decide
theorem sh_boot {b : Nat} (hb : b < 50) : ¬ (0 ≤ nI (10 + b) ∧ nI (10 + b) ≤ 4) ∧ ¬ nI (10 + b) = -1 := by
  refine ⟨fun q => ?_, fun q => ?_⟩
  · have := (nI_leI (b := 4) (by omega) (by decide)).mp q.2
    omega
  · have h1 : (nI (10 + b)).toInt = (-1 : Int32).toInt := by rw [q]
    rw [nI_toInt (by omega)] at h1
    have h2 : (-1 : Int32).toInt = -1 := by decide
    omega
theorem op_keep {n bs : Nat} {c m : rfS} (h : Rel n bs c m) (x1 x2 : Int32) : wp_X7_keep c x1 x2 (fun r1 c2 => wp_X8_keep m x1 x2 (fun r2 m2 => r1 = r2 ∧ RelE c2 m2)) := by
  obtain ⟨t1, t2, t3, t4⟩ := h.2.2.2.2.2.2.1
  have hSh := h.2.2.2.2.2.2.2.2.1
  unfold wp_X7_keep wp_X8_keep
  simp only [w_isShelf, w_mShelf, w_within, bI_0, Classical.not_not, t3]
  refine ⟨fun hw => ⟨fun _ => ⟨by simp, n, bs, h⟩, fun q => absurd q hw⟩, fun hw => ?_⟩
  obtain ⟨s, hs, rfl⟩ := i_below (k := 5) (by decide) hw
  -- one lemma for what is put down
  have key : ∀ (v1 v2 : Int32), (v1 = -2 ∧ v2 = -1) ∨ (∃ b, b < bs ∧ v1 = -1 ∧ x2 = nI b ∧ v2 = nI (10 + b)) → RelE (sI (sI c (53 + 2 * s) 0 v1) (53 + 2 * s) 1 x2) (sF (sF m 20 s v2) 21 s 0) := by
    intro v1 v2 hv
    refine ⟨n, bs, h.shelf (fun s2 hs2 => ?_) (fun k => rfl) (fun k hk => ?_) (fun k k1 k2 => ?_) (fun k => rfl)⟩
    · by_cases e : s2 = s
      · subst e
        have a1 : gI (sI (sI c (53 + 2 * s2) 0 v1) (53 + 2 * s2) 1 x2) (53 + 2 * s2) 0 = v1 := by rw [gI_sIj (by decide), gI_sIs]
        have a2 : gI (sI (sI c (53 + 2 * s2) 0 v1) (53 + 2 * s2) 1 x2) (53 + 2 * s2) 1 = x2 := gI_sIs
        have a3 : gF (sF (sF m 20 s2 v2) 21 s2 0) 20 s2 = v2 := by rw [gF_sFn (by decide), gF_sFs]
        unfold shOK
        rw [a1, a2, a3]
        rcases hv with hv | ⟨b, b1, b2, b3, b4⟩
        · exact Or.inl hv
        · exact Or.inr (Or.inl ⟨b, b1, b2, b3, b4⟩)
      · exact (hSh s2 hs2).fr (by rw [gI_sI_ne (by omega), gI_sI_ne (by omega)]) rfl (by rw [gF_sFn (by decide), gF_sFi e]) (by rw [gF_sFi e, gF_sFn (by decide)]) (fun _ _ => rfl)
    · rw [gI_sI_ne (by omega), gI_sI_ne (by omega)]
    · rw [gF_sF_ne k2, gF_sF_ne k1]
  have hc : (-1 ≤ x2 ∧ x2 ≤ nI bs - 1) ↔ (x2 = -1 ∨ (0 ≤ x2 ∧ x2 ≤ nI bs - 1)) := by
    rw [i_le, i_le, i_le, i_eq, show (1 : Int32) = nI 1 from rfl, pk_sub_toInt (by omega) (by decide), show ((0 : Int32)).toInt = 0 from by decide, show (-nI 1).toInt = -1 from by decide]
    omega
  have m1 : (-1 : Int32) ≤ x2 ∧ x2 ≤ nI bs - 1 → ¬ 0 ≤ x2 → x2 = -1 := fun q q2 => (hc.mp q).resolve_right (fun z => q2 z.1)
  refine ⟨fun hm => ?_, fun hm => ?_⟩
  · subst hm
    unfold wj_X7_keep_22 wj_X7_keep_39
    rw [cl s]
    have hin : (-1 : Int32) ≤ -1 ∧ -1 ≤ nI bs - 1 := hc.mpr (Or.inl rfl)
    refine ⟨vin hs, fun q => absurd rfl q, fun _ => ⟨vin hs, fun q => absurd hw q, fun _ => ⟨fun _ => ⟨fun q => absurd q (by decide), fun _ => ?_⟩, fun q => absurd hin q⟩⟩⟩
    unfold wj_X8_keep_40
    rw [cl s]
    exact ⟨vin hs, vin hs, rfl, key (-2) (-1) (Or.inl ⟨rfl, rfl⟩)⟩
  · unfold wp_X7_isBody
    simp only [w_isWithin, t2, bI_0, Classical.not_not]
    refine ⟨bI_Z, fun hb => ?_, fun hb => ?_⟩
    · obtain ⟨b, b1, rfl⟩ := i_ix (n := bs) (by omega) hb.1 ((i_pred (by omega)).mp hb.2)
      unfold wj_X7_keep_22 wj_X7_keep_39
      rw [cl s]
      refine ⟨vin hs, fun _ => ⟨vin hs, fun q => absurd hw q, fun _ => ⟨fun _ => ⟨fun _ => ?_, fun q => absurd hb.1 q⟩, fun q => absurd (hc.mpr (Or.inr hb)) q⟩⟩, fun q => absurd q hm⟩
      unfold wj_X8_keep_40
      rw [cl s, show (10 : Int32) = nI 10 from rfl, nI_add]
      exact ⟨vin hs, vin hs, rfl, key (-1) (nI (10 + b)) (Or.inr ⟨b, b1, rfl, rfl, rfl⟩)⟩
    · exact ⟨fun q => absurd hw q, fun _ => ⟨fun q => absurd ((hc.mp q).resolve_left hm) hb, fun _ => ⟨by simp, n, bs, h⟩⟩⟩
/-- rows -/
theorem rowL {Q : rfS → Prop} {a k : Nat} (hk : k ≤ 60) : ∀ (f i : Nat) (c : rfS), i ≤ k → k - i < f → (∀ c2 : rfS, (∀ j, i ≤ j → j < k → gL c2 (a + 1) j = 0) → (∀ j, j < i → gL c2 (a + 1) j = gL c (a + 1) j) → (∀ q, q ≠ a + 1 → gL c2 q = gL c q) → (∀ q, gI c2 q = gI c q) → (∀ q, gF c2 q = gF c q) → Q c2) → wl_X4_becomeRow_12 Q f a (nI k) (nI i) c := by
  intro f
  induction f with
  | zero => intro i c _ h; omega
  | succ f ih =>
    intro i c hi hf hq
    unfold wl_X4_becomeRow_12
    refine ⟨fun h => ?_, fun h => ?_⟩
    · have e : k ≤ i := (nI_leI (by omega) (by omega)).mp h
      exact hq c (fun j h1 h2 => by omega) (fun _ _ => rfl) (fun _ _ => rfl) (fun _ => rfl) (fun _ => rfl)
    · have e : i < k := by
        rcases Nat.lt_or_ge i k with q | q
        · exact q
        · exact absurd ((nI_leI (by omega) (by omega)).mpr q) h
      rw [cl i, nI_1]
      refine ⟨vin (by omega), ih (i + 1) _ (by omega) (by omega) (fun c2 a1 a2 a3 a4 a5 => hq c2 (fun j h1 h2 => ?_) (fun j hj => ?_) (fun q hq => ?_) (fun q => ?_) (fun q => ?_))⟩
      · by_cases hj : j = i
        · subst hj
          rw [a2 j (by omega), gL_sLs]
        · exact a1 j (by omega) h2
      · rw [a2 j (by omega), gL_sLi (by omega)]
      · rw [a3 q hq, gL_sL_ne hq]
      · rw [a4 q]; rfl
      · rw [a5 q]; rfl
theorem rowML {Q : Int32 → rfS → Prop} {s : Nat} (hs : s < 6) : ∀ (f i : Nat) (m : rfS), i ≤ 60 → 60 - i < f → (∀ m2 : rfS, (∀ j, i ≤ j → j < 60 → gL m2 22 (60 * s + j) = 0) → (∀ j, (∀ q, i ≤ q → q < 60 → j ≠ 60 * s + q) → gL m2 22 j = gL m 22 j) → (∀ q, gI m2 q = gI m q) → (∀ q, gF m2 q = gF m q) → Q 1 m2) → wl_X8_row_48 Q f (nI s) (nI i) m := by
  intro f
  induction f with
  | zero => intro i c _ h; omega
  | succ f ih =>
    intro i m hi hf hq
    unfold wl_X8_row_48
    refine ⟨fun h => ?_, fun h => ?_⟩
    · have e : 60 ≤ i := (nI_leI (a := 60) (by decide) (by omega)).mp h
      exact hq m (fun j h1 h2 => by omega) (fun _ _ => rfl) (fun _ => rfl) (fun _ => rfl)
    · have e : i < 60 := by
        rcases Nat.lt_or_ge i 60 with q | q
        · exact q
        · exact absurd ((nI_leI (a := 60) (by decide) (by omega)).mpr q) h
      rw [show (60 : Int32) = nI 60 from rfl, pk_mul, nI_add, cl (60 * s + i), nI_1]
      refine ⟨vin (by omega), ih (i + 1) _ (by omega) (by omega) (fun m2 a1 a2 a3 a4 => hq m2 (fun j h1 h2 => ?_) (fun j hj => ?_) (fun q => ?_) (fun q => ?_))⟩
      · by_cases hj : j = i
        · subst hj
          rw [a2 (60 * s + j) (fun q q1 q2 => by omega), gL_sLs]
        · exact a1 j (by omega) h2
      · rw [a2 j (fun q q1 q2 => hj q (by omega) q2), gL_sLi (hj i (by omega) e)]
      · rw [a3 q]; rfl
      · rw [a4 q]; rfl
theorem op_row {n bs : Nat} {c m : rfS} (h : Rel n bs c m) (x1 x2 x3 : Int32) : wp_X7_row c x1 x2 x3 (fun r1 c2 => wp_X8_row m x1 x2 x3 (fun r2 m2 => r1 = r2 ∧ RelE c2 m2)) := by
  have hSh := h.2.2.2.2.2.2.2.2.1
  unfold wp_X7_row wp_X8_row
  simp only [w_isShelf, w_mShelf, w_isWithin, w_within, bI_0, Classical.not_not]
  refine ⟨fun hw => ⟨fun _ => ⟨by simp, n, bs, h⟩, fun q => absurd q hw⟩, fun hw => ⟨fun ht => ⟨fun q => absurd hw q, fun _ => ⟨fun _ => ⟨by simp, n, bs, h⟩, fun q => absurd q ht⟩⟩, fun ht => ⟨fun h6 => ⟨fun h0 => ?_, fun h0 => ⟨fun q => absurd hw q, fun _ => ⟨fun q => absurd ht q, fun _ => ⟨fun _ => ⟨fun q => absurd q h0, fun _ => ⟨by simp, n, bs, h⟩⟩, fun q => absurd h6 q⟩⟩⟩⟩, fun h6 => ⟨fun q => absurd hw q, fun _ => ⟨fun q => absurd ht q, fun _ => ⟨fun q => absurd q h6, fun _ => ⟨by simp, n, bs, h⟩⟩⟩⟩⟩⟩⟩
  obtain ⟨s, hs, rfl⟩ := i_below (k := 5) (by decide) hw
  obtain ⟨t, t5, rfl⟩ := i_below (k := 4) (by decide) ht
  obtain ⟨k, k6, rfl⟩ := i_below (k := 60) (by decide) ⟨h0, h6⟩
  unfold wp_X4_becomeRow
  rw [cl s]
  refine ⟨vin hs, 62, rowL (by omega) 62 0 _ (by omega) (by omega) (fun c2 a1 a2 a3 a4 a5 => ⟨fun q => absurd hw q, fun _ => ⟨fun q => absurd ht q, fun _ => ⟨fun _ => ⟨fun _ => ⟨vin hs, vin hs, 62, rowML hs 62 0 _ (by omega) (by omega) (fun m2 b1 b2 b3 b4 => ⟨by simp, n, bs, h.shelf (fun s2 hs2 => ?_) (fun q => ?_) (fun q hq => ?_) (fun q q1 q2 => ?_) (fun q => ?_)⟩)⟩, fun q => absurd h0 q⟩, fun q => absurd h6 q⟩⟩⟩)⟩
  · by_cases e : s2 = s
    · subst e
      refine Or.inr (Or.inr ⟨t, k, t5, by omega, ?_, ?_, ?_, ?_, fun i hi => ?_⟩)
      · rw [a4, gI_sIj (by decide), gI_sIs]
      · rw [b4, gF_sFn (by decide), gF_sFs]
      · rw [a4, gI_sIs]
      · rw [b4, gF_sFs]
      · rw [a1 i (by omega) hi, b1 i (by omega) (by omega)]
        exact ⟨rfl, fun _ => by decide⟩
    · exact (hSh s2 hs2).fr (by rw [a4, gI_sI_ne (by omega), gI_sI_ne (by omega)]) (by rw [a3 _ (by omega)]; rfl) (by rw [b4, gF_sFn (by decide), gF_sFi e]) (by rw [b4, gF_sFi e, gF_sFn (by decide)]) (fun i hi => by rw [b2 _ (fun q q1 q2 => by omega)]; rfl)
  · rw [a5]; rfl
  · rw [a4, gI_sI_ne (by omega), gI_sI_ne (by omega)]
  · rw [b4, gF_sF_ne q2, gF_sF_ne q1]
  · rw [b3]; rfl

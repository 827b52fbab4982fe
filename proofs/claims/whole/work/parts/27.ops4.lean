/-! tells, pays -/
def bc (x0 : Int32) : Int32 := ((((((((x0 - (((x0.toUInt32 >>> ((1 : Int32).toUInt32 &&& Int32.toUInt32 31)).toInt32) &&& 1431655765)) &&& 858993459) + ((((x0 - (((x0.toUInt32 >>> ((1 : Int32).toUInt32 &&& Int32.toUInt32 31)).toInt32) &&& 1431655765)).toUInt32 >>> ((2 : Int32).toUInt32 &&& Int32.toUInt32 31)).toInt32) &&& 858993459)) + (((((x0 - (((x0.toUInt32 >>> ((1 : Int32).toUInt32 &&& Int32.toUInt32 31)).toInt32) &&& 1431655765)) &&& 858993459) + ((((x0 - (((x0.toUInt32 >>> ((1 : Int32).toUInt32 &&& Int32.toUInt32 31)).toInt32) &&& 1431655765)).toUInt32 >>> ((2 : Int32).toUInt32 &&& Int32.toUInt32 31)).toInt32) &&& 858993459)).toUInt32 >>> ((4 : Int32).toUInt32 &&& Int32.toUInt32 31)).toInt32)) &&& 252645135) + (((((((x0 - (((x0.toUInt32 >>> ((1 : Int32).toUInt32 &&& Int32.toUInt32 31)).toInt32) &&& 1431655765)) &&& 858993459) + ((((x0 - (((x0.toUInt32 >>> ((1 : Int32).toUInt32 &&& Int32.toUInt32 31)).toInt32) &&& 1431655765)).toUInt32 >>> ((2 : Int32).toUInt32 &&& Int32.toUInt32 31)).toInt32) &&& 858993459)) + (((((x0 - (((x0.toUInt32 >>> ((1 : Int32).toUInt32 &&& Int32.toUInt32 31)).toInt32) &&& 1431655765)) &&& 858993459) + ((((x0 - (((x0.toUInt32 >>> ((1 : Int32).toUInt32 &&& Int32.toUInt32 31)).toInt32) &&& 1431655765)).toUInt32 >>> ((2 : Int32).toUInt32 &&& Int32.toUInt32 31)).toInt32) &&& 858993459)).toUInt32 >>> ((4 : Int32).toUInt32 &&& Int32.toUInt32 31)).toInt32)) &&& 252645135).toUInt32 >>> ((8 : Int32).toUInt32 &&& Int32.toUInt32 31)).toInt32)) + ((((((((x0 - (((x0.toUInt32 >>> ((1 : Int32).toUInt32 &&& Int32.toUInt32 31)).toInt32) &&& 1431655765)) &&& 858993459) + ((((x0 - (((x0.toUInt32 >>> ((1 : Int32).toUInt32 &&& Int32.toUInt32 31)).toInt32) &&& 1431655765)).toUInt32 >>> ((2 : Int32).toUInt32 &&& Int32.toUInt32 31)).toInt32) &&& 858993459)) + (((((x0 - (((x0.toUInt32 >>> ((1 : Int32).toUInt32 &&& Int32.toUInt32 31)).toInt32) &&& 1431655765)) &&& 858993459) + ((((x0 - (((x0.toUInt32 >>> ((1 : Int32).toUInt32 &&& Int32.toUInt32 31)).toInt32) &&& 1431655765)).toUInt32 >>> ((2 : Int32).toUInt32 &&& Int32.toUInt32 31)).toInt32) &&& 858993459)).toUInt32 >>> ((4 : Int32).toUInt32 &&& Int32.toUInt32 31)).toInt32)) &&& 252645135) + (((((((x0 - (((x0.toUInt32 >>> ((1 : Int32).toUInt32 &&& Int32.toUInt32 31)).toInt32) &&& 1431655765)) &&& 858993459) + ((((x0 - (((x0.toUInt32 >>> ((1 : Int32).toUInt32 &&& Int32.toUInt32 31)).toInt32) &&& 1431655765)).toUInt32 >>> ((2 : Int32).toUInt32 &&& Int32.toUInt32 31)).toInt32) &&& 858993459)) + (((((x0 - (((x0.toUInt32 >>> ((1 : Int32).toUInt32 &&& Int32.toUInt32 31)).toInt32) &&& 1431655765)) &&& 858993459) + ((((x0 - (((x0.toUInt32 >>> ((1 : Int32).toUInt32 &&& Int32.toUInt32 31)).toInt32) &&& 1431655765)).toUInt32 >>> ((2 : Int32).toUInt32 &&& Int32.toUInt32 31)).toInt32) &&& 858993459)).toUInt32 >>> ((4 : Int32).toUInt32 &&& Int32.toUInt32 31)).toInt32)) &&& 252645135).toUInt32 >>> ((8 : Int32).toUInt32 &&& Int32.toUInt32 31)).toInt32)).toUInt32 >>> ((16 : Int32).toUInt32 &&& Int32.toUInt32 31)).toInt32)) &&& 63)
theorem w_bc (σ : rfS) (x : Int32) (Q : Int32 → rfS → Prop) : wp_J6_bitCount_0f7a4 σ x Q = Q (bc x) σ := rfl
theorem w_areTwo {n : Nat} {c : rfS} (hc : gI c 1 0 = nI n) (x1 x2 : Int32) (Q : Int32 → rfS → Prop) : wp_X7_areTwo c x1 x2 Q = Q (bI ((0 ≤ x1 ∧ x1 < nI n) ∧ (0 ≤ x2 ∧ x2 < nI n) ∧ ¬ x1 = x2)) c := by
  unfold wp_X7_areTwo
  simp only [w_isOne, hc, bI_0, Classical.not_not]
  by_cases h1 : 0 ≤ x1 ∧ x1 < nI n
  · by_cases h2 : 0 ≤ x2 ∧ x2 < nI n
    · by_cases h3 : x1 = x2
      · rw [bI_f (fun q => q.2.2 h3)]; simp [h1, h2, h3]
      · rw [bI_t ⟨h1, h2, h3⟩]; simp [h1, h2, h3]
    · rw [bI_f (fun q => h2 q.2.1)]; simp [h1, h2]
  · rw [bI_f (fun q => h1 q.1)]; simp [h1]
theorem op_tells {n bs : Nat} {c m : rfS} (h : Rel n bs c m) (x1 x2 : Int32) : wp_X7_tells c x1 x2 (fun r1 c2 => wp_X8_tells m x1 x2 (fun r2 m2 => r1 = r2 ∧ RelE c2 m2)) := by
  obtain ⟨hn7, hnC, hnM, hV⟩ := h.1
  unfold wp_X7_tells wp_X8_tells
  simp only [w_areTwo hnC, w_mOne, hnM, i_pred (n := n) (by omega), bI_0, Classical.not_not, w_bc]
  refine ⟨fun hA => ?_, fun hA => ⟨fun _ => ⟨by simp, n, bs, h⟩, fun q1 => ⟨fun _ => ⟨by simp, n, bs, h⟩, fun q2 => ⟨fun q3 => absurd ⟨q1, q2, q3⟩ hA, fun _ => ⟨by simp, n, bs, h⟩⟩⟩⟩⟩
  obtain ⟨hA1, hA2, hne⟩ := hA
  obtain ⟨i, hi, rfl⟩ := i_ix (by omega) hA1.1 hA1.2
  obtain ⟨j, hj, rfl⟩ := i_ix (by omega) hA2.1 hA2.2
  rw [show (14 : Int32) = nI 14 from rfl, nI_add, nI_add, cl i, cl j, cl (14 + i), cl (14 + j)]
  refine ⟨vin (by omega), vin (by omega), vin (by omega), vin (by omega), fun q => absurd hA1 q, fun _ => ⟨fun q => absurd hA2 q, fun _ => ⟨fun _ => ⟨vin (by omega), vin (by omega), vin (by omega), vin (by omega), vin (by omega), ?_, n, bs, ?_⟩, fun q => absurd q hne⟩⟩⟩
  all_goals
    obtain ⟨e1, r1⟩ := hV 2 i (by decide) (by simpa [bnd] using hi)
    obtain ⟨e2, r2⟩ := hV 2 j (by decide) (by simpa [bnd] using hj)
    have e1 : gF c 14 i = gF m 1 (14 + i) := e1
    have e2 : gF c 14 j = gF m 1 (14 + j) := e2
    rw [← e1, ← e2]
  · rw [gF_sFs, b_news]
  · rw [b_tell]
    have h1 := (h.up (w := 2) (i := j) (v := gF c 14 j ||| gF c 14 i) (by decide) (by simpa [bnd] using hj) (rg_or r2 r1)).led 2 (gF m 14 2 + 1)
    rw [show gF c 15 2 = gF m 14 2 from h.2.2.2.1 2 (by decide)]
    exact h1
theorem rg_pay {a v : Int32} (h : rg 0 99 a) (hv : 1 ≤ v ∧ v ≤ 99) (hle : v ≤ a) : rg 0 99 (a - v) := by
  obtain ⟨x, hx, rfl⟩ := rg_n (hi := 99) (by decide) h
  obtain ⟨z, hz, rfl⟩ := rg_n (hi := 99) (by decide) ⟨Int32.le_trans (by decide) hv.1, hv.2⟩
  have := (nI_leI (by omega) (by omega)).mp hle
  rw [pk_sub this]
  exact rg_of (hi := 99) (by decide) (by omega)
theorem op_pays {n bs : Nat} {c m : rfS} (h : Rel n bs c m) (x1 x2 x3 : Int32) : wp_X7_pays c x1 x2 x3 (fun r1 c2 => wp_X8_pays m x1 x2 x3 (fun r2 m2 => r1 = r2 ∧ RelE c2 m2)) := by
  obtain ⟨hn7, hnC, hnM, hV⟩ := h.1
  unfold wp_X7_pays wp_X8_pays
  simp only [w_areTwo hnC, w_mOne, hnM, i_pred (n := n) (by omega), bI_0, Classical.not_not, w_isWithin, w_within]
  refine ⟨fun hA => ⟨fun _ => ⟨by simp, n, bs, h⟩, fun q1 => ⟨fun _ => ⟨by simp, n, bs, h⟩, fun q2 => ⟨fun _ => ⟨by simp, n, bs, h⟩, fun q3 => absurd ⟨q1, q2, q3⟩ hA⟩⟩⟩, fun hA => ?_⟩
  obtain ⟨hA1, hA2, hne⟩ := hA
  obtain ⟨i, hi, rfl⟩ := i_ix (by omega) hA1.1 hA1.2
  obtain ⟨j, hj, rfl⟩ := i_ix (by omega) hA2.1 hA2.2
  have hij : i ≠ j := fun q => hne (by rw [q])
  rw [show (7 : Int32) = nI 7 from rfl, nI_add, nI_add, cl i, cl j, cl (7 + i), cl (7 + j)]
  obtain ⟨e1, r1⟩ := hV 1 i (by decide) (by simpa [bnd] using hi)
  obtain ⟨e2, r2⟩ := hV 1 j (by decide) (by simpa [bnd] using hj)
  have e1 : gF c 13 i = gF m 1 (7 + i) := e1
  have e2 : gF c 13 j = gF m 1 (7 + j) := e2
  have r1 : rg 0 99 (gF c 13 i) := r1
  have r2 : rg 0 99 (gF c 13 j) := r2
  rw [← e1, ← e2]
  refine ⟨fun hv => ⟨vin (by omega), fun a1 => ⟨fun q => absurd hA1 q, fun _ => ⟨fun q => absurd hA2 q, fun _ => ⟨fun q => absurd q hne, fun _ => ⟨fun _ => ⟨vin (by omega), fun _ => ⟨by simp, n, bs, h⟩, fun q => absurd a1 q⟩, fun q => absurd hv q⟩⟩⟩⟩, fun a1 => ⟨vin (by omega), fun a2 => ?_, fun a2 => ⟨fun q => absurd hA1 q, fun _ => ⟨fun q => absurd hA2 q, fun _ => ⟨fun q => absurd q hne, fun _ => ⟨fun _ => ⟨vin (by omega), fun _ => ⟨by simp, n, bs, h⟩, fun _ => ⟨vin (by omega), fun q => absurd q a2, fun _ => ⟨by simp, n, bs, h⟩⟩⟩, fun q => absurd hv q⟩⟩⟩⟩⟩⟩, fun hv => ⟨fun q => absurd hA1 q, fun _ => ⟨fun q => absurd hA2 q, fun _ => ⟨fun q => absurd q hne, fun _ => ⟨fun q => absurd q hv, fun _ => ⟨by simp, n, bs, h⟩⟩⟩⟩⟩⟩
  have f1 : gF (sF c 13 i (gF c 13 i - x3)) 13 j = gF c 13 j := gF_sFi (Ne.symm hij)
  have f2 : gF (sF m 1 (7 + i) (gF c 13 i - x3)) 1 (7 + j) = gF m 1 (7 + j) := gF_sFi (by omega)
  rw [f1, f2, ← e2]
  refine ⟨vin (by omega), vin (by omega), vin (by omega), vin (by omega), vin (by omega), fun q => absurd hA1 q, fun _ => ⟨fun q => absurd hA2 q, fun _ => ⟨fun q => absurd q hne, fun _ => ⟨fun _ => ⟨vin (by omega), fun q => absurd q a1, fun _ => ⟨vin (by omega), fun _ => ⟨vin (by omega), vin (by omega), vin (by omega), vin (by omega), vin (by omega), ?_, n, bs, ?_⟩, fun q => absurd a2 q⟩⟩, fun q => absurd hv q⟩⟩⟩⟩
  · rw [gF_sFi hij, gF_sFs, gF_sFi (by omega), gF_sFs]
  · have h1 := h.up (w := 1) (i := i) (v := gF c 13 i - x3) (by decide) (by simpa [bnd] using hi) (rg_pay r1 hv (Int32.not_lt.mp a1))
    have h2 := (h1.up (w := 1) (i := j) (v := gF c 13 j - x3) (by decide) (by simpa [bnd] using hj) (rg_pay r2 hv a2)).led 3 (gF m 14 3 + x3)
    rw [show gF c 15 3 = gF m 14 3 from h.2.2.2.1 3 (by decide)]
    exact h2

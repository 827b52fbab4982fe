/-! of, mend, undo, redo -/
def numB (n : Nat) (x1 x2 : Int32) : Int32 := if 0 ≤ x2 ∧ x2 ≤ 7 then (if x2 ≤ 3 then bI (0 ≤ x1 ∧ x1 < nI n) else if x2 ≤ 5 then bI (0 ≤ x1 ∧ x1 ≤ 6) else bI (x1 = 0)) else 0
theorem i8 {x : Int32} (h : 0 ≤ x ∧ x ≤ 7) : ∃ w, w < 8 ∧ x = nI w := i_ix (n := 8) (by decide) h.1 (by have := h.2; rw [i_le] at this; rw [i_lt]; exact Int.lt_of_le_of_lt this (by decide))
theorem numB_ix {n : Nat} {x1 x2 : Int32} (hn : n ≤ 7) (h : ¬ numB n x1 x2 = 0) : ∃ w i, w < 8 ∧ i < bnd n w ∧ x2 = nI w ∧ x1 = nI i := by
  unfold numB at h
  by_cases hx : 0 ≤ x2 ∧ x2 ≤ 7
  · rw [if_pos hx] at h
    obtain ⟨w, hw, rfl⟩ := i8 hx
    refine ⟨w, ?_⟩
    by_cases h3 : w ≤ 3
    · have e : nI w ≤ 3 := (nI_leI (by omega) (b := 3) (by decide)).mpr h3
      rw [if_pos e, bI_0, Classical.not_not] at h
      obtain ⟨i, hi, rfl⟩ := i_ix (n := n) (by omega) h.1 h.2
      exact ⟨i, hw, by unfold bnd; rw [if_pos (by omega)]; exact hi, rfl, rfl⟩
    · have e : ¬ nI w ≤ 3 := fun q => h3 ((nI_leI (by omega) (b := 3) (by decide)).mp q)
      rw [if_neg e] at h
      by_cases h5 : w ≤ 5
      · have e : nI w ≤ 5 := (nI_leI (by omega) (b := 5) (by decide)).mpr h5
        rw [if_pos e, bI_0, Classical.not_not] at h
        obtain ⟨i, hi, rfl⟩ := i_ix (n := 7) (by decide) h.1 (by have := h.2; rw [i_le] at this; rw [i_lt]; exact Int.lt_of_le_of_lt this (by decide))
        exact ⟨i, hw, by unfold bnd; rw [if_neg (by omega), if_pos (by omega)]; exact hi, rfl, rfl⟩
      · have e : ¬ nI w ≤ 5 := fun q => h5 ((nI_leI (by omega) (b := 5) (by decide)).mp q)
        rw [if_neg e, bI_0, Classical.not_not] at h
        exact ⟨0, hw, by unfold bnd; rw [if_neg (by omega), if_neg (by omega)]; decide, rfl, h⟩
  · rw [if_neg hx] at h
    exact absurd rfl h
theorem isNumC {n : Nat} {c : rfS} (hc : gI c 1 0 = nI n) (x1 x2 : Int32) (Q : Int32 → rfS → Prop) : wp_X7_isNumber c x1 x2 Q = Q (numB n x1 x2) c := by
  unfold wp_X7_isNumber numB
  simp only [w_isWithin, w_isOne, bI_0, Classical.not_not, hc]
  by_cases hx : 0 ≤ x2 ∧ x2 ≤ 7
  · obtain ⟨w, hw, rfl⟩ := i8 hx
    rcases w8 hw with rfl | rfl | rfl | rfl | rfl | rfl | rfl | rfl <;> simp (decide := true) [bI_Z] <;> (by_cases q : x1 = 0 <;> simp [bI, q])
  · simp [hx]
theorem isNumM {n : Nat} {m : rfS} (hn : n ≤ 7) (hc : gI m 0 0 = nI n) (x1 x2 : Int32) (Q : Int32 → rfS → Prop) : wp_X8_isOf m x1 x2 Q = Q (numB n x1 x2) m := by
  unfold wp_X8_isOf numB
  simp only [w_within, w_mOne, bI_0, Classical.not_not, hc, i_pred (v := x1) (n := n) (by omega)]
  by_cases hx : 0 ≤ x2 ∧ x2 ≤ 7
  · obtain ⟨w, hw, rfl⟩ := i8 hx
    rcases w8 hw with rfl | rfl | rfl | rfl | rfl | rfl | rfl | rfl <;> simp (decide := true) [bI_Z] <;> (by_cases q : x1 = 0 <;> simp [bI, q])
  · have h3 : ¬ (0 ≤ x2 ∧ x2 ≤ 3) := fun q => hx ⟨q.1, Int32.le_trans q.2 (by decide)⟩
    have h5 : ¬ (4 ≤ x2 ∧ x2 ≤ 5) := fun q => hx ⟨Int32.le_trans (by decide) q.1, Int32.le_trans q.2 (by decide)⟩
    have h7 : ¬ (6 ≤ x2 ∧ x2 ≤ 7) := fun q => hx ⟨Int32.le_trans (by decide) q.1, q.2⟩
    simp [hx, h3, h5, h7]
theorem bnd_le {n w i : Nat} (hn : n ≤ 7) (h : i < bnd n w) : i < 7 := by
  unfold bnd at h
  split at h
  · omega
  · split at h <;> omega
theorem numC {n w i : Nat} {c : rfS} (hn : n ≤ 7) (hw : w < 8) (hi : i < bnd n w) {Q : Int32 → rfS → Prop} (hq : Q (vC c w i) c) : wp_X7_numberOf c (nI i) (nI w) Q := by
  unfold wp_X7_numberOf
  have h7 : vp_in (nI i) 7 := vin (bnd_le hn hi)
  rw [cl i (by have := bnd_le hn hi; omega)]
  rcases w8 hw with rfl | rfl | rfl | rfl | rfl | rfl | rfl | rfl <;> simp (decide := true) [h7] <;> exact hq
theorem becC {n w i : Nat} {c : rfS} {v : Int32} (hn : n ≤ 7) (hw : w < 8) (hi : i < bnd n w) {Q : rfS → Prop} (hq : Q (upC c w i v)) : wp_X7_become c (nI i) (nI w) v Q := by
  unfold wp_X7_become
  have h7 : vp_in (nI i) 7 := vin (bnd_le hn hi)
  rw [cl i (by have := bnd_le hn hi; omega)]
  rcases w8 hw with rfl | rfl | rfl | rfl | rfl | rfl | rfl | rfl <;> simp (decide := true) [h7] <;> exact hq
theorem nI_6 {w : Nat} (h : 6 ≤ w) : nI w - 6 = nI (w - 6) := pk_sub (b := 6) h
theorem numM {n w i : Nat} {m : rfS} (hn : n ≤ 7) (hw : w < 8) (hi : i < bnd n w) {Q : Int32 → rfS → Prop} (hq : Q (vM m w i) m) : wp_X8_get m (nI i) (nI w) Q := by
  unfold wp_X8_get
  have hi7 := bnd_le hn hi
  unfold vM at hq
  refine ⟨fun h => ?_, fun h => ?_⟩
  · have h6 : 6 ≤ w := (nI_leI (a := 6) (by decide) (by omega)).mp h
    rw [nI_6 h6, cl (w - 6)]
    rw [if_neg (by omega)] at hq
    exact ⟨vin (by omega), hq⟩
  · have h6 : w < 6 := by
      rcases Nat.lt_or_ge w 6 with q | q
      · exact q
      · exact absurd ((nI_leI (a := 6) (by decide) (by omega)).mpr q) h
    rw [show (7 : Int32) = nI 7 from rfl, pk_mul, nI_add, cl (7 * w + i)]
    rw [if_pos h6] at hq
    exact ⟨vin (by omega), hq⟩
theorem becM {n w i : Nat} {m : rfS} {v : Int32} (hn : n ≤ 7) (hw : w < 8) (hi : i < bnd n w) {Q : rfS → Prop} (hq : Q (upM m w i v)) : wp_X8_becomes m (nI i) (nI w) v Q := by
  unfold wp_X8_becomes
  have hi7 := bnd_le hn hi
  unfold upM at hq
  refine ⟨fun h => ?_, fun h => ?_⟩
  · have h6 : 6 ≤ w := (nI_leI (a := 6) (by decide) (by omega)).mp h
    rw [nI_6 h6, cl (w - 6)]
    rw [if_neg (by omega)] at hq
    exact ⟨vin (by omega), hq⟩
  · have h6 : w < 6 := by
      rcases Nat.lt_or_ge w 6 with q | q
      · exact q
      · exact absurd ((nI_leI (a := 6) (by decide) (by omega)).mpr q) h
    rw [show (7 : Int32) = nI 7 from rfl, pk_mul, nI_add, cl (7 * w + i)]
    rw [if_pos h6] at hq
    exact ⟨vin (by omega), hq⟩
theorem fitM {m : rfS} {w : Nat} (hw : w < 8) (v : Int32) (Q : Int32 → rfS → Prop) : wp_X8_isFit m (nI w) v Q = Q (bI (wLo w ≤ v ∧ v ≤ wHi w)) m := by
  unfold wp_X8_isFit
  simp only [w_within]
  rcases w8 hw with rfl | rfl | rfl | rfl | rfl | rfl | rfl | rfl <;> simp (decide := true) [bI_Z, wLo, wHi]
theorem op_of {n bs : Nat} {c m : rfS} (h : Rel n bs c m) (x1 x2 : Int32) : wp_X7_of c x1 x2 (fun r1 c2 => wp_X8_of m x1 x2 (fun r2 m2 => r1 = r2 ∧ RelE c2 m2)) := by
  obtain ⟨hn7, hnC, hnM, hV⟩ := h.1
  unfold wp_X7_of wp_X8_of
  rw [isNumC hnC]
  simp only [isNumM hn7 hnM]
  refine ⟨fun h0 => ⟨fun _ => ⟨by simp, n, bs, h⟩, fun q => absurd h0 q⟩, fun h0 => ?_⟩
  obtain ⟨w, i, hw, hi, rfl, rfl⟩ := numB_ix hn7 h0
  refine numC hn7 hw hi ⟨fun q => absurd q h0, fun _ => numM hn7 hw hi ⟨(hV w i hw hi).1, n, bs, h⟩⟩

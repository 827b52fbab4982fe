/-! put, element, shift, taken -/
theorem byte64 (x : Int8) : (-128 : Int64) ≤ x.toInt32.toInt64 ∧ x.toInt32.toInt64 ≤ 127 := by
  rw [Int64.le_iff_toInt_le, Int64.le_iff_toInt_le, Int32.toInt_toInt64, Int8.toInt_toInt32]
  have h1 := Int8.le_toInt x
  have h2 := Int8.toInt_lt x
  have e1 : (-128 : Int64).toInt = -128 := by decide
  have e2 : (127 : Int64).toInt = 127 := by decide
  omega
def cutV (t : Nat) (y : Int64) : Int64 := match t with
  | 0 => y.toInt32.toInt8.toInt32.toInt64
  | 1 => y.toInt32.toInt16.toInt32.toInt64
  | 2 => y.toInt32.toInt64
  | 3 => y
  | _ => if y = 0 then 0 else 1
theorem t5 {t : Nat} (h : t < 5) : t = 0 ∨ t = 1 ∨ t = 2 ∨ t = 3 ∨ t = 4 := by omega
theorem cutC {c : rfS} {a t : Nat} {y : Int64} (ht : t < 5) (hc : gI c a 0 = nI t) {Q : Int64 → rfS → Prop} (hq : Q (cutV t y) c) : wp_X4_cut c a y Q := by
  unfold wp_X4_cut
  rw [hc]
  simp only [lg_cmp_eq]
  unfold cutV at hq
  rcases t5 ht with rfl | rfl | rfl | rfl | rfl <;> simp (decide := true)
  · simpa using hq
  · simpa using hq
  · simpa using hq
  · simpa using hq
  · by_cases e : y = 0
    · simp [e] at hq ⊢; exact hq
    · simp [e] at hq ⊢; exact hq
theorem keptV {m : rfS} {t : Nat} {y : Int64} (ht : t < 5) {Q : Int64 → rfS → Prop} (hq : Q (cutV t y) m) : wp_X8_kept m (nI t) y Q := by
  unfold wp_X8_kept
  simp only [lg_cmp_eq]
  unfold cutV at hq
  rcases t5 ht with rfl | rfl | rfl | rfl | rfl <;> simp (decide := true)
  · simpa using hq
  · simpa using hq
  · simpa using hq
  · simpa using hq
  · by_cases e : y = 0
    · simp [e] at hq ⊢; exact hq
    · simp [e] at hq ⊢; exact hq
/-- the refusal of a place, both sides -/
theorem op_put {n bs : Nat} {c m : rfS} (h : Rel n bs c m) (x1 x2 : Int32) (y : Int64) : wp_X7_put c x1 x2 y (fun r1 c2 => wp_X8_put m x1 x2 y (fun r2 m2 => r1 = r2 ∧ RelE c2 m2)) := by
  have hSh := h.2.2.2.2.2.2.2.2.1
  have hb50 := h.2.2.2.2.2.2.1.1
  unfold wp_X7_put wp_X8_put wp_X7_refusalOfPlace
  simp only [w_isShelf, w_mShelf, bI_0, Classical.not_not, w_isWithin, w_within]
  refine ⟨fun hw => ?_, fun hw => ⟨fun q => absurd q (by decide), fun _ => ⟨fun q => absurd q hw, fun _ => ⟨by simp, n, bs, h⟩⟩⟩⟩
  obtain ⟨s, hs, rfl⟩ := i_below (k := 5) (by decide) hw
  rw [cl s]
  simp only [w_isRow hs, bI_0, Classical.not_not]
  refine ⟨vin hs, ?_⟩
  rcases hSh s hs with ⟨a1, a2⟩ | ⟨b, b1, b2, b3, b4⟩ | ⟨t, k, ht, hk, r1, r2, r3, r4, r5⟩
  · rw [a1, a2]
    exact ⟨fun q => absurd rfl q, fun _ => ⟨fun q => absurd q (by decide), fun _ => ⟨fun _ => ⟨vin hs, fun q => absurd rfl q, fun _ => ⟨by simp, n, bs, h⟩⟩, fun q => absurd hw q⟩⟩⟩
  · rw [b2, b4]
    have hb := sh_boot (b := b) (by omega)
    exact ⟨fun _ => ⟨fun q => absurd rfl q, fun _ => ⟨fun q => absurd q (by decide), fun _ => ⟨fun _ => ⟨vin hs, fun _ => ⟨fun q => absurd q hb.1, fun _ => ⟨by simp, n, bs, h⟩⟩, fun q => absurd q hb.2⟩, fun q => absurd hw q⟩⟩⟩, fun q => absurd q (by decide)⟩
  · rw [r1, r2, r3, r4]
    obtain ⟨f1, f2, f3, f4⟩ := sh_row ht
    refine ⟨fun _ => ⟨fun _ => ⟨fun hi => ⟨fun q => absurd q (by decide), fun _ => ⟨fun _ => ⟨vin hs, fun _ => ⟨fun _ => ⟨vin hs, fun q => absurd q hi, fun _ => ⟨by simp, n, bs, h⟩⟩, fun q => absurd ⟨f1, f2⟩ q⟩, fun q => absurd q f3⟩, fun q => absurd hw q⟩⟩, fun hi => ⟨fun _ => ?_, fun q => absurd (by simp) q⟩⟩, fun q => absurd q f3⟩, fun q => absurd q f4⟩
    obtain ⟨i, i1, rfl⟩ := i_ix (n := k) (by omega) hi.1 ((i_pred (by omega)).mp hi.2)
    rw [cl i, show (60 : Int32) = nI 60 from rfl, pk_mul, nI_add, cl (60 * s + i)]
    refine ⟨vin hs, vin hs, cutC ht r1 ⟨vin (by omega), fun _ => ⟨vin hs, fun _ => ⟨fun _ => ⟨vin hs, fun _ => ⟨vin hs, keptV ht ⟨vin (by omega), by simp, n, bs, h.shelf (fun s2 hs2 => ?_) (fun _ => rfl) (fun _ _ => rfl) (fun _ _ _ => rfl) (fun _ => rfl)⟩⟩, fun q => absurd hi q⟩, fun q => absurd ⟨f1, f2⟩ q⟩, fun q => absurd q f3⟩, fun q => absurd hw q⟩⟩
    by_cases e : s2 = s
    · subst e
      refine Or.inr (Or.inr ⟨t, k, ht, hk, r1, r2, r3, r4, fun j hj => ?_⟩)
      rw [gL_sL, gL_sL]
      by_cases ej : j = i
      · subst ej
        rw [if_pos ⟨rfl, rfl⟩, if_pos ⟨rfl, rfl⟩]
        refine ⟨rfl, fun z => ?_⟩
        subst z
        exact byte64 _
      · rw [if_neg (fun q => ej q.2), if_neg (fun q => ej (by omega))]
        exact r5 j hj
    · exact (hSh s2 hs2).fr rfl (gL_sL_ne (by omega)) rfl rfl (fun j hj => gL_sLi (by omega))
theorem op_element {n bs : Nat} {c m : rfS} (h : Rel n bs c m) (x1 x2 : Int32) : wp_X7_element c x1 x2 (fun r1 c2 => wp_X8_element m x1 x2 (fun r2 m2 => r1 = r2 ∧ RelE c2 m2)) := by
  have hSh := h.2.2.2.2.2.2.2.2.1
  have hb50 := h.2.2.2.2.2.2.1.1
  unfold wp_X7_element wp_X8_element wp_X7_refusalOfPlace
  simp only [w_isShelf, w_mShelf, bI_0, Classical.not_not, w_isWithin, w_within]
  refine ⟨fun hw => ?_, fun hw => ⟨fun q => absurd q (by decide), fun _ => ⟨fun _ => ⟨by simp, n, bs, h⟩, fun q => absurd q hw⟩⟩⟩
  obtain ⟨s, hs, rfl⟩ := i_below (k := 5) (by decide) hw
  rw [cl s]
  simp only [w_isRow hs, bI_0, Classical.not_not]
  refine ⟨vin hs, ?_⟩
  rcases hSh s hs with ⟨a1, a2⟩ | ⟨b, b1, b2, b3, b4⟩ | ⟨t, k, ht, hk, r1, r2, r3, r4, r5⟩
  · rw [a1, a2]
    exact ⟨fun q => absurd rfl q, fun _ => ⟨fun q => absurd q (by decide), fun _ => ⟨fun q => absurd hw q, fun _ => ⟨fun _ => ⟨by simp, n, bs, h⟩, fun q => absurd q (by decide)⟩⟩⟩⟩
  · rw [b2, b4]
    have hb := sh_boot (b := b) (by omega)
    exact ⟨fun _ => ⟨fun q => absurd rfl q, fun _ => ⟨fun q => absurd q (by decide), fun _ => ⟨fun q => absurd hw q, fun _ => ⟨fun _ => ⟨by simp, n, bs, h⟩, fun q => absurd q hb.1⟩⟩⟩⟩, fun q => absurd q (by decide)⟩
  · rw [r1, r2, r3, r4]
    obtain ⟨f1, f2, f3, f4⟩ := sh_row ht
    refine ⟨fun _ => ⟨fun _ => ⟨fun hi => ⟨fun q => absurd q (by decide), fun _ => ⟨fun q => absurd hw q, fun _ => ⟨fun q => absurd ⟨f1, f2⟩ q, fun _ => ⟨vin hs, fun _ => ⟨by simp, n, bs, h⟩, fun q => absurd q hi⟩⟩⟩⟩, fun hi => ⟨fun _ => ?_, fun q => absurd (by simp) q⟩⟩, fun q => absurd q f3⟩, fun q => absurd q f4⟩
    obtain ⟨i, i1, rfl⟩ := i_ix (n := k) (by omega) hi.1 ((i_pred (by omega)).mp hi.2)
    rw [cl i, show (60 : Int32) = nI 60 from rfl, pk_mul, nI_add, cl (60 * s + i)]
    exact ⟨vin hs, vin (by omega), fun q => absurd hw q, fun _ => ⟨fun q => absurd ⟨f1, f2⟩ q, fun _ => ⟨vin hs, fun q => absurd hi q, fun _ => ⟨vin (by omega), (r5 i i1).1, n, bs, h⟩⟩⟩⟩
/-! the loops of shift -/
theorem shUp {Q : Int32 → rfS → Prop} {s i s2 j N : Nat} (hS : 60 * s + i + N ≤ 360) (hD : 60 * s2 + j + N ≤ 360) {m0 : rfS} (hdis : ∀ q k, q < k → k < N → 60 * s2 + j + q ≠ 60 * s + i + k) : ∀ (f k : Nat) (m : rfS), k ≤ N → N - k < f → (∀ q, q < k → gL m 22 (60 * s2 + j + q) = gL m0 22 (60 * s + i + q)) → (∀ z, (∀ q, q < k → z ≠ 60 * s2 + j + q) → gL m 22 z = gL m0 22 z) → (∀ q, gI m q = gI m0 q) → (∀ q, gF m q = gF m0 q) → (∀ m2 : rfS, (∀ q, q < N → gL m2 22 (60 * s2 + j + q) = gL m0 22 (60 * s + i + q)) → (∀ z, (∀ q, q < N → z ≠ 60 * s2 + j + q) → gL m2 22 z = gL m0 22 z) → (∀ q, gI m2 q = gI m0 q) → (∀ q, gF m2 q = gF m0 q) → Q (nI N) m2) → wl_X8_shift_188 Q f (nI s) (nI i) (nI s2) (nI j) (nI N) (nI k) m := by
  intro f
  induction f with
  | zero => intro k m _ h; omega
  | succ f ih =>
    intro k m hk hf b1 b2 b3 b4 hq
    unfold wl_X8_shift_188
    refine ⟨fun h => ?_, fun h => ?_⟩
    · have e : N ≤ k := (nI_leI (by omega) (by omega)).mp h
      have e2 : k = N := by omega
      subst e2
      exact hq m b1 b2 b3 b4
    · have e : k < N := by
        rcases Nat.lt_or_ge k N with q | q
        · exact q
        · exact absurd ((nI_leI (by omega) (by omega)).mpr q) h
      rw [show (60 : Int32) = nI 60 from rfl, pk_mul, nI_add, nI_add, pk_mul, nI_add, nI_add, cl (60 * s + i + k), cl (60 * s2 + j + k), nI_1]
      refine ⟨vin (by omega), vin (by omega), ih (k + 1) _ (by omega) (by omega) (fun q q1 => ?_) (fun z hz => ?_) (fun q => ?_) (fun q => ?_) hq⟩
      · by_cases e2 : q = k
        · subst e2
          rw [gL_sLs]
          exact b2 _ (fun z z1 => fun w => hdis z q z1 e w.symm)
        · rw [gL_sLi (by omega)]
          exact b1 q (by omega)
      · rw [gL_sLi (hz k (by omega))]
        exact b2 z (fun q q1 => hz q (by omega))
      · rw [← b3 q]; rfl
      · rw [← b4 q]; rfl
theorem shDn {Q : Int32 → rfS → Prop} {s i s2 j N : Nat} (hS : 60 * s + i + N ≤ 360) (hD : 60 * s2 + j + N ≤ 360) {m0 : rfS} (hdis : ∀ q k, k < q → q < N → 60 * s2 + j + q ≠ 60 * s + i + k) : ∀ (f k : Nat) (m : rfS), k ≤ N → k < f → (∀ q, k ≤ q → q < N → gL m 22 (60 * s2 + j + q) = gL m0 22 (60 * s + i + q)) → (∀ z, (∀ q, k ≤ q → q < N → z ≠ 60 * s2 + j + q) → gL m 22 z = gL m0 22 z) → (∀ q, gI m q = gI m0 q) → (∀ q, gF m q = gF m0 q) → (∀ m2 : rfS, (∀ q, q < N → gL m2 22 (60 * s2 + j + q) = gL m0 22 (60 * s + i + q)) → (∀ z, (∀ q, q < N → z ≠ 60 * s2 + j + q) → gL m2 22 z = gL m0 22 z) → (∀ q, gI m2 q = gI m0 q) → (∀ q, gF m2 q = gF m0 q) → Q (nI N) m2) → wl_X8_shift_142 Q f (nI s) (nI i) (nI s2) (nI j) (nI N) (nI k - 1) m := by
  intro f
  induction f with
  | zero => intro k m _ h; omega
  | succ f ih =>
    intro k m hk hf b1 b2 b3 b4 hq
    unfold wl_X8_shift_142
    refine ⟨fun h => ?_, fun h => ?_⟩
    · have e : k = 0 := by
        rcases Nat.eq_zero_or_pos k with q | q
        · exact q
        · obtain ⟨z, rfl⟩ : ∃ z, k = z + 1 := ⟨k - 1, by omega⟩
          rw [nI_pred] at h
          exact absurd h (nI_pos (by omega))
      subst e
      exact hq m (fun q q1 => b1 q (by omega) q1) (fun z hz => b2 z (fun q _ q2 => hz q q2)) b3 b4
    · obtain ⟨z, rfl⟩ : ∃ z, k = z + 1 := ⟨k - 1, by
        have : k ≠ 0 := fun q => h (by rw [q]; decide)
        omega⟩
      rw [nI_pred, show (60 : Int32) = nI 60 from rfl, pk_mul, nI_add, nI_add, pk_mul, nI_add, nI_add, cl (60 * s + i + z), cl (60 * s2 + j + z), ← Int32.sub_eq_add_neg]
      refine ⟨vin (by omega), vin (by omega), ih z _ (by omega) (by omega) (fun q q1 q2 => ?_) (fun w hw => ?_) (fun q => ?_) (fun q => ?_) hq⟩
      · by_cases e2 : q = z
        · subst e2
          rw [gL_sLs]
          exact b2 _ (fun w w1 w2 => fun v => hdis w q w1 w2 v.symm)
        · rw [gL_sLi (by omega)]
          exact b1 q (by omega) q2
      · rw [gL_sLi (hw z (by omega) (by omega))]
        exact b2 w (fun q q1 q2 => hw q (by omega) q2)
      · rw [← b3 q]; rfl
      · rw [← b4 q]; rfl
theorem lN_ltB {a b : Nat} (ha : a < 2 ^ 62) (hb : b < 2 ^ 62) : lN a < lN b ↔ a < b := by
  rw [Int64.lt_iff_toInt_lt]
  have e : ∀ n : Nat, n < 2 ^ 62 → (lN n).toInt = n := fun n h => Int64.toInt_ofNat_of_lt (by omega)
  rw [e a ha, e b hb]
  omega
theorem lN_leB {a b : Nat} (ha : a < 2 ^ 62) (hb : b < 2 ^ 62) : lN a ≤ lN b ↔ a ≤ b := by
  rw [Int64.le_iff_toInt_le]
  have e : ∀ n : Nat, n < 2 ^ 62 → (lN n).toInt = n := fun n h => Int64.toInt_ofNat_of_lt (by omega)
  rw [e a ha, e b hb]
  omega
theorem sub_lt {k a b : Nat} (hk : k ≤ 60) (ha : a < 2 ^ 31) (hb : b < 2 ^ 31) : nI k - nI b < nI a ↔ k < a + b := by
  rw [i_lt, Int32.toInt_sub, nI_toInt (by omega), nI_toInt hb, nI_toInt ha]
  simp only [Int.bmod]
  split <;> omega
/-- places: both sides ask the same -/
theorem w_hasPlaces (c : rfS) (a : Nat) (x1 x2 : Int32) (Q : Int32 → rfS → Prop) : wp_X4_hasPlaces c a x1 x2 Q = Q (bI (¬ x1 < 0 ∧ ¬ x2 < 0 ∧ ¬ gI c a 2 - x2 < x1)) c := by
  unfold wp_X4_hasPlaces
  by_cases h1 : x1 < 0
  · rw [bI_f (fun q => q.1 h1)]; simp [h1]
  · by_cases h2 : x2 < 0
    · rw [bI_f (fun q => q.2.1 h2)]; simp [h1, h2]
    · by_cases h3 : gI c a 2 - x2 < x1
      · rw [bI_f (fun q => q.2.2 h3)]; simp [h1, h2, h3]
      · rw [bI_t ⟨h1, h2, h3⟩]; simp [h1, h2, h3]
theorem op_shift {n bs : Nat} {c m : rfS} (h : Rel n bs c m) (x1 x2 x3 x4 x5 : Int32) : wp_X7_shift c x1 x2 x3 x4 x5 (fun r1 c2 => wp_X8_shift m x1 x2 x3 x4 x5 (fun r2 m2 => r1 = r2 ∧ RelE c2 m2)) := by
  have hSh := h.2.2.2.2.2.2.2.2.1
  have hb50 := h.2.2.2.2.2.2.1.1
  unfold wp_X7_shift wp_X8_shift
  simp only [w_isShelf, w_mShelf, bI_0, Classical.not_not, w_hasPlaces]
  refine ⟨fun hw => ⟨fun _ => ⟨by simp, n, bs, h⟩, fun q => absurd q hw⟩, fun hw => ⟨fun hw2 => ?_, fun hw2 => ⟨fun q => absurd hw q, fun _ => ⟨fun q => absurd q hw2, fun _ => ⟨by simp, n, bs, h⟩⟩⟩⟩⟩
  obtain ⟨s, hs, rfl⟩ := i_below (k := 5) (by decide) hw
  obtain ⟨s2, hs2, rfl⟩ := i_below (k := 5) (by decide) hw2
  rw [cl s, cl s2]
  simp only [w_isRow hs, w_isRow hs2, bI_0, Classical.not_not]
  refine ⟨vin hs, vin hs2, ?_⟩
  rcases hSh s hs with ⟨a1, a2⟩ | ⟨b, b1, b2, b3, b4⟩ | ⟨t, k, ht, hk, r1, r2, r3, r4, r5⟩
  · rw [a1, a2]
    exact ⟨fun _ => ⟨fun q => absurd hw q, fun _ => ⟨fun _ => ⟨vin hs, fun _ => ⟨by simp, n, bs, h⟩, fun q => absurd rfl q⟩, fun q => absurd hw2 q⟩⟩, fun q => absurd rfl q⟩
  · rw [b2, b4]
    have hb := sh_boot (b := b) (by omega)
    refine ⟨fun q => absurd q (by decide), fun _ => ?_⟩
    rcases hSh s2 hs2 with ⟨a1, a2⟩ | hr
    · rw [a1, a2]
      exact ⟨fun q => absurd rfl q, fun _ => ⟨fun q => absurd hw q, fun _ => ⟨fun _ => ⟨vin hs, fun q => absurd q hb.2, fun _ => ⟨vin hs2, fun q => absurd rfl q, fun _ => ⟨by simp, n, bs, h⟩⟩⟩, fun q => absurd hw2 q⟩⟩⟩
    · have e1 : ¬ gI c (53 + 2 * s2) 0 = -2 ∧ ¬ gF m 20 s2 = -1 := by
        rcases hr with ⟨b', c1, c2, c3, c4⟩ | ⟨t', k', d1, d2, d3, d4, d5⟩
        · rw [c2, c4]; exact ⟨by decide, (sh_boot (by omega)).2⟩
        · rw [d3, d4]; exact ⟨(sh_row d1).2.2.2, (sh_row d1).2.2.1⟩
      exact ⟨fun _ => ⟨fun _ => ⟨fun q => absurd hw q, fun _ => ⟨fun _ => ⟨vin hs, fun q => absurd q hb.2, fun _ => ⟨vin hs2, fun _ => ⟨fun _ => ⟨by simp, n, bs, h⟩, fun q => absurd q hb.1⟩, fun q => absurd q e1.2⟩⟩, fun q => absurd hw2 q⟩⟩, fun q => absurd rfl q⟩, fun q => absurd q e1.1⟩
  · rw [r1, r2]
    obtain ⟨f1, f2, f3, f4⟩ := sh_row ht
    refine ⟨fun q => absurd q f4, fun _ => ?_⟩
    rcases hSh s2 hs2 with ⟨a1, a2⟩ | ⟨b, b1, b2, b3, b4⟩ | ⟨t', k', ht', hk', r1', r2', r3', r4', r5'⟩
    · rw [a1, a2]
      exact ⟨fun q => absurd rfl q, fun _ => ⟨fun q => absurd hw q, fun _ => ⟨fun _ => ⟨vin hs, fun q => absurd q f3, fun _ => ⟨vin hs2, fun q => absurd rfl q, fun _ => ⟨by simp, n, bs, h⟩⟩⟩, fun q => absurd hw2 q⟩⟩⟩
    · rw [b2, b4]
      have hb := sh_boot (b := b) (by omega)
      exact ⟨fun _ => ⟨fun q => absurd q f3, fun _ => ⟨fun q => absurd q f3, fun _ => ⟨fun q => absurd hw q, fun _ => ⟨fun _ => ⟨vin hs, fun q => absurd q f3, fun _ => ⟨vin hs2, fun _ => ⟨fun q => absurd ⟨f1, f2⟩ q, fun _ => ⟨fun _ => ⟨by simp, n, bs, h⟩, fun q => absurd q hb.1⟩⟩, fun q => absurd q hb.2⟩⟩, fun q => absurd hw2 q⟩⟩⟩⟩, fun q => absurd q (by decide)⟩
    · rw [r1', r2']
      obtain ⟨f1', f2', f3', f4'⟩ := sh_row ht'
      refine ⟨fun _ => ⟨fun q => absurd q f3, fun _ => ⟨fun he => ?_, fun he => ⟨fun q => absurd hw q, fun _ => ⟨fun _ => ⟨vin hs, fun q => absurd q f3, fun _ => ⟨vin hs2, fun _ => ⟨fun q => absurd ⟨f1, f2⟩ q, fun _ => ⟨fun q => absurd ⟨f1', f2'⟩ q, fun _ => ⟨vin hs, vin hs2, fun q => absurd q he, fun _ => ⟨by simp, n, bs, h⟩⟩⟩⟩, fun q => absurd q f3'⟩⟩, fun q => absurd hw2 q⟩⟩⟩⟩, fun q => absurd q f4'⟩
      have ett : t = t' := (nI_eq (by omega) (by omega)).mp he
      subst ett
      rw [r3, r3', r4, r4']
      have conv : ∀ {z w : Int32} {q : Nat}, q ≤ 60 → ¬ z < 0 → ¬ w < 0 → ((¬ nI q - w < z) ↔ ¬ 0 < lg_cmp (z.toInt64 + w.toInt64) (nI q).toInt64) := by
        intro z w q hq hz hw9
        obtain ⟨a, ha, rfl⟩ := nI_of hz
        obtain ⟨d, hd, rfl⟩ := nI_of hw9
        rw [lg_cmp_gt, nI_l ha, nI_l hd, nI_l (by omega), lN_add, lN_ltB (by omega) (by omega), sub_lt hq ha hd]
      have conv2 : ∀ {z w : Int32} {q : Nat}, q ≤ 60 → ¬ z < 0 → ¬ w < 0 → ((¬ nI q - w < z) ↔ lg_cmp (z.toInt64 + w.toInt64) (nI q).toInt64 ≤ 0) := by
        intro z w q hq hz hw9
        obtain ⟨a, ha, rfl⟩ := nI_of hz
        obtain ⟨d, hd, rfl⟩ := nI_of hw9
        rw [lg_cmp_le, nI_l ha, nI_l hd, nI_l (by omega), lN_add, lN_leB (by omega) (by omega), sub_lt hq ha hd]
        omega
      refine ⟨fun hC1 => ?_, fun hC1 => ⟨fun hC2 => ?_, fun hC2 => ?_⟩⟩
      · exact ⟨fun q => absurd hw q, fun _ => ⟨fun _ => ⟨vin hs, fun q => absurd q f3, fun _ => ⟨vin hs2, fun _ => ⟨fun q => absurd ⟨f1, f2⟩ q, fun _ => ⟨fun q => absurd ⟨f1', f2'⟩ q, fun _ => ⟨vin hs, vin hs2, fun _ => ⟨fun _ => ⟨by simp, n, bs, h⟩, fun g5 => ⟨fun _ => ⟨by simp, n, bs, h⟩, fun g2 => ⟨fun _ => ⟨by simp, n, bs, h⟩, fun g4 => ⟨vin hs, fun _ => ⟨by simp, n, bs, h⟩, fun gk => absurd ⟨g2, g5, (conv hk g2 g5).mpr gk⟩ hC1⟩⟩⟩⟩, fun q => absurd he q⟩⟩⟩, fun q => absurd q f3'⟩⟩, fun q => absurd hw2 q⟩⟩
      · obtain ⟨g2, g5, gk⟩ := hC1
        obtain ⟨g4, -, gk2⟩ := hC2
        obtain ⟨i, hi, rfl⟩ := nI_of g2
        obtain ⟨N, hN, rfl⟩ := nI_of g5
        obtain ⟨j, hj, rfl⟩ := nI_of g4
        have l1 : i + N ≤ k := by
          rcases Nat.lt_or_ge k (i + N) with q | q
          · exact absurd ((sub_lt hk hi hN).mpr q) gk
          · exact q
        have l2 : j + N ≤ k' := by
          rcases Nat.lt_or_ge k' (j + N) with q | q
          · exact absurd ((sub_lt hk' hj hN).mpr q) gk2
          · exact q
        rw [cl i hi, cl N hN, cl j hj]
        have fin : ∀ m2 : rfS, (∀ q, q < N → gL m2 22 (60 * s2 + j + q) = gL m 22 (60 * s + i + q)) → (∀ z, (∀ q, q < N → z ≠ 60 * s2 + j + q) → gL m2 22 z = gL m 22 z) → (∀ q, gI m2 q = gI m q) → (∀ q, gF m2 q = gF m q) → RelE (cL c (53 + 2 * s + 1) (53 + 2 * s2 + 1) i j N) m2 := by
          intro m2 b1 b2 b3 b4
          refine ⟨n, bs, h.shelf (fun s3 hs3 => ?_) (fun _ => rfl) (fun _ _ => rfl) (fun q _ _ => b4 q) b3⟩
          by_cases e : s3 = s2
          · subst e
            refine Or.inr (Or.inr ⟨t, k', ht', hk', r1', by rw [b4]; exact r2', r3', by rw [b4]; exact r4', fun q hq => ?_⟩)
            rw [gL_cL]
            by_cases e2 : j ≤ q ∧ q < j + N
            · rw [if_pos ⟨rfl, e2⟩]
              have := b1 (q - j) (by omega)
              rw [show 60 * s3 + j + (q - j) = 60 * s3 + q by omega, show 60 * s + i + (q - j) = 60 * s + (i + (q - j)) by omega] at this
              rw [this]
              exact r5 (i + (q - j)) (by omega)
            · rw [if_neg (fun z => e2 z.2), b2 (60 * s3 + q) (fun z z1 => by omega)]
              exact r5' q hq
          · exact (hSh s3 hs3).fr rfl (gL_cL_ne (by omega)) (by rw [b4]) (by rw [b4]) (fun q hq => b2 _ (fun z z1 => by omega))
        refine ⟨nI_pos hi, nI_pos hj, nI_pos hN, by omega, by omega, fun q => absurd hw q, fun _ => ⟨fun _ => ⟨vin hs, fun q => absurd q f3, fun _ => ⟨vin hs2, fun _ => ⟨fun q => absurd ⟨f1, f2⟩ q, fun _ => ⟨fun q => absurd ⟨f1', f2'⟩ q, fun _ => ⟨vin hs, vin hs2, fun _ => ⟨fun q => absurd q g5, fun _ => ⟨fun q => absurd q g2, fun _ => ⟨fun q => absurd q g4, fun _ => ⟨vin hs, fun q => absurd q ((conv hk g2 g5).mp gk), fun _ => ⟨vin hs2, fun _ => ⟨fun hne => ?_, fun heq => ⟨fun hle => ?_, fun hle => ?_⟩⟩, fun q => absurd ((conv2 hk' g4 g5).mp gk2) q⟩⟩⟩⟩⟩, fun q => absurd he q⟩⟩⟩, fun q => absurd q f3'⟩⟩, fun q => absurd hw2 q⟩⟩
        · have hne2 : s ≠ s2 := fun q => hne (by rw [q])
          exact ⟨62, shUp (m0 := m) (by omega) (by omega) (fun q z q1 q2 => by omega) 62 0 m (by omega) (by omega) (fun q hq => by omega) (fun _ _ => rfl) (fun _ => rfl) (fun _ => rfl) (fun m2 b1 b2 b3 b4 => ⟨rfl, fin m2 b1 b2 b3 b4⟩)⟩
        · have he2 : s = s2 := (nI_eq (by omega) (by omega)).mp heq
          have hle2 : j ≤ i := (nI_leI hj hi).mp hle
          exact ⟨62, shUp (m0 := m) (by omega) (by omega) (fun q z q1 q2 => by omega) 62 0 m (by omega) (by omega) (fun q hq => by omega) (fun _ _ => rfl) (fun _ => rfl) (fun _ => rfl) (fun m2 b1 b2 b3 b4 => ⟨rfl, fin m2 b1 b2 b3 b4⟩)⟩
        · have he2 : s = s2 := (nI_eq (by omega) (by omega)).mp heq
          have hle2 : ¬ j ≤ i := fun q => hle ((nI_leI hj hi).mpr q)
          exact ⟨62, shDn (m0 := m) (by omega) (by omega) (fun q z q1 q2 => by omega) 62 N m (by omega) (by omega) (fun q q1 q2 => by omega) (fun _ _ => rfl) (fun _ => rfl) (fun _ => rfl) (fun m2 b1 b2 b3 b4 => ⟨rfl, fin m2 b1 b2 b3 b4⟩)⟩
      · exact ⟨fun q => absurd hw q, fun _ => ⟨fun _ => ⟨vin hs, fun q => absurd q f3, fun _ => ⟨vin hs2, fun _ => ⟨fun q => absurd ⟨f1, f2⟩ q, fun _ => ⟨fun q => absurd ⟨f1', f2'⟩ q, fun _ => ⟨vin hs, vin hs2, fun _ => ⟨fun q => absurd q hC1.2.1, fun g5 => ⟨fun q => absurd q hC1.1, fun g2 => ⟨fun _ => ⟨by simp, n, bs, h⟩, fun g4 => ⟨vin hs, fun _ => ⟨by simp, n, bs, h⟩, fun gk => ⟨vin hs2, fun gk2 => absurd ⟨g4, g5, (conv2 hk' g4 g5).mpr gk2⟩ hC2, fun _ => ⟨by simp, n, bs, h⟩⟩⟩⟩⟩⟩, fun q => absurd he q⟩⟩⟩, fun q => absurd q f3'⟩⟩, fun q => absurd hw2 q⟩⟩

/-! how much is done -/
abbrev lwT : Type := List (Option (List Int32) × List Int32)
def LawC (lo : Option lwT) (c : rfS) : Prop := match lo with
  | none => gI c 6 1 = 0
  | some L => L ≠ [] ∧ (L.flatMap lwLine).length ≤ 121 ∧ gI c 6 1 = nI (L.flatMap lwLine).length ∧ seg (gF c 7) 0 (L.flatMap lwLine) ∧ ∀ q ∈ L, lwGood q
def LawM (lo : Option lwT) (m : rfS) : Prop := match lo with
  | none => gI m 0 5 = 0
  | some L => (∀ q ∈ L, lwGood q) ∧ gI m 0 5 = 1 ∧ gI m 0 6 = nI L.length ∧ L.length ≤ 60 ∧ lwTab m L 0 0 ∧ (L.flatMap (fun q => q.1.getD [] ++ q.2)).length ≤ 200
theorem lw_len : ∀ L : lwT, (L.flatMap (fun q => q.1.getD [] ++ q.2)).length ≤ (L.flatMap lwLine).length
  | [] => Nat.le_refl _
  | q :: r => by
    simp only [List.flatMap_cons, List.length_append]
    have := lw_len r
    have h2 : (q.1.getD []).length + q.2.length ≤ (lwLine q).length := by
      obtain ⟨a, b⟩ := q
      cases a <;> simp [lwLine] <;> omega
    omega
theorem RLw.two {c m : rfS} (h : RLw c m) : ∃ lo, LawC lo c ∧ LawM lo m := by
  rcases h with h | ⟨L, a1, a2, a3, a4, a5, a6, a7, a8, a9⟩
  · exact ⟨none, h.1, h.2⟩
  · exact ⟨some L, ⟨a1, a2, a3, seg_of _ 0 (fun i hi => by rw [Nat.zero_add]; exact a4 i hi), a5⟩, a5, a6, a7, a8, a9, Nat.le_trans (lw_len L) (by omega)⟩
theorem LawC.fr {lo : Option lwT} {c c2 : rfS} (h : LawC lo c) (h1 : gI c2 6 1 = gI c 6 1) (h2 : gF c2 7 = gF c 7) : LawC lo c2 := by
  cases lo with
  | none => exact h1.trans h
  | some L => exact ⟨h.1, h.2.1, h1.trans h.2.2.1, by rw [h2]; exact h.2.2.2.1, h.2.2.2.2⟩
theorem LawM.fr {lo : Option lwT} {m m2 : rfS} (h : LawM lo m) (h1 : gI m2 0 5 = gI m 0 5) (h2 : gI m2 0 6 = gI m 0 6) (h4 : gF m2 4 = gF m 4) (h5 : gF m2 5 = gF m 5) (h6 : gF m2 6 = gF m 6) (h7 : gF m2 7 = gF m 7) : LawM lo m2 := by
  cases lo with
  | none => exact h1.trans h
  | some L => exact ⟨h.1, h1.trans h.2.1, h2.trans h.2.2.1, h.2.2.2.1, lwTab.fr h4 h5 h6 h7 L 0 0 h.2.2.2.2.1, h.2.2.2.2.2⟩
def nmF (k o w v f d : Int32) : Nat → Int32 := fun i => match i with
  | 0 => k
  | 1 => o
  | 2 => w
  | 3 => v
  | 4 => f
  | _ => d
def wbit (w : Int32) (d : Nat) : Int32 := (w >>> (nI d &&& 31)) &&& 1
def amt (lo : Option lwT) (k o w v f d : Int32) : Int32 := match lo with
  | none => 2 * k + 3 * v + o / 5 - w / 10
  | some L => lawV (nmF k o w v f d) L
def clV (x : Int32) : Int32 := if 0 < (if x < 20 then x else 20) then (if x < 20 then x else 20) else 0
/-- two cells at most differ -/
def Fr2 (k k2 : Nat) (c c2 : rfS) : Prop := (∀ q, q ≠ k → q ≠ k2 → gF c2 q = gF c q) ∧ (∀ q, gI c2 q = gI c q) ∧ ∀ q, gL c2 q = gL c q
theorem st_ne {a : Nat} (h : isSt a) : a + 1 ≠ 11 ∧ a + 2 ≠ 11 ∧ a + 1 ≠ 8 ∧ a + 2 ≠ 8 ∧ a ≠ 6 ∧ a ≠ 1 := by
  unfold isSt at h
  simp only [List.mem_cons, List.not_mem_nil, or_false] at h
  omega
theorem doneC {lo : Option lwT} {c : rfS} {a d i n : Nat} (ha : isSt a) (hl : LawC lo c) (hd : d < 7) (hi : i < 7) (htd : gI c a 3 = nI d) {Q : Int32 → rfS → Prop} (hk : ∀ c2, Fr2 8 11 c c2 → Q (clV (amt lo (gF c 4 d) (gF c (a + 1) i) (gI c a 2) (wbit (gF c 2 i) d) (bc (gF c (a + 2) i)) (nI d))) c2) : wp_X2_doneBy c a (nI i) Q := by
  have hne := st_ne ha
  unfold wp_X2_doneBy wp_X3_isWritten wj_X2_doneBy_140
  rw [htd, cl d, cl i]
  refine ⟨vin hd, vin hi, ?_⟩
  cases lo with
  | none =>
    have hl : gI c 6 1 = 0 := hl
    rw [hl]
    refine ⟨fun _ => ⟨fun _ => ⟨vin hi, hk c ⟨fun _ _ _ => rfl, fun _ => rfl, fun _ => rfl⟩⟩, fun q => absurd rfl q⟩, fun q => absurd (by decide) q⟩
  | some L =>
    obtain ⟨l1, l2, l3, l4, l5⟩ := hl
    have lpos : 0 < (L.flatMap lwLine).length := by
      match L, l1 with
      | (qa, qb) :: r, _ => cases qa <;> simp [lwLine] <;> omega
    rw [l3]
    refine ⟨fun q => by have := (nI_leI (b := 0) (by omega) (by decide)).mp q; omega, fun _ => ⟨fun q => absurd q (by decide), fun _ => ⟨vin hi, vin hi, ?_⟩⟩⟩
    rw [w_bc]
    unfold wp_X3_workOut
    refine ⟨(L.flatMap lwLine).length + 1, linesC (nm := nmF (gF c 4 d) (gF c (a + 1) i) (gI c a 2) (wbit (gF c 2 i) d) (bc (gF c (a + 2) i)) (nI d)) (S := (L.flatMap lwLine).length) l2 L 0 _ _ l5 ?_ (by omega) l4 (fun j hj => ?_) (by omega) (fun c2 h2 => hk c2 ⟨fun q q1 q2 => ?_, fun q => ?_, fun q => ?_⟩)⟩
    · rw [← l3]; rfl
    · have : j = 0 ∨ j = 1 ∨ j = 2 ∨ j = 3 ∨ j = 4 ∨ j = 5 := by omega
      rcases this with rfl | rfl | rfl | rfl | rfl | rfl
      · simp only [gF_sF, nmF]; simp
      · simp only [gF_sF, nmF, hne.1, hne.2.1]; simp
      · simp only [gF_sF, nmF, hne.1, hne.2.1]; simp [gI_sF]
      · simp only [gF_sF, nmF, hne.1, hne.2.1]; simp [wbit]
      · simp only [gF_sF, nmF, hne.1, hne.2.1]; simp
      · simp only [gF_sF, nmF, hne.1, hne.2.1]; simp [gI_sF, htd]
    · rw [h2.1 q q1, gF_sF_ne q2, gF_sF_ne q2, gF_sF_ne q2, gF_sF_ne q2, gF_sF_ne q2, gF_sF_ne q2]
    · rw [h2.2.1 q]; rfl
    · rw [h2.2.2 q]; rfl
theorem w_wants {m : rfS} {i d : Nat} (hi : i < 42) (Q : Int32 → rfS → Prop) : wp_X8_wants m (nI i) (nI d) Q = Q (bI (¬ wbit (gF m 1 i) d = 0)) m := by
  unfold wp_X8_wants wbit
  rw [w_has, cl i]
  simp [bI_Z, vin hi]
theorem wb01 (w : Int32) (d : Nat) : wbit w d = 0 ∨ wbit w d = 1 := and1 _
theorem doneM {lo : Option lwT} {m : rfS} {d i : Nat} (hl : LawM lo m) (hd : d < 7) (hi : i < 7) (htd : gF m 2 1 = nI d) {Q : Int32 → rfS → Prop} (hk : ∀ m2, Fr2 12 13 m m2 → Q (clV (amt lo (gF m 1 (28 + d)) (gF m 1 (7 + i)) (gF m 2 0) (wbit (gF m 1 i) d) (bc (gF m 1 (14 + i))) (nI d))) m2) : wp_X8_doneBy m (nI i) Q := by
  unfold wp_X8_doneBy wj_X8_doneBy_70 wj_X8_doneBy_47
  rw [htd, show (28 : Int32) = nI 28 from rfl, show (7 : Int32) = nI 7 from rfl, nI_add, nI_add, cl (28 + d), cl (7 + i), w_wants (by omega), bI_0, Classical.not_not]
  cases lo with
  | none =>
    have hl : gI m 0 5 = 0 := hl
    rw [hl]
    have h0 := hk m ⟨fun _ _ _ => rfl, fun _ => rfl, fun _ => rfl⟩
    refine ⟨fun _ => ⟨vin (by omega), fun hw => ⟨vin (by omega), ?_⟩, fun hw => ⟨vin (by omega), ?_⟩⟩, fun q => absurd rfl q⟩
    · unfold amt at h0
      rw [hw] at h0
      exact h0
    · unfold amt at h0
      rw [(wb01 _ _).resolve_left hw] at h0
      exact h0
  | some L =>
    obtain ⟨l1, l2, l3, l4, l5, l6⟩ := hl
    rw [l2]
    refine ⟨fun q => absurd q (by decide), fun _ => ?_⟩
    unfold wp_X8_byLaw
    rw [htd, show (28 : Int32) = nI 28 from rfl, show (7 : Int32) = nI 7 from rfl, nI_add, nI_add, cl (28 + d), cl (7 + i), w_wants (by omega), bI_0, Classical.not_not]
    have go : ∀ v : Int32, v = wbit (gF m 1 i) d → wj_X8_byLaw_68 (fun r7 σ6 => Q (if 0 < (if r7 < 20 then r7 else 20) then (if r7 < 20 then r7 else 20) else 0) σ6) (nI i) (nI d) v 3 (sF (sF (sF m 13 0 (gF m 1 (28 + d))) 13 1 (gF m 1 (7 + i))) 13 2 (gF m 2 0)) := by
      intro v hv
      unfold wj_X8_byLaw_68
      rw [w_bc, show (14 : Int32) = nI 14 from rfl, nI_add, cl (14 + i), show (3 : Int32).toNatClampNeg = 3 from rfl]
      refine ⟨by unfold vp_in; decide, vin (by omega), L.length + 1, linesM (nm := nmF (gF m 1 (28 + d)) (gF m 1 (7 + i)) (gF m 2 0) (wbit (gF m 1 i) d) (bc (gF m 1 (14 + i))) (nI d)) (N := L.length) l4 L 0 0 _ l1 ?_ (by omega) (by refine lwTab.fr (m := m) ?_ ?_ ?_ ?_ L 0 0 l5 <;> rfl) (by omega) (fun j hj => ?_) (fun m2 h2 => hk m2 ⟨fun q q1 q2 => ?_, fun q => ?_, fun q => ?_⟩)⟩
      · rw [← l3]; rfl
      · have : j = 0 ∨ j = 1 ∨ j = 2 ∨ j = 3 ∨ j = 4 ∨ j = 5 := by omega
        rcases this with rfl | rfl | rfl | rfl | rfl | rfl <;> simp only [gF_sF, nmF] <;> simp [hv]
      · rw [h2.1 q q1, gF_sF_ne q2, gF_sF_ne q2, gF_sF_ne q2, gF_sF_ne q2, gF_sF_ne q2, gF_sF_ne q2]
      · rw [h2.2.1 q]; rfl
      · rw [h2.2.2 q]; rfl
    have ew : wbit (gF (sF (sF (sF m 13 0 (gF m 1 (28 + d))) 13 1 (gF m 1 (7 + i))) 13 2 (gF m 2 0)) 1 i) d = wbit (gF m 1 i) d := by
      rw [gF_sFn (by decide), gF_sFn (by decide), gF_sFn (by decide)]
    rw [ew]
    exact ⟨vin (by omega), vin (by omega), fun hw => go 0 hw.symm, fun hw => go 1 ((wb01 _ _).resolve_left hw).symm⟩

/-! act: eight kinds, four acts -/
def noteC (c : rfS) (b : Int32) : rfS := if 24 ≤ gI c 49 3 then sI c 49 3 (gI c 49 3 + 1) else sI (sF c 51 (gI c 49 3).toNatClampNeg b) 49 3 (gI c 49 3 + 1)
def noteM (m : rfS) (b : Int32) : rfS := if 24 ≤ gI m 0 31 then sI m 0 31 (gI m 0 31 + 1) else sI (sF m 19 (gI m 0 31).toNatClampNeg b) 0 31 (gI m 0 31 + 1)
theorem noteC_w {c : rfS} {b : Int32} {r : Nat} {Q : rfS → Prop} (h : gI c 49 3 = nI r) (hr : r < 1000) (hq : Q (noteC c b)) : wp_X0_note c b Q := by
  unfold wp_X0_note wj_X0_note_19
  unfold noteC at hq
  by_cases e : 24 ≤ gI c 49 3
  · rw [if_pos e] at hq
    exact ⟨fun _ => hq, fun z => absurd e z⟩
  · rw [if_neg e] at hq
    refine ⟨fun z => absurd z e, fun _ => ⟨?_, hq⟩⟩
    rw [h] at e ⊢
    have : r < 24 := by
      rw [i_le, nI_toInt (by omega)] at e
      have : (24 : Int32).toInt = 24 := by decide
      omega
    exact vin this
theorem noteM_w {m : rfS} {b : Int32} {r : Nat} {Q : rfS → Prop} (h : gI m 0 31 = nI r) (hr : r < 1000) (hq : Q (noteM m b)) : wp_X8_ran m b Q := by
  unfold wp_X8_ran wj_X8_ran_19
  unfold noteM at hq
  by_cases e : 24 ≤ gI m 0 31
  · rw [if_pos e] at hq
    exact ⟨fun _ => hq, fun z => absurd e z⟩
  · rw [if_neg e] at hq
    refine ⟨fun z => absurd z e, fun _ => ⟨?_, hq⟩⟩
    rw [h] at e ⊢
    have : r < 24 := by
      rw [i_le, nI_toInt (by omega)] at e
      have : (24 : Int32).toInt = 24 := by decide
      omega
    exact vin this
theorem noteC_n {c : rfS} {b : Int32} {r : Nat} (h : gI c 49 3 = nI r) : gI (noteC c b) 49 3 = nI (r + 1) := by
  unfold noteC
  split <;> rw [gI_sI, if_pos ⟨rfl, rfl⟩, h, nI_1]
theorem noteM_n {m : rfS} {b : Int32} {r : Nat} (h : gI m 0 31 = nI r) : gI (noteM m b) 0 31 = nI (r + 1) := by
  unfold noteM
  split <;> rw [gI_sI, if_pos ⟨rfl, rfl⟩, h, nI_1]
theorem noteC_I {c : rfS} {b : Int32} {k j : Nat} (h : ¬ (j = 3 ∧ k = 49)) : gI (noteC c b) k j = gI c k j := by
  unfold noteC
  split <;> rw [gI_sI, if_neg h]
  rw [gI_sF]
theorem noteM_I {m : rfS} {b : Int32} {k j : Nat} (h : ¬ (j = 31 ∧ k = 0)) : gI (noteM m b) k j = gI m k j := by
  unfold noteM
  split <;> rw [gI_sI, if_neg h]
  rw [gI_sF]
theorem noteC_F {c : rfS} {b : Int32} {k : Nat} (h : k ≠ 51) : gF (noteC c b) k = gF c k := by
  unfold noteC
  split
  · rfl
  · rw [gF_sI_f, gF_sF_ne h]
theorem noteM_F {m : rfS} {b : Int32} {k : Nat} (h : k ≠ 19) : gF (noteM m b) k = gF m k := by
  unfold noteM
  split
  · rfl
  · rw [gF_sI_f, gF_sF_ne h]
theorem noteC_L {c : rfS} {b : Int32} {k : Nat} : gL (noteC c b) k = gL c k := by
  unfold noteC
  split <;> rfl
theorem noteM_L {m : rfS} {b : Int32} {k : Nat} : gL (noteM m b) k = gL m k := by
  unfold noteM
  split <;> rfl
def tC (c : rfS) (T : List Int32) : rfS := T.foldl noteC c
def tM (m : rfS) (T : List Int32) : rfS := T.foldl noteM m
theorem tC_app (c : rfS) (T U : List Int32) : tC c (T ++ U) = tC (tC c T) U := List.foldl_append ..
theorem tM_app (m : rfS) (T U : List Int32) : tM m (T ++ U) = tM (tM m T) U := List.foldl_append ..
theorem tC_n : ∀ {T : List Int32} {c : rfS} {r : Nat}, gI c 49 3 = nI r → gI (tC c T) 49 3 = nI (r + T.length)
  | [], _, _, h => h
  | b :: T, c, r, h => by
    show gI (tC (noteC c b) T) 49 3 = _
    rw [tC_n (T := T) (noteC_n h), List.length_cons]
    congr 1
    omega
theorem tM_n : ∀ {T : List Int32} {m : rfS} {r : Nat}, gI m 0 31 = nI r → gI (tM m T) 0 31 = nI (r + T.length)
  | [], _, _, h => h
  | b :: T, m, r, h => by
    show gI (tM (noteM m b) T) 0 31 = _
    rw [tM_n (T := T) (noteM_n h), List.length_cons]
    congr 1
    omega
theorem tC_I {k j : Nat} (h : ¬ (j = 3 ∧ k = 49)) : ∀ {T : List Int32} {c : rfS}, gI (tC c T) k j = gI c k j
  | [], _ => rfl
  | b :: T, c => (tC_I h (T := T) (c := noteC c b)).trans (noteC_I h)
theorem tM_I {k j : Nat} (h : ¬ (j = 31 ∧ k = 0)) : ∀ {T : List Int32} {m : rfS}, gI (tM m T) k j = gI m k j
  | [], _ => rfl
  | b :: T, m => (tM_I h (T := T) (m := noteM m b)).trans (noteM_I h)
theorem tC_F {k : Nat} (h : k ≠ 51) : ∀ {T : List Int32} {c : rfS}, gF (tC c T) k = gF c k
  | [], _ => rfl
  | b :: T, c => (tC_F h (T := T) (c := noteC c b)).trans (noteC_F h)
theorem tM_F {k : Nat} (h : k ≠ 19) : ∀ {T : List Int32} {m : rfS}, gF (tM m T) k = gF m k
  | [], _ => rfl
  | b :: T, m => (tM_F h (T := T) (m := noteM m b)).trans (noteM_F h)
theorem tC_L {k : Nat} : ∀ {T : List Int32} {c : rfS}, gL (tC c T) k = gL c k
  | [], _ => rfl
  | b :: T, c => (tC_L (T := T) (c := noteC c b)).trans noteC_L
theorem tM_L {k : Nat} : ∀ {T : List Int32} {m : rfS}, gL (tM m T) k = gL m k
  | [], _ => rfl
  | b :: T, m => (tM_L (T := T) (m := noteM m b)).trans noteM_L
/-- a note on both sides -/
theorem RTr_note {c m : rfS} {b : Int32} {k : Nat} (hk : k < 1000) (h1 : gI c 49 3 = nI k) (h2 : gI m 0 31 = nI k) (h3 : ∀ i, i < k → i < 24 → gF c 51 i = gF m 19 i) : ∀ i, i < k + 1 → i < 24 → gF (noteC c b) 51 i = gF (noteM m b) 19 i := by
  intro i hi h24
  unfold noteC noteM
  rw [h1, h2]
  by_cases e : (24 : Int32) ≤ nI k
  · rw [if_pos e, if_pos e, gF_sI, gF_sI]
    rw [i_le, nI_toInt (by omega)] at e
    have : (24 : Int32).toInt = 24 := by decide
    exact h3 i (by omega) h24
  · rw [if_neg e, if_neg e, gF_sI, gF_sI, cl k (by omega), gF_sF, gF_sF]
    by_cases q : i = k
    · rw [if_pos ⟨rfl, q⟩, if_pos ⟨rfl, q⟩]
    · rw [if_neg (fun z => q z.2), if_neg (fun z => q z.2)]
      exact h3 i (by omega) h24
theorem RTr_run : ∀ {T : List Int32} {c m : rfS} {k : Nat}, k + T.length < 1000 → gI c 49 3 = nI k → gI m 0 31 = nI k → (∀ i, i < k → i < 24 → gF c 51 i = gF m 19 i) → RTr (tC c T) (tM m T)
  | [], c, m, k, hk, h1, h2, h3 => ⟨k, by simpa using hk, h1, h2, h3⟩
  | b :: T, c, m, k, hk, h1, h2, h3 => by
    rw [List.length_cons] at hk
    exact RTr_run (T := T) (c := noteC c b) (m := noteM m b) (k := k + 1) (by omega) (noteC_n h1) (noteM_n h2) (RTr_note (by omega) h1 h2 h3)
theorem Rel.tr {n bs : Nat} {c m c2 m2 : rfS} (h : Rel n bs c m) (ht : RTr c2 m2) (h1 : ∀ k, k ≠ 51 → gF c2 k = gF c k) (h2 : ∀ k j, ¬ (j = 3 ∧ k = 49) → gI c2 k j = gI c k j) (h3 : ∀ k, gL c2 k = gL c k) (g1 : ∀ k, k ≠ 19 → gF m2 k = gF m k) (g2 : ∀ j, j ≠ 31 → gI m2 0 j = gI m 0 j) (g3 : ∀ k, gL m2 k = gL m k) : Rel n bs c2 m2 := by
  obtain ⟨hV, hT, hL, hLd, hIm, hCh, hBo, hTr, hSh, hMd⟩ := h
  have h2f : ∀ k, k ≠ 49 → gI c2 k = gI c k := fun k hk => funext fun j => h2 k j (fun q => hk q.2)
  refine ⟨?_, ?_, ?_, ?_, ?_, ?_, ?_, ht, ?_, ?_⟩
  · exact hV.fr (h2 1 0 (by decide)) (h1 2 (by decide)) (h1 3 (by decide)) (h1 4 (by decide)) (h1 5 (by decide)) (h1 13 (by decide)) (h1 14 (by decide)) (h2 12 2 (by decide)) (h2 12 3 (by decide)) (g2 0 (by decide)) (g1 1 (by decide)) (g1 2 (by decide))
  · exact hT.fr (h2 6 4 (by decide)) (h1 9 (by decide)) (g2 3 (by decide)) (g1 3 (by decide))
  · exact hL.fr (h2 6 1 (by decide)) (h1 7 (by decide)) (g2 5 (by decide)) (g2 6 (by decide)) (g1 4 (by decide)) (g1 5 (by decide)) (g1 6 (by decide)) (g1 7 (by decide))
  · exact hLd.fr (h1 15 (by decide)) (g1 14 (by decide))
  · exact hIm.fr (h2f 0 (by decide)) (h2f 16 (by decide)) (h1 17 (by decide)) (h1 18 (by decide)) (h1 19 (by decide)) (g2 22 (by decide)) (g2 23 (by decide)) (g1 15 (by decide)) (g1 16 (by decide))
  · exact hCh.fr (h2f 44 (by decide)) (h1 45 (by decide)) (h1 46 (by decide)) (h1 47 (by decide)) (h1 48 (by decide)) (g2 27 (by decide)) (g2 26 (by decide)) (g1 17 (by decide))
  · exact hBo.fr (h2 49 1 (by decide)) (h1 50 (by decide)) (g2 29 (by decide)) (g1 18 (by decide))
  · exact hSh.fr (fun k hk => ⟨h2f k (by omega), h3 k⟩) (g1 20 (by decide)) (g1 21 (by decide)) (g3 22)
  · exact hMd.fr (h1 24 (by decide))

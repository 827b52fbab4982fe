/-! feed, led, cobble, body, trace, tells, pays -/
theorem gI_sI_ne {σ : rfS} {k j : Nat} {v : Int32} {k2 : Nat} (h : k2 ≠ k) : gI (sI σ k j v) k2 = gI σ k2 := funext fun _ => gI_sIk h
theorem RV.fr {n : Nat} {c m c2 m2 : rfS} (h : RV n c m) (h1 : gI c2 1 0 = gI c 1 0) (h2 : gF c2 2 = gF c 2) (h3 : gF c2 3 = gF c 3) (h4 : gF c2 4 = gF c 4) (h5 : gF c2 5 = gF c 5) (h6 : gF c2 13 = gF c 13) (h7 : gF c2 14 = gF c 14) (h8 : gI c2 12 2 = gI c 12 2) (h9 : gI c2 12 3 = gI c 12 3) (g1 : gI m2 0 0 = gI m 0 0) (g2 : gF m2 1 = gF m 1) (g3 : gF m2 2 = gF m 2) : RV n c2 m2 := by
  unfold RV vC vM
  rw [h1, h2, h3, h4, h5, h6, h7, h8, h9, g1, g2, g3]
  exact h
/-- led's numbers change together -/
theorem Rel.led {n bs : Nat} {c m : rfS} (h : Rel n bs c m) (j : Nat) (v : Int32) : Rel n bs (sF c 15 j v) (sF m 14 j v) := by
  obtain ⟨hV, hT, hL, hLd, hIm, hCh, hBo, hTr, hSh, hMd⟩ := h
  refine ⟨hV.fr rfl rfl rfl rfl rfl rfl rfl rfl rfl rfl rfl rfl, hT.fr rfl rfl rfl rfl, hL.fr rfl rfl rfl rfl rfl rfl rfl rfl, fun i hi => ?_, hIm.fr rfl rfl rfl rfl rfl rfl rfl rfl rfl, hCh.fr rfl rfl rfl rfl rfl rfl rfl rfl, hBo.fr rfl rfl rfl rfl, hTr.fr rfl rfl rfl rfl, hSh.fr (fun k hk => ⟨rfl, rfl⟩) rfl rfl rfl, hMd.fr rfl⟩
  rw [gF_sF, gF_sF]
  by_cases e : i = j
  · rw [if_pos ⟨rfl, e⟩, if_pos ⟨rfl, e⟩]
  · rw [if_neg (fun q => e q.2), if_neg (fun q => e q.2)]
    exact hLd i hi
theorem ltof {n k : Nat} (h : n ≤ k) (hk : k < 2 ^ 31) (hne : ¬ nI n = nI k) : n < k := by
  rcases Nat.lt_or_ge n k with q | q
  · exact q
  · exact absurd (by rw [show n = k by omega]) hne
theorem op_feed {n bs : Nat} {c m : rfS} (h : Rel n bs c m) (x : Int32) : wp_X7_feed c x (fun r1 c2 => wp_X8_feed m x (fun r2 m2 => r1 = r2 ∧ RelE c2 m2)) := by
  obtain ⟨hV, ⟨len, t1, t2, t3, t4⟩, hL, hLd, hIm, hCh, hBo, hTr, hSh, hMd⟩ := id h
  unfold wp_X7_feed wp_X8_feed wp_X3_write
  simp only [w_isWithin, w_within, bI_0, Classical.not_not, t2, t3]
  refine ⟨fun hw => ⟨fun h7 => ?_, fun h7 => ?_⟩, fun hw => ?_⟩
  · have hlt : len < 120 := ltof (k := 120) t1 (by decide) h7
    rw [cl len]
    refine ⟨vin hlt, fun _ => ⟨fun _ => ⟨vin hlt, by simp, n, bs, hV.fr rfl rfl rfl rfl rfl rfl rfl rfl rfl rfl rfl rfl, ⟨len + 1, by omega, ?_, ?_, fun i hi => ?_⟩, hL.fr rfl rfl rfl rfl rfl rfl rfl rfl, hLd.fr rfl rfl, hIm.fr (gI_sI_ne (by decide)) (gI_sI_ne (by decide)) rfl rfl rfl rfl rfl rfl rfl, hCh.fr (gI_sI_ne (by decide)) rfl rfl rfl rfl rfl rfl rfl, hBo.fr rfl rfl rfl rfl, hTr.fr rfl rfl rfl rfl, hSh.fr (fun k hk => ⟨funext fun b => gI_sIk (by omega), rfl⟩) rfl rfl rfl, hMd.fr rfl⟩, fun q => absurd q h7⟩, fun q => absurd hw q⟩
    · rw [gI_sIs, nI_1]
    · rw [gI_sF, gI_sIs, nI_1]
    · rw [gF_sI, gF_sF, gF_sF, gF_sI]
      by_cases e : i = len
      · rw [if_pos ⟨rfl, e⟩, if_pos ⟨rfl, e⟩]
        exact ⟨rfl, hw⟩
      · rw [if_neg (fun q => e q.2), if_neg (fun q => e q.2)]
        exact t4 i (by omega)
  · exact ⟨fun _ => ⟨fun q => absurd h7 q, fun _ => ⟨by simp, n, bs, h⟩⟩, fun q => absurd hw q⟩
  · exact ⟨fun q => absurd q hw, fun _ => ⟨by simp, n, bs, h⟩⟩
theorem i_below {x : Int32} {k : Nat} (hk : k < 2 ^ 30) (h : 0 ≤ x ∧ x ≤ nI k) : ∃ a, a < k + 1 ∧ x = nI a := by
  obtain ⟨a, h1, h2⟩ := rg_n (hi := k) hk h
  exact ⟨a, by omega, h2⟩
theorem op_led {n bs : Nat} {c m : rfS} (h : Rel n bs c m) (x : Int32) : wp_X7_led c x (fun r1 c2 => wp_X8_led m x (fun r2 m2 => r1 = r2 ∧ RelE c2 m2)) := by
  unfold wp_X7_led wp_X8_led
  simp only [w_isWithin, w_within, bI_0, Classical.not_not]
  refine ⟨fun hw => ⟨fun _ => ⟨by simp, n, bs, h⟩, fun q => absurd q hw⟩, fun hw => ?_⟩
  obtain ⟨i, hi, rfl⟩ := i_below (k := 4) (by decide) hw
  rw [cl i]
  exact ⟨vin hi, fun q => absurd hw q, fun _ => ⟨vin hi, h.2.2.2.1 i hi, n, bs, h⟩⟩
theorem op_cobble {n bs : Nat} {c m : rfS} (h : Rel n bs c m) : wp_X7_cobble c (fun r1 c2 => wp_X8_cobble m (fun r2 m2 => r1 = r2 ∧ RelE c2 m2)) := by
  unfold wp_X7_cobble wp_X8_cobble
  refine ⟨(h.1.2.2.2 6 0 (by decide) (by simp [bnd])).1, n, bs, ?_⟩
  have h1 := (h.up (w := 6) (i := 0) (v := 0) (by decide) (by simp [bnd]) ⟨by decide, by decide⟩).led 4 (gF m 14 4 + 1)
  rw [show gF c 15 4 = gF m 14 4 from h.2.2.2.1 4 (by decide)]
  exact h1
theorem op_body {n bs : Nat} {c m : rfS} (h : Rel n bs c m) (x : Int32) : wp_X7_body c x (fun r1 c2 => wp_X8_body m x (fun r2 m2 => r1 = r2 ∧ RelE c2 m2)) := by
  obtain ⟨hV, hT, hL, hLd, hIm, hCh, ⟨t1, t2, t3, t4⟩, hTr, hSh, hMd⟩ := id h
  unfold wp_X7_body wp_X8_body wp_X0_add
  simp only [w_isWithin, w_within, bI_0, Classical.not_not, t2, t3]
  refine ⟨fun hw => ⟨fun h7 => ?_, fun h7 => ?_⟩, fun hw => ?_⟩
  · have hlt : bs < 50 := ltof (k := 50) t1 (by decide) h7
    rw [cl bs, nI_1, nI_pred]
    refine ⟨vin hlt, fun _ => ⟨fun _ => ⟨vin hlt, by simp, n, bs + 1, hV.fr rfl rfl rfl rfl rfl rfl rfl rfl rfl rfl rfl rfl, hT.fr rfl rfl rfl rfl, hL.fr rfl rfl rfl rfl rfl rfl rfl rfl, hLd.fr rfl rfl, hIm.fr (gI_sI_ne (by decide)) (gI_sI_ne (by decide)) rfl rfl rfl rfl rfl rfl rfl, hCh.fr (gI_sI_ne (by decide)) rfl rfl rfl rfl rfl rfl rfl, ⟨by omega, ?_, ?_, fun i hi => ?_⟩, hTr.fr rfl rfl rfl rfl, fun s hs => ?_, hMd.fr rfl⟩, fun q => absurd q h7⟩, fun q => absurd hw q⟩
    · rw [gI_sIs]
    · rw [gI_sIs]
    · rw [gF_sI, gF_sF, gF_sI, gF_sF]
      by_cases e : i = bs
      · rw [if_pos ⟨rfl, e⟩, if_pos ⟨rfl, e⟩]
        obtain ⟨a, h1, h2⟩ := i_below (k := 7) (by decide) hw
        exact ⟨rfl, a, h1, h2⟩
      · rw [if_neg (fun q => e q.2), if_neg (fun q => e q.2)]
        exact t4 i (by omega)
    · have := (hSh s hs).fr (c2 := sI (sF c 50 bs x) 49 1 (nI (bs + 1))) (m2 := sI (sF m 18 bs x) 0 29 (nI (bs + 1))) (funext fun b => gI_sIk (by omega)) rfl rfl rfl (fun _ _ => rfl)
      rcases this with q | ⟨b, q1, q2⟩ | q
      · exact Or.inl q
      · exact Or.inr (Or.inl ⟨b, by omega, q2⟩)
      · exact Or.inr (Or.inr q)
  · exact ⟨fun _ => ⟨fun q => absurd h7 q, fun _ => ⟨by simp, n, bs, h⟩⟩, fun q => absurd hw q⟩
  · exact ⟨fun q => absurd q hw, fun _ => ⟨by simp, n, bs, h⟩⟩
theorem op_trace {n bs : Nat} {c m : rfS} (h : Rel n bs c m) (x : Int32) : wp_X7_trace c x (fun r1 c2 => wp_X8_trace m x (fun r2 m2 => r1 = r2 ∧ RelE c2 m2)) := by
  obtain ⟨k, k1, k2, k3, k4⟩ := h.2.2.2.2.2.2.2.1
  unfold wp_X7_trace wp_X8_trace
  have e1 : (if (24 : Int32) < nI k then (24 : Int32) else nI k) = nI (min k 24) := by
    rw [show (24 : Int32) = nI 24 from rfl]
    by_cases q : 24 < k
    · rw [if_pos ((nI_ltI (a := 24) (by decide) (by omega)).mpr q), Nat.min_eq_right (by omega)]
    · rw [if_neg (fun z => q ((nI_ltI (a := 24) (by decide) (by omega)).mp z)), Nat.min_eq_left (by omega)]
  have e2 : (if nI k < (24 : Int32) then nI k else (24 : Int32)) = nI (min k 24) := by
    rw [show (24 : Int32) = nI 24 from rfl]
    by_cases q : k < 24
    · rw [if_pos ((nI_ltI (b := 24) (by omega) (by decide)).mpr q), Nat.min_eq_left (by omega)]
    · rw [if_neg (fun z => q ((nI_ltI (b := 24) (by omega) (by decide)).mp z)), Nat.min_eq_right (by omega)]
  simp only [w_isWithin, w_within, bI_0, Classical.not_not, k2, k3, e1, e2]
  rw [i_pred (by omega)]
  refine ⟨fun hw => ⟨fun _ => ⟨by simp, n, bs, h⟩, fun q => absurd q hw⟩, fun hw => ?_⟩
  obtain ⟨i, hi, rfl⟩ := i_ix (by omega) hw.1 hw.2
  rw [cl i]
  exact ⟨vin (by omega), fun q => absurd hw q, fun _ => ⟨vin (by omega), k4 i (by omega) (by omega), n, bs, h⟩⟩

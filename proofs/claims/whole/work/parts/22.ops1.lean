/-! the first calls -/
theorem cl (n : Nat) (h : n < 2 ^ 31 := by omega) : (nI n).toNatClampNeg = n := nI_clamp h
theorem vin {a N : Nat} (h : a < N) (hN : N < 2 ^ 31 := by decide) : vp_in (nI a) N := vp_in_nI h hN
theorem vC_s10 (c : rfS) (v : Int32) (w i : Nat) : vC (sI c 1 0 v) w i = vC c w i := by
  unfold vC
  split <;> simp [gF_sI, gI_sI]
theorem vM_s0 (m : rfS) (j : Nat) (v : Int32) (w i : Nat) : vM (sI m 0 j v) w i = vM m w i := by
  unfold vM
  split <;> rfl
def comeC (c : rfS) (n : Nat) (w o k : Int32) : rfS := sI (upC (upC (upC (upC c 0 n w) 3 n 3) 1 n o) 2 n k) 1 0 (nI (n + 1))
def comeM (m : rfS) (n : Nat) (w o k : Int32) : rfS := sI (upM (upM (upM (upM m 0 n w) 1 n o) 2 n k) 3 n 3) 0 0 (nI (n + 1))
theorem bnd_7 {n w i : Nat} (hn : n ≤ 7) (h : i < bnd n w) : i < bnd 7 w := by
  unfold bnd at h ⊢
  split <;> split at h <;> omega
theorem RV.come {n : Nat} {c m : rfS} (h : RV n c m) (hn : n < 7) {w o k : Int32} (hw : rg 0 127 w) (ho : rg 0 99 o) (hk : rg 0 255 k) : RV (n + 1) (comeC c n w o k) (comeM m n w o k) := by
  obtain ⟨h1, h2, h3, h4⟩ := h
  refine ⟨hn, ?_, ?_, fun w2 i2 hw2 hi2 => ?_⟩
  · unfold comeC; rw [gI_sI, if_pos ⟨rfl, rfl⟩]
  · unfold comeM; rw [gI_sI, if_pos ⟨rfl, rfl⟩]
  · unfold comeC comeM
    have b0 : n < bnd 7 0 := by unfold bnd; simp; omega
    have b1 : n < bnd 7 1 := by unfold bnd; simp; omega
    have b2 : n < bnd 7 2 := by unfold bnd; simp; omega
    have b3 : n < bnd 7 3 := by unfold bnd; simp; omega
    have b9 := bnd_7 (by omega) hi2
    rw [vC_s10, vM_s0, vC_up (by decide) hw2, vC_up (by decide) hw2, vC_up (by decide) hw2, vC_up (by decide) hw2, vM_up (Nat.le_refl 7) (by decide) hw2 b3 b9, vM_up (Nat.le_refl 7) (by decide) hw2 b2 b9, vM_up (Nat.le_refl 7) (by decide) hw2 b1 b9, vM_up (Nat.le_refl 7) (by decide) hw2 b0 b9]
    by_cases e : w2 < 4 ∧ i2 = n
    · obtain ⟨e1, rfl⟩ := e
      have : w2 = 0 ∨ w2 = 1 ∨ w2 = 2 ∨ w2 = 3 := by omega
      rcases this with rfl | rfl | rfl | rfl
      · exact ⟨by simp, by simp; exact hw⟩
      · exact ⟨by simp, by simp; exact ho⟩
      · exact ⟨by simp, by simp; exact hk⟩
      · exact ⟨by simp, by simp [rg, wLo, wHi]⟩
    · have hi3 : i2 < bnd n w2 := by
        unfold bnd at hi2 ⊢
        split <;> split at hi2 <;> omega
      have g0 : ¬ (w2 = 0 ∧ (i2 = n ∨ 6 ≤ 0)) := by omega
      have g1 : ¬ (w2 = 1 ∧ (i2 = n ∨ 6 ≤ 1)) := by omega
      have g2 : ¬ (w2 = 2 ∧ (i2 = n ∨ 6 ≤ 2)) := by omega
      have g3 : ¬ (w2 = 3 ∧ (i2 = n ∨ 6 ≤ 3)) := by omega
      simp only [if_neg g0, if_neg g1, if_neg g2, if_neg g3]
      exact h4 w2 i2 hw2 hi3
theorem gF_upC {c : rfS} {w i k : Nat} {v : Int32} (hw : w < 8) (h : k ∉ [2, 3, 4, 5, 13, 14]) : gF (upC c w i v) k = gF c k := by
  simp only [List.mem_cons, List.not_mem_nil, or_false, not_or] at h
  rcases w8 hw with rfl | rfl | rfl | rfl | rfl | rfl | rfl | rfl <;> first | exact gF_sF_ne (by omega) | rfl
theorem gL_upC {c : rfS} {w i k : Nat} {v : Int32} (hw : w < 8) : gL (upC c w i v) k = gL c k := by
  rcases w8 hw with rfl | rfl | rfl | rfl | rfl | rfl | rfl | rfl <;> rfl
theorem gI_upC {c : rfS} {w i k : Nat} {v : Int32} (hw : w < 8) (h : k ≠ 12) : gI (upC c w i v) k = gI c k := by
  rcases w8 hw with rfl | rfl | rfl | rfl | rfl | rfl | rfl | rfl <;> first | rfl | (funext b; exact gI_sIk h)
theorem gF_upM {m : rfS} {w i k : Nat} {v : Int32} (h : k ≠ 1) (h2 : k ≠ 2) : gF (upM m w i v) k = gF m k := by
  unfold upM
  split <;> exact gF_sF_ne (by omega)
theorem gL_upM {m : rfS} {w i k : Nat} {v : Int32} : gL (upM m w i v) k = gL m k := by
  unfold upM
  split <;> rfl
theorem gI_upM {m : rfS} {w i k : Nat} {v : Int32} : gI (upM m w i v) k = gI m k := by
  unfold upM
  split <;> rfl
theorem bnd_mono {n w i : Nat} (h : i < bnd n w) : i < bnd (n + 1) w := by
  unfold bnd at h ⊢
  split <;> split at h <;> omega
theorem RCh.more {n : Nat} {c m : rfS} (h : RCh n c m) : RCh (n + 1) c m := by
  obtain ⟨dn, kp, a1, a2, a3, a4, a5, a6, a7⟩ := h
  refine ⟨dn, kp, a1, a2, a3, a4, a5, a6, fun i hi => ?_⟩
  obtain ⟨j, w, b1, b2, b3⟩ := a7 i hi
  exact ⟨j, w, b1, bnd_mono b2, b3⟩
theorem RIm.more {n : Nat} {c m : rfS} (h : RIm n c m) : RIm (n + 1) c m := by
  rcases h with h | ⟨h1, h2, k, h3, h4⟩
  · exact Or.inl h
  · exact Or.inr ⟨h1, h2, k, by omega, h4⟩
/-- all but the views stays, where only views and the number of brothers change -/
theorem Rel.views {n n2 bs : Nat} {c m c2 m2 : rfS} (h : Rel n bs c m) (hv : RV n2 c2 m2) (hnn : n2 = n ∨ n2 = n + 1) (h1 : ∀ k, k ∉ [2, 3, 4, 5, 13, 14] → gF c2 k = gF c k) (h2 : ∀ k, k ≠ 12 → k ≠ 1 → gI c2 k = gI c k) (h3 : ∀ k, gL c2 k = gL c k) (g1 : ∀ k, k ≠ 1 → k ≠ 2 → gF m2 k = gF m k) (g2 : ∀ j, j ≠ 0 → gI m2 0 j = gI m 0 j) (g3 : ∀ k, gL m2 k = gL m k) : Rel n2 bs c2 m2 := by
  obtain ⟨-, hT, hL, hLd, hIm, hCh, hBo, hTr, hSh, hMd⟩ := h
  have hIm2 : RIm n2 c m := by rcases hnn with rfl | rfl <;> first | exact hIm | exact hIm.more
  have hCh2 : RCh n2 c m := by rcases hnn with rfl | rfl <;> first | exact hCh | exact hCh.more
  refine ⟨hv, hT.fr (by rw [h2 6 (by decide) (by decide)]) (h1 9 (by decide)) (g2 3 (by decide)) (g1 3 (by decide) (by decide)), hL.fr (by rw [h2 6 (by decide) (by decide)]) (h1 7 (by decide)) (g2 5 (by decide)) (g2 6 (by decide)) (g1 4 (by decide) (by decide)) (g1 5 (by decide) (by decide)) (g1 6 (by decide) (by decide)) (g1 7 (by decide) (by decide)), hLd.fr (h1 15 (by decide)) (g1 14 (by decide) (by decide)), ?_, ?_, ?_, ?_, ?_, hMd.fr (h1 24 (by decide))⟩
  · exact hIm2.fr (h2 0 (by decide) (by decide)) (h2 16 (by decide) (by decide)) (h1 17 (by decide)) (h1 18 (by decide)) (h1 19 (by decide)) (g2 22 (by decide)) (g2 23 (by decide)) (g1 15 (by decide) (by decide)) (g1 16 (by decide) (by decide))
  · exact hCh2.fr (h2 44 (by decide) (by decide)) (h1 45 (by decide)) (h1 46 (by decide)) (h1 47 (by decide)) (h1 48 (by decide)) (g2 27 (by decide)) (g2 26 (by decide)) (g1 17 (by decide) (by decide))
  · exact hBo.fr (by rw [h2 49 (by decide) (by decide)]) (h1 50 (by decide)) (g2 29 (by decide)) (g1 18 (by decide) (by decide))
  · exact hTr.fr (by rw [h2 49 (by decide) (by decide)]) (h1 51 (by decide)) (g2 31 (by decide)) (g1 19 (by decide) (by decide))
  · exact hSh.fr (fun k hk => ⟨h2 k (by omega) (by omega), h3 k⟩) (g1 20 (by decide) (by decide)) (g1 21 (by decide) (by decide)) (g3 22)
theorem Rel.up {n bs : Nat} {c m : rfS} (h : Rel n bs c m) {w i : Nat} {v : Int32} (hw : w < 8) (hi : i < bnd n w) (hv : rg (wLo w) (wHi w) v) : Rel n bs (upC c w i v) (upM m w i v) :=
  h.views (h.1.up hw hi hv) (Or.inl rfl) (fun _ hk => gF_upC hw hk) (fun _ hk _ => gI_upC hw hk) (fun _ => gL_upC hw) (fun _ a b => gF_upM a b) (fun _ _ => by rw [gI_upM]) (fun _ => gL_upM)
theorem Rel.come {n bs : Nat} {c m : rfS} (h : Rel n bs c m) (hn : n < 7) {w o k : Int32} (hw : rg 0 127 w) (ho : rg 0 99 o) (hk : rg 0 255 k) : Rel (n + 1) bs (comeC c n w o k) (comeM m n w o k) := by
  refine h.views (h.1.come hn hw ho hk) (Or.inr rfl) (fun k hk => ?_) (fun k h1 h2 => ?_) (fun k => ?_) (fun k h1 h2 => ?_) (fun j hj => ?_) (fun k => ?_)
  · unfold comeC
    rw [gF_sI_f, gF_upC (by decide) hk, gF_upC (by decide) hk, gF_upC (by decide) hk, gF_upC (by decide) hk]
  · unfold comeC
    rw [show gI (sI (upC (upC (upC (upC c 0 n w) 3 n 3) 1 n o) 2 n _) 1 0 _) k = gI (upC (upC (upC (upC c 0 n w) 3 n 3) 1 n o) 2 n _) k from funext fun b => gI_sIk h2, gI_upC (by decide) h1, gI_upC (by decide) h1, gI_upC (by decide) h1, gI_upC (by decide) h1]
  · unfold comeC
    rw [gL_sI_f, gL_upC (by decide), gL_upC (by decide), gL_upC (by decide), gL_upC (by decide)]
  · unfold comeM
    rw [gF_sI_f, gF_upM h1 h2, gF_upM h1 h2, gF_upM h1 h2, gF_upM h1 h2]
  · unfold comeM
    rw [gI_sIj hj, gI_upM, gI_upM, gI_upM, gI_upM]
  · unfold comeM
    rw [gL_sI_f, gL_upM, gL_upM, gL_upM, gL_upM]
theorem welC {c : rfS} {n : Nat} {w o k : Int32} {Q : Int32 → rfS → Prop} (hc : gI c 1 0 = nI n) (hn : n < 7) (hq : Q (nI n) (comeC c n w o k)) : wp_X7_welcome c w o k Q := by
  unfold wp_X7_welcome
  rw [hc, cl n]
  refine ⟨vin hn, vin hn, vin hn, vin hn, ?_⟩
  rw [nI_1]
  exact hq
theorem welM {m : rfS} {n : Nat} {w o k : Int32} {Q : Int32 → rfS → Prop} (hc : gI m 0 0 = nI n) (hn : n < 7) (hq : Q (nI n) (comeM m n w o k)) : wp_X8_newOne m w o k Q := by
  unfold wp_X8_newOne
  rw [hc, show (7 : Int32) = nI 7 from rfl, show (14 : Int32) = nI 14 from rfl, show (21 : Int32) = nI 21 from rfl, nI_add, nI_add, nI_add, cl n, cl (7 + n), cl (14 + n), cl (21 + n)]
  refine ⟨vin (by omega), vin (by omega), vin (by omega), vin (by omega), ?_⟩
  have e : sI (sF (sF (sF (sF m 1 n w) 1 (7 + n) o) 1 (14 + n) k) 1 (21 + n) 3) 0 0 (nI n + 1) = comeM m n w o k := by
    unfold comeM upM
    simp [nI_1]
  rw [e]
  exact hq
def Ok (P : Nat → Nat → Prop) : Prop := ∃ n bs, P n bs
def RelE (c m : rfS) : Prop := ∃ n bs, Rel n bs c m
theorem op_brother {n bs : Nat} {c m : rfS} (h : Rel n bs c m) (x : Int32) : wp_X7_brother c x (fun r1 c2 => wp_X8_brother m x (fun r2 m2 => r1 = r2 ∧ RelE c2 m2)) := by
  obtain ⟨hn7, hnC, hnM, hV⟩ := h.1
  unfold wp_X7_brother wp_X8_brother
  simp only [w_isWithin, w_within, bI_0, Classical.not_not, hnC, hnM]
  refine ⟨fun hw => ⟨fun h7 => ?_, fun h7 => ?_⟩, fun hw => ?_⟩
  · have hlt : n < 7 := by
      rcases Nat.lt_or_ge n 7 with q | q
      · exact q
      · exact absurd (by rw [show n = 7 by omega]; rfl) h7
    refine welC hnC hlt ⟨fun _ => ⟨fun _ => ?_, fun q => absurd q h7⟩, fun q => absurd hw q⟩
    exact welM hnM hlt ⟨rfl, n + 1, bs, h.come hlt hw ⟨by decide, by decide⟩ ⟨by decide, by decide⟩⟩
  · exact ⟨fun _ => ⟨fun q => absurd h7 q, fun _ => ⟨by simp, n, bs, h⟩⟩, fun q => absurd hw q⟩
  · exact ⟨fun q => absurd q hw, fun _ => ⟨by simp, n, bs, h⟩⟩

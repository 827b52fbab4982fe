/-! states kept and laid back; image, back -/
def cpC (c : rfS) (a0 a1 k : Nat) : rfS := sI (sI (cF (cF c (a1 + 1) (a0 + 1) 0 0 k) (a1 + 2) (a0 + 2) 0 0 k) a0 2 (gI c a1 2)) a0 3 (gI c a1 3)
theorem copyC {c : rfS} {a0 a1 k : Nat} {Q : rfS → Prop} (hk : k ≤ 7) (hq : Q (cpC c a0 a1 k)) : wp_X5_copyFrom c a0 a1 (nI k) Q := by
  unfold wp_X5_copyFrom
  rw [cl k]
  have h0 : ¬ nI k < 0 := nI_pos (by omega)
  exact ⟨h0, by omega, by omega, h0, by omega, by omega, hq⟩
theorem cpC_F (c : rfS) {a0 a1 k : Nat} (h : a1 + 2 ≠ a0 + 1) (q i : Nat) : gF (cpC c a0 a1 k) q i = if q = a0 + 1 ∧ i < k then gF c (a1 + 1) i else if q = a0 + 2 ∧ i < k then gF c (a1 + 2) i else gF c q i := by
  unfold cpC
  rw [gF_sI, gF_sI, gF_cF]
  by_cases h1 : q = a0 + 1
  · subst h1
    rw [if_neg (by omega), gF_cF]
    by_cases hi : i < k
    · rw [if_pos ⟨rfl, by omega, by omega⟩, if_pos ⟨rfl, hi⟩]
      simp
    · rw [if_neg (by omega), if_neg (by omega), if_neg (by omega)]
  · by_cases h2 : q = a0 + 2 ∧ i < k
    · rw [if_pos ⟨h2.1, by omega, by omega⟩, if_neg (by omega), if_pos h2, gF_cF, if_neg (by omega)]
      simp
    · rw [if_neg (by omega), if_neg (by omega), if_neg h2, gF_cF, if_neg (by omega)]
theorem cpC_I (c : rfS) {a0 a1 k : Nat} (q j : Nat) : gI (cpC c a0 a1 k) q j = if q = a0 ∧ j = 3 then gI c a1 3 else if q = a0 ∧ j = 2 then gI c a1 2 else gI c q j := by
  unfold cpC
  rw [gI_sI, gI_sI]
  simp only [and_comm]
  rfl
theorem cpC_fr (c : rfS) {a0 a1 k : Nat} (h : a1 + 2 ≠ a0 + 1) : (∀ q, q ≠ a0 + 1 → q ≠ a0 + 2 → gF (cpC c a0 a1 k) q = gF c q) ∧ (∀ q, q ≠ a0 → gI (cpC c a0 a1 k) q = gI c q) ∧ ∀ q, gL (cpC c a0 a1 k) q = gL c q := by
  refine ⟨fun q h1 h2 => funext fun i => ?_, fun q h1 => funext fun i => ?_, fun q => rfl⟩
  · rw [cpC_F c h, if_neg (fun z => h1 z.1), if_neg (fun z => h2 z.1)]
  · rw [cpC_I, if_neg (fun z => h1 z.1), if_neg (fun z => h1 z.1)]
theorem keepL {Q : rfS → Prop} {kx : Nat → rfS → Prop} {a : Nat} (ha : a ≠ 1) : ∀ (f i : Nat) (m : rfS), i ≤ 7 → 7 - i < f → (∀ m2 : rfS, (∀ j, i ≤ j → j < 7 → gF m2 a j = gF m 1 (7 + j) ∧ gF m2 a (7 + j) = gF m 1 (14 + j)) → (∀ j, j < i → gF m2 a j = gF m a j ∧ gF m2 a (7 + j) = gF m a (7 + j)) → (∀ k, k ≠ a → gF m2 k = gF m k) → (∀ k, gI m2 k = gI m k) → (∀ k, gL m2 k = gL m k) → kx a m2) → wl_X8_keeps_2 Q kx f a (nI i) m := by
  intro f
  induction f with
  | zero => intro i m _ h; omega
  | succ f ih =>
    intro i m hi hf hk
    unfold wl_X8_keeps_2
    refine ⟨fun h => ?_, fun h => ?_⟩
    · have e : 7 ≤ i := (nI_leI (a := 7) (by decide) (by omega)).mp h
      exact hk m (fun j h1 h2 => by omega) (fun _ _ => ⟨rfl, rfl⟩) (fun _ _ => rfl) (fun _ => rfl) (fun _ => rfl)
    · have e : i < 7 := by
        rcases Nat.lt_or_ge i 7 with q | q
        · exact q
        · exact absurd ((nI_leI (a := 7) (by decide) (by omega)).mpr q) h
      rw [show (7 : Int32) = nI 7 from rfl, show (14 : Int32) = nI 14 from rfl, nI_add, nI_add, cl i, cl (7 + i), cl (14 + i), nI_1, gF_sFn (Ne.symm ha)]
      refine ⟨vin (by omega), vin (by omega), vin (by omega), vin (by omega), ih (i + 1) _ (by omega) (by omega) (fun m2 a1 a2 a3 a4 a5 => hk m2 (fun j h1 h2 => ?_) (fun j hj => ?_) (fun k hk => ?_) (fun k => ?_) (fun k => ?_))⟩
      · by_cases hj : j = i
        · subst hj
          obtain ⟨b1, b2⟩ := a2 j (by omega)
          rw [b1, b2, gF_sFi (by omega), gF_sFs, gF_sFs]
          exact ⟨rfl, rfl⟩
        · obtain ⟨b1, b2⟩ := a1 j (by omega) h2
          rw [b1, b2, gF_sFn (Ne.symm ha), gF_sFn (Ne.symm ha), gF_sFn (Ne.symm ha), gF_sFn (Ne.symm ha)]
          exact ⟨rfl, rfl⟩
      · obtain ⟨b1, b2⟩ := a2 j (by omega)
        rw [b1, b2, gF_sFi (by omega), gF_sFi (by omega), gF_sFi (by omega), gF_sFi (by omega)]
        exact ⟨rfl, rfl⟩
      · rw [a3 k hk, gF_sF_ne hk, gF_sF_ne hk]
      · rw [a4 k]; rfl
      · rw [a5 k]; rfl
/-- what keeps() lays into row a -/
def keptM (m m2 : rfS) (a : Nat) : Prop := (∀ j, j < 7 → gF m2 a j = gF m 1 (7 + j) ∧ gF m2 a (7 + j) = gF m 1 (14 + j)) ∧ gF m2 a 14 = gF m 2 0 ∧ gF m2 a 15 = gF m 2 1 ∧ (∀ k, k ≠ a → gF m2 k = gF m k) ∧ (∀ k, gI m2 k = gI m k) ∧ ∀ k, gL m2 k = gL m k
theorem keepM {m : rfS} {a : Nat} (h1 : a ≠ 1) (h2 : a ≠ 2) {Q : rfS → Prop} (hq : ∀ m2, keptM m m2 a → Q m2) : wp_X8_keeps m a Q := by
  unfold wp_X8_keeps
  refine ⟨8, keepL h1 8 0 m (by decide) (by decide) (fun m2 b1 b2 b3 b4 b5 => hq _ ⟨fun j hj => ?_, ?_, ?_, fun k hk => ?_, fun k => ?_, fun k => ?_⟩)⟩
  · rw [gF_sFi (by omega), gF_sFi (by omega), gF_sFi (by omega), gF_sFi (by omega)]
    exact b1 j (by omega) hj
  · rw [gF_sFi (by decide), gF_sFs, b3 2 (Ne.symm h2)]
  · rw [gF_sFs, gF_sFn (Ne.symm h2), b3 2 (Ne.symm h2)]
  · rw [gF_sF_ne hk, gF_sF_ne hk, b3 k hk]
  · rw [← b4 k]; rfl
  · rw [← b5 k]; rfl
theorem op_image {n bs : Nat} {c m : rfS} (h : Rel n bs c m) : wp_X7_image c (fun r1 c2 => wp_X8_image m (fun r2 m2 => r1 = r2 ∧ RelE c2 m2)) := by
  obtain ⟨⟨hn7, hnC, hnM, hV⟩, hT, hL, hLd, hIm, hCh, hBo, hTr, hSh, hMd⟩ := id h
  unfold wp_X7_image wp_X8_image
  rw [hnC]
  refine copyC hn7 (keepM (by decide) (by decide) (fun m2 km => ?_))
  have lp : ∀ (f i : Nat) (m3 : rfS), i ≤ 5 → 5 - i < f → (∀ j, j < i → gF m3 16 j = gF m2 14 j) → (∀ k, k ≠ 16 → gF m3 k = gF m2 k) → (∀ k, gI m3 k = gI m2 k) → (∀ k, gL m3 k = gL m2 k) → ∀ (Q : Int32 → rfS → Prop), (∀ m4 : rfS, (∀ j, j < 5 → gF m4 16 j = gF m2 14 j) → (∀ k, k ≠ 16 → gF m4 k = gF m2 k) → (∀ k, gI m4 k = gI m2 k) → (∀ k, gL m4 k = gL m2 k) → Q (gF m2 14 0) m4) → wl_X8_image_23 Q f (nI i) m3 := by
    intro f
    induction f with
    | zero => intro i m3 _ h; omega
    | succ f ih =>
      intro i m3 hi hf b1 b2 b3 b4 Q hq
      unfold wl_X8_image_23
      refine ⟨fun h => ?_, fun h => ?_⟩
      · have e : 5 ≤ i := (nI_leI (a := 5) (by decide) (by omega)).mp h
        rw [b2 14 (by decide)]
        exact hq m3 (fun j hj => b1 j (by omega)) b2 b3 b4
      · have e : i < 5 := by
          rcases Nat.lt_or_ge i 5 with q | q
          · exact q
          · exact absurd ((nI_leI (a := 5) (by decide) (by omega)).mpr q) h
        rw [cl i, nI_1]
        refine ⟨vin e, vin e, ih (i + 1) _ (by omega) (by omega) (fun j hj => ?_) (fun k hk => ?_) (fun k => ?_) (fun k => ?_) Q hq⟩
        · by_cases hj2 : j = i
          · subst hj2
            rw [gF_sFs, b2 14 (by decide)]
          · rw [gF_sFi (by omega)]
            exact b1 j (by omega)
        · rw [gF_sF_ne hk, b2 k hk]
        · rw [← b3 k]; rfl
        · rw [← b4 k]; rfl
  obtain ⟨g1, g2, g3, g4, g5, g6⟩ := km
  have e1 := cpC_fr (sI c 0 5 (nI n)) (a0 := 16) (a1 := 12) (k := n) (by decide)
  -- the state of the class, and what it reads
  generalize hcc : cpC (sI c 0 5 (nI n)) 16 12 n = cc at e1 ⊢
  obtain ⟨e2, e3, e4⟩ := e1
  refine ⟨6, lp 6 0 m2 (by decide) (by decide) (fun j hj => by omega) (fun _ _ => rfl) (fun _ => rfl) (fun _ => rfl) _ (fun m4 k1 k2 k3 k4 => ⟨?_, n, bs, ?_⟩)⟩
  · rw [e2 15 (by decide) (by decide), gF_sI_f, hLd 0 (by decide), g4 14 (by decide)]
    rfl
  · have fF : ∀ q, q ≠ 17 → q ≠ 18 → q ≠ 19 → gF (sI (cF cc 15 19 0 0 5) 0 6 1) q = gF c q := fun q q1 q2 q3 => by rw [gF_sI_f, gF_cF_ne q3, e2 q q1 q2, gF_sI_f]
    have fI : ∀ q, q ≠ 16 → q ≠ 0 → gI (sI (cF cc 15 19 0 0 5) 0 6 1) q = gI c q := fun q q1 q2 => by rw [gI_sI_ne q2, gI_cF_f, e3 q q1, gI_sI_ne q2]
    have fL : ∀ q, gL (sI (cF cc 15 19 0 0 5) 0 6 1) q = gL c q := fun q => by rw [gL_sI_f, gL_cF_f, e4 q, gL_sI_f]
    have mF : ∀ q, q ≠ 15 → q ≠ 16 → gF m4 q = gF m q := fun q q1 q2 => by rw [k2 q q2, g4 q q1, gF_sI_f, gF_sI_f]
    have mI : ∀ j, j ≠ 22 → j ≠ 23 → gI m4 0 j = gI m 0 j := fun j j1 j2 => by rw [k3, g5, gI_sIj j2, gI_sIj j1]
    have mL : ∀ q, gL m4 q = gL m q := fun q => by rw [k4, g6, gL_sI_f, gL_sI_f]
    refine ⟨RV.fr ⟨hn7, hnC, hnM, hV⟩ (by rw [fI 1 (by decide) (by decide)]) (fF 2 (by decide) (by decide) (by decide)) (fF 3 (by decide) (by decide) (by decide)) (fF 4 (by decide) (by decide) (by decide)) (fF 5 (by decide) (by decide) (by decide)) (fF 13 (by decide) (by decide) (by decide)) (fF 14 (by decide) (by decide) (by decide)) (by rw [fI 12 (by decide) (by decide)]) (by rw [fI 12 (by decide) (by decide)]) (mI 0 (by decide) (by decide)) (mF 1 (by decide) (by decide)) (mF 2 (by decide) (by decide)), hT.fr (by rw [fI 6 (by decide) (by decide)]) (fF 9 (by decide) (by decide) (by decide)) (mI 3 (by decide) (by decide)) (mF 3 (by decide) (by decide)), hL.fr (by rw [fI 6 (by decide) (by decide)]) (fF 7 (by decide) (by decide) (by decide)) (mI 5 (by decide) (by decide)) (mI 6 (by decide) (by decide)) (mF 4 (by decide) (by decide)) (mF 5 (by decide) (by decide)) (mF 6 (by decide) (by decide)) (mF 7 (by decide) (by decide)), hLd.fr (fF 15 (by decide) (by decide) (by decide)) (mF 14 (by decide) (by decide)), Or.inr ⟨?_, ?_, n, Nat.le_refl n, ?_, ?_, fun i hi => ?_, ?_, ?_, ?_, ?_, fun i hi => ?_⟩, hCh.fr (fI 44 (by decide) (by decide)) (fF 45 (by decide) (by decide) (by decide)) (fF 46 (by decide) (by decide) (by decide)) (fF 47 (by decide) (by decide) (by decide)) (fF 48 (by decide) (by decide) (by decide)) (mI 27 (by decide) (by decide)) (mI 26 (by decide) (by decide)) (mF 17 (by decide) (by decide)), hBo.fr (by rw [fI 49 (by decide) (by decide)]) (fF 50 (by decide) (by decide) (by decide)) (mI 29 (by decide) (by decide)) (mF 18 (by decide) (by decide)), hTr.fr (by rw [fI 49 (by decide) (by decide)]) (fF 51 (by decide) (by decide) (by decide)) (mI 31 (by decide) (by decide)) (mF 19 (by decide) (by decide)), hSh.fr (fun k hk => ⟨fI k (by omega) (by omega), fL k⟩) (mF 20 (by decide) (by decide)) (mF 21 (by decide) (by decide)) (mL 22), hMd.fr (fF 24 (by decide) (by decide) (by decide))⟩
    · rw [gI_sIs]
    · rw [k3, g5, gI_sIj (by decide), gI_sIs]
    · rw [gI_sIj (by decide), gI_cF, ← hcc, cpC_I, if_neg (by decide), if_neg (by decide), gI_sIs]
    · rw [k3, g5, gI_sIs, hnM]
    · have a1 : gF (sI (cF cc 15 19 0 0 5) 0 6 1) 17 i = gF c 13 i := by rw [gF_sI, gF_cFn (by decide), ← hcc, cpC_F _ (by decide), if_pos ⟨rfl, hi⟩]; rfl
      have a2 : gF (sI (cF cc 15 19 0 0 5) 0 6 1) 18 i = gF c 14 i := by rw [gF_sI, gF_cFn (by decide), ← hcc, cpC_F _ (by decide), if_neg (by omega), if_pos ⟨rfl, hi⟩]; rfl
      obtain ⟨v1, v2⟩ := hV 1 i (by decide) (by simpa [bnd] using hi)
      obtain ⟨v3, v4⟩ := hV 2 i (by decide) (by simpa [bnd] using hi)
      rw [a1, a2, k2 15 (by decide), (g1 i (by omega)).1, (g1 i (by omega)).2]
      exact ⟨v1, v2, v3, v4⟩
    · rw [gI_sIj (by decide), gI_cF, ← hcc, cpC_I, if_neg (by decide), if_pos ⟨rfl, rfl⟩, k2 15 (by decide), g2]
      exact (hV 6 0 (by decide) (by simp [bnd])).1
    · rw [gI_sIj (by decide), gI_cF, ← hcc, cpC_I, if_neg (by decide), if_pos ⟨rfl, rfl⟩]
      exact (hV 6 0 (by decide) (by simp [bnd])).2
    · rw [gI_sIj (by decide), gI_cF, ← hcc, cpC_I, if_pos ⟨rfl, rfl⟩, k2 15 (by decide), g3]
      exact (hV 7 0 (by decide) (by simp [bnd])).1
    · rw [gI_sIj (by decide), gI_cF, ← hcc, cpC_I, if_pos ⟨rfl, rfl⟩]
      exact (hV 7 0 (by decide) (by simp [bnd])).2
    · rw [gF_sI, gF_cF, if_pos ⟨rfl, by omega, by omega⟩, e2 15 (by decide) (by decide), gF_sI_f, k1 i hi, g4 14 (by decide), gF_sI_f, gF_sI_f]
      simpa using hLd i hi

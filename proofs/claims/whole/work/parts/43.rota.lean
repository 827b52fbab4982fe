/-! rotas: what both sides have in common -/
theorem layL {Q : rfS → Prop} {kx : Nat → rfS → Prop} {a : Nat} (ha : a ≠ 1) : ∀ (f i : Nat) (m : rfS), i ≤ 7 → 7 - i < f → (∀ m2 : rfS, (∀ j, i ≤ j → j < 7 → gF m2 1 (7 + j) = gF m a j ∧ gF m2 1 (14 + j) = gF m a (7 + j)) → (∀ j, (∀ q, i ≤ q → q < 7 → j ≠ 7 + q ∧ j ≠ 14 + q) → gF m2 1 j = gF m 1 j) → (∀ k, k ≠ 1 → gF m2 k = gF m k) → (∀ k, gI m2 k = gI m k) → (∀ k, gL m2 k = gL m k) → kx a m2) → wl_X8_laysBack_2 Q kx f a (nI i) m := by
  intro f
  induction f with
  | zero => intro i m _ h; omega
  | succ f ih =>
    intro i m hi hf hk
    unfold wl_X8_laysBack_2
    refine ⟨fun h => ?_, fun h => ?_⟩
    · have e : 7 ≤ i := (nI_leI (a := 7) (by decide) (by omega)).mp h
      exact hk m (fun j h1 h2 => by omega) (fun _ _ => rfl) (fun _ _ => rfl) (fun _ => rfl) (fun _ => rfl)
    · have e : i < 7 := by
        rcases Nat.lt_or_ge i 7 with q | q
        · exact q
        · exact absurd ((nI_leI (a := 7) (by decide) (by omega)).mpr q) h
      rw [show (7 : Int32) = nI 7 from rfl, show (14 : Int32) = nI 14 from rfl, nI_add, nI_add, cl i, cl (7 + i), cl (14 + i), nI_1, gF_sFn ha]
      refine ⟨vin (by omega), vin (by omega), vin (by omega), vin (by omega), ih (i + 1) _ (by omega) (by omega) (fun m2 a1 a2 a3 a4 a5 => hk m2 (fun j h1 h2 => ?_) (fun j hj => ?_) (fun k hk => ?_) (fun k => ?_) (fun k => ?_))⟩
      · by_cases hj : j = i
        · subst hj
          rw [a2 (7 + j) (fun q q1 q2 => by omega), a2 (14 + j) (fun q q1 q2 => by omega), gF_sFi (by omega), gF_sFs, gF_sFs]
          exact ⟨rfl, rfl⟩
        · obtain ⟨b1, b2⟩ := a1 j (by omega) h2
          rw [b1, b2, gF_sFn ha, gF_sFn ha, gF_sFn ha, gF_sFn ha]
          exact ⟨rfl, rfl⟩
      · have := hj i (by omega) e
        rw [a2 j (fun q q1 q2 => hj q (by omega) q2), gF_sFi this.2, gF_sFi this.1]
      · rw [a3 k hk, gF_sF_ne hk, gF_sF_ne hk]
      · rw [a4 k]; rfl
      · rw [a5 k]; rfl
def laidM (m m2 : rfS) (a : Nat) : Prop := (∀ j, j < 7 → gF m2 1 (7 + j) = gF m a j ∧ gF m2 1 (14 + j) = gF m a (7 + j)) ∧ gF m2 2 0 = gF m a 14 ∧ gF m2 2 1 = gF m a 15 ∧ (∀ j, (∀ q, q < 7 → j ≠ 7 + q ∧ j ≠ 14 + q) → gF m2 1 j = gF m 1 j) ∧ (∀ k, k ≠ 1 → k ≠ 2 → gF m2 k = gF m k) ∧ (∀ k, gI m2 k = gI m k) ∧ ∀ k, gL m2 k = gL m k
theorem layM {m : rfS} {a : Nat} (h1 : a ≠ 1) (h2 : a ≠ 2) {Q : rfS → Prop} (hq : ∀ m2, laidM m m2 a → Q m2) : wp_X8_laysBack m a Q := by
  unfold wp_X8_laysBack
  refine ⟨8, layL h1 8 0 m (by decide) (by decide) (fun m2 b1 b2 b3 b4 b5 => hq _ ⟨fun j hj => ?_, ?_, ?_, fun j hj => ?_, fun k k1 k2 => ?_, fun k => ?_, fun k => ?_⟩)⟩
  · rw [gF_sFn (by decide), gF_sFn (by decide), gF_sFn (by decide), gF_sFn (by decide)]
    exact b1 j (by omega) hj
  · rw [gF_sFi (by decide), gF_sFs, b3 a h1]
  · rw [gF_sFs, gF_sFn h2, b3 a h1]
  · rw [gF_sFn (by decide), gF_sFn (by decide)]
    exact b2 j (fun q _ q2 => hj q q2)
  · rw [gF_sF_ne k2, gF_sF_ne k2, b3 k k1]
  · rw [← b4 k]; rfl
  · rw [← b5 k]; rfl
/-- the model behind a thought: as before but for scratch -/
def ScN (m m2 : rfS) : Prop := (∀ q, q ≠ 1 → q ≠ 2 → q ≠ 12 → q ≠ 13 → (q < 23 ∨ 27 < q) → gF m2 q = gF m q) ∧ (∀ j, gF m2 1 j = gF m 1 j) ∧ gF m2 2 0 = gF m 2 0 ∧ gF m2 2 1 = gF m 2 1 ∧ (∀ j, j ≠ 40 → j ≠ 41 → gI m2 0 j = gI m 0 j) ∧ ∀ q, gL m2 q = gL m q
theorem ScN.rf (m : rfS) : ScN m m := ⟨fun _ _ _ _ _ _ => rfl, fun _ => rfl, rfl, rfl, fun _ _ _ => rfl, fun _ => rfl⟩
theorem ScN.tr {m m2 m3 : rfS} (h1 : ScN m m2) (h2 : ScN m2 m3) : ScN m m3 := ⟨fun q a b c d e => (h2.1 q a b c d e).trans (h1.1 q a b c d e), fun j => (h2.2.1 j).trans (h1.2.1 j), h2.2.2.1.trans h1.2.2.1, h2.2.2.2.1.trans h1.2.2.2.1, fun j a b => (h2.2.2.2.2.1 j a b).trans (h1.2.2.2.2.1 j a b), fun q => (h2.2.2.2.2.2 q).trans (h1.2.2.2.2.2 q)⟩
theorem ScN.think {m m2 m3 m4 : rfS} {a n : Nat} (hn : n ≤ 7) (ha : 23 ≤ a ∧ a ≤ 24) (h1 : keptM m m2 a) (h2 : FrQ n m2 m3) (h3 : laidM m3 m4 a) : ScN m m4 := by
  obtain ⟨k1, k2, k3, k4, k5, k6⟩ := h1
  obtain ⟨f1, f2, f3, f4⟩ := h2
  obtain ⟨l1, l2, l3, l4, l5, l6, l7⟩ := h3
  have ea : gF m3 a = gF m2 a := f1 a (by omega) (by omega) (by omega) (by omega)
  refine ⟨fun q q1 q2 q3 q4 q5 => ?_, fun j => ?_, ?_, ?_, fun j _ _ => ?_, fun q => ?_⟩
  · rw [l5 q q1 q2, f1 q q1 q2 q3 q4, k4 q (by omega)]
  · by_cases hj : ∀ q, q < 7 → j ≠ 7 + q ∧ j ≠ 14 + q
    · rw [l4 j hj, f2 j (fun i hi => hj i (by omega)), k4 1 (by omega)]
    · by_cases e : 7 ≤ j ∧ j < 14
      · have := l1 (j - 7) (by omega)
        have k := k1 (j - 7) (by omega)
        rw [show 7 + (j - 7) = j by omega] at this k
        rw [this.1, ea, k.1]
      · by_cases e2 : 14 ≤ j ∧ j < 21
        · have := l1 (j - 14) (by omega)
          have k := k1 (j - 14) (by omega)
          rw [show 14 + (j - 14) = j by omega] at this k
          rw [this.2, ea, k.2]
        · exact absurd (fun q hq => by omega) hj
  · rw [l2, ea, k2]
  · rw [l3, ea, k3]
  · rw [l6, f3, k5]
  · rw [l7, f4, k6]
theorem Rel.scn {n bs : Nat} {c m c2 m2 : rfS} (h : Rel n bs c m) (f1 : ScC c c2) (f2 : ScN m m2) : Rel n bs c2 m2 := by
  obtain ⟨g1, g2, g3, g4, g5, g6⟩ := f2
  have hv : RV n c m2 := by
    obtain ⟨hn7, hnC, hnM, hV⟩ := h.1
    refine ⟨hn7, hnC, by rw [g5 0 (by decide) (by decide)]; exact hnM, fun w i hw hi => ?_⟩
    have e : vM m2 w i = vM m w i := by
      unfold vM
      split
      · exact g2 _
      · have : w = 6 ∨ w = 7 := by omega
        rcases this with rfl | rfl
        · exact g3
        · exact g4
    rw [e]; exact hV w i hw hi
  have h2 : Rel n bs c (sF (sF (sI (sI m 0 40 (gI m2 0 40)) 0 41 (gI m2 0 41)) 2 0 (gF m 2 0)) 2 1 (gF m 2 1)) := by
    refine h.scr ⟨fun _ _ _ _ _ => rfl, fun _ _ => rfl, fun _ => rfl⟩ ⟨fun q _ _ _ => ?_, fun j j1 j2 => ?_, fun _ => rfl⟩
    · by_cases e : q = 2
      · subst e
        funext b
        by_cases b1 : b = 1
        · subst b1; rw [gF_sFs]
        · rw [gF_sFi b1]
          by_cases b0 : b = 0
          · subst b0; rw [gF_sFs]
          · rw [gF_sFi b0]; rfl
      · rw [gF_sF_ne e, gF_sF_ne e]; rfl
    · show gI (sI (sI m 0 40 (gI m2 0 40)) 0 41 (gI m2 0 41)) 0 j = gI m 0 j
      rw [gI_sIj j2, gI_sIj j1]
  have h3 : Rel n bs c m2 := by
    obtain ⟨-, hT, hL, hLd, hIm, hCh, hBo, hTr, hSh, hMd⟩ := h
    have mF := g1
    refine ⟨hv, hT.fr rfl rfl (g5 3 (by decide) (by decide)) (mF 3 (by decide) (by decide) (by decide) (by decide) (by decide)), hL.fr rfl rfl (g5 5 (by decide) (by decide)) (g5 6 (by decide) (by decide)) (mF 4 (by decide) (by decide) (by decide) (by decide) (by decide)) (mF 5 (by decide) (by decide) (by decide) (by decide) (by decide)) (mF 6 (by decide) (by decide) (by decide) (by decide) (by decide)) (mF 7 (by decide) (by decide) (by decide) (by decide) (by decide)), hLd.fr rfl (mF 14 (by decide) (by decide) (by decide) (by decide) (by decide)), hIm.fr rfl rfl rfl rfl rfl (g5 22 (by decide) (by decide)) (g5 23 (by decide) (by decide)) (mF 15 (by decide) (by decide) (by decide) (by decide) (by decide)) (mF 16 (by decide) (by decide) (by decide) (by decide) (by decide)), hCh.fr rfl rfl rfl rfl rfl (g5 27 (by decide) (by decide)) (g5 26 (by decide) (by decide)) (mF 17 (by decide) (by decide) (by decide) (by decide) (by decide)), hBo.fr rfl rfl (g5 29 (by decide) (by decide)) (mF 18 (by decide) (by decide) (by decide) (by decide) (by decide)), hTr.fr rfl rfl (g5 31 (by decide) (by decide)) (mF 19 (by decide) (by decide) (by decide) (by decide) (by decide)), hSh.fr (fun k hk => ⟨rfl, rfl⟩) (mF 20 (by decide) (by decide) (by decide) (by decide) (by decide)) (mF 21 (by decide) (by decide) (by decide) (by decide) (by decide)) (g6 22), hMd⟩
  exact h3.scr f1 ⟨fun _ _ _ _ => rfl, fun _ _ _ => rfl, fun _ => rfl⟩
theorem stM.fr {n : Nat} {m m2 : rfS} {s : sdT} (h : stM m n s) (h1 : ∀ j, gF m2 1 j = gF m 1 j) (h2 : gF m2 2 0 = gF m 2 0) (h3 : gF m2 2 1 = gF m 2 1) : stM m2 n s := by
  obtain ⟨a1, a2, a3, a4, a5⟩ := h
  exact ⟨fun i hi => by rw [h1]; exact a1 i hi, fun i hi => by rw [h1]; exact a2 i hi, by rw [h2]; exact a3, by rw [h3]; exact a4, a5⟩
theorem heM.fr {E : heT} {m m2 : rfS} (h : heM m E) (h0 : gI m2 0 0 = gI m 0 0) (h1 : ∀ j, gF m2 1 j = gF m 1 j) (h5 : gI m2 0 5 = gI m 0 5) (h6 : gI m2 0 6 = gI m 0 6) (g4 : gF m2 4 = gF m 4) (g5 : gF m2 5 = gF m 5) (g6 : gF m2 6 = gF m 6) (g7 : gF m2 7 = gF m 7) : heM m2 E := by
  obtain ⟨a1, a2, a3, a4, a5⟩ := h
  exact ⟨a1, by rw [h0]; exact a2, fun i hi => by rw [h1]; exact a3 i hi, fun d hd => by rw [h1, h1]; exact a4 d hd, a5.fr h5 h6 g4 g5 g6 g7⟩
theorem heM.scn {E : heT} {m m2 : rfS} (h : heM m E) (f : ScN m m2) : heM m2 E := by
  obtain ⟨g1, g2, g3, g4, g5, g6⟩ := f
  exact h.fr (g5 0 (by decide) (by decide)) g2 (g5 5 (by decide) (by decide)) (g5 6 (by decide) (by decide)) (g1 4 (by decide) (by decide) (by decide) (by decide) (by decide)) (g1 5 (by decide) (by decide) (by decide) (by decide) (by decide)) (g1 6 (by decide) (by decide) (by decide) (by decide) (by decide)) (g1 7 (by decide) (by decide) (by decide) (by decide) (by decide))
theorem heM.kept {E : heT} {m m2 : rfS} {a : Nat} (ha : 23 ≤ a) (h : heM m E) (f : keptM m m2 a) : heM m2 E := by
  obtain ⟨k1, k2, k3, k4, k5, k6⟩ := f
  exact h.fr (by rw [k5]) (fun j => by rw [k4 1 (by omega)]) (by rw [k5]) (by rw [k5]) (k4 4 (by omega)) (k4 5 (by omega)) (k4 6 (by omega)) (k4 7 (by omega))
theorem stM.kept {n : Nat} {m m2 : rfS} {s : sdT} {a : Nat} (ha : 23 ≤ a) (h : stM m n s) (f : keptM m m2 a) : stM m2 n s := by
  obtain ⟨k1, k2, k3, k4, k5, k6⟩ := f
  exact h.fr (fun j => by rw [k4 1 (by omega)]) (by rw [k4 2 (by omega)]) (by rw [k4 2 (by omega)])
theorem stC.cp {n : Nat} {c : rfS} {s : sdT} {a0 a1 : Nat} (hd : a1 + 2 ≠ a0 + 1) (h : stC c a1 n s) : stC (cpC c a0 a1 n) a0 n s := by
  obtain ⟨b1, b2, b3, b4, b5⟩ := h
  refine ⟨fun i hi => ?_, fun i hi => ?_, ?_, ?_, b5⟩
  · rw [cpC_F c hd, if_pos ⟨rfl, hi⟩]; exact b1 i hi
  · rw [cpC_F c hd, if_neg (by omega), if_pos ⟨rfl, hi⟩]; exact b2 i hi
  · rw [cpC_I, if_neg (by omega), if_pos ⟨rfl, rfl⟩]; exact b3
  · rw [cpC_I, if_pos ⟨rfl, rfl⟩]; exact b4
theorem heC.cp {E : heT} {c : rfS} {a0 a1 k : Nat} (ha : isSt a0) (hd : a1 + 2 ≠ a0 + 1) (h : heC c E) : heC (cpC c a0 a1 k) E := by
  obtain ⟨e1, e2, e3⟩ := cpC_fr c (a0 := a0) (a1 := a1) (k := k) hd
  obtain ⟨u1, u2, u3, u4, u5, u6, u7, u8, u9, u10⟩ := st_n2 ha
  exact h.fr (by rw [e2 1 (Ne.symm u9)]) (e1 2 (Ne.symm u1) (Ne.symm u2)) (e1 4 (Ne.symm u3) (Ne.symm u4)) (e1 5 (Ne.symm u5) (Ne.symm u6)) (by rw [e2 6 (Ne.symm u10)]) (e1 7 (Ne.symm u7) (Ne.symm u8))
theorem isSt26 : isSt 26 := by unfold isSt; decide
/-- scratch frames of the class -/
theorem ScC.rf (c : rfS) : ScC c c := ⟨fun _ _ _ _ _ => rfl, fun _ _ => rfl, fun _ => rfl⟩
theorem ScC.tr {c c2 c3 : rfS} (h1 : ScC c c2) (h2 : ScC c2 c3) : ScC c c3 := ⟨fun q a b d e => (h2.1 q a b d e).trans (h1.1 q a b d e), fun q a => (h2.2.1 q a).trans (h1.2.1 q a), fun q => (h2.2.2 q).trans (h1.2.2 q)⟩
theorem ScC.cp (c : rfS) {a0 a1 k : Nat} (hd : a1 + 2 ≠ a0 + 1) (h : 26 ≤ a0 ∧ a0 ≤ 41) : ScC c (cpC c a0 a1 k) := by
  obtain ⟨e1, e2, e3⟩ := cpC_fr c (a0 := a0) (a1 := a1) (k := k) hd
  exact ⟨fun q _ _ _ q4 => e1 q (by omega) (by omega), fun q h => e2 q (by omega), e3⟩
theorem ScC.P {c c2 : rfS} {a : Nat} (h : 26 ≤ a ∧ a ≤ 41) (f : FrP a c c2) : ScC c c2 := ⟨fun q q1 _ q3 q4 => f.1 q (by omega) (by omega) q1 q3, fun q q1 => f.2.1 q (by omega), f.2.2⟩
/-! rows of bytes as rotas -/
def rotC (c : rfS) (s n K : Nat) (g : Nat → Int32) : Prop := gI c (53 + 2 * s) 2 = nI K ∧ K ≤ 60 ∧ gI c 1 0 = nI n ∧ n ≤ 7 ∧ ∀ i, i < K → gL c (53 + 2 * s + 1) i = (g i).toInt64
def rotM (m : rfS) (s n K : Nat) (g : Nat → Int32) : Prop := gF m 21 s = nI K ∧ K ≤ 60 ∧ gI m 0 0 = nI n ∧ n ≤ 7 ∧ ∀ i, i < K → (gL m 22 (60 * s + i)).toInt32 = g i
abbrev mayR (n : Nat) (x : Int32) : Prop := (0 ≤ x ∧ x < nI n) ∨ x = 7
def dyN (g : Nat → Int32) (n K : Nat) : Nat → Nat → Nat
  | 0, i => i
  | f + 1, i => if i < K ∧ i < 28 ∧ mayR n (g i) then dyN g n K f (i + 1) else i
theorem dyN_le {g : Nat → Int32} {n K : Nat} : ∀ f i, (i ≤ K → dyN g n K f i ≤ K) ∧ (i ≤ 28 → dyN g n K f i ≤ 28) ∧ i ≤ dyN g n K f i ∧ ∀ j, i ≤ j → j < dyN g n K f i → mayR n (g j)
  | 0, i => ⟨id, id, Nat.le_refl _, fun j h1 h2 => by unfold dyN at h2; omega⟩
  | f + 1, i => by
    unfold dyN
    by_cases e : i < K ∧ i < 28 ∧ mayR n (g i)
    · rw [if_pos e]
      obtain ⟨a, b, c, d⟩ := dyN_le (g := g) (n := n) (K := K) f (i + 1)
      refine ⟨fun _ => a (by omega), fun _ => b (by omega), by omega, fun j h1 h2 => ?_⟩
      by_cases q : j = i
      · rw [q]; exact e.2.2
      · exact d j (by omega) h2
    · rw [if_neg e]
      exact ⟨id, id, Nat.le_refl _, fun j h1 h2 => by omega⟩
theorem daysCL {c : rfS} {s n K : Nat} {g : Nat → Int32} (h : rotC c s n K g) {Q : Int32 → rfS → Prop} : ∀ (f i : Nat), i ≤ K → i ≤ 28 → 28 - i < f → Q (nI (dyN g n K f i)) c → wl_X2_daysOf_12 Q f (53 + 2 * s) (nI (if 28 < K then 28 else K)) (nI i) c := by
  obtain ⟨h1, h2, h3, h4, h5⟩ := h
  intro f
  induction f with
  | zero => intro i _ _ h; omega
  | succ f ih =>
    intro i hi hi2 hf hq
    unfold wl_X2_daysOf_12
    unfold dyN at hq
    rw [w_mayHave, cl i, h3, bI_0, nI_1]
    refine ⟨fun q => ?_, fun q => ⟨vin ?_, fun q2 => ?_, fun q2 => ?_⟩⟩
    · have := (nI_leI (by split <;> omega) (by omega)).mp q
      rw [if_neg (by split at this <;> omega)] at hq
      exact hq
    · have : ¬ (if 28 < K then 28 else K) ≤ i := fun z => q (nI_le z (by omega))
      split at this <;> omega
    · have : ¬ (if 28 < K then 28 else K) ≤ i := fun z => q (nI_le z (by omega))
      have hK : i < K ∧ i < 28 := by split at this <;> omega
      rw [h5 i hK.1, may_i] at q2
      rw [if_neg (fun z => q2 z.2.2)] at hq
      exact hq
    · have : ¬ (if 28 < K then 28 else K) ≤ i := fun z => q (nI_le z (by omega))
      have hK : i < K ∧ i < 28 := by split at this <;> omega
      rw [h5 i hK.1, may_i, Classical.not_not] at q2
      rw [if_pos ⟨hK.1, hK.2, q2⟩] at hq
      exact ih (i + 1) (by omega) (by omega) (by omega) hq
def dyK28 (g : Nat → Int32) (n K : Nat) : Nat := dyN g n K 29 0
theorem daysC {c : rfS} {s n K : Nat} {g : Nat → Int32} (h : rotC c s n K g) {Q : Int32 → rfS → Prop} (hq : Q (nI (dyK28 g n K)) c) : wp_X2_daysOf c (53 + 2 * s) Q := by
  unfold wp_X2_daysOf
  have e : (if 28 < gI c (53 + 2 * s) 2 then 28 else gI c (53 + 2 * s) 2) = nI (if 28 < K then 28 else K) := by
    have h2 := h.2.1
    rw [h.1]
    have : (28 : Int32) < nI K ↔ 28 < K := nI_ltI (a := 28) (by decide) (by omega)
    by_cases q : 28 < K
    · rw [if_pos (this.mpr q), if_pos q]; rfl
    · rw [if_neg (fun z => q (this.mp z)), if_neg q]
  rw [e]
  exact ⟨29, daysCL h 29 0 (by omega) (by omega) (by omega) hq⟩
theorem daysML {m : rfS} {s n K : Nat} {g : Nat → Int32} (hs : s < 6) (h : rotM m s n K g) {Q : Int32 → rfS → Prop} : ∀ (f i : Nat), i ≤ K → i ≤ 28 → 28 - i < f → Q (nI (dyN g n K f i)) m → wl_X8_daysOf_2 Q f (nI s) (nI i) m := by
  obtain ⟨h1, h2, h3, h4, h5⟩ := h
  intro f
  induction f with
  | zero => intro i _ _ h; omega
  | succ f ih =>
    intro i hi hi2 hf hq
    unfold wl_X8_daysOf_2
    unfold dyN at hq
    rw [cl s, h1, nI_1]
    refine ⟨vin hs, fun q => ?_, fun q => ⟨fun q2 => ?_, fun q2 => w_told hs ?_ _ ?_⟩⟩
    · have := (nI_leI (by omega) (by omega)).mp q
      rw [if_neg (by omega)] at hq
      exact hq
    · have := (nI_leI (a := 28) (by omega) (by omega)).mp q2
      rw [if_neg (by omega)] at hq
      exact hq
    · omega
    · have hK : i < K := by
        rcases Nat.lt_or_ge i K with z | z
        · exact z
        · exact absurd (nI_le z (by omega)) q
      have h28 : i < 28 := by
        rcases Nat.lt_or_ge i 28 with z | z
        · exact z
        · exact absurd (nI_le (a := 28) z (by omega)) q2
      rw [w_mOne, h3, bI_0, Classical.not_not, i_pred (by omega), h5 i hK]
      refine ⟨fun q3 => ?_, fun q3 => w_told hs (by omega) _ ?_⟩
      · rw [if_pos ⟨hK, h28, Or.inl q3⟩] at hq
        exact ih (i + 1) (by omega) (by omega) (by omega) hq
      · rw [h5 i hK]
        refine ⟨fun q4 => ?_, fun q4 => ?_⟩
        · rw [if_neg (fun z => z.2.2.elim q3 q4)] at hq
          exact hq
        · rw [if_pos ⟨hK, h28, Or.inr q4⟩] at hq
          exact ih (i + 1) (by omega) (by omega) (by omega) hq
theorem daysM {m : rfS} {s n K : Nat} {g : Nat → Int32} (hs : s < 6) (h : rotM m s n K g) {Q : Int32 → rfS → Prop} (hq : Q (nI (dyK28 g n K)) m) : wp_X8_daysOf m (nI s) Q := by
  unfold wp_X8_daysOf
  exact ⟨29, daysML hs h 29 0 (by omega) (by omega) (by omega) hq⟩
theorem byte_i {y : Int64} (h1 : -128 ≤ y) (h2 : y ≤ 127) : y = y.toInt32.toInt64 := by
  rw [Int64.le_iff_toInt_le] at h1 h2
  have e1 : ((-128 : Int64)).toInt = -128 := by decide
  have e2 : ((127 : Int64)).toInt = 127 := by decide
  rw [e1] at h1; rw [e2] at h2
  apply Int64.toInt_inj.mp
  rw [Int32.toInt_toInt64, Int64.toInt_toInt32]
  rw [Int.bmod_def]
  split <;> omega
/-- both refuse alike, or it is a rota -/
theorem ref_both {n bs s : Nat} {c m : rfS} (h : Rel n bs c m) (hs : s < 6) : ∃ r : Int32, (r = -11 ∨ r = -12 ∨ (r = 0 ∧ ∃ K g, rotC c s n K g ∧ rotM m s n K g)) ∧ (∀ Q : Int32 → rfS → Prop, Q r c → wp_X4_refusalFor c (53 + 2 * s) 0 Q) ∧ (∀ Q : Int32 → rfS → Prop, Q r m → wp_X8_noBytes m (nI s) Q) := by
  obtain ⟨hn7, hnC, hnM, hV⟩ := h.1
  have hb50 := h.2.2.2.2.2.2.1.1
  unfold wp_X4_refusalFor wp_X8_noBytes
  rw [cl s]
  rcases h.2.2.2.2.2.2.2.2.1 s hs with ⟨a1, a2⟩ | ⟨b, b1, b2, b3, b4⟩ | ⟨t, k, ht, hk, r1, r2, r3, r4, r5⟩
  · rw [a1, a2]
    exact ⟨-11, Or.inl rfl, fun Q hq => ⟨fun q => absurd rfl q, fun _ => hq⟩, fun Q hq => ⟨vin hs, fun q => absurd rfl q, fun _ => hq⟩⟩
  · rw [b2, b4]
    have e := sh_boot (b := b) (by omega)
    have e0 : ¬ nI (10 + b) = 0 := nI_ne0 (by omega) (by omega)
    exact ⟨-12, Or.inr (Or.inl rfl), fun Q hq => ⟨fun _ => ⟨fun _ => hq, fun q => absurd q (by decide)⟩, fun q => absurd q (by decide)⟩, fun Q hq => ⟨vin hs, fun _ => ⟨vin hs, fun q => absurd q e0, fun _ => hq⟩, fun q => absurd q e.2⟩⟩
  · obtain ⟨f1, f2, f3, f4⟩ := sh_row ht
    rw [r1, r2]
    by_cases e : t = 0
    · subst e
      refine ⟨0, Or.inr (Or.inr ⟨rfl, k, fun i => (gL c (53 + 2 * s + 1) i).toInt32, ⟨r3, hk, hnC, hn7, fun i hi => ?_⟩, ⟨r4, hk, hnM, hn7, fun i hi => ?_⟩⟩), fun Q hq => ⟨fun _ => ⟨fun q => absurd rfl q, fun _ => hq⟩, fun q => absurd q f4⟩, fun Q hq => ⟨vin hs, fun _ => ⟨vin hs, fun _ => hq, fun q => absurd rfl q⟩, fun q => absurd q f3⟩⟩
      · exact byte_i ((r5 i hi).2 rfl).1 ((r5 i hi).2 rfl).2
      · rw [← (r5 i hi).1]
    · have e0 : ¬ nI t = 0 := nI_ne0 (by omega) (by omega)
      exact ⟨-12, Or.inr (Or.inl rfl), fun Q hq => ⟨fun _ => ⟨fun _ => hq, fun q => absurd q e0⟩, fun q => absurd q f4⟩, fun Q hq => ⟨vin hs, fun _ => ⟨vin hs, fun q => absurd q e0, fun _ => hq⟩, fun q => absurd q f3⟩⟩

/-! a day passes with the model -/
theorem heM.Q {E : heT} {m m2 : rfS} (h : heM m E) (hf : FrQ E.1 m m2) : heM m2 E := by
  obtain ⟨a1, a2, a3, a4, a5⟩ := h
  refine ⟨a1, by rw [hf.2.2.1]; exact a2, fun i hi => ?_, fun d hd => ?_, a5.fr (by rw [hf.2.2.1]) (by rw [hf.2.2.1]) (hf.1 4 (by decide) (by decide) (by decide) (by decide)) (hf.1 5 (by decide) (by decide) (by decide) (by decide)) (hf.1 6 (by decide) (by decide) (by decide) (by decide)) (hf.1 7 (by decide) (by decide) (by decide) (by decide))⟩
  · rw [hf.2.1 i (fun j hj => by omega)]; exact a3 i hi
  · rw [hf.2.1 (28 + d) (fun j hj => by omega), hf.2.1 (35 + d) (fun j hj => by omega)]; exact a4 d hd
theorem FrQ.tr {n : Nat} {m m2 m3 : rfS} (h1 : FrQ n m m2) (h2 : FrQ n m2 m3) : FrQ n m m3 := ⟨fun q a b d e => (h2.1 q a b d e).trans (h1.1 q a b d e), fun j hj => (h2.2.1 j hj).trans (h1.2.1 j hj), fun q => (h2.2.2.1 q).trans (h1.2.2.1 q), fun q => (h2.2.2.2 q).trans (h1.2.2.2 q)⟩
theorem FrQ.rf (n : Nat) (m : rfS) : FrQ n m m := ⟨fun _ _ _ _ _ => rfl, fun _ _ => rfl, fun _ => rfl, fun _ => rfl⟩
theorem FrQ.o {n : Nat} (m : rfS) {i : Nat} (hi : i < n) (v : Int32) : FrQ n m (sF m 1 (7 + i) v) := ⟨fun _ q1 _ _ _ => gF_sF_ne q1, fun j hj => gF_sFi (hj i hi).1, fun _ => rfl, fun _ => rfl⟩
theorem FrQ.k {n : Nat} (m : rfS) {i : Nat} (hi : i < n) (v : Int32) : FrQ n m (sF m 1 (14 + i) v) := ⟨fun _ q1 _ _ _ => gF_sF_ne q1, fun j hj => gF_sFi (hj i hi).2, fun _ => rfl, fun _ => rfl⟩
theorem FrQ.w {n : Nat} (m : rfS) (i : Nat) (v : Int32) : FrQ n m (sF m 2 i v) := ⟨fun _ _ q2 _ _ => gF_sF_ne q2, fun j hj => gF_sFn (by decide), fun _ => rfl, fun _ => rfl⟩
theorem passM {E : heT} {m : rfS} {w : Nat} {s : sdT} (hE : heM m E) (hs : stM m E.1 s) (hw : w < E.1 ∨ w = 7) {Q : Int32 → rfS → Prop} (hk : ∀ m2, FrQ E.1 m m2 → stM m2 E.1 (dyS E s w) → Q (dyD E s w) m2) : wp_X8_passes m (nI w) Q := by
  obtain ⟨n, wants, kinds, facts, lo⟩ := E
  obtain ⟨owed, knows, worn, d⟩ := s
  have hE0 := hE
  obtain ⟨hn7, hn, hwa, hkf, hlaw⟩ := hE
  obtain ⟨s1, s2, s3, s4, s5⟩ := hs
  simp only at hn7 hn hwa hkf hlaw s1 s2 s3 s4 s5 hw hk hE0
  have w31 : w < 2 ^ 31 := by omega
  -- the loop over the others
  have lp : ∀ (r : Int32) (mA : rfS), FrQ n m mA → ∀ (k i : Nat) (m2 : rfS), i + k = n → FrQ n m m2 → (∀ j, j < n → j ≠ w → gF m2 1 (7 + j) = if j < i then dyO (n, wants, kinds, facts, lo) (owed, knows, worn, d) w j else owed j) → gF m2 1 (7 + w) = gF mA 1 (7 + w) → (∀ j, j < n → gF m2 1 (14 + j) = gF mA 1 (14 + j)) → gF m2 2 = gF mA 2 → ∀ (kx : Int32 → Int32 → Int32 → rfS → Prop), (∀ m3, FrQ n m m3 → (∀ j, j < n → j ≠ w → gF m3 1 (7 + j) = dyO (n, wants, kinds, facts, lo) (owed, knows, worn, d) w j) → gF m3 1 (7 + w) = gF mA 1 (7 + w) → (∀ j, j < n → gF m3 1 (14 + j) = gF mA 1 (14 + j)) → gF m3 2 = gF mA 2 → kx (nI w) (nI d) r m3) → wl_X8_passes_119 Q kx (k + 1) (nI w) (nI d) r (nI i) m2 := by
    intro r mA fA k
    induction k with
    | zero =>
      intro i m2 hi hf b1 b2 b3 b4 kx hkx
      unfold wl_X8_passes_119
      rw [hf.2.2.1, hn]
      exact ⟨fun _ => hkx m2 hf (fun j hj hjw => by rw [b1 j hj hjw, if_pos (by omega)]) b2 b3 b4, fun q => absurd (nI_le (by omega) (by omega)) q⟩
    | succ k ih =>
      intro i m2 hi hf b1 b2 b3 b4 kx hkx
      unfold wl_X8_passes_119
      rw [hf.2.2.1, hn, w_wants (by omega), bI_0, Classical.not_not, hf.2.1 i (fun j hj => by omega), hwa i (by omega), show (7 : Int32) = nI 7 from rfl, nI_add, cl (7 + i), nI_1]
      refine ⟨fun q => by have := (nI_leI (by omega) (by omega)).mp q; omega, fun _ => ⟨fun e => ih (i + 1) m2 (by omega) hf (fun j hj hjw => ?_) b2 b3 b4 kx hkx, fun e => ⟨fun e2 => ih (i + 1) m2 (by omega) hf (fun j hj hjw => ?_) b2 b3 b4 kx hkx, fun e2 => ⟨vin (by omega), vin (by omega), ih (i + 1) _ (by omega) (hf.tr (FrQ.o m2 (by omega) _)) (fun j hj hjw => ?_) ?_ (fun j hj => ?_) ?_ kx hkx⟩⟩⟩⟩
      · have e9 : i = w := (nI_eq (by omega) w31).mp e
        rw [b1 j hj hjw]
        by_cases h1 : j < i
        · rw [if_pos h1, if_pos (by omega)]
        · rw [if_neg h1, if_neg (by omega)]
      · rw [b1 j hj hjw]
        by_cases h1 : j < i
        · rw [if_pos h1, if_pos (by omega)]
        · by_cases h2 : j = i
          · subst h2
            rw [if_neg h1, if_pos (by omega)]
            unfold dyO obV
            simp only
            rw [if_neg hjw, if_pos e2]
          · rw [if_neg h1, if_neg (by omega)]
      · by_cases h2 : j = i
        · subst h2
          rw [gF_sFs, b1 j hj hjw, if_neg (show ¬ j < j by omega), if_pos (show j < j + 1 by omega)]
          unfold dyO obV
          simp only
          rw [if_neg hjw, if_neg e2]
        · rw [gF_sFi (by omega), b1 j hj hjw]
          by_cases h1 : j < i
          · rw [if_pos h1, if_pos (by omega)]
          · rw [if_neg h1, if_neg (by omega)]
      · have : w ≠ i := fun q => e (by rw [q])
        rw [gF_sFi (by omega)]; exact b2
      · rw [gF_sFi (by omega)]; exact b3 j hj
      · rw [gF_sF_ne (by decide)]; exact b4
  unfold wp_X8_passes
  rw [s4]
  rcases hw with hw | hw
  · have n7 : ¬ nI w = 7 := fun q => by have := (nI_eq (b := 7) w31 (by decide)).mp q; omega
    refine ⟨fun _ => doneM hlaw s5 (by omega) s4 (fun mA fA => ?_), fun q => absurd q n7⟩
    have hr : clV (amt lo (gF m 1 (28 + d)) (gF m 1 (7 + w)) (gF m 2 0) (wbit (gF m 1 w) d) (bc (gF m 1 (14 + w))) (nI d)) = dyD (n, wants, kinds, facts, lo) (owed, knows, worn, d) w := by
      unfold dyD
      simp only [hw, if_true]
      rw [(hkf d s5).1, s1 w hw, s3, hwa w hw, s2 w hw]
    rw [hr]
    have fA' : FrQ n m mA := ⟨fun q _ _ q3 q4 => fA.1 q q3 q4, fun j _ => by rw [fA.1 1 (by decide) (by decide)], fA.2.1, fA.2.2⟩
    have a1 : gF mA 1 = gF m 1 := fA.1 1 (by decide) (by decide)
    have a2 : gF mA 2 = gF m 2 := fA.1 2 (by decide) (by decide)
    -- behind what he learns
    have rest : ∀ mB : rfS, FrQ n m mB → (∀ j, j < n → gF mB 1 (7 + j) = owed j) → (∀ j, j < n → gF mB 1 (14 + j) = dyF (n, wants, kinds, facts, lo) (owed, knows, worn, d) w j) → gF mB 2 = gF m 2 → wj_X8_passes_65 Q (nI w) (nI d) (dyD (n, wants, kinds, facts, lo) (owed, knows, worn, d) w) mB := by
      intro mB fB o4 q4 w4
      unfold wj_X8_passes_65 wj_X8_passes_116
      rw [show (7 : Int32) = nI 7 from rfl, show (28 : Int32) = nI 28 from rfl, nI_add, nI_add, cl (7 + w), cl (28 + d), o4 w hw]
      have kd : gF (sF mB 1 (7 + w) (if 0 < owed w - 2 then owed w - 2 else 0)) 1 (28 + d) = kinds d := by
        rw [gF_sFi (by omega), fB.2.1 (28 + d) (fun j hj => by omega)]; exact (hkf d s5).1
      have wn : gF mB 2 0 = worn := by rw [w4]; exact s3
      refine ⟨vin (by omega), vin (by omega), vin (by omega), n + 1, ?_⟩
      rw [kd, wn]
      refine lp _ (sF (sF mB 1 (7 + w) (if 0 < owed w - 2 then owed w - 2 else 0)) 2 0 (if worn + kinds d < 99 then worn + kinds d else 99)) ((fB.tr (FrQ.o mB hw _)).tr (FrQ.w _ 0 _)) n 0 _ (by omega) ((fB.tr (FrQ.o mB hw _)).tr (FrQ.w _ 0 _)) (fun j hj hjw => ?_) rfl (fun _ _ => rfl) rfl _ (fun m3 f3 h1 h2 h3 h4 => ?_)
      · rw [gF_sFn (by decide), gF_sFi (by omega), if_neg (show ¬ j < 0 by omega)]; exact o4 j hj
      · show (nI w = nI 7 → _) ∧ (¬ nI w = nI 7 → _)
        refine ⟨fun q => absurd q n7, fun _ => ?_⟩
        have hnz : ¬ nI n = 0 := nI_ne0 (by omega) (by omega)
        have ex : (nI w + 1) - (nI w + 1) / nI n * nI n = nI (nxt n w) := by
          rw [nI_1, pk_rem (by omega) (by omega) (by omega)]
          congr 1
          unfold nxt
          by_cases q : n ≤ w + 1
          · rw [if_pos q, show w + 1 = n by omega, Nat.mod_self]
          · rw [if_neg q, Nat.mod_eq_of_lt (by omega)]
        have hx7 : nxt n w < n := by unfold nxt; split <;> omega
        have kw : ∀ j, j < n → gF m3 1 (14 + j) = dyF (n, wants, kinds, facts, lo) (owed, knows, worn, d) w j := fun j hj => by
          rw [h3 j hj, gF_sFn (by decide), gF_sFi (by omega)]; exact q4 j hj
        rw [f3.2.2.1, hn, ex, show (14 : Int32) = nI 14 from rfl, nI_add, nI_add, cl (14 + nxt n w), cl (14 + w), kw _ hx7, kw w hw]
        refine ⟨hnz, vin (by omega), vin (by omega), vin (by omega), ?_⟩
        unfold wj_X8_passes_211
        rw [rem7 s5]
        refine hk _ ((f3.tr (FrQ.k m3 hx7 _)).tr (FrQ.w _ 1 _)) ⟨fun i hi => ?_, fun i hi => ?_, ?_, gF_sFs, Nat.mod_lt _ (by decide)⟩
        · rw [gF_sFn (by decide), gF_sFi (by omega)]
          show _ = dyO (n, wants, kinds, facts, lo) (owed, knows, worn, d) w i
          by_cases e : i = w
          · subst e
            rw [h2, gF_sFn (by decide), gF_sFs]
            unfold dyO obV
            simp only [if_true]
          · exact h1 i hi e
        · rw [gF_sFn (by decide), gF_sF, kw i hi]
          show _ = dyK (n, wants, kinds, facts, lo) (owed, knows, worn, d) w i
          unfold dyK
          simp only [hw, if_true]
          by_cases e : i = nxt n w
          · rw [if_pos ⟨trivial, by omega⟩, if_pos e, e]
          · rw [if_neg (fun z => e (by omega)), if_neg e]
        · rw [gF_sFi (by decide), gF_sFn (by decide), h4, gF_sFs]
          show _ = dyW (n, wants, kinds, facts, lo) (owed, knows, worn, d) w
          unfold dyW
          simp only [hw, if_true]
    unfold wj_X8_passes_22
    refine ⟨fun q => absurd q n7, fun _ => ?_⟩
    rw [show (28 : Int32) = nI 28 from rfl, show (35 : Int32) = nI 35 from rfl, show (14 : Int32) = nI 14 from rfl, nI_add, nI_add, nI_add, cl (28 + d), cl (35 + d), cl (14 + w), a1, (hkf d s5).1, (hkf d s5).2, s2 w hw]
    refine ⟨vin (by omega), fun h2k => rest mA fA' (fun j hj => by rw [a1]; exact s1 j hj) (fun j hj => ?_) a2, fun h2k => ⟨vin (by omega), vin (by omega), vin (by omega), rest _ (fA'.tr (FrQ.k mA hw _)) (fun j hj => ?_) (fun j hj => ?_) ?_⟩⟩
    · rw [a1, s2 j hj]; unfold dyF; simp only; rw [if_neg (fun z => h2k z.2)]
    · rw [gF_sFi (by omega), a1]; exact s1 j hj
    · unfold dyF; simp only
      by_cases e : j = w
      · subst e; rw [gF_sFs, if_pos ⟨rfl, h2k⟩]
      · rw [gF_sFi (by omega), a1, s2 j hj, if_neg (fun z => e z.1)]
    · rw [gF_sF_ne (by decide)]; exact a2
  · subst hw
    have nw : ¬ (7 : Nat) < n := by omega
    refine ⟨fun q => absurd rfl q, fun _ => ?_⟩
    have hr : (0 : Int32) = dyD (n, wants, kinds, facts, lo) (owed, knows, worn, d) 7 := by
      unfold dyD
      simp only [nw, if_false]
    unfold wj_X8_passes_22 wj_X8_passes_116
    refine ⟨fun _ => ⟨n + 1, ?_⟩, fun q => absurd rfl q⟩
    refine lp 0 m (FrQ.rf n m) n 0 m (by omega) (FrQ.rf n m) (fun j hj hjw => by rw [if_neg (by omega)]; exact s1 j hj) rfl (fun _ _ => rfl) rfl _ (fun m3 f3 h1 h2 h3 h4 => ?_)
    show (nI 7 = 7 → _) ∧ (¬ nI 7 = 7 → _)
    refine ⟨fun _ => ?_, fun q => absurd rfl q⟩
    unfold wj_X8_passes_211
    rw [rem7 s5, hr]
    refine hk _ (f3.tr (FrQ.w _ 1 _)) ⟨fun i hi => ?_, fun i hi => ?_, ?_, gF_sFs, Nat.mod_lt _ (by decide)⟩
    · rw [gF_sFn (by decide)]
      exact h1 i hi (by omega)
    · rw [gF_sFn (by decide), h3 i hi]
      show _ = dyK (n, wants, kinds, facts, lo) (owed, knows, worn, d) 7 i
      unfold dyK
      simp only [nw, if_false]
      exact s2 i hi
    · rw [gF_sFi (by decide), h4]
      show _ = dyW (n, wants, kinds, facts, lo) (owed, knows, worn, d) 7
      unfold dyW
      simp only [nw, if_false]
      exact s3

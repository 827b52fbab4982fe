/-! fire: the class -/
theorem nIlt {a b : Nat} (ha : a < 2 ^ 31) (hb : b < 2 ^ 31) : nI a < nI b ↔ a < b := by
  rw [i_lt, nI_toInt ha, nI_toInt hb]
  omega
theorem nI_le2 {a b : Nat} (ha : a < 2 ^ 31) (hb : b < 2 ^ 31) : nI a ≤ nI b ↔ a ≤ b := by
  rw [i_le, nI_toInt ha, nI_toInt hb]
  omega
def ins (π : Nat → Nat) (b pl j : Nat) : Nat := if j < pl then π j else if j = pl then b else π (j - 1)
theorem PI_ins {a π : Nat → Nat} {b pl : Nat} (h : PI b a π) (hpl : pl ≤ b) (h1 : ∀ j, pl ≤ j → j < b → a b < a (π j)) (h2 : pl = 0 ∨ a (π (pl - 1)) ≤ a b) : PI (b + 1) a (ins π b pl) := by
  obtain ⟨p1, p2, p3⟩ := h
  refine ⟨fun j hj => ?_, fun i j hi hj e => ?_, fun i j hij hj => ?_⟩
  · unfold ins
    split
    · have := p1 j (by omega); omega
    · split
      · omega
      · have := p1 (j - 1) (by omega); omega
  · unfold ins at e
    by_cases c1 : i < pl
    · rw [if_pos c1] at e
      by_cases c2 : j < pl
      · rw [if_pos c2] at e
        exact p2 i j (by omega) (by omega) e
      · rw [if_neg c2] at e
        by_cases c3 : j = pl
        · rw [if_pos c3] at e
          have := p1 i (by omega); omega
        · rw [if_neg c3] at e
          have := p2 i (j - 1) (by omega) (by omega) e; omega
    · rw [if_neg c1] at e
      by_cases c4 : i = pl
      · rw [if_pos c4] at e
        by_cases c2 : j < pl
        · rw [if_pos c2] at e
          have := p1 j (by omega); omega
        · rw [if_neg c2] at e
          by_cases c3 : j = pl
          · omega
          · rw [if_neg c3] at e
            have := p1 (j - 1) (by omega); omega
      · rw [if_neg c4] at e
        by_cases c2 : j < pl
        · rw [if_pos c2] at e
          have := p2 (i - 1) j (by omega) (by omega) e; omega
        · rw [if_neg c2] at e
          by_cases c3 : j = pl
          · rw [if_pos c3] at e
            have := p1 (i - 1) (by omega); omega
          · rw [if_neg c3] at e
            have := p2 (i - 1) (j - 1) (by omega) (by omega) e; omega
  · have up : ∀ i, i < pl → a (π i) ≤ a b := fun i hi => by
      rcases h2 with e | e
      · omega
      · exact Nat.le_trans (p3 i (pl - 1) (by omega) (by omega)) e
    unfold ins
    by_cases c1 : i < pl
    · rw [if_pos c1]
      by_cases c2 : j < pl
      · rw [if_pos c2]; exact p3 i j hij (by omega)
      · rw [if_neg c2]
        by_cases c3 : j = pl
        · rw [if_pos c3]; exact up i c1
        · rw [if_neg c3]; exact p3 i (j - 1) (by omega) (by omega)
    · rw [if_neg c1, if_neg (show ¬ j < pl by omega)]
      by_cases c4 : i = pl
      · rw [if_pos c4]
        by_cases c3 : j = pl
        · rw [if_pos c3]; exact Nat.le_refl _
        · rw [if_neg c3]
          exact Nat.le_of_lt (h1 (j - 1) (by omega) (by omega))
      · rw [if_neg c4, if_neg (show ¬ j = pl by omega)]
        exact p3 (i - 1) (j - 1) (by omega) (by omega)
def FrC (c c2 : rfS) : Prop := (∀ k, k ≠ 25 → gF c2 k = gF c k) ∧ (∀ k, gI c2 k = gI c k) ∧ ∀ k, gL c2 k = gL c k
theorem FrC.sF {c c2 : rfS} (h : FrC c c2) {j : Nat} {v : Int32} : FrC c (sF c2 25 j v) := ⟨fun k hk => (gF_sF_ne hk).trans (h.1 k hk), fun k => (h.2.1 k), fun k => (h.2.2 k)⟩
theorem Rel.frC {n bs : Nat} {c m c2 : rfS} (h : Rel n bs c m) (f : FrC c c2) : Rel n bs c2 m := by
  obtain ⟨f1, f2, f3⟩ := f
  obtain ⟨hV, hT, hL, hLd, hIm, hCh, hBo, hTr, hSh, hMd⟩ := h
  exact ⟨hV.fr (by rw [f2]) (f1 2 (by decide)) (f1 3 (by decide)) (f1 4 (by decide)) (f1 5 (by decide)) (f1 13 (by decide)) (f1 14 (by decide)) (by rw [f2]) (by rw [f2]) rfl rfl rfl, hT.fr (by rw [f2]) (f1 9 (by decide)) rfl rfl, hL.fr (by rw [f2]) (f1 7 (by decide)) rfl rfl rfl rfl rfl rfl, hLd.fr (f1 15 (by decide)) rfl, hIm.fr (f2 0) (f2 16) (f1 17 (by decide)) (f1 18 (by decide)) (f1 19 (by decide)) rfl rfl rfl rfl, hCh.fr (f2 44) (f1 45 (by decide)) (f1 46 (by decide)) (f1 47 (by decide)) (f1 48 (by decide)) rfl rfl rfl, hBo.fr (by rw [f2]) (f1 50 (by decide)) rfl rfl, hTr.fr (by rw [f2]) (f1 51 (by decide)) rfl rfl, hSh.fr (fun k _ => ⟨f2 k, f3 k⟩) rfl rfl rfl, hMd.fr (f1 24 (by decide))⟩
section FireC
variable {c0 : rfS} {a : Nat → Nat} {n : Nat}
def slC (c0 : rfS) (a : Nat → Nat) (n : Nat) : Prop := n ≤ 7 ∧ gI c0 1 0 = nI n ∧ ∀ p, p < n → gF c0 3 p = nI (a p) ∧ 1 ≤ a p ∧ a p ≤ 9
theorem inL (h0 : slC c0 a n) {π : Nat → Nat} {b : Nat} (hb : b < n) (hπ : PI b a π) {Q : rfS → Prop} {kx : Int32 → Int32 → rfS → Prop} : ∀ (pl : Nat) (c : rfS), pl ≤ b → FrC c0 c → (∀ j, j < pl → gF c 25 j = nI (a (π j))) → (∀ j, pl < j → j ≤ b → gF c 25 j = nI (a (π (j - 1)))) → (∀ j, pl ≤ j → j < b → a b < a (π j)) →
    (∀ (pl : Nat) (c : rfS), pl ≤ b → FrC c0 c → (∀ j, j < pl → gF c 25 j = nI (a (π j))) → (∀ j, pl < j → j ≤ b → gF c 25 j = nI (a (π (j - 1)))) → (∀ j, pl ≤ j → j < b → a b < a (π j)) → (pl = 0 ∨ a (π (pl - 1)) ≤ a b) → kx (nI b) (nI pl) c) → wl_X6_sortBySlow_15 Q kx (pl + 1) (nI b) (nI pl) c
  | 0, c, hpl, hf, h1, h2, h3, hk => by
    unfold wl_X6_sortBySlow_15
    exact ⟨fun _ => hk 0 c hpl hf h1 h2 h3 (Or.inl rfl), fun q => absurd (by decide) q⟩
  | pl + 1, c, hpl, hf, h1, h2, h3, hk => by
    obtain ⟨n7, hn, hs⟩ := h0
    have e3 : gF c 3 b = nI (a b) := by rw [hf.1 3 (by decide)]; exact (hs b hb).1
    have b1 := (hs b hb).2
    have b2 := (hs (π pl) (by have := hπ.1 pl (by omega); omega)).2
    unfold wl_X6_sortBySlow_15
    have npos : ¬ nI (pl + 1) ≤ (0 : Int32) := by
      rw [i_le, nI_toInt (by omega), show (0 : Int32).toInt = 0 from rfl]
      omega
    rw [nI_pred, cl pl, cl b, cl (pl + 1), e3, h1 pl (by omega)]
    refine ⟨fun q => absurd q npos, fun _ => ⟨vin (by omega), vin (by omega), fun le => ?_, fun nle => ⟨vin (by omega), vin (by omega), ?_⟩⟩⟩
    · exact hk (pl + 1) c hpl hf h1 h2 h3 (Or.inr (show a (π pl) ≤ a b from (nI_le2 (by omega) (by omega)).mp le))
    · have lt : a b < a (π pl) := by
        have q : ¬ a (π pl) ≤ a b := fun q => nle ((nI_le2 (by omega) (by omega)).mpr q)
        omega
      rw [show nI (pl + 1) + (-1 : Int32) = nI pl from (Int32.sub_eq_add_neg ..).symm.trans (nI_pred pl)]
      refine inL ⟨n7, hn, hs⟩ hb hπ pl _ (by omega) hf.sF (fun j hj => ?_) (fun j hj hj2 => ?_) (fun j hj hj2 => ?_) hk
      · rw [gF_sF, if_neg (by omega)]
        exact h1 j (by omega)
      · rw [gF_sF]
        by_cases e : j = pl + 1
        · rw [if_pos ⟨rfl, e⟩, e]
          rfl
        · rw [if_neg (fun q => e q.2)]
          exact h2 j (by omega) hj2
      · by_cases e : j = pl
        · rw [e]; exact lt
        · exact h3 j (by omega) hj2
theorem sortL (h0 : slC c0 a n) {Q : rfS → Prop} (hq : ∀ (π : Nat → Nat) (c : rfS), PI n a π → FrC c0 c → (∀ j, j < n → gF c 25 j = nI (a (π j))) → Q c) : ∀ (k b : Nat) (π : Nat → Nat) (c : rfS), b + k = n → PI b a π → FrC c0 c → (∀ j, j < b → gF c 25 j = nI (a (π j))) → wl_X6_sortBySlow_2 Q (k + 1) (nI b) c
  | 0, b, π, c, hk, hπ, hf, h1 => by
    unfold wl_X6_sortBySlow_2
    rw [hf.2.1, h0.2.1]
    have e : b = n := by omega
    subst e
    exact ⟨fun _ => hq π c hπ hf h1, fun q => absurd (Int32.le_refl _) q⟩
  | k + 1, b, π, c, hk, hπ, hf, h1 => by
    have n7 := h0.1
    unfold wl_X6_sortBySlow_2
    rw [hf.2.1, h0.2.1]
    have nle : ¬ nI n ≤ nI b := by
      rw [nI_le2 (by omega) (by omega)]
      omega
    refine ⟨fun q => absurd q nle, fun _ => ⟨b + 1, inL h0 (by omega) hπ b c (Nat.le_refl _) hf h1 (fun j _ _ => by omega) (fun j _ _ => by omega) (fun pl c2 hpl hf2 g1 g2 g3 g4 => ?_)⟩⟩
    unfold wj_X6_sortBySlow_59
    rw [cl b, cl pl, nI_1]
    refine ⟨vin (by omega), vin (by omega), ?_⟩
    refine sortL h0 hq k (b + 1) (ins π b pl) _ (by omega) (PI_ins hπ hpl g3 g4) hf2.sF (fun j hj => ?_)
    rw [gF_sF]
    unfold ins
    by_cases e : j = pl
    · rw [if_pos ⟨rfl, e⟩, if_neg (by omega), if_pos e, hf2.1 3 (by decide)]
      exact (h0.2.2 b (by omega)).1
    · rw [if_neg (fun q => e q.2)]
      by_cases lt : j < pl
      · rw [if_pos lt]; exact g1 j lt
      · rw [if_neg lt, if_neg e]
        exact g2 j (by omega) (by omega)
theorem minC (h0 : slC c0 a n) {Q : Int32 → rfS → Prop} (hq : ∀ (π : Nat → Nat) (c : rfS) (r : Nat), PI n a π → FrC c0 c → (r : Int) = cg (fun j => (a (π j) : Int)) n → r < 1000 → Q (nI r) c) : wp_X6_minutesOut c0 Q := by
  have n7 := h0.1
  unfold wp_X6_minutesOut wp_X6_sortBySlow
  refine ⟨n + 1, sortL h0 (fun π c hπ hf h1 => ?_) n 0 (fun j => j) c0 (by omega) ⟨fun j hj => absurd hj (by omega), fun i j hi => absurd hi (by omega), fun i j _ hj => absurd hj (by omega)⟩ ⟨fun _ _ => rfl, fun _ => rfl, fun _ => rfl⟩ (fun j hj => absurd hj (by omega))⟩
  rw [hf.2.1, h0.2.1]
  have bd : ∀ j, j < n → 1 ≤ a (π j) ∧ a (π j) ≤ 9 := fun j hj => (h0.2.2 _ (hπ.1 j hj)).2
  have L : ∀ (f k tot : Nat), k ≤ 2 * f + 3 → k ≤ n → (1 ≤ k ∨ n = 0) → tot + 30 * k ≤ 300 → (tot : Int) + cg (fun j => (a (π j) : Int)) k = cg (fun j => (a (π j) : Int)) n → wl_X6_minutesOut_14 Q (fun (x1_7 : Int32) (x2_8 : Int32) (σ9 : rfS) => ((¬ x1_7 = 3 → ((¬ x1_7 = 0 → vp_in (x1_7 - 1) 7 ∧ (Q (x2_8 + (gF σ9 25 ((x1_7 - 1).toNatClampNeg))) σ9)) ∧ (x1_7 = 0 → Q 0 σ9))) ∧ (x1_7 = 3 → Q (((x2_8 + (gF σ9 25 0)) + (gF σ9 25 1)) + (gF σ9 25 2)) σ9))) (f + 1) (nI k) (nI tot) c := by
    have last : ∀ k tot : Nat, k ≤ 3 → k ≤ n → (1 ≤ k ∨ n = 0) → tot + 30 * k ≤ 300 → (tot : Int) + cg (fun j => (a (π j) : Int)) k = cg (fun j => (a (π j) : Int)) n → ((¬ nI k = 3 → ((¬ nI k = 0 → vp_in (nI k - 1) 7 ∧ (Q (nI tot + (gF c 25 ((nI k - 1).toNatClampNeg))) c)) ∧ (nI k = 0 → Q 0 c))) ∧ (nI k = 3 → Q (((nI tot + (gF c 25 0)) + (gF c 25 1)) + (gF c 25 2)) c)) := by
      intro k tot hk hkn hz ht he
      have hc : k = 0 ∨ k = 1 ∨ k = 2 ∨ k = 3 := by omega
      rcases hc with rfl | rfl | rfl | rfl
      · refine ⟨fun _ => ⟨fun q => absurd rfl q, fun _ => ?_⟩, fun q => absurd q (by decide)⟩
        have z : n = 0 := by omega
        have : Q (nI 0) c := hq π c 0 hπ hf (by rw [z]; rfl) (by omega)
        exact this
      · refine ⟨fun _ => ⟨fun _ => ?_, fun q => absurd q (by decide)⟩, fun q => absurd q (by decide)⟩
        rw [show nI 1 - 1 = nI 0 from nI_pred 0, cl 0, h1 0 (by omega), nI_add]
        refine ⟨vin (by decide), ?_⟩
        have := bd 0 (by omega)
        refine hq π c _ hπ hf ?_ (by omega)
        have c1 : cg (fun j => (a (π j) : Int)) 1 = (a (π 0) : Int) := rfl
        omega
      · refine ⟨fun _ => ⟨fun _ => ?_, fun q => absurd q (by decide)⟩, fun q => absurd q (by decide)⟩
        rw [show nI 2 - 1 = nI 1 from nI_pred 1, cl 1, h1 1 (by omega), nI_add]
        refine ⟨vin (by decide), ?_⟩
        have := bd 1 (by omega)
        refine hq π c _ hπ hf ?_ (by omega)
        have c1 : cg (fun j => (a (π j) : Int)) 2 = (a (π 1) : Int) := rfl
        omega
      · refine ⟨fun q => absurd rfl q, fun _ => ?_⟩
        rw [h1 0 (by omega), h1 1 (by omega), h1 2 (by omega), nI_add, nI_add, nI_add]
        have d0 := bd 0 (by omega)
        have d1 := bd 1 (by omega)
        have d2 := bd 2 (by omega)
        refine hq π c _ hπ hf ?_ (by omega)
        have c1 : cg (fun j => (a (π j) : Int)) 3 = (a (π 0) : Int) + (a (π 1) : Int) + (a (π 2) : Int) := rfl
        omega
    intro f
    induction f with
    | zero =>
      intro k tot hf2 hkn hz ht he
      unfold wl_X6_minutesOut_14
      refine ⟨fun _ => last k tot (by omega) hkn hz ht he, fun q => absurd ?_ q⟩
      exact (nI_le2 (b := 3) (by omega) (by omega)).mpr (by omega)
    | succ f ih =>
      intro k tot hf2 hkn hz ht he
      unfold wl_X6_minutesOut_14
      by_cases k3 : k ≤ 3
      · refine ⟨fun _ => last k tot (by omega) hkn hz ht he, fun q => absurd ?_ q⟩
        exact (nI_le2 (b := 3) (by omega) (by omega)).mpr (by omega)
      · obtain ⟨j, rfl⟩ : ∃ j, k = j + 4 := ⟨k - 4, by omega⟩
        refine ⟨fun q => absurd ((nI_le2 (b := 3) (by omega) (by omega)).mp q) k3, fun _ => ?_⟩
        have e2 : nI (j + 4) - 2 = nI (j + 2) := pk_sub (b := 2) (by omega)
        have e1 : nI (j + 4) - 1 = nI (j + 3) := nI_pred _
        have e3 : nI (j + 4) + (-2 : Int32) = nI (j + 2) := by
          rw [← e2]
          exact (Int32.sub_eq_add_neg ..).symm
        rw [e3, e2, e1, cl (j + 2), cl (j + 3), h1 0 (by omega), h1 1 (by omega), h1 (j + 2) (by omega), h1 (j + 3) (by omega), show (2 : Int32) = nI 2 from rfl, nIm, nIm, nI_add, nI_add, nI_add, nI_add]
        have d0 := bd 0 (by omega)
        have d1 := bd 1 (by omega)
        have d2 := bd (j + 2) (by omega)
        have d3 := bd (j + 3) (by omega)
        refine ⟨vin (by omega), vin (by omega), vin (by omega), ?_⟩
        have cgk : cg (fun j => (a (π j) : Int)) (j + 4) = cg (fun j => (a (π j) : Int)) (j + 2) + (if (a (π 0) : Int) + 2 * (a (π 1) : Int) + (a (π (j + 3)) : Int) < 2 * (a (π 0) : Int) + (a (π (j + 2)) : Int) + (a (π (j + 3)) : Int) then (a (π 0) : Int) + 2 * (a (π 1) : Int) + (a (π (j + 3)) : Int) else 2 * (a (π 0) : Int) + (a (π (j + 2)) : Int) + (a (π (j + 3)) : Int)) := rfl
        rw [cgk] at he
        by_cases lt : a (π 0) + 2 * a (π 1) + a (π (j + 3)) < 2 * a (π 0) + a (π (j + 2)) + a (π (j + 3))
        · rw [if_pos ((nIlt (by omega) (by omega)).mpr lt), nI_add]
          rw [if_pos (by omega)] at he
          refine ih (j + 2) _ (by omega) (by omega) (by omega) (by omega) ?_
          omega
        · rw [if_neg (fun q => lt ((nIlt (by omega) (by omega)).mp q)), nI_add]
          rw [if_neg (by omega)] at he
          refine ih (j + 2) _ (by omega) (by omega) (by omega) (by omega) ?_
          omega
  exact ⟨5, L 4 n 0 (by omega) (Nat.le_refl _) (by omega) (by omega) (by omega)⟩
end FireC

/-! law: the whole call -/
section LawCall
variable {t : Nat → Int32} {len : Nat}
theorem lwLs_gd : ∀ (n a : Nat) (L : List lwQ), a ≤ len → 2 * L.length ≤ a → (lwCl L).length ≤ a → (∀ q ∈ L, lwGood q) → (lwLs t len n a L).1 = true → (lwLs t len n a L).2.1 = len ∧ (lwLs t len n a L).2.2 ≠ [] ∧ 2 * (lwLs t len n a L).2.2.length ≤ len + 1 ∧ (lwCl (lwLs t len n a L).2.2).length ≤ len ∧ ∀ q ∈ (lwLs t len n a L).2.2, lwGood q
  | 0, a, L, _, _, _, _, ok => absurd (show false = true from ok) ft
  | n + 1, a, L, ha, h2, hc, hg, ok => by
    obtain ⟨g1, g2, g3⟩ := lwLn_gd (t := t) ha
    unfold lwLs at ok ⊢
    by_cases hf : (lwLn t len a).1 = false
    · rw [if_pos hf] at ok
      exact absurd (show false = true from ok) ft
    rw [if_neg hf] at ok ⊢
    obtain ⟨g4, g5, g6, g7⟩ := g3 (by simpa using hf)
    have hg2 : ∀ q ∈ L ++ [(lwLn t len a).2.2], lwGood q := by
      intro q hq
      rcases List.mem_append.mp hq with hq | hq
      · exact hg q hq
      · rw [List.mem_singleton.mp hq]; exact g7
    have hl2 : (L ++ [(lwLn t len a).2.2]).length = L.length + 1 := by rw [List.length_append, List.length_singleton]
    have hc2 : (lwCl (L ++ [(lwLn t len a).2.2])).length ≤ (lwLn t len a).2.1 := by
      rw [lwCl_app, List.length_append]
      have : (lwCl [(lwLn t len a).2.2]).length = (lwCq (lwLn t len a).2.2).length := by rw [lwCl_one]; rfl
      omega
    by_cases he : (lwLn t len a).2.1 = len
    · rw [if_pos he]
      exact ⟨rfl, by simp, by show 2 * (L ++ [(lwLn t len a).2.2]).length ≤ len + 1; omega, by show (lwCl (L ++ [(lwLn t len a).2.2])).length ≤ len; omega, hg2⟩
    rw [if_neg he] at ok ⊢
    by_cases h59 : lwSg t len (lwLn t len a).2.1 = 59
    · rw [if_pos h59] at ok ⊢
      have hlt : (lwLn t len a).2.1 < len := lwSg_lt (fun q => by rw [q] at h59; exact absurd h59 (by decide))
      exact lwLs_gd n _ _ hlt (by omega) (by omega) hg2 ok
    · rw [if_neg h59] at ok
      exact absurd (show false = true from ok) ft
theorem lwLs_at : ∀ (n a : Nat) (L : List lwQ), a ≤ len → (lwLs t len n a L).2.1 ≤ len
  | 0, a, L, ha => ha
  | n + 1, a, L, ha => by
    obtain ⟨g1, g2, g3⟩ := lwLn_gd (t := t) ha
    unfold lwLs
    by_cases hf : (lwLn t len a).1 = false
    · rw [if_pos hf]; exact g2
    rw [if_neg hf]
    by_cases he : (lwLn t len a).2.1 = len
    · rw [if_pos he]; exact Nat.le_refl _
    rw [if_neg he]
    by_cases h59 : lwSg t len (lwLn t len a).2.1 = 59
    · rw [if_pos h59]
      have hlt : (lwLn t len a).2.1 < len := lwSg_lt (fun q => by rw [q] at h59; exact absurd h59 (by decide))
      exact lwLs_at n _ _ hlt
    · rw [if_neg h59]; exact g2
end LawCall
def CP (σ0 : rfS) (k : Nat) (σ : rfS) : Prop := (∀ a b, gI σ a b = gI σ0 a b) ∧ (∀ a, ¬ (4 ≤ a ∧ a ≤ 6) → gF σ a = gF σ0 a) ∧ (∀ a, gL σ a = gL σ0 a) ∧ ∀ i, i < k → gF σ 4 i = gF σ0 8 i ∧ gF σ 5 i = gF σ0 9 i ∧ gF σ 6 i = gF σ0 10 i
theorem cp99 {κ : rfS → (Int32 → rfS → Prop) → Prop} {Q : Int32 → rfS → Prop} {kx : rfS → Prop} {σ0 : rfS} {N : Nat} (hN : N ≤ 60) (h6 : gI σ0 0 6 = nI N) (hq : ∀ σ2, CP σ0 N σ2 → kx σ2) : ∀ (n k : Nat) (σ : rfS), k + n = N → CP σ0 k σ → wl_X8_law_99 κ Q kx (n + 1) (nI k) σ
  | 0, k, σ, hk, h => by
    unfold wl_X8_law_99
    rw [h.1, h6]
    have e : k = N := by omega
    subst e
    exact ⟨fun _ => hq σ h, fun q => absurd (Int32.le_refl _) q⟩
  | n + 1, k, σ, hk, h => by
    unfold wl_X8_law_99
    rw [h.1, h6, cl k (by omega)]
    have nle : ¬ nI N ≤ nI k := by
      rw [i_le, nI_toInt (by omega), nI_toInt (by omega)]
      omega
    refine ⟨fun q => absurd q nle, fun _ => ⟨vin (by omega), vin (by omega), vin (by omega), vin (by omega), vin (by omega), vin (by omega), ?_⟩⟩
    rw [nI_1]
    obtain ⟨a1, a2, a3, a4⟩ := h
    refine cp99 hN h6 hq n (k + 1) _ (by omega) ⟨fun a b => by rw [gI_sF, gI_sF, gI_sF]; exact a1 a b, fun a ha => ?_, fun a => a3 a, fun i hi => ?_⟩
    · rw [gF_sF_ne (by omega), gF_sF_ne (by omega), gF_sF_ne (by omega)]
      exact a2 a ha
    · rw [a2 8 (by decide), a2 9 (by decide), a2 10 (by decide)]
      simp only [gF_sF]
      by_cases e : i = k
      · subst e
        simp
      · simp only [e, and_false, if_false]
        exact a4 i (by omega)
def CQ (σ0 : rfS) (k : Nat) (σ : rfS) : Prop := (∀ a b, gI σ a b = gI σ0 a b) ∧ (∀ a, a ≠ 7 → gF σ a = gF σ0 a) ∧ (∀ a, gL σ a = gL σ0 a) ∧ ∀ i, i < k → gF σ 7 i = gF σ0 11 i
theorem cp151 {κ : rfS → (Int32 → rfS → Prop) → Prop} {Q : Int32 → rfS → Prop} {σ0 : rfS} {N : Nat} (hN : N ≤ 200) (h6 : gI σ0 0 13 = nI N) (hq : ∀ σ2, CQ σ0 N σ2 → Q 1 σ2) : ∀ (n k : Nat) (σ : rfS), k + n = N → CQ σ0 k σ → wl_X8_law_151 κ Q (n + 1) (nI k) σ
  | 0, k, σ, hk, h => by
    unfold wl_X8_law_151
    rw [h.1, h6]
    have e : k = N := by omega
    subst e
    exact ⟨fun _ => hq σ h, fun q => absurd (Int32.le_refl _) q⟩
  | n + 1, k, σ, hk, h => by
    unfold wl_X8_law_151
    rw [h.1, h6, cl k (by omega)]
    have nle : ¬ nI N ≤ nI k := by
      rw [i_le, nI_toInt (by omega), nI_toInt (by omega)]
      omega
    refine ⟨fun q => absurd q nle, fun _ => ⟨vin (by omega), vin (by omega), ?_⟩⟩
    rw [nI_1]
    obtain ⟨a1, a2, a3, a4⟩ := h
    refine cp151 hN h6 hq n (k + 1) _ (by omega) ⟨fun a b => by rw [gI_sF]; exact a1 a b, fun a ha => ?_, fun a => a3 a, fun i hi => ?_⟩
    · rw [gF_sF_ne ha]
      exact a2 a ha
    · rw [a2 11 (by decide), gF_sF]
      by_cases e : i = k
      · rw [if_pos ⟨rfl, e⟩, e]
      · rw [if_neg (fun q => e q.2)]
        exact a4 i (by omega)
theorem getD_at {A B C : List Int32} {i : Nat} (h : i < B.length) : (A ++ B ++ C).getD (A.length + i) 0 = B.getD i 0 := by
  rw [List.getD_eq_getElem?_getD, List.getD_eq_getElem?_getD, List.append_assoc, List.getElem?_append_right (by omega), show A.length + i - A.length = i by omega, List.getElem?_append_left h]
/-- the tables of the model, out of what isLine wrote -/
theorem lwTab_of {m : rfS} {L : List lwQ} (ht : ∀ k q, L[k]? = some q → gF m 4 k = nI (lwCl (L.take k)).length ∧ gF m 5 k = nI ((lwCl (L.take k)).length + (q.1.getD []).length) ∧ gF m 6 k = nI ((lwCl (L.take k)).length + (q.1.getD []).length + q.2.length)) (hc : ∀ i, i < (lwCl L).length → gF m 7 i = (lwCl L).getD i 0) : ∀ (B A : List lwQ), L = A ++ B → lwTab m B A.length (lwCl A).length
  | [], A, h => trivial
  | q :: B, A, h => by
    have hq : L[A.length]? = some q := by
      rw [h, List.getElem?_append_right (Nat.le_refl _), Nat.sub_self]
      rfl
    have htk : L.take A.length = A := by rw [h, List.take_left]
    obtain ⟨e1, e2, e3⟩ := ht _ _ hq
    rw [htk] at e1 e2 e3
    have hcl : lwCl L = lwCl A ++ (q.1.getD [] ++ q.2) ++ lwCl B := by
      rw [h, lwCl_app, show q :: B = [q] ++ B from rfl, lwCl_app, lwCl_one]; simp only [List.append_assoc]
    have hlen : (lwCl L).length = (lwCl A).length + ((q.1.getD []).length + q.2.length) + (lwCl B).length := by
      rw [hcl, List.length_append, List.length_append, List.length_append]
    refine ⟨e1, e2, e3, fun i hi => ?_, fun i hi => ?_, ?_⟩
    · rw [hc _ (by omega), hcl, show lwCl A ++ (q.1.getD [] ++ q.2) ++ lwCl B = lwCl A ++ q.1.getD [] ++ (q.2 ++ lwCl B) by simp only [List.append_assoc]]
      exact getD_at hi
    · rw [hc _ (by omega), hcl, show lwCl A ++ (q.1.getD [] ++ q.2) ++ lwCl B = (lwCl A ++ q.1.getD []) ++ q.2 ++ lwCl B by simp only [List.append_assoc]]
      rw [show (lwCl A).length + (q.1.getD []).length + i = (lwCl A ++ q.1.getD []).length + i by rw [List.length_append]]
      exact getD_at hi
    · have := lwTab_of ht hc B (A ++ [q]) (by rw [h, List.append_assoc]; rfl)
      rw [List.length_append, List.length_singleton, lwCl_app, lwCl_one, List.length_append, List.length_append, ← Nat.add_assoc] at this
      exact this
theorem Rel.law {n bs : Nat} {c m c2 m2 : rfS} (h : Rel n bs c m) (hT : RTp c2 m2) (hL : RLw c2 m2) (h1 : ∀ k, k ≠ 7 → k ≠ 10 → gF c2 k = gF c k) (h2 : ∀ k, k ≠ 6 → ∀ j, gI c2 k j = gI c k j) (h3 : ∀ k, gL c2 k = gL c k) (g1 : ∀ k, ¬ (4 ≤ k ∧ k ≤ 11) → gF m2 k = gF m k) (g2 : ∀ j, ¬ (3 ≤ j ∧ j ≤ 14) → gI m2 0 j = gI m 0 j) (g3 : ∀ k, gL m2 k = gL m k) : Rel n bs c2 m2 := by
  obtain ⟨hV, hT0, hL0, hLd, hIm, hCh, hBo, hTr, hSh, hMd⟩ := h
  have h2f : ∀ k, k ≠ 6 → gI c2 k = gI c k := fun k hk => funext fun j => h2 k hk j
  refine ⟨?_, hT, hL, ?_, ?_, ?_, ?_, ?_, ?_, ?_⟩
  · exact hV.fr (h2 1 (by decide) 0) (h1 2 (by decide) (by decide)) (h1 3 (by decide) (by decide)) (h1 4 (by decide) (by decide)) (h1 5 (by decide) (by decide)) (h1 13 (by decide) (by decide)) (h1 14 (by decide) (by decide)) (h2 12 (by decide) 2) (h2 12 (by decide) 3) (g2 0 (by decide)) (g1 1 (by decide)) (g1 2 (by decide))
  · exact hLd.fr (h1 15 (by decide) (by decide)) (g1 14 (by decide))
  · exact hIm.fr (h2f 0 (by decide)) (h2f 16 (by decide)) (h1 17 (by decide) (by decide)) (h1 18 (by decide) (by decide)) (h1 19 (by decide) (by decide)) (g2 22 (by decide)) (g2 23 (by decide)) (g1 15 (by decide)) (g1 16 (by decide))
  · exact hCh.fr (h2f 44 (by decide)) (h1 45 (by decide) (by decide)) (h1 46 (by decide) (by decide)) (h1 47 (by decide) (by decide)) (h1 48 (by decide) (by decide)) (g2 27 (by decide)) (g2 26 (by decide)) (g1 17 (by decide))
  · exact hBo.fr (h2 49 (by decide) 1) (h1 50 (by decide) (by decide)) (g2 29 (by decide)) (g1 18 (by decide))
  · exact hTr.fr (h2 49 (by decide) 3) (h1 51 (by decide) (by decide)) (g2 31 (by decide)) (g1 19 (by decide))
  · exact hSh.fr (fun k hk => ⟨h2f k (by omega), h3 k⟩) (g1 20 (by decide)) (g1 21 (by decide)) (g3 22)
  · exact hMd.fr (h1 24 (by decide) (by decide))
theorem RTp_0 {c m : rfS} (h1 : gI c 6 4 = 0) (h2 : gI m 0 3 = 0) : RTp c m := ⟨0, by decide, h1, h2, fun i hi => absurd hi (by omega)⟩
theorem op_law {n bs : Nat} {c m : rfS} (h : Rel n bs c m) : wp_X7_law (wp_X3_read (wp_X3_readLines (wp_X3_readLine (RCO 49).1))) c (fun r1 c2 => wp_X8_law (wp_X8_isLine (MIE 42).2.2.2.2.2) m (fun r2 m2 => r1 = r2 ∧ RelE c2 m2)) := by
  obtain ⟨len, t1, t2, t3, t4⟩ := h.2.1
  have hC : TC (sI (sI c 6 5 0) 6 7 0) (gF c 9) len := ⟨t1, by rw [gI_sI, if_neg (by decide), gI_sI, if_neg (by decide)]; exact t2, fun i hi => rfl⟩
  have hS0 : SC (sI (sI c 6 5 0) 6 7 0) 0 [] (sI (sI c 6 5 0) 6 7 0) := ⟨fun _ _ _ => rfl, fun _ _ => rfl, fun _ => rfl, by rw [gI_sI, if_neg (by decide), gI_sI, if_pos ⟨rfl, rfl⟩]; rfl, by rw [gI_sI, if_pos ⟨rfl, rfl⟩]; rfl, fun i hi => absurd hi (by simp)⟩
  have hM : TM (sI (sI (sI (sI m 0 11 0) 0 12 0) 0 13 0) 0 14 0) (gF c 9) len := ⟨t1, by simp only [gI_sI]; rw [if_neg (by decide), if_neg (by decide), if_neg (by decide), if_neg (by decide)]; exact t3, fun i hi => (t4 i hi).1.symm⟩
  have gat := lwLs_at (t := gF c 9) (len := len) (len + 1) 0 [] (Nat.zero_le _)
  have ggd := lwLs_gd (t := gF c 9) (len := len) (len + 1) 0 [] (Nat.zero_le _) (Nat.le_refl _) (Nat.le_refl _) (fun q hq => absurd hq (by simp))
  unfold wp_X7_law wp_X3_read wp_X3_readLines
  -- the model, for either end
  have hmod : ∀ Q : Int32 → rfS → Prop,
      ((lwLs (gF c 9) len (len + 1) 0 []).1 = true → ∀ m2, (∀ k, ¬ (4 ≤ k ∧ k ≤ 11) → gF m2 k = gF m k) → (∀ j, ¬ (3 ≤ j ∧ j ≤ 14) → gI m2 0 j = gI m 0 j) → (∀ k, gL m2 k = gL m k) → gI m2 0 3 = 0 → gI m2 0 5 = 1 → gI m2 0 6 = nI (lwLs (gF c 9) len (len + 1) 0 []).2.2.length → lwTab m2 (lwLs (gF c 9) len (len + 1) 0 []).2.2 0 0 → Q 1 m2) →
      ((lwLs (gF c 9) len (len + 1) 0 []).1 = false → ∀ m2, (∀ k, ¬ (8 ≤ k ∧ k ≤ 11) → gF m2 k = gF m k) → (∀ j, ¬ (j = 3 ∨ (11 ≤ j ∧ j ≤ 14)) → gI m2 0 j = gI m 0 j) → (∀ k, gL m2 k = gL m k) → gI m2 0 3 = 0 → Q (-100 - nI (lwLs (gF c 9) len (len + 1) 0 []).2.1) m2) →
      wp_X8_law (wp_X8_isLine (MIE 42).2.2.2.2.2) m Q := by
    intro Q h1 h0
    unfold wp_X8_law
    have AG0 : ∀ k, gF (sI (sI (sI (sI m 0 11 0) 0 12 0) 0 13 0) 0 14 0) k = gF m k := fun _ => rfl
    have AGi : ∀ j, ¬ (11 ≤ j ∧ j ≤ 14) → gI (sI (sI (sI (sI m 0 11 0) 0 12 0) 0 13 0) 0 14 0) 0 j = gI m 0 j := fun j hj => by
      rw [gI_sI, if_neg (by omega), gI_sI, if_neg (by omega), gI_sI, if_neg (by omega), gI_sI, if_neg (by omega)]
    refine lsM (len + 1) 0 [] _ hM (Nat.zero_le _) (by omega) (Nat.le_refl _) (Nat.le_refl _) ⟨?_, ?_, ?_, fun i hi => absurd hi (by simp [lwCl])⟩ (fun k q hq => by simp at hq) ?_ (fun ok σ2 A2 S2 T2 n2 => ?_) (fun bad σ2 A2 at2 => ?_) _ (fun r σ1 hw => ⟨len + 1, hw⟩)
    · rw [gI_sI, if_neg (by decide), gI_sI, if_neg (by decide), gI_sI, if_neg (by decide), gI_sI, if_pos ⟨rfl, rfl⟩]; rfl
    · rw [gI_sI, if_neg (by decide), gI_sI, if_neg (by decide), gI_sI, if_pos ⟨rfl, rfl⟩]; rfl
    · rw [gI_sI, if_neg (by decide), gI_sI, if_pos ⟨rfl, rfl⟩]; rfl
    · rw [gI_sI, if_pos ⟨rfl, rfl⟩]; rfl
    · obtain ⟨d1, d2, d3, d4, d5⟩ := ggd ok
      have h60 : (lwLs (gF c 9) len (len + 1) 0 []).2.2.length ≤ 60 := by omega
      unfold wj_X8_law_66
      refine ⟨fun _ => ?_, fun q => absurd q (by decide)⟩
      rw [n2]
      refine ⟨(lwLs (gF c 9) len (len + 1) 0 []).2.2.length + 1, ?_⟩
      refine cp99 h60 (by rw [gI_sI, if_pos ⟨rfl, rfl⟩]) (fun σ3 h3 => ?_) _ 0 _ (by omega) ⟨fun _ _ => rfl, fun _ _ => rfl, fun _ => rfl, fun i hi => absurd hi (by omega)⟩
      have e13 : gI σ3 0 13 = nI (lwCl (lwLs (gF c 9) len (len + 1) 0 []).2.2).length := by
        rw [h3.1, gI_sI, if_neg (by decide), gI_sI, if_neg (by decide), gI_sI, if_neg (by decide)]
        exact S2.2.2.1
      refine ⟨(lwCl (lwLs (gF c 9) len (len + 1) 0 []).2.2).length + 1, ?_⟩
      refine cp151 (by omega) e13 (fun σ4 h4 => ?_) _ 0 _ (by omega) ⟨fun _ _ => rfl, fun _ _ => rfl, fun _ => rfl, fun i hi => absurd hi (by omega)⟩
      refine h1 ok σ4 (fun k hk => ?_) (fun j hj => ?_) (fun k => ?_) ?_ ?_ ?_ ?_
      · rw [h4.2.1 k (by omega), h3.2.1 k (by omega)]
        exact A2.2.1 k (by omega)
      · rw [h4.1, h3.1, gI_sI, if_neg (by omega), gI_sI, if_neg (by omega), gI_sI, if_neg (by omega), A2.1 0 j (by omega)]
        exact AGi j (by omega)
      · exact (h4.2.2.1 k).trans ((h3.2.2.1 k).trans (A2.2.2 k))
      · rw [h4.1, h3.1, gI_sI, if_neg (by decide), gI_sI, if_neg (by decide), gI_sI, if_pos ⟨rfl, rfl⟩]
      · rw [h4.1, h3.1, gI_sI, if_neg (by decide), gI_sI, if_pos ⟨rfl, rfl⟩]
      · rw [h4.1, h3.1, gI_sI, if_pos ⟨rfl, rfl⟩]
      · refine lwTab_of (L := (lwLs (gF c 9) len (len + 1) 0 []).2.2) (fun k q hq => ?_) (fun i hi => ?_) _ [] rfl
        · have hk : k < (lwLs (gF c 9) len (len + 1) 0 []).2.2.length := (List.getElem?_eq_some_iff.mp hq).1
          obtain ⟨e1, e2, e3⟩ := h3.2.2.2 k hk
          rw [h4.2.1 4 (by decide), h4.2.1 5 (by decide), h4.2.1 6 (by decide), e1, e2, e3]
          exact T2 k q hq
        · rw [h4.2.2.2 i hi, h3.2.1 11 (by decide)]
          exact S2.2.2.2 i hi
    · refine h0 bad _ (fun k hk => (A2.2.1 k hk).trans (AG0 k)) (fun j hj => ?_) (fun k => A2.2.2 k) (by rw [gI_sI, if_pos ⟨rfl, rfl⟩])
      rw [gI_sI, if_neg (by omega), A2.1 0 j (by omega)]
      exact AGi j (by omega)
  have Cf : ∀ k, gF (sI (sI c 6 5 0) 6 7 0) k = gF c k := fun _ => rfl
  have Ci : ∀ k j, ¬ (k = 6 ∧ (j = 5 ∨ j = 7)) → gI (sI (sI c 6 5 0) 6 7 0) k j = gI c k j := fun k j hk => by
    rw [gI_sI, if_neg (fun q => hk ⟨q.2, Or.inr q.1⟩), gI_sI, if_neg (fun q => hk ⟨q.2, Or.inl q.1⟩)]
  refine ⟨len + 1, lsC hC (len + 1) 0 0 [] _ (by omega) (Nat.le_refl _) (Nat.zero_le _) (Nat.le_refl _) hS0 (fun ok σ2 S2 l121 => ?_) (fun bad L2 σ2 S2 => ?_)⟩
  · obtain ⟨d1, d2, d3, d4, d5⟩ := ggd ok
    obtain ⟨s1, s2, s3, s4, s5, s6⟩ := S2
    rw [s5, cl _ (by omega)]
    refine ⟨fun _ => ⟨?_, by omega, by omega, fun q => absurd rfl q, fun _ => ?_⟩, fun q => absurd q (by decide)⟩
    · rw [i_lt, nI_toInt (by omega), show (0 : Int32).toInt = 0 from rfl]
      omega
    · refine hmod _ (fun _ m2 f1 f2 f3 f4 f5 f6 f7 => ⟨rfl, n, bs, ?_⟩) (fun bad => absurd (ok.symm.trans bad) (by decide))
      refine h.law (RTp_0 ?_ f4) (Or.inr ⟨_, d2, l121, ?_, fun i hi => ?_, d5, f5, f6, by omega, f7⟩) (fun k k7 k10 => ?_) (fun k hk j => ?_) (fun k => ?_) f1 f2 f3
      · rw [gI_sI, if_neg (by decide), gI_cF, gI_sI, if_pos ⟨rfl, rfl⟩]
      · rw [gI_sI, if_pos ⟨rfl, rfl⟩]
      · rw [gF_sI, gF_cF, if_pos ⟨rfl, by omega, by omega⟩, gF_sI, show 0 + (i - 0) = i by omega]
        exact s6 i hi
      · rw [gF_sI_f, gF_cF_ne k7, gF_sI_f, s2 k k10]
        exact Cf k
      · rw [gI_sI, if_neg (fun q => hk q.2), gI_cF, gI_sI, if_neg (fun q => hk q.2), s1 k j (fun q => hk q.1)]
        exact Ci k j (fun q => hk q.1)
      · exact (s3 k).trans rfl
  · obtain ⟨s1, s2, s3, s4, s5, s6⟩ := S2
    rw [s4]
    refine ⟨fun q => absurd rfl q, fun _ => ⟨fun _ => ?_, fun q => ?_⟩⟩
    · refine hmod _ (fun ok => absurd (bad.symm.trans ok) (by decide)) (fun _ m2 f1 f2 f3 f4 => ⟨rfl, n, bs, ?_⟩)
      refine h.law (RTp_0 (by rw [gI_sI, if_pos ⟨rfl, rfl⟩]) f4) (h.2.2.1.fr ?_ ?_ (f2 5 (by decide)) (f2 6 (by decide)) (f1 4 (by decide)) (f1 5 (by decide)) (f1 6 (by decide)) (f1 7 (by decide))) (fun k k7 k10 => ?_) (fun k hk j => ?_) (fun k => (s3 k).trans rfl) (fun k hk => f1 k (by omega)) (fun j hj => f2 j (by omega)) f3
      · rw [gI_sI, if_neg (by decide), s1 6 1 (by decide)]
        exact Ci 6 1 (by decide)
      · rw [gF_sI_f, s2 7 (by decide)]
        exact Cf 7
      · rw [gF_sI_f, s2 k k10]
        exact Cf k
      · rw [gI_sI, if_neg (fun q => hk q.2), s1 k j (fun q => hk q.1)]
        exact Ci k j (fun q => hk q.1)
    · have := congrArg Int32.toInt q
      rw [nI_toInt (by omega), show (-1 : Int32).toInt = -1 from rfl] at this
      omega

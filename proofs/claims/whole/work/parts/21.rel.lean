/-! the relation between the class's state c and the model's state m -/
def rg (lo hi x : Int32) : Prop := lo ≤ x ∧ x ≤ hi
def wLo (w : Nat) : Int32 := if w = 3 then 1 else 0
def wHi (w : Nat) : Int32 := match w with
  | 0 => 127
  | 1 => 99
  | 2 => 255
  | 3 => 9
  | 4 => 3
  | 5 => 7
  | 6 => 99
  | _ => 6
def bnd (n w : Nat) : Nat := if w < 4 then n else if w < 6 then 7 else 1
/-- number w of i, as the class and the model hold it -/
def vC (c : rfS) (w i : Nat) : Int32 := match w with
  | 0 => gF c 2 i
  | 1 => gF c 13 i
  | 2 => gF c 14 i
  | 3 => gF c 3 i
  | 4 => gF c 4 i
  | 5 => gF c 5 i
  | 6 => gI c 12 2
  | _ => gI c 12 3
def vM (m : rfS) (w i : Nat) : Int32 := if w < 6 then gF m 1 (7 * w + i) else gF m 2 (w - 6)
def upC (c : rfS) (w i : Nat) (v : Int32) : rfS := match w with
  | 0 => sF c 2 i v
  | 1 => sF c 13 i v
  | 2 => sF c 14 i v
  | 3 => sF c 3 i v
  | 4 => sF c 4 i v
  | 5 => sF c 5 i v
  | 6 => sI c 12 2 v
  | _ => sI c 12 3 v
def upM (m : rfS) (w i : Nat) (v : Int32) : rfS := if w < 6 then sF m 1 (7 * w + i) v else sF m 2 (w - 6) v
def RV (n : Nat) (c m : rfS) : Prop := n ≤ 7 ∧ gI c 1 0 = nI n ∧ gI m 0 0 = nI n ∧ ∀ w i, w < 8 → i < bnd n w → vC c w i = vM m w i ∧ rg (wLo w) (wHi w) (vC c w i)
def RTp (c m : rfS) : Prop := ∃ len, len ≤ 120 ∧ gI c 6 4 = nI len ∧ gI m 0 3 = nI len ∧ ∀ i, i < len → gF c 9 i = gF m 3 i ∧ rg 0 255 (gF c 9 i)
def RLd (c m : rfS) : Prop := ∀ i, i < 5 → gF c 15 i = gF m 14 i
def RIm (n : Nat) (c m : rfS) : Prop := (gI c 0 6 = 0 ∧ gI m 0 22 = 0) ∨ (gI c 0 6 = 1 ∧ gI m 0 22 = 1 ∧ ∃ k, k ≤ n ∧ gI c 0 5 = nI k ∧ gI m 0 23 = nI k ∧ (∀ i, i < k → gF c 17 i = gF m 15 i ∧ rg 0 99 (gF c 17 i) ∧ gF c 18 i = gF m 15 (7 + i) ∧ rg 0 255 (gF c 18 i)) ∧ gI c 16 2 = gF m 15 14 ∧ rg 0 99 (gI c 16 2) ∧ gI c 16 3 = gF m 15 15 ∧ rg 0 6 (gI c 16 3) ∧ ∀ i, i < 5 → gF c 19 i = gF m 16 i)
def chOK (n : Nat) (c m : rfS) (i : Nat) : Prop := ∃ j w, w < 8 ∧ j < bnd n w ∧ gF c 45 i = nI j ∧ gF m 17 (4 * i) = nI j ∧ gF c 46 i = nI w ∧ gF m 17 (4 * i + 1) = nI w ∧ gF c 47 i = gF m 17 (4 * i + 2) ∧ rg (wLo w) (wHi w) (gF c 47 i) ∧ gF c 48 i = gF m 17 (4 * i + 3) ∧ rg (wLo w) (wHi w) (gF c 48 i)
def RCh (n : Nat) (c m : rfS) : Prop := ∃ dn kp, dn ≤ kp ∧ kp ≤ 40 ∧ gI c 44 4 = nI dn ∧ gI m 0 27 = nI dn ∧ gI c 44 5 = nI kp ∧ gI m 0 26 = nI kp ∧ ∀ i, i < kp → chOK n c m i
def RBo (bs : Nat) (c m : rfS) : Prop := bs ≤ 50 ∧ gI c 49 1 = nI bs ∧ gI m 0 29 = nI bs ∧ ∀ i, i < bs → gF c 50 i = gF m 18 i ∧ ∃ k, k < 8 ∧ gF c 50 i = nI k
def RTr (c m : rfS) : Prop := ∃ k, k < 1000 ∧ gI c 49 3 = nI k ∧ gI m 0 31 = nI k ∧ ∀ i, i < k → i < 24 → gF c 51 i = gF m 19 i
def shRow (c m : rfS) (s t k : Nat) : Prop := gI c (53 + 2 * s) 0 = nI t ∧ gF m 20 s = nI t ∧ gI c (53 + 2 * s) 2 = nI k ∧ gF m 21 s = nI k ∧ ∀ i, i < k → gL c (53 + 2 * s + 1) i = gL m 22 (60 * s + i) ∧ (t = 0 → -128 ≤ gL c (53 + 2 * s + 1) i ∧ gL c (53 + 2 * s + 1) i ≤ 127)
def shOK (bs : Nat) (c m : rfS) (s : Nat) : Prop := (gI c (53 + 2 * s) 0 = -2 ∧ gF m 20 s = -1) ∨ (∃ b, b < bs ∧ gI c (53 + 2 * s) 0 = -1 ∧ gI c (53 + 2 * s) 1 = nI b ∧ gF m 20 s = nI (10 + b)) ∨ ∃ t k, t < 5 ∧ k ≤ 60 ∧ shRow c m s t k
def RSh (bs : Nat) (c m : rfS) : Prop := ∀ s, s < 6 → shOK bs c m s
def RMd (c : rfS) : Prop := ∀ j, 896 ≤ j → j < 1024 → gF c 24 j = 0
/-! the law: lines of codes (the model's numbers), a first part that asks, if there is one -/
def lwTok (t : Int32) : Int32 := if 18 ≤ t then t - 18 else if t ≤ 5 then -1 - t else
  if t = 6 then -124 else if t = 7 then -38 else if t = 8 then -60 else if t = 9 then -61 else if t = 10 then -62 else if t = 11 then -43 else if t = 12 then -45 else
  if t = 13 then -42 else if t = 14 then -47 else if t = 15 then -37 else if t = 16 then -33 else -126
/-- a code that goes from d values to so many -/
def lwWf : List Int32 → Nat → Option Nat
  | [], d => some d
  | t :: r, d => if 18 ≤ t ∨ t ≤ 5 then lwWf r (d + 1) else if t = 16 ∨ t = 17 then (if d = 0 then none else lwWf r d) else if d < 2 then none else lwWf r (d - 1)
def lwOk (t : Int32) : Prop := 0 ≤ t ∧ t ≤ 10017
def lwLine (q : Option (List Int32) × List Int32) : List Int32 := (match q.1 with
  | some a => a.map lwTok ++ [-63]
  | none => []) ++ q.2.map lwTok ++ [-59]
def lwGood (q : Option (List Int32) × List Int32) : Prop := (∀ a, q.1 = some a → a ≠ [] ∧ lwWf a 0 = some 1 ∧ ∀ t ∈ a, lwOk t) ∧ lwWf q.2 0 = some 1 ∧ ∀ t ∈ q.2, lwOk t
/-- the model's tables of lines from line k, code from place p on -/
def lwTab (m : rfS) : List (Option (List Int32) × List Int32) → Nat → Nat → Prop
  | [], _, _ => True
  | q :: r, k, p => gF m 4 k = nI p ∧ gF m 5 k = nI (p + (q.1.getD []).length) ∧ gF m 6 k = nI (p + (q.1.getD []).length + q.2.length) ∧ (∀ i, i < (q.1.getD []).length → gF m 7 (p + i) = (q.1.getD []).getD i 0) ∧ (∀ i, i < q.2.length → gF m 7 (p + (q.1.getD []).length + i) = q.2.getD i 0) ∧ lwTab m r (k + 1) (p + (q.1.getD []).length + q.2.length)
def RLw (c m : rfS) : Prop := (gI c 6 1 = 0 ∧ gI m 0 5 = 0) ∨ ∃ L : List (Option (List Int32) × List Int32), L ≠ [] ∧ (L.flatMap lwLine).length ≤ 121 ∧ gI c 6 1 = nI (L.flatMap lwLine).length ∧ (∀ i, i < (L.flatMap lwLine).length → gF c 7 i = (L.flatMap lwLine).getD i 0) ∧ (∀ q ∈ L, lwGood q) ∧ gI m 0 5 = 1 ∧ gI m 0 6 = nI L.length ∧ L.length ≤ 60 ∧ lwTab m L 0 0
def Rel (n bs : Nat) (c m : rfS) : Prop := RV n c m ∧ RTp c m ∧ RLw c m ∧ RLd c m ∧ RIm n c m ∧ RCh n c m ∧ RBo bs c m ∧ RTr c m ∧ RSh bs c m ∧ RMd c
/-! frames -/
theorem RTp.fr {c m c2 m2 : rfS} (h : RTp c m) (h1 : gI c2 6 4 = gI c 6 4) (h2 : gF c2 9 = gF c 9) (h3 : gI m2 0 3 = gI m 0 3) (h4 : gF m2 3 = gF m 3) : RTp c2 m2 := by
  unfold RTp; rw [h1, h2, h3, h4]; exact h
theorem RLd.fr {c m c2 m2 : rfS} (h : RLd c m) (h1 : gF c2 15 = gF c 15) (h2 : gF m2 14 = gF m 14) : RLd c2 m2 := by
  unfold RLd; rw [h1, h2]; exact h
theorem RIm.fr {n : Nat} {c m c2 m2 : rfS} (h : RIm n c m) (h1 : gI c2 0 = gI c 0) (h2 : gI c2 16 = gI c 16) (h3 : gF c2 17 = gF c 17) (h4 : gF c2 18 = gF c 18) (h5 : gF c2 19 = gF c 19) (h6 : gI m2 0 22 = gI m 0 22) (h7 : gI m2 0 23 = gI m 0 23) (h8 : gF m2 15 = gF m 15) (h9 : gF m2 16 = gF m 16) : RIm n c2 m2 := by
  unfold RIm; rw [h1, h2, h3, h4, h5, h6, h7, h8, h9]; exact h
theorem RCh.fr {n : Nat} {c m c2 m2 : rfS} (h : RCh n c m) (h1 : gI c2 44 = gI c 44) (h2 : gF c2 45 = gF c 45) (h3 : gF c2 46 = gF c 46) (h4 : gF c2 47 = gF c 47) (h5 : gF c2 48 = gF c 48) (h6 : gI m2 0 27 = gI m 0 27) (h7 : gI m2 0 26 = gI m 0 26) (h8 : gF m2 17 = gF m 17) : RCh n c2 m2 := by
  unfold RCh chOK; rw [h1, h2, h3, h4, h5, h6, h7, h8]; exact h
theorem RBo.fr {bs : Nat} {c m c2 m2 : rfS} (h : RBo bs c m) (h1 : gI c2 49 1 = gI c 49 1) (h2 : gF c2 50 = gF c 50) (h3 : gI m2 0 29 = gI m 0 29) (h4 : gF m2 18 = gF m 18) : RBo bs c2 m2 := by
  unfold RBo; rw [h1, h2, h3, h4]; exact h
theorem RTr.fr {c m c2 m2 : rfS} (h : RTr c m) (h1 : gI c2 49 3 = gI c 49 3) (h2 : gF c2 51 = gF c 51) (h3 : gI m2 0 31 = gI m 0 31) (h4 : gF m2 19 = gF m 19) : RTr c2 m2 := by
  unfold RTr; rw [h1, h2, h3, h4]; exact h
theorem shOK.fr {bs s : Nat} {c m c2 m2 : rfS} (h : shOK bs c m s) (h1 : gI c2 (53 + 2 * s) = gI c (53 + 2 * s)) (h2 : gL c2 (53 + 2 * s + 1) = gL c (53 + 2 * s + 1)) (h3 : gF m2 20 s = gF m 20 s) (h4 : gF m2 21 s = gF m 21 s) (h5 : ∀ i, i < 60 → gL m2 22 (60 * s + i) = gL m 22 (60 * s + i)) : shOK bs c2 m2 s := by
  unfold shOK shRow at h ⊢
  rw [h1, h2, h3, h4]
  rcases h with h | h | ⟨t, k, ht, hk, a1, a2, a3, a4, a5⟩
  · exact Or.inl h
  · exact Or.inr (Or.inl h)
  · exact Or.inr (Or.inr ⟨t, k, ht, hk, a1, a2, a3, a4, fun i hi => by rw [h5 i (by omega)]; exact a5 i hi⟩)
theorem RSh.fr {bs : Nat} {c m c2 m2 : rfS} (h : RSh bs c m) (h1 : ∀ k, 53 ≤ k → gI c2 k = gI c k ∧ gL c2 k = gL c k) (h3 : gF m2 20 = gF m 20) (h4 : gF m2 21 = gF m 21) (h5 : gL m2 22 = gL m 22) : RSh bs c2 m2 := fun s hs => (h s hs).fr (h1 _ (by omega)).1 (h1 _ (by omega)).2 (by rw [h3]) (by rw [h4]) (fun i _ => by rw [h5])
theorem RMd.fr {c c2 : rfS} (h : RMd c) (h1 : gF c2 24 = gF c 24) : RMd c2 := by
  unfold RMd; rw [h1]; exact h
theorem lwTab.fr {m m2 : rfS} (h4 : gF m2 4 = gF m 4) (h5 : gF m2 5 = gF m 5) (h6 : gF m2 6 = gF m 6) (h7 : gF m2 7 = gF m 7) : ∀ (L : List (Option (List Int32) × List Int32)) (k p : Nat), lwTab m L k p → lwTab m2 L k p
  | [], _, _, _ => trivial
  | q :: r, k, p, h => by
    unfold lwTab at h ⊢
    rw [h4, h5, h6, h7]
    exact ⟨h.1, h.2.1, h.2.2.1, h.2.2.2.1, h.2.2.2.2.1, lwTab.fr h4 h5 h6 h7 r _ _ h.2.2.2.2.2⟩
theorem RLw.fr {c m c2 m2 : rfS} (h : RLw c m) (h1 : gI c2 6 1 = gI c 6 1) (h2 : gF c2 7 = gF c 7) (h3 : gI m2 0 5 = gI m 0 5) (h3b : gI m2 0 6 = gI m 0 6) (h4 : gF m2 4 = gF m 4) (h5 : gF m2 5 = gF m 5) (h6 : gF m2 6 = gF m 6) (h7 : gF m2 7 = gF m 7) : RLw c2 m2 := by
  unfold RLw at h ⊢
  rw [h1, h2, h3, h3b]
  rcases h with h | ⟨L, a1, a2, a3, a4, a5, a6, a7, a8, a9⟩
  · exact Or.inl h
  · exact Or.inr ⟨L, a1, a2, a3, a4, a5, a6, a7, a8, lwTab.fr h4 h5 h6 h7 L 0 0 a9⟩
/-- the views behind a change -/
theorem w8 {w : Nat} (h : w < 8) : w = 0 ∨ w = 1 ∨ w = 2 ∨ w = 3 ∨ w = 4 ∨ w = 5 ∨ w = 6 ∨ w = 7 := by omega
theorem vC_up {c : rfS} {w i w2 i2 : Nat} {v : Int32} (h : w < 8) (h2 : w2 < 8) : vC (upC c w i v) w2 i2 = if w2 = w ∧ (i2 = i ∨ 6 ≤ w) then v else vC c w2 i2 := by
  rcases w8 h with rfl | rfl | rfl | rfl | rfl | rfl | rfl | rfl <;> rcases w8 h2 with rfl | rfl | rfl | rfl | rfl | rfl | rfl | rfl <;> simp [vC, upC, gF_sF, gI_sI, gF_sI, gI_sF]
theorem vM_up {n : Nat} {m : rfS} {w i w2 i2 : Nat} {v : Int32} (hn : n ≤ 7) (h : w < 8) (h2 : w2 < 8) (hi : i < bnd n w) (hi2 : i2 < bnd n w2) : vM (upM m w i v) w2 i2 = if w2 = w ∧ (i2 = i ∨ 6 ≤ w) then v else vM m w2 i2 := by
  unfold bnd at hi hi2
  unfold vM upM
  by_cases a : w < 6 <;> by_cases b : w2 < 6
  · simp only [a, b, if_true]
    rw [gF_sF]
    have hi7 : i < 7 := by split at hi <;> omega
    have hi72 : i2 < 7 := by split at hi2 <;> omega
    by_cases q : w2 = w ∧ (i2 = i ∨ 6 ≤ w)
    · rw [if_pos q, if_pos ⟨rfl, by omega⟩]
    · rw [if_neg q, if_neg (fun z => q (by omega))]
  · simp only [a, b, if_true, if_false, gF_sF]
    have e : ¬ (w2 = w ∧ (i2 = i ∨ 6 ≤ w)) := by omega
    simp [e]
  · simp only [a, b, if_true, if_false, gF_sF]
    have e : ¬ (w2 = w ∧ (i2 = i ∨ 6 ≤ w)) := by omega
    simp [e]
  · simp only [a, b, if_false]
    rw [gF_sF]
    by_cases q : w2 = w ∧ (i2 = i ∨ 6 ≤ w)
    · rw [if_pos q, if_pos ⟨rfl, by omega⟩]
    · rw [if_neg q, if_neg (fun z => q (by omega))]
theorem RV.up {n : Nat} {c m : rfS} (h : RV n c m) {w i : Nat} {v : Int32} (hw : w < 8) (hi : i < bnd n w) (hv : rg (wLo w) (wHi w) v) : RV n (upC c w i v) (upM m w i v) := by
  obtain ⟨h1, h2, h3, h4⟩ := h
  refine ⟨h1, ?_, ?_, fun w2 i2 hw2 hi2 => ?_⟩
  · rw [← h2]
    rcases w8 hw with rfl | rfl | rfl | rfl | rfl | rfl | rfl | rfl <;> simp [upC, gI_sF, gI_sI]
  · rw [← h3]
    unfold upM
    split <;> rfl
  · rw [vC_up hw hw2, vM_up h1 hw hw2 hi hi2]
    by_cases e : w2 = w ∧ (i2 = i ∨ 6 ≤ w)
    · rw [if_pos e, if_pos e]
      rw [e.1]
      exact ⟨rfl, hv⟩
    · rw [if_neg e, if_neg e]
      exact h4 w2 i2 hw2 hi2

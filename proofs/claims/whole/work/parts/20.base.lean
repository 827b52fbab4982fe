/-! bools as ints; small facts on Int32 -/
def bI (c : Prop) [Decidable c] : Int32 := if c then 1 else 0
theorem bI_t {c : Prop} [Decidable c] (h : c) : bI c = 1 := if_pos h
theorem bI_f {c : Prop} [Decidable c] (h : ¬ c) : bI c = 0 := if_neg h
theorem bI_0 {c : Prop} [Decidable c] : (bI c = 0) = ¬ c := by
  unfold bI
  by_cases h : c
  · simp [h]
  · simp [h]
theorem bI_Z {c : Prop} [Decidable c] : rfZ (bI c) := by
  unfold bI
  by_cases h : c
  · rw [if_pos h]; exact Or.inr rfl
  · rw [if_neg h]; exact Or.inl rfl
theorem bI_c {c e : Prop} [Decidable c] [Decidable e] (h : c ↔ e) : bI c = bI e := by
  unfold bI
  by_cases hc : c
  · rw [if_pos hc, if_pos (h.mp hc)]
  · rw [if_neg hc, if_neg (fun q => hc (h.mpr q))]
theorem i_le {a b : Int32} : a ≤ b ↔ a.toInt ≤ b.toInt := Int32.le_iff_toInt_le
theorem i_lt {a b : Int32} : a < b ↔ a.toInt < b.toInt := Int32.lt_iff_toInt_lt
theorem i_eq {a b : Int32} : a = b ↔ a.toInt = b.toInt := Int32.toInt_inj.symm
theorem gF_sF_ne {σ : rfS} {k j : Nat} {v : Int32} {k2 : Nat} (h : k2 ≠ k) : gF (sF σ k j v) k2 = gF σ k2 := by
  funext b; rw [gF_sF, if_neg (fun q => h q.1)]
theorem gF_sI_f {σ : rfS} {k j : Nat} {v : Int32} {k2 : Nat} : gF (sI σ k j v) k2 = gF σ k2 := rfl
theorem gF_sL_f {σ : rfS} {k j : Nat} {v : Int64} {k2 : Nat} : gF (sL σ k j v) k2 = gF σ k2 := rfl
theorem gL_sL_ne {σ : rfS} {k j : Nat} {v : Int64} {k2 : Nat} (h : k2 ≠ k) : gL (sL σ k j v) k2 = gL σ k2 := by
  funext b; rw [gL_sL, if_neg (fun q => h q.1)]
theorem gL_sI_f {σ : rfS} {k j : Nat} {v : Int32} {k2 : Nat} : gL (sI σ k j v) k2 = gL σ k2 := rfl
theorem gL_sF_f {σ : rfS} {k j : Nat} {v : Int32} {k2 : Nat} : gL (sF σ k j v) k2 = gL σ k2 := rfl
theorem gI_sF_f {σ : rfS} {k j : Nat} {v : Int32} {k2 : Nat} : gI (sF σ k j v) k2 = gI σ k2 := rfl
theorem gI_sL_f {σ : rfS} {k j : Nat} {v : Int64} {k2 : Nat} : gI (sL σ k j v) k2 = gI σ k2 := rfl
theorem gF_cF_ne {σ : rfS} {k k2 sp dp n k3 : Nat} (h : k3 ≠ k2) : gF (cF σ k k2 sp dp n) k3 = gF σ k3 := by
  funext b; rw [gF_cF, if_neg (fun q => h q.1)]
theorem gI_cF_f {σ : rfS} {k k2 sp dp n k3 : Nat} : gI (cF σ k k2 sp dp n) k3 = gI σ k3 := rfl
theorem gL_cF_f {σ : rfS} {k k2 sp dp n k3 : Nat} : gL (cF σ k k2 sp dp n) k3 = gL σ k3 := rfl
theorem gL_cL_ne {σ : rfS} {k k2 sp dp n k3 : Nat} (h : k3 ≠ k2) : gL (cL σ k k2 sp dp n) k3 = gL σ k3 := by
  funext b; rw [gL_cL, if_neg (fun q => h q.1)]
theorem gI_cL_f {σ : rfS} {k k2 sp dp n k3 : Nat} : gI (cL σ k k2 sp dp n) k3 = gI σ k3 := rfl
theorem gF_cL_f {σ : rfS} {k k2 sp dp n k3 : Nat} : gF (cL σ k k2 sp dp n) k3 = gF σ k3 := rfl
/-! the smallest methods -/
theorem w_isWithin (σ : rfS) (v lo hi : Int32) (Q : Int32 → rfS → Prop) : wp_X7_isWithin σ v lo hi Q = Q (bI (lo ≤ v ∧ v ≤ hi)) σ := by
  unfold wp_X7_isWithin
  by_cases h1 : v < lo
  · rw [bI_f (fun q => Int32.not_lt.mpr q.1 h1)]; simp [h1]
  · by_cases h2 : hi < v
    · rw [bI_f (fun q => Int32.not_lt.mpr q.2 h2)]; simp [h1, h2]
    · rw [bI_t ⟨Int32.not_lt.mp h1, Int32.not_lt.mp h2⟩]; simp [h1, h2]
theorem w_within (σ : rfS) (v lo hi : Int32) (Q : Int32 → rfS → Prop) : wp_X8_within σ v lo hi Q = Q (bI (lo ≤ v ∧ v ≤ hi)) σ := by
  unfold wp_X8_within
  by_cases h1 : v < lo
  · rw [bI_f (fun q => Int32.not_lt.mpr q.1 h1)]; simp [h1]
  · by_cases h2 : hi < v
    · rw [bI_f (fun q => Int32.not_lt.mpr q.2 h2)]; simp [h1, h2]
    · rw [bI_t ⟨Int32.not_lt.mp h1, Int32.not_lt.mp h2⟩]; simp [h1, h2]
theorem w_isShelf (σ : rfS) (v : Int32) (Q : Int32 → rfS → Prop) : wp_X7_isShelf σ v Q = Q (bI (0 ≤ v ∧ v ≤ 5)) σ := by
  unfold wp_X7_isShelf
  rw [w_isWithin]
  simp [bI_Z]
theorem w_mShelf (σ : rfS) (v : Int32) (Q : Int32 → rfS → Prop) : wp_X8_isShelf σ v Q = Q (bI (0 ≤ v ∧ v ≤ 5)) σ := by
  unfold wp_X8_isShelf
  rw [w_within]
  simp [bI_Z]
theorem w_isOne (σ : rfS) (v : Int32) (Q : Int32 → rfS → Prop) : wp_X2_isOne σ v Q = Q (bI (0 ≤ v ∧ v < gI σ 1 0)) σ := by
  unfold wp_X2_isOne
  by_cases h1 : v < 0
  · rw [bI_f (fun q => Int32.not_lt.mpr q.1 h1)]; simp [h1]
  · by_cases h2 : gI σ 1 0 ≤ v
    · rw [bI_f (fun q => Int32.not_le.mpr q.2 h2)]; simp [h1, h2]
    · rw [bI_t ⟨Int32.not_lt.mp h1, Int32.not_le.mp h2⟩]; simp [h1, h2]
theorem w_mOne (σ : rfS) (v : Int32) (Q : Int32 → rfS → Prop) : wp_X8_isOne σ v Q = Q (bI (0 ≤ v ∧ v ≤ gI σ 0 0 - 1)) σ := by
  unfold wp_X8_isOne
  rw [w_within]
  simp [bI_Z]
/-- a bound by the number ahead -/
theorem i_pred {v : Int32} {n : Nat} (hn : n < 2 ^ 30) : v ≤ nI n - 1 ↔ v < nI n := by
  rw [i_le, i_lt, show (1 : Int32) = nI 1 from rfl, pk_sub_toInt hn (by decide), nI_toInt (by omega)]
  omega
/-- an int within 0 .. n less 1 is a number below n -/
theorem i_ix {v : Int32} {n : Nat} (hn : n < 2 ^ 31) (h0 : 0 ≤ v) (h1 : v < nI n) : ∃ j, j < n ∧ v = nI j := by
  rcases pk_ix v hn with h | h | h
  · exact absurd h (Int32.not_lt.mpr h0)
  · exact absurd h1 (Int32.not_lt.mpr h)
  · exact h

/-! the law worked out: both machines over one list of codes -/
def opV (t a b : Int32) : Int32 := if t = 6 then (if a = 0 ∧ b = 0 then 0 else 1) else if t = 7 then (if a = 0 ∨ b = 0 then 0 else 1) else if t = 8 then (if b ≤ a then 0 else 1) else if t = 9 then (if a = b then 1 else 0) else if t = 10 then (if a ≤ b then 0 else 1) else
  if t = 11 then a + b else if t = 12 then a - b else if t = 13 then a * b else if t = 14 then (if b = 0 then 0 else a / b) else (if b = 0 then 0 else a - a / b * b)
def unV (t a : Int32) : Int32 := if t = 17 then -a else if a = 0 then 1 else 0
def evT (nm : Nat → Int32) (t : Int32) (st : List Int32) : List Int32 := if 18 ≤ t then (t - 18) :: st else if t ≤ 5 then nm t.toNatClampNeg :: st else if t = 16 ∨ t = 17 then (match st with
  | a :: r => unV t a :: r
  | [] => []) else (match st with
  | b :: a :: r => opV t a b :: r
  | _ => [])
def evL (nm : Nat → Int32) : List Int32 → List Int32 → List Int32
  | [], st => st
  | t :: r, st => evL nm r (evT nm t st)
def stk (f : Nat → Int32) : List Int32 → Prop
  | [] => True
  | a :: r => f r.length = a ∧ stk f r
theorem stk_fr {f g : Nat → Int32} : ∀ (st : List Int32), (∀ i, i < st.length → g i = f i) → stk f st → stk g st
  | [], _, _ => trivial
  | a :: r, h, hs => ⟨by rw [h r.length (by simp)]; exact hs.1, stk_fr r (fun i hi => h i (by simp; omega)) hs.2⟩
theorem lwTk {t : Int32} (h : lwOk t) : (∃ k, k ≤ 9999 ∧ t = nI (18 + k)) ∨ ∃ j, j ≤ 17 ∧ t = nI j := by
  obtain ⟨a, ha, rfl⟩ := rg_n (hi := 10017) (by decide) h
  rcases Nat.lt_or_ge a 18 with q | q
  · exact Or.inr ⟨a, by omega, rfl⟩
  · exact Or.inl ⟨a - 18, by omega, by congr 1; omega⟩
theorem j17 {j : Nat} (h : j ≤ 17) : j = 0 ∨ j = 1 ∨ j = 2 ∨ j = 3 ∨ j = 4 ∨ j = 5 ∨ j = 6 ∨ j = 7 ∨ j = 8 ∨ j = 9 ∨ j = 10 ∨ j = 11 ∨ j = 12 ∨ j = 13 ∨ j = 14 ∨ j = 15 ∨ j = 16 ∨ j = 17 := by omega
theorem joinC {c : rfS} {j : Nat} {a b : Int32} (h1 : 6 ≤ j) (h2 : j ≤ 15) {Q : Int32 → rfS → Prop} (hq : Q (opV (nI j) a b) c) : wp_X3_joined c (-(lwTok (nI j))) a b Q := by
  have : j = 6 ∨ j = 7 ∨ j = 8 ∨ j = 9 ∨ j = 10 ∨ j = 11 ∨ j = 12 ∨ j = 13 ∨ j = 14 ∨ j = 15 := by omega
  unfold wp_X3_joined
  rcases this with rfl | rfl | rfl | rfl | rfl | rfl | rfl | rfl | rfl | rfl
  all_goals
    simp (decide := true) [lwTok, opV] at hq ⊢
    first
    | exact hq
    | (by_cases q2 : b = 0 <;> simp [q2] at hq ⊢ <;> exact hq)
    | (by_cases q1 : a = 0 <;> by_cases q2 : b = 0 <;> simp [q1, q2] at hq ⊢ <;> exact hq)
    | (refine ⟨fun q1 => ?_, fun q1 => ?_⟩
       · first | (rw [if_pos q1] at hq; exact hq) | (rw [if_neg (Int32.not_lt.mpr q1)] at hq; exact hq)
       · first | (rw [if_neg (Int32.not_le.mpr q1)] at hq; exact hq) | (rw [if_pos q1] at hq; exact hq) | (rw [if_neg q1] at hq; exact hq))
    | (by_cases q1 : a = b <;> simp [q1] at hq ⊢ <;> exact hq)
theorem bothM {m : rfS} {j : Nat} {a b : Int32} (h1 : 6 ≤ j) (h2 : j ≤ 15) {Q : Int32 → rfS → Prop} (hq : Q (opV (nI j) a b) m) : wp_X8_both m (nI j) a b Q := by
  have : j = 6 ∨ j = 7 ∨ j = 8 ∨ j = 9 ∨ j = 10 ∨ j = 11 ∨ j = 12 ∨ j = 13 ∨ j = 14 ∨ j = 15 := by omega
  unfold wp_X8_both
  rcases this with rfl | rfl | rfl | rfl | rfl | rfl | rfl | rfl | rfl | rfl
  all_goals
    simp (decide := true) [opV] at hq ⊢
    first
    | exact hq
    | (by_cases q2 : b = 0 <;> simp [q2] at hq ⊢ <;> exact hq)
    | (by_cases q1 : a = 0 <;> by_cases q2 : b = 0 <;> simp [q1, q2] at hq ⊢ <;> exact hq)
    | (refine ⟨fun q1 => ?_, fun q1 => ?_⟩
       · first | (rw [if_pos q1] at hq; exact hq) | (rw [if_neg (Int32.not_lt.mpr q1)] at hq; exact hq)
       · first | (rw [if_neg (Int32.not_le.mpr q1)] at hq; exact hq) | (rw [if_pos q1] at hq; exact hq) | (rw [if_neg q1] at hq; exact hq))
    | (by_cases q1 : a = b <;> simp [q1] at hq ⊢ <;> exact hq)
/-- only the cell k differs -/
def Fr1 (k : Nat) (c c2 : rfS) : Prop := (∀ q, q ≠ k → gF c2 q = gF c q) ∧ (∀ q, gI c2 q = gI c q) ∧ ∀ q, gL c2 q = gL c q
theorem Fr1.rf (k : Nat) (c : rfS) : Fr1 k c c := ⟨fun _ _ => rfl, fun _ => rfl, fun _ => rfl⟩
theorem Fr1.tr {k : Nat} {a b c : rfS} (h1 : Fr1 k a b) (h2 : Fr1 k b c) : Fr1 k a c := ⟨fun q hq => (h2.1 q hq).trans (h1.1 q hq), fun q => (h2.2.1 q).trans (h1.2.1 q), fun q => (h2.2.2 q).trans (h1.2.2 q)⟩
theorem Fr1.s (k : Nat) (c : rfS) (j : Nat) (v : Int32) : Fr1 k c (sF c k j v) := ⟨fun _ hq => gF_sF_ne hq, fun _ => rfl, fun _ => rfl⟩
theorem m1n (k : Nat) : nI (k + 1) + (-1) = nI k := pk_m1 k
/-- one code of the class's steps -/
theorem tokC {Q : Int32 → rfS → Prop} {kx : Int32 → rfS → Prop} {c : rfS} {f p S : Nat} {t : Int32} {st : List Int32} {nm : Nat → Int32} (ht : lwOk t) (hS : gI c 6 1 = nI S) (hp : p < S) (hS2 : S ≤ 121) (hc : gF c 7 p = lwTok t) (hnm : ∀ i, i < 6 → gF c 11 i = nm i) (hs : stk (gF c 8) st) (hl : st.length < 121)
    (hw : 18 ≤ t ∨ t ≤ 5 ∨ ((t = 16 ∨ t = 17) ∧ 1 ≤ st.length) ∨ 2 ≤ st.length)
    (hk : ∀ c2, Fr1 8 c c2 → stk (gF c2 8) (evT nm t st) → wl_X3_workOut_4 Q kx f (nI (evT nm t st).length) (nI (p + 1)) c2) : wl_X3_workOut_4 Q kx (f + 1) (nI st.length) (nI p) c := by
  unfold wl_X3_workOut_4
  rw [hS, cl p, hc, nI_1]
  refine ⟨fun q => by have := (nI_leI (by omega) (by omega)).mp q; omega, fun _ => ⟨vin (by omega), ?_⟩⟩
  have push : ∀ v : Int32, evT nm t st = v :: st → wj_X3_workOut_48 Q (wl_X3_workOut_4 Q kx f) (nI st.length) (nI p) v (nI st.length) c := by
    intro v hv
    unfold wj_X3_workOut_48
    rw [cl st.length, nI_1, nI_1]
    refine ⟨vin hl, ?_⟩
    have := hk (sF c 8 st.length v) (Fr1.s 8 c _ _) (by rw [hv]; exact ⟨gF_sFs, stk_fr st (fun i hi => gF_sFi (by omega)) hs⟩)
    rw [hv] at this
    exact this
  rcases lwTk ht with ⟨k, hk9, rfl⟩ | ⟨j, hj, rfl⟩
  · have e18 : (18 : Int32) ≤ nI (18 + k) := nI_le (a := 18) (by omega) (by omega)
    have et : lwTok (nI (18 + k)) = nI k := by
      unfold lwTok
      rw [if_pos e18, show (18 : Int32) = nI 18 from rfl, pk_sub (by omega)]
      congr 1
      omega
    have n0 : ¬ nI k < 0 := nI_pos (by omega)
    have n6 : ¬ nI k < -6 := fun q => n0 (Int32.lt_trans q (by decide))
    rw [et]
    refine ⟨fun q => absurd q n6, fun _ => ⟨fun q => absurd q n0, fun _ => push _ ?_⟩⟩
    unfold evT
    rw [if_pos e18, show (18 : Int32) = nI 18 from rfl, pk_sub (by omega)]
    congr 2
    omega
  · have name : ∀ i, i < 6 → j = i → evT nm (nI j) st = nm i :: st := by
      intro i hi e
      subst e
      unfold evT
      have : j = 0 ∨ j = 1 ∨ j = 2 ∨ j = 3 ∨ j = 4 ∨ j = 5 := by omega
      rcases this with rfl | rfl | rfl | rfl | rfl | rfl <;> rfl
    rcases Nat.lt_or_ge j 6 with h6 | h6
    · have e1 : ¬ lwTok (nI j) < -6 ∧ lwTok (nI j) < 0 ∧ -1 - lwTok (nI j) = nI j := by
        have : j = 0 ∨ j = 1 ∨ j = 2 ∨ j = 3 ∨ j = 4 ∨ j = 5 := by omega
        rcases this with rfl | rfl | rfl | rfl | rfl | rfl <;> decide
      refine ⟨fun q => absurd q e1.1, fun _ => ⟨fun _ => ?_, fun q => absurd e1.2.1 q⟩⟩
      rw [e1.2.2, cl j, hnm j h6]
      exact ⟨vin h6, push _ (name j h6 rfl)⟩
    · have n18 : ¬ (18 : Int32) ≤ nI j := fun q => by have := (nI_leI (a := 18) (by decide) (by omega)).mp q; omega
      have n5 : ¬ nI j ≤ 5 := fun q => by have := (nI_leI (b := 5) (by omega) (by decide)).mp q; omega
      rcases Nat.lt_or_ge j 16 with h16 | h16
      · -- a sign between two
        have e1 : lwTok (nI j) < -6 ∧ ¬ lwTok (nI j) = -59 ∧ ¬ lwTok (nI j) = -63 ∧ ¬ lwTok (nI j) = -33 ∧ ¬ lwTok (nI j) = -126 ∧ ¬ (nI j = 16 ∨ nI j = 17) := by
          have : j = 6 ∨ j = 7 ∨ j = 8 ∨ j = 9 ∨ j = 10 ∨ j = 11 ∨ j = 12 ∨ j = 13 ∨ j = 14 ∨ j = 15 := by omega
          rcases this with rfl | rfl | rfl | rfl | rfl | rfl | rfl | rfl | rfl | rfl <;> decide
        have h2 : 2 ≤ st.length := by
          rcases hw with q | q | q | q
          · exact absurd q n18
          · exact absurd q n5
          · exact absurd q.1 e1.2.2.2.2.2
          · exact q
        obtain ⟨b, a, r, rfl⟩ : ∃ b a r, st = b :: a :: r := by
          match st, h2 with
          | b :: a :: r, _ => exact ⟨b, a, r, rfl⟩
        obtain ⟨s1, s2, s3⟩ := hs
        have ee : evT nm (nI j) (b :: a :: r) = opV (nI j) a b :: r := by
          unfold evT
          rw [if_neg n18, if_neg n5, if_neg e1.2.2.2.2.2]
        rw [ee] at hk
        simp only [List.length_cons] at s1 hl hk ⊢
        refine ⟨fun _ => ⟨fun _ => ⟨fun _ => ⟨fun q => absurd q e1.2.2.2.1, fun _ => ⟨fun _ => ?_, fun q => absurd q e1.2.2.2.2.1⟩⟩, fun q => absurd q e1.2.2.1⟩, fun q => absurd q e1.2.1⟩, fun q => absurd e1.1 q⟩
        rw [m1n, nI_pred, cl (r.length + 1), cl r.length, s1, s2]
        exact ⟨vin (by omega), vin (by omega), joinC h6 (by omega) ⟨vin (by omega), hk _ (Fr1.s 8 c _ _) ⟨gF_sFs, stk_fr r (fun i hi => gF_sFi (by omega)) s3⟩⟩⟩
      · -- a sign ahead of one
        have e1 : lwTok (nI j) < -6 ∧ ¬ lwTok (nI j) = -59 ∧ ¬ lwTok (nI j) = -63 ∧ (lwTok (nI j) = -33 ∨ lwTok (nI j) = -126) ∧ (nI j = 16 ∨ nI j = 17) ∧ (lwTok (nI j) = -126 ↔ nI j = 17) := by
          have : j = 16 ∨ j = 17 := by omega
          rcases this with rfl | rfl <;> decide
        have h2 : 1 ≤ st.length := by
          rcases hw with q | q | q | q
          · exact absurd q n18
          · exact absurd q n5
          · exact q.2
          · omega
        obtain ⟨a, r, rfl⟩ : ∃ a r, st = a :: r := by
          match st, h2 with
          | a :: r, _ => exact ⟨a, r, rfl⟩
        obtain ⟨s1, s3⟩ := hs
        have ee : evT nm (nI j) (a :: r) = unV (nI j) a :: r := by
          unfold evT
          rw [if_neg n18, if_neg n5, if_pos e1.2.2.2.2.1]
        rw [ee] at hk
        simp only [List.length_cons] at hl hk ⊢
        have un : wj_X3_workOut_117 Q (wl_X3_workOut_4 Q kx f) (nI (r.length + 1)) (nI p) (lwTok (nI j)) c := by
          unfold wj_X3_workOut_117 wj_X3_workOut_137 wj_X3_workOut_161
          rw [nI_pred, cl r.length, s1, nI_1]
          have go : ∀ v, v = unV (nI j) a → wl_X3_workOut_4 Q kx f (nI (r.length + 1)) (nI (p + 1)) (sF c 8 r.length v) := fun v hv => by
            subst hv
            exact hk _ (Fr1.s 8 c _ _) ⟨gF_sFs, stk_fr r (fun i hi => gF_sFi (by omega)) s3⟩
          refine ⟨vin (by omega), fun ha => ⟨fun q => ⟨vin (by omega), go _ ?_⟩, fun q => ⟨vin (by omega), go _ ?_⟩⟩, fun ha => ⟨fun q => ⟨vin (by omega), go _ ?_⟩, fun q => ⟨vin (by omega), go _ ?_⟩⟩⟩
          · unfold unV; rw [if_neg (fun z => q (e1.2.2.2.2.2.mpr z)), if_neg ha]
          · unfold unV; rw [if_pos (e1.2.2.2.2.2.mp q)]
          · unfold unV; rw [if_neg (fun z => q (e1.2.2.2.2.2.mpr z)), if_pos ha]
          · unfold unV; rw [if_pos (e1.2.2.2.2.2.mp q)]
        refine ⟨fun _ => ⟨fun _ => ⟨fun _ => ⟨fun _ => un, fun q33 => ⟨fun q => absurd (e1.2.2.2.1.resolve_left q33) q, fun _ => un⟩⟩, fun q => absurd q e1.2.2.1⟩, fun q => absurd q e1.2.1⟩, fun q => absurd e1.1 q⟩

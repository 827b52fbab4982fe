/-! a day passes -/
abbrev sdT : Type := (Nat → Int32) × (Nat → Int32) × Int32 × Nat
abbrev heT : Type := Nat × (Nat → Int32) × (Nat → Int32) × (Nat → Int32) × Option lwT
def obV (o : Int32) (i w : Nat) (b : Int32) : Int32 := if i = w then (if 0 < o - 2 then o - 2 else 0) else if b = 0 then o else (if o + 1 < 99 then o + 1 else 99)
def dyO (E : heT) (s : sdT) (w : Nat) : Nat → Int32 := fun i => obV (s.1 i) i w (wbit (E.2.1 i) s.2.2.2)
def dyF (E : heT) (s : sdT) (w : Nat) : Nat → Int32 := fun i => if i = w ∧ E.2.2.1 s.2.2.2 = 2 then s.2.1 i ||| (1 <<< (E.2.2.2.1 s.2.2.2 &&& 31)) else s.2.1 i
def nxt (n w : Nat) : Nat := if n ≤ w + 1 then 0 else w + 1
def dyK (E : heT) (s : sdT) (w : Nat) : Nat → Int32 := fun i => if w < E.1 then (if i = nxt E.1 w then dyF E s w i ||| dyF E s w w else dyF E s w i) else s.2.1 i
def dyW (E : heT) (s : sdT) (w : Nat) : Int32 := if w < E.1 then (if s.2.2.1 + E.2.2.1 s.2.2.2 < 99 then s.2.2.1 + E.2.2.1 s.2.2.2 else 99) else s.2.2.1
def dyS (E : heT) (s : sdT) (w : Nat) : sdT := (dyO E s w, dyK E s w, dyW E s w, (s.2.2.2 + 1) % 7)
def dyD (E : heT) (s : sdT) (w : Nat) : Int32 := if w < E.1 then clV (amt E.2.2.2.2 (E.2.2.1 s.2.2.2) (s.1 w) s.2.2.1 (wbit (E.2.1 w) s.2.2.2) (bc (s.2.1 w)) (nI s.2.2.2)) else 0
def stC (c : rfS) (a n : Nat) (s : sdT) : Prop := (∀ i, i < n → gF c (a + 1) i = s.1 i) ∧ (∀ i, i < n → gF c (a + 2) i = s.2.1 i) ∧ gI c a 2 = s.2.2.1 ∧ gI c a 3 = nI s.2.2.2 ∧ s.2.2.2 < 7
def stM (m : rfS) (n : Nat) (s : sdT) : Prop := (∀ i, i < n → gF m 1 (7 + i) = s.1 i) ∧ (∀ i, i < n → gF m 1 (14 + i) = s.2.1 i) ∧ gF m 2 0 = s.2.2.1 ∧ gF m 2 1 = nI s.2.2.2 ∧ s.2.2.2 < 7
def heC (c : rfS) (E : heT) : Prop := E.1 ≤ 7 ∧ gI c 1 0 = nI E.1 ∧ (∀ i, i < E.1 → gF c 2 i = E.2.1 i) ∧ (∀ d, d < 7 → gF c 4 d = E.2.2.1 d ∧ gF c 5 d = E.2.2.2.1 d) ∧ LawC E.2.2.2.2 c
def heM (m : rfS) (E : heT) : Prop := E.1 ≤ 7 ∧ gI m 0 0 = nI E.1 ∧ (∀ i, i < E.1 → gF m 1 i = E.2.1 i) ∧ (∀ d, d < 7 → gF m 1 (28 + d) = E.2.2.1 d ∧ gF m 1 (35 + d) = E.2.2.2.1 d) ∧ LawM E.2.2.2.2 m
def FrP (a : Nat) (c c2 : rfS) : Prop := (∀ q, q ≠ a + 1 → q ≠ a + 2 → q ≠ 8 → q ≠ 11 → gF c2 q = gF c q) ∧ (∀ q, q ≠ a → gI c2 q = gI c q) ∧ ∀ q, gL c2 q = gL c q
def FrQ (n : Nat) (m m2 : rfS) : Prop := (∀ q, q ≠ 1 → q ≠ 2 → q ≠ 12 → q ≠ 13 → gF m2 q = gF m q) ∧ (∀ j, (∀ i, i < n → j ≠ 7 + i ∧ j ≠ 14 + i) → gF m2 1 j = gF m 1 j) ∧ (∀ q, gI m2 q = gI m q) ∧ ∀ q, gL m2 q = gL m q
theorem heC.fr {E : heT} {c c2 : rfS} (h : heC c E) (h1 : gI c2 1 0 = gI c 1 0) (h2 : gF c2 2 = gF c 2) (h3 : gF c2 4 = gF c 4) (h4 : gF c2 5 = gF c 5) (h5 : gI c2 6 1 = gI c 6 1) (h6 : gF c2 7 = gF c 7) : heC c2 E := by
  obtain ⟨a1, a2, a3, a4, a5⟩ := h
  exact ⟨a1, h1.trans a2, by rw [h2]; exact a3, by rw [h3, h4]; exact a4, a5.fr h5 h6⟩
theorem st_n2 {a : Nat} (h : isSt a) : a + 1 ≠ 2 ∧ a + 2 ≠ 2 ∧ a + 1 ≠ 4 ∧ a + 2 ≠ 4 ∧ a + 1 ≠ 5 ∧ a + 2 ≠ 5 ∧ a + 1 ≠ 7 ∧ a + 2 ≠ 7 ∧ a ≠ 1 ∧ a ≠ 6 := by
  unfold isSt at h
  simp only [List.mem_cons, List.not_mem_nil, or_false] at h
  omega
theorem heC.P {E : heT} {c c2 : rfS} {a : Nat} (ha : isSt a) (h : heC c E) (hf : FrP a c c2) : heC c2 E := by
  have n2 := st_n2 ha
  exact h.fr (by rw [hf.2.1 1 (by omega)]) (hf.1 2 (by omega) (by omega) (by decide) (by decide)) (hf.1 4 (by omega) (by omega) (by decide) (by decide)) (hf.1 5 (by omega) (by omega) (by decide) (by decide)) (by rw [hf.2.1 6 (by omega)]) (hf.1 7 (by omega) (by omega) (by decide) (by decide))
theorem FrP.tr {a : Nat} {c c2 c3 : rfS} (h1 : FrP a c c2) (h2 : FrP a c2 c3) : FrP a c c3 := ⟨fun q a b d e => (h2.1 q a b d e).trans (h1.1 q a b d e), fun q a => (h2.2.1 q a).trans (h1.2.1 q a), fun q => (h2.2.2 q).trans (h1.2.2 q)⟩
theorem FrP.rf (a : Nat) (c : rfS) : FrP a c c := ⟨fun _ _ _ _ _ => rfl, fun _ _ => rfl, fun _ => rfl⟩
theorem rem7 {d : Nat} (h : d < 7) : (nI d + 1) - (nI d + 1) / 7 * 7 = nI ((d + 1) % 7) := by
  rw [nI_1, show (7 : Int32) = nI 7 from rfl, pk_rem (by omega) (by decide) (by decide)]
theorem d7 {d : Nat} (h : d < 7) : nI d - nI d / 7 * 7 = nI d := by
  rw [show (7 : Int32) = nI 7 from rfl, pk_rem (by omega) (by decide) (by decide), Nat.mod_eq_of_lt h]
theorem obC {c : rfS} {o wn : Int32} {i w d : Nat} (hi : i < 2 ^ 31) (hw : w < 2 ^ 31) {Q : Int32 → rfS → Prop} {x5 : Int32} (hx : x5 - x5 / 7 * 7 = nI d) (hq : Q (obV o i w (wbit wn d)) c) : wp_X2_owedBehind c o (nI i) wn (nI w) x5 Q := by
  unfold wp_X2_owedBehind wj_X2_owedBehind_31
  rw [hx]
  unfold obV wbit at hq
  refine ⟨fun e => ⟨fun e2 => ⟨fun _ => ?_, fun q => absurd rfl q⟩, fun e2 => ⟨fun q => absurd q (by decide), fun _ => ?_⟩⟩, fun e => ?_⟩
  · rw [if_neg (fun q => e (by rw [q])), if_pos e2] at hq; exact hq
  · rw [if_neg (fun q => e (by rw [q])), if_neg e2] at hq; exact hq
  · rw [if_pos ((nI_eq hi hw).mp e)] at hq; exact hq
theorem passC {E : heT} {c : rfS} {a w : Nat} {s : sdT} (ha : isSt a) (hE : heC c E) (hs : stC c a E.1 s) (hw : w < E.1 ∨ w = 7) {Q : Int32 → rfS → Prop} (hk : ∀ c2, FrP a c c2 → stC c2 a E.1 (dyS E s w) → Q (dyD E s w) c2) : wp_X2_pass c a (nI w) Q := by
  obtain ⟨n, wants, kinds, facts, lo⟩ := E
  obtain ⟨owed, knows, worn, d⟩ := s
  have hE0 := hE
  obtain ⟨hn7, hn, hwa, hkf, hlaw⟩ := hE
  obtain ⟨s1, s2, s3, s4, s5⟩ := hs
  simp only at hn7 hn hwa hkf hlaw s1 s2 s3 s4 s5 hw
  have nn := st_ne ha
  have n2 := st_n2 ha
  have w31 : w < 2 ^ 31 := by omega
  -- behind doneBy
  have main : ∀ (r : Int32) (c1 : rfS), r = dyD (n, wants, kinds, facts, lo) (owed, knows, worn, d) w → Fr2 8 11 c c1 → wj_X2_pass_18 Q a (nI w) r c1 := by
    intro r c1 hr f1
    have e1 : gI c1 = gI c := funext f1.2.1
    have g1 : gI c1 1 0 = nI n := by rw [f1.2.1]; exact hn
    unfold wj_X2_pass_18
    have lp : ∀ (k i : Nat) (c2 : rfS), i + k = n → FrP a c c2 → (∀ j, j < i → gF c2 (a + 1) j = dyO (n, wants, kinds, facts, lo) (owed, knows, worn, d) w j) → (∀ j, i ≤ j → gF c2 (a + 1) j = gF c (a + 1) j) → gF c2 (a + 2) = gF c (a + 2) → (∀ q, gI c2 q = gI c q) → ∀ (kx : Nat → Int32 → Int32 → rfS → Prop), (∀ c3, FrP a c c3 → (∀ j, j < n → gF c3 (a + 1) j = dyO (n, wants, kinds, facts, lo) (owed, knows, worn, d) w j) → gF c3 (a + 2) = gF c (a + 2) → (∀ q, gI c3 q = gI c q) → kx a (nI w) r c3) → wl_X2_pass_22 Q kx (k + 1) a (nI w) r (nI i) c2 := by
      intro k
      induction k with
      | zero =>
        intro i c2 hi hf b1 b2 b3 b4 kx hkx
        unfold wl_X2_pass_22
        rw [b4, hn]
        exact ⟨fun _ => hkx c2 hf (fun j hj => b1 j (by omega)) b3 b4, fun q => absurd (nI_le (by omega) (by omega)) q⟩
      | succ k ih =>
        intro i c2 hi hf b1 b2 b3 b4 kx hkx
        unfold wl_X2_pass_22
        rw [b4, hn, cl i, b2 i (Nat.le_refl i), hf.1 2 (by omega) (by omega) (by decide) (by decide), b4, s4, s1 i (by omega), hwa i (by omega), nI_1]
        refine ⟨fun q => by have := (nI_leI (by omega) (by omega)).mp q; omega, fun _ => ⟨vin (by omega), vin (by omega), obC (d := d) (by omega) w31 (d7 s5) ⟨vin (by omega), ih (i + 1) _ (by omega) ?_ (fun j hj => ?_) (fun j hj => ?_) ?_ (fun q => ?_) kx hkx⟩⟩⟩
        · exact hf.tr ⟨fun q q1 _ _ _ => gF_sF_ne q1, fun _ _ => rfl, fun _ => rfl⟩
        · by_cases e : j = i
          · subst e; rw [gF_sFs]; rfl
          · rw [gF_sFi e]; exact b1 j (by omega)
        · rw [gF_sFi (by omega)]; exact b2 j (by omega)
        · rw [gF_sF_ne (by omega)]; exact b3
        · rw [← b4 q]; rfl
    have f2 : FrP a c c1 := ⟨fun q q1 q2 q3 q4 => f1.1 q q3 q4, fun q _ => f1.2.1 q, f1.2.2⟩
    refine ⟨n + 1, lp n 0 c1 (by omega) f2 (fun j hj => by omega) (fun j _ => by rw [f1.1 (a + 1) (by omega) (by omega)]) (f1.1 (a + 2) (by omega) (by omega)) f1.2.1 _ (fun c3 hf h1 h2 h3 => ?_)⟩
    show wp_X2_isOne c3 (nI w) _
    rw [w_isOne, h3, hn, bI_0, Classical.not_not]
    have h3a : gI c3 a 3 = nI d := by rw [h3]; exact s4
    have h3b : gI c3 a 2 = worn := by rw [h3]; exact s3
    rcases hw with hw | hw
    · have cond : 0 ≤ nI w ∧ nI w < nI n := ⟨nI_pos' w31, nI_lt hw (by omega)⟩
      refine ⟨fun q => absurd cond q, fun _ => ?_⟩
      have k4 : gF c3 4 d = kinds d := by rw [hf.1 4 (by omega) (by omega) (by decide) (by decide)]; exact (hkf d s5).1
      have k5 : gF c3 5 d = facts d := by rw [hf.1 5 (by omega) (by omega) (by decide) (by decide)]; exact (hkf d s5).2
      have kn : ∀ i, i < n → gF c3 (a + 2) i = knows i := fun i hi => by rw [h2]; exact s2 i hi
      rw [h3a, cl d, k4, k5, cl w, kn w hw]
      -- behind what he learns
      have rest : ∀ c4 : rfS, FrP a c c4 → (∀ q, gI c4 q = gI c q) → (∀ j, j < n → gF c4 (a + 1) j = dyO (n, wants, kinds, facts, lo) (owed, knows, worn, d) w j) → (∀ i, i < n → gF c4 (a + 2) i = dyF (n, wants, kinds, facts, lo) (owed, knows, worn, d) w i) → wj_X2_pass_110 Q a (nI w) r c4 := by
        intro c4 f4 i4 o4 q4
        unfold wj_X2_pass_110
        rw [i4, i4, s3, s4, cl d, f4.1 4 (by omega) (by omega) (by decide) (by decide), (hkf d s5).1, hn, nI_1]
        have fin : ∀ x : Nat, x = nxt n w → wj_X2_pass_150 Q a (nI w) r (nI x) (sI c4 a 2 (if worn + kinds d < 99 then worn + kinds d else 99)) := by
          intro x hx
          have hx7 : x < n := by rw [hx]; unfold nxt; split <;> omega
          unfold wj_X2_pass_150 wj_X2_pass_168
          rw [cl x, cl w, gF_sI, gF_sI, q4 x hx7, q4 w hw]
          refine ⟨vin (by omega), vin (by omega), vin (by omega), ?_⟩
          rw [gI_sF, gI_sIj (by decide), i4, s4, rem7 s5, hr]
          refine hk _ ?_ ⟨fun i hi => ?_, fun i hi => ?_, ?_, ?_, Nat.mod_lt _ (by decide)⟩
          · refine f4.tr ⟨fun q q1 q2 _ _ => ?_, fun q q1 => ?_, fun _ => rfl⟩
            · rw [gF_sI_f, gF_sF_ne q2, gF_sI_f]
            · rw [gI_sI_ne q1, gI_sF_f, gI_sI_ne q1]
          · rw [gF_sI, gF_sFn (by omega), gF_sI]; exact o4 i hi
          · rw [gF_sI, gF_sF, gF_sI, q4 i hi]
            show _ = dyK (n, wants, kinds, facts, lo) (owed, knows, worn, d) w i
            unfold dyK
            simp only [hw, if_true]
            by_cases e : i = x
            · subst e
              rw [if_pos ⟨trivial, rfl⟩, if_pos hx]
            · rw [if_neg (fun z => e z.2), if_neg (fun z => e (z.trans hx.symm))]
          · rw [gI_sIj (by decide), gI_sF, gI_sIs]
            show _ = dyW (n, wants, kinds, facts, lo) (owed, knows, worn, d) w
            unfold dyW
            simp only [hw, if_true]
          · rw [gI_sIs]; rfl
        refine ⟨vin s5, fun q => fin 0 ?_, fun q => fin (w + 1) ?_⟩
        · unfold nxt; rw [if_pos ((nI_leI (by omega) (by omega)).mp q)]
        · unfold nxt; rw [if_neg (fun z => q ((nI_leI (by omega) (by omega)).mpr z))]
      refine ⟨vin s5, fun h2k => rest c3 hf h3 h1 (fun i hi => ?_), fun h2k => ⟨vin (by omega), vin s5, vin (by omega), rest _ ?_ ?_ ?_ (fun i hi => ?_)⟩⟩
      · rw [kn i hi]; unfold dyF; simp only; rw [if_neg (fun z => h2k z.2)]
      · exact hf.tr ⟨fun q _ q2 _ _ => gF_sF_ne q2, fun _ _ => rfl, fun _ => rfl⟩
      · intro q; rw [← h3 q]; rfl
      · intro j hj; rw [gF_sFn (by omega)]; exact h1 j hj
      · unfold dyF; simp only
        by_cases e : i = w
        · subst e; rw [gF_sFs, if_pos ⟨rfl, h2k⟩]
        · rw [gF_sFi e, kn i hi, if_neg (fun z => e z.1)]
    · subst hw
      have cond : ¬ (0 ≤ nI 7 ∧ nI 7 < nI n) := fun q => by have := (nI_ltI (by omega) (by omega)).mp q.2; omega
      refine ⟨fun _ => ?_, fun q => absurd q cond⟩
      unfold wj_X2_pass_168
      rw [h3a, rem7 s5, hr]
      have nw : ¬ (7 : Nat) < n := by omega
      refine hk _ (hf.tr ⟨fun _ _ _ _ _ => rfl, fun q q1 => gI_sI_ne q1, fun _ => rfl⟩) ⟨fun i hi => h1 i hi, fun i hi => ?_, ?_, gI_sIs, Nat.mod_lt _ (by decide)⟩
      · show gF c3 (a + 2) i = dyK (n, wants, kinds, facts, lo) (owed, knows, worn, d) 7 i
        unfold dyK
        simp only [nw, if_false]
        rw [h2]; exact s2 i hi
      · rw [gI_sIj (by decide)]
        show gI c3 a 2 = dyW (n, wants, kinds, facts, lo) (owed, knows, worn, d) 7
        unfold dyW
        simp only [nw, if_false]
        exact h3b
  unfold wp_X2_pass
  rw [w_isOne, hn, bI_0, Classical.not_not]
  rcases hw with hw | hw
  · have cond : 0 ≤ nI w ∧ nI w < nI n := ⟨nI_pos' w31, nI_lt hw (by omega)⟩
    refine ⟨fun q => absurd cond q, fun _ => doneC (n := n) ha hlaw s5 (by omega) s4 (fun c2 h2 => main _ c2 ?_ h2)⟩
    unfold dyD
    simp only [hw, if_true]
    rw [(hkf d s5).1, s1 w hw, s3, hwa w hw, s2 w hw]
  · subst hw
    have cond : ¬ (0 ≤ nI 7 ∧ nI 7 < nI n) := fun q => by have := (nI_ltI (by omega) (by omega)).mp q.2; omega
    refine ⟨fun _ => main 0 c ?_ ⟨fun _ _ _ => rfl, fun _ => rfl, fun _ => rfl⟩, fun q => absurd q cond⟩
    unfold dyD
    simp only
    rw [if_neg (by omega)]

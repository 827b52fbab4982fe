/-! act: both sides -/
def PfOK (k : Nat) : Prop := ∀ {kk f act bb r d : Nat} {x v : Int32} {T : List Int32} {σ : rfS} {Q : Int32 → rfS → Prop}, kk < 8 → f < 8 → act < 4 → bb < 50 → gF σ 50 bb = nI kk → gI σ 49 3 = nI r → pC k kk f act (nI bb) x = some (v, T) → r + T.length < 1000 → d + k ≤ 41 → Q v (tC σ T) → Pf k σ (nI bb) (nI f) (nI act) x (nI d) Q
theorem own_ok {k : Nat} (ih : PfOK k) {kk act bb r d : Nat} {x v : Int32} {T : List Int32} {σ : rfS} {Q : Int32 → rfS → Prop} (hkk : kk < 8) (ha : act < 4) (hb : bb < 50) (hF : gF σ 50 bb = nI kk) (hI : gI σ 49 3 = nI r) (hp : pC k kk kk act (nI bb) x = some (v, T)) (hl : r + T.length < 1000) (hd : d + 1 + k ≤ 41) (hq : Q v (tC σ T)) : wp_X0_own (Pf k) σ (nI bb) (nI act) x (nI d) Q := by
  unfold wp_X0_own
  rw [cl bb, hF, nI_1]
  exact ⟨vin hb, ih hkk hkk ha hb hF hI hp hl hd hq⟩
theorem Pf_ok : ∀ k, PfOK k
  | 0 => by
    rename_i kk f act bb r d x v T σ Q
    intro hkk hf ha hb hF hI hp
    cases hp
  | 1 => by
    rename_i kk f act bb r d x v T σ Q
    intro hkk hf ha hb hF hI hp
    cases hp
  | k + 2 => by
    rename_i kk f act bb r d x v T σ Q
    intro hkk hf ha hb hF hI hp hl hd hq
    have ih1 : PfOK (k + 1) := @Pf_ok (k + 1)
    have ih0 : PfOK k := @Pf_ok k
    show wp_X0_perform (wp_X0_own (Pf k)) (Pf (k + 1)) σ (nI bb) (nI f) (nI act) x (nI d) Q
    unfold wp_X0_perform
    refine alpC hf ha ?_
    have hd40 : nI d ≤ (40 : Int32) := by
      rw [i_le, nI_toInt (by omega), show (40 : Int32).toInt = 40 from rfl]
      omega
    have hp : pSt (fun f2 a2 x2 => pC (k + 1) kk f2 a2 (nI bb) x2) (fun a2 x2 => pC k kk kk a2 (nI bb) x2) (rsv f act) act (nI bb) x = some (v, T) := hp
    have hc : (rsv f act = 0 ∧ act = 0) ∨ (rsv f act = 0 ∧ act = 1) ∨ (rsv f act = 0 ∧ act = 2) ∨ (rsv f act = 0 ∧ act = 3) ∨ (rsv f act = 1 ∧ act = 0) ∨ (rsv f act = 2 ∧ act = 1) ∨ (rsv f act = 3 ∧ act = 1) ∨ (rsv f act = 3 ∧ act = 2) ∨ (rsv f act = 4 ∧ act = 2) ∨ (rsv f act = 5 ∧ act = 3) ∨ (rsv f act = 6 ∧ act = 0) ∨ (rsv f act = 7 ∧ act = 1) ∨ (rsv f act = 7 ∧ act = 3) := by
      rcases w4 ha with rfl | rfl | rfl | rfl <;> rcases w8 hf with rfl | rfl | rfl | rfl | rfl | rfl | rfl | rfl <;> decide
    generalize rsv f act = g at hp hc
    rcases hc with ⟨rfl, rfl⟩ | ⟨rfl, rfl⟩ | ⟨rfl, rfl⟩ | ⟨rfl, rfl⟩ | ⟨rfl, rfl⟩ | ⟨rfl, rfl⟩ | ⟨rfl, rfl⟩ | ⟨rfl, rfl⟩ | ⟨rfl, rfl⟩ | ⟨rfl, rfl⟩ | ⟨rfl, rfl⟩ | ⟨rfl, rfl⟩ | ⟨rfl, rfl⟩
    · cases hp
      rw [List.length_singleton] at hl
      exact bo_1 hI (by omega) hd40 hq
    · obtain ⟨v1, T1, e1, rfl, rfl⟩ := o1_inv hp
      rw [List.length_cons] at hl
      refine bo_10 hI (by omega) hd40 ?_
      exact own_ok ih0 (act := 0) hkk (by decide) hb ((congrFun (noteC_F (by decide)) bb).trans hF) (noteC_n hI) e1 (by omega) (by omega) hq
    · cases hp
      rw [List.length_singleton] at hl
      exact bo_11 hI (by omega) hd40 hq
    · obtain ⟨v1, T1, v2, T2, e1, e2, rfl, rfl⟩ := o2_inv hp
      rw [List.length_cons, List.length_append] at hl
      rw [show tC σ (2 :: (T1 ++ T2)) = tC (tC (noteC σ 2) T1) T2 from tC_app (noteC σ 2) T1 T2] at hq
      have hF1 := (congrFun (noteC_F (c := σ) (b := 2) (k := 50) (by decide)) bb).trans hF
      refine bo_2 hI (by omega) hd40 ?_
      refine own_ok ih0 (act := 1) hkk (by decide) hb hF1 (noteC_n hI) e1 (by omega) (by omega) ?_
      exact own_ok ih0 (act := 2) hkk (by decide) hb ((congrFun (tC_F (by decide)) bb).trans hF1) (tC_n (noteC_n hI)) e2 (by omega) (by omega) hq
    · obtain ⟨v1, T1, e1, rfl, rfl⟩ := o1_inv hp
      rw [List.length_cons] at hl
      refine bo_20 hI (by omega) hd40 ?_
      rw [nI_1]
      exact ih1 (f := 0) (act := 0) hkk (by decide) (by decide) hb ((congrFun (noteC_F (by decide)) bb).trans hF) (noteC_n hI) e1 (by omega) (by omega) hq
    · obtain ⟨v1, T1, e1, rfl, rfl⟩ := o1_inv hp
      rw [List.length_cons] at hl
      refine bo_30 hI (by omega) hd40 ?_
      rw [nI_1]
      exact ih1 (f := 0) (act := 1) hkk (by decide) (by decide) hb ((congrFun (noteC_F (by decide)) bb).trans hF) (noteC_n hI) e1 (by omega) (by omega) hq
    · obtain ⟨v1, T1, e1, rfl, rfl⟩ := o1_inv hp
      rw [List.length_cons] at hl
      refine bo_41 hI (by omega) hd40 ?_
      rw [nI_1]
      exact ih1 (f := 2) (act := 1) hkk (by decide) (by decide) hb ((congrFun (noteC_F (by decide)) bb).trans hF) (noteC_n hI) e1 (by omega) (by omega) hq
    · obtain ⟨v1, T1, e1, rfl, rfl⟩ := o1_inv hp
      rw [List.length_cons] at hl
      refine bo_40 hI (by omega) hd40 ?_
      rw [nI_1]
      exact ih1 (f := 2) (act := 2) hkk (by decide) (by decide) hb ((congrFun (noteC_F (by decide)) bb).trans hF) (noteC_n hI) e1 (by omega) (by omega) hq
    · obtain ⟨v1, T1, v2, T2, e1, e2, rfl, rfl⟩ := o2_inv hp
      rw [List.length_cons, List.length_append] at hl
      rw [show tC σ (50 :: (T1 ++ T2)) = tC (tC (noteC σ 50) T1) T2 from tC_app (noteC σ 50) T1 T2] at hq
      have hF1 := (congrFun (noteC_F (c := σ) (b := 50) (k := 50) (by decide)) bb).trans hF
      refine bo_50 hI (by omega) hd40 ?_
      rw [nI_1]
      refine ih1 (f := 1) (act := 2) hkk (by decide) (by decide) hb hF1 (noteC_n hI) e1 (by omega) (by omega) ?_
      exact own_ok ih0 (act := 0) hkk (by decide) hb ((congrFun (tC_F (by decide)) bb).trans hF1) (tC_n (noteC_n hI)) e2 (by omega) (by omega) hq
    · obtain ⟨v1, T1, e1, rfl, rfl⟩ := o1_inv hp
      rw [List.length_cons] at hl
      refine bo_60 hI (by omega) hd40 ?_
      rw [nI_1]
      exact ih1 (f := 3) (act := 3) hkk (by decide) (by decide) hb ((congrFun (noteC_F (by decide)) bb).trans hF) (noteC_n hI) e1 (by omega) (by omega) hq
    · obtain ⟨v1, T1, e1, rfl, rfl⟩ := o1_inv hp
      rw [List.length_cons] at hl
      refine bo_70 hI (by omega) hd40 ?_
      rw [nI_1]
      exact ih1 (f := 0) (act := 0) hkk (by decide) (by decide) hb ((congrFun (noteC_F (by decide)) bb).trans hF) (noteC_n hI) e1 (by omega) (by omega) hq
    · obtain ⟨v1, T1, v2, T2, e1, e2, rfl, rfl⟩ := o2_inv hp
      rw [List.length_cons, List.length_append] at hl
      rw [show tC σ (80 :: (T1 ++ T2)) = tC (tC (noteC σ 80) T1) T2 from tC_app (noteC σ 80) T1 T2] at hq
      have hF1 := (congrFun (noteC_F (c := σ) (b := 80) (k := 50) (by decide)) bb).trans hF
      refine bo_80 hI (by omega) hd40 ?_
      rw [nI_1]
      refine ih1 (f := 4) (act := 1) hkk (by decide) (by decide) hb hF1 (noteC_n hI) e1 (by omega) (by omega) ?_
      exact own_ok ih0 (act := 2) hkk (by decide) hb ((congrFun (tC_F (by decide)) bb).trans hF1) (tC_n (noteC_n hI)) e2 (by omega) (by omega) hq
    · obtain ⟨v1, T1, e1, rfl, rfl⟩ := o1_inv hp
      rw [List.length_cons] at hl
      refine bo_81 hI (by omega) hd40 ?_
      rw [nI_1]
      exact ih1 (f := 4) (act := 3) hkk (by decide) (by decide) hb ((congrFun (noteC_F (by decide)) bb).trans hF) (noteC_n hI) e1 (by omega) (by omega) hq
/-! the model -/
theorem abM_lt (k : Nat) : abM k < 8 := by
  unfold abM
  rcases Nat.lt_or_ge k 8 with h | h
  · rcases w8 h with rfl | rfl | rfl | rfl | rfl | rfl | rfl | rfl <;> decide
  · rw [List.getD_eq_getElem?_getD, List.getElem?_eq_none (by simpa using h)]
    decide
theorem aboveM {m : rfS} {k : Nat} (hk : k < 8) {Q : Int32 → rfS → Prop} (hq : Q (nI (abM k)) m) : wp_X8_above m (nI k) Q := by
  unfold wp_X8_above
  rcases w8 hk with rfl | rfl | rfl | rfl | rfl | rfl | rfl | rfl
  all_goals
    repeat (refine ⟨fun q => absurd q (by decide), fun _ => ?_⟩)
    first
    | exact ⟨fun _ => hq, fun q => absurd rfl q⟩
    | exact hq
theorem Wk_ok : ∀ (n : Nat) {k bb r : Nat} {x v : Int32} {T : List Int32} {m : rfS} {Q : Int32 → rfS → Prop}, k < 8 → bb < 50 → gI m 0 31 = nI r → pW n k (nI bb) x = some (v, T) → r + T.length < 1000 → Q v (tM m T) → Wk n m (nI bb) (nI k) x Q
  | 0 => by
    rename_i k bb r x v T m Q
    intro hk hb hI hp
    cases hp
  | n + 1 => by
    rename_i k bb r x v T m Q
    intro hk hb hI hp hl hq
    show wp_X8_walksBy (Wk n) m (nI bb) (nI k) x Q
    unfold wp_X8_walksBy
    unfold pW at hp
    rcases w8 hk with rfl | rfl | rfl | rfl | rfl | rfl | rfl | rfl
    · skip
      repeat (refine ⟨fun q => absurd q (by decide), fun _ => ?_⟩)
      refine ⟨fun _ => ?_, fun q => absurd rfl q⟩
      cases hp
      rw [List.length_singleton] at hl
      exact noteM_w hI (by omega) hq
    · skip
      repeat (refine ⟨fun q => absurd q (by decide), fun _ => ?_⟩)
      refine ⟨fun _ => ?_, fun q => absurd rfl q⟩
      obtain ⟨v1, T1, e1, rfl, rfl⟩ := o1_inv hp
      rw [List.length_cons] at hl
      refine noteM_w hI (by omega) ?_
      exact Wk_ok n (by decide) hb (noteM_n hI) e1 (by omega) hq
    · skip
      iterate 3 (refine ⟨fun q => absurd q (by decide), fun _ => ?_⟩)
      refine aboveM (k := 2) hk ?_
      exact Wk_ok n (abM_lt _) hb hI hp hl hq
    · skip
      iterate 3 (refine ⟨fun q => absurd q (by decide), fun _ => ?_⟩)
      refine aboveM (k := 3) hk ?_
      exact Wk_ok n (abM_lt _) hb hI hp hl hq
    · skip
      iterate 3 (refine ⟨fun q => absurd q (by decide), fun _ => ?_⟩)
      refine aboveM (k := 4) hk ?_
      exact Wk_ok n (abM_lt _) hb hI hp hl hq
    · skip
      iterate 3 (refine ⟨fun q => absurd q (by decide), fun _ => ?_⟩)
      refine aboveM (k := 5) hk ?_
      exact Wk_ok n (abM_lt _) hb hI hp hl hq
    · skip
      repeat (refine ⟨fun q => absurd q (by decide), fun _ => ?_⟩)
      refine ⟨fun _ => ?_, fun q => absurd rfl q⟩
      obtain ⟨v1, T1, e1, rfl, rfl⟩ := o1_inv hp
      rw [List.length_cons] at hl
      refine noteM_w hI (by omega) ?_
      exact Wk_ok n (by decide) hb (noteM_n hI) e1 (by omega) hq
    · skip
      iterate 3 (refine ⟨fun q => absurd q (by decide), fun _ => ?_⟩)
      refine aboveM (k := 7) hk ?_
      exact Wk_ok n (abM_lt _) hb hI hp hl hq
theorem Owk_ok : ∀ (n : Nat) {kk k bb r : Nat} {x v : Int32} {T : List Int32} {m : rfS} {Q : Int32 → rfS → Prop}, kk < 8 → k < 8 → bb < 50 → gF m 18 bb = nI kk → gI m 0 31 = nI r → pO n kk k (nI bb) x = some (v, T) → r + T.length < 1000 → Q v (tM m T) → Owk n m (nI bb) (nI k) x Q
  | 0 => by
    rename_i kk k bb r x v T m Q
    intro hkk hk hb hF hI hp
    cases hp
  | n + 1 => by
    rename_i kk k bb r x v T m Q
    intro hkk hk hb hF hI hp hl hq
    show wp_X8_owesBy (Owk n) (Wk n) m (nI bb) (nI k) x Q
    unfold wp_X8_owesBy
    unfold pO at hp
    rcases w8 hk with rfl | rfl | rfl | rfl | rfl | rfl | rfl | rfl
    · skip
      repeat (refine ⟨fun q => absurd q (by decide), fun _ => ?_⟩)
      refine ⟨fun _ => ?_, fun q => absurd rfl q⟩
      cases hp
      rw [List.length_singleton] at hl
      exact noteM_w hI (by omega) hq
    · skip
      iterate 3 (refine ⟨fun q => absurd q (by decide), fun _ => ?_⟩)
      refine aboveM (k := 1) hk ?_
      exact Owk_ok n hkk (abM_lt _) hb hF hI hp hl hq
    · skip
      iterate 3 (refine ⟨fun q => absurd q (by decide), fun _ => ?_⟩)
      refine aboveM (k := 2) hk ?_
      exact Owk_ok n hkk (abM_lt _) hb hF hI hp hl hq
    · skip
      repeat (refine ⟨fun q => absurd q (by decide), fun _ => ?_⟩)
      refine ⟨fun _ => ?_, fun q => absurd rfl q⟩
      obtain ⟨v1, T1, e1, rfl, rfl⟩ := o1_inv hp
      rw [List.length_cons] at hl
      have hF1 := (congrFun (noteM_F (m := m) (b := 40) (k := 18) (by decide)) bb).trans hF
      refine noteM_w hI (by omega) ?_
      exact Owk_ok n hkk (by decide) hb hF1 (noteM_n hI) e1 (by omega) hq
    · skip
      repeat (refine ⟨fun q => absurd q (by decide), fun _ => ?_⟩)
      refine ⟨fun _ => ?_, fun q => absurd rfl q⟩
      obtain ⟨v1, T1, v2, T2, e1, e2, rfl, rfl⟩ := o2_inv hp
      rw [List.length_cons, List.length_append] at hl
      rw [show tM m (50 :: (T1 ++ T2)) = tM (tM (noteM m 50) T1) T2 from tM_app (noteM m 50) T1 T2] at hq
      have hF1 := (congrFun (noteM_F (m := m) (b := 50) (k := 18) (by decide)) bb).trans hF
      refine noteM_w hI (by omega) ?_
      refine Owk_ok n hkk (by decide) hb hF1 (noteM_n hI) e1 (by omega) ?_
      (try simp only [cl bb]); rw [show gF (tM (noteM m 50) T1) 18 bb = nI _ from (congrFun (tM_F (by decide)) bb).trans hF1]
      refine ⟨vin hb, ?_⟩
      exact Wk_ok n hkk hb (tM_n (noteM_n hI)) e2 (by omega) hq
    · skip
      iterate 3 (refine ⟨fun q => absurd q (by decide), fun _ => ?_⟩)
      refine aboveM (k := 5) hk ?_
      exact Owk_ok n hkk (abM_lt _) hb hF hI hp hl hq
    · skip
      iterate 3 (refine ⟨fun q => absurd q (by decide), fun _ => ?_⟩)
      refine aboveM (k := 6) hk ?_
      exact Owk_ok n hkk (abM_lt _) hb hF hI hp hl hq
    · skip
      iterate 3 (refine ⟨fun q => absurd q (by decide), fun _ => ?_⟩)
      refine aboveM (k := 7) hk ?_
      exact Owk_ok n hkk (abM_lt _) hb hF hI hp hl hq
theorem Lnk_ok : ∀ (n : Nat) {kk k bb r : Nat} {x v : Int32} {T : List Int32} {m : rfS} {Q : Int32 → rfS → Prop}, kk < 8 → k < 8 → bb < 50 → gF m 18 bb = nI kk → gI m 0 31 = nI r → pL n kk k (nI bb) x = some (v, T) → r + T.length < 1000 → Q v (tM m T) → Lnk n m (nI bb) (nI k) x Q
  | 0 => by
    rename_i kk k bb r x v T m Q
    intro hkk hk hb hF hI hp
    cases hp
  | n + 1 => by
    rename_i kk k bb r x v T m Q
    intro hkk hk hb hF hI hp hl hq
    show wp_X8_leansBy (Lnk n) (Owk n) (Wk n) m (nI bb) (nI k) x Q
    unfold wp_X8_leansBy
    unfold pL at hp
    rcases w8 hk with rfl | rfl | rfl | rfl | rfl | rfl | rfl | rfl
    · skip
      repeat (refine ⟨fun q => absurd q (by decide), fun _ => ?_⟩)
      refine ⟨fun _ => ?_, fun q => absurd rfl q⟩
      obtain ⟨v1, T1, e1, rfl, rfl⟩ := o1_inv hp
      rw [List.length_cons] at hl
      have hF1 := (congrFun (noteM_F (m := m) (b := 10) (k := 18) (by decide)) bb).trans hF
      refine noteM_w hI (by omega) ?_
      rw [cl bb, hF1]
      refine ⟨vin hb, ?_⟩
      exact Wk_ok n hkk hb (noteM_n hI) e1 (by omega) hq
    · skip
      iterate 4 (refine ⟨fun q => absurd q (by decide), fun _ => ?_⟩)
      refine aboveM (k := 1) hk ?_
      exact Lnk_ok n hkk (abM_lt _) hb hF hI hp hl hq
    · skip
      repeat (refine ⟨fun q => absurd q (by decide), fun _ => ?_⟩)
      refine ⟨fun _ => ?_, fun q => absurd rfl q⟩
      obtain ⟨v1, T1, e1, rfl, rfl⟩ := o1_inv hp
      rw [List.length_cons] at hl
      have hF1 := (congrFun (noteM_F (m := m) (b := 30) (k := 18) (by decide)) bb).trans hF
      refine noteM_w hI (by omega) ?_
      exact Lnk_ok n hkk (by decide) hb hF1 (noteM_n hI) e1 (by omega) hq
    · skip
      repeat (refine ⟨fun q => absurd q (by decide), fun _ => ?_⟩)
      refine ⟨fun _ => ?_, fun q => absurd rfl q⟩
      obtain ⟨v1, T1, e1, rfl, rfl⟩ := o1_inv hp
      rw [List.length_cons] at hl
      have hF1 := (congrFun (noteM_F (m := m) (b := 41) (k := 18) (by decide)) bb).trans hF
      refine noteM_w hI (by omega) ?_
      exact Lnk_ok n hkk (by decide) hb hF1 (noteM_n hI) e1 (by omega) hq
    · skip
      iterate 4 (refine ⟨fun q => absurd q (by decide), fun _ => ?_⟩)
      refine aboveM (k := 4) hk ?_
      exact Lnk_ok n hkk (abM_lt _) hb hF hI hp hl hq
    · skip
      iterate 4 (refine ⟨fun q => absurd q (by decide), fun _ => ?_⟩)
      refine aboveM (k := 5) hk ?_
      exact Lnk_ok n hkk (abM_lt _) hb hF hI hp hl hq
    · skip
      iterate 4 (refine ⟨fun q => absurd q (by decide), fun _ => ?_⟩)
      refine aboveM (k := 6) hk ?_
      exact Lnk_ok n hkk (abM_lt _) hb hF hI hp hl hq
    · skip
      repeat (refine ⟨fun q => absurd q (by decide), fun _ => ?_⟩)
      refine ⟨fun _ => ?_, fun q => absurd rfl q⟩
      obtain ⟨v1, T1, v2, T2, e1, e2, rfl, rfl⟩ := o2_inv hp
      rw [List.length_cons, List.length_append] at hl
      rw [show tM m (80 :: (T1 ++ T2)) = tM (tM (noteM m 80) T1) T2 from tM_app (noteM m 80) T1 T2] at hq
      have hF1 := (congrFun (noteM_F (m := m) (b := 80) (k := 18) (by decide)) bb).trans hF
      refine noteM_w hI (by omega) ?_
      refine Lnk_ok n hkk (by decide) hb hF1 (noteM_n hI) e1 (by omega) ?_
      (try simp only [cl bb]); rw [show gF (tM (noteM m 80) T1) 18 bb = nI _ from (congrFun (tM_F (by decide)) bb).trans hF1]
      refine ⟨vin hb, ?_⟩
      exact Owk_ok n hkk hkk hb ((congrFun (tM_F (by decide)) bb).trans hF1) (tM_n (noteM_n hI)) e2 (by omega) hq
theorem Tlk_ok : ∀ (n : Nat) {kk k bb r : Nat} {x v : Int32} {T : List Int32} {m : rfS} {Q : Int32 → rfS → Prop}, kk < 8 → k < 8 → bb < 50 → gF m 18 bb = nI kk → gI m 0 31 = nI r → pT n kk k (nI bb) x = some (v, T) → r + T.length < 1000 → Q v (tM m T) → Tlk n m (nI bb) (nI k) x Q
  | 0 => by
    rename_i kk k bb r x v T m Q
    intro hkk hk hb hF hI hp
    cases hp
  | n + 1 => by
    rename_i kk k bb r x v T m Q
    intro hkk hk hb hF hI hp hl hq
    show wp_X8_tells_ (Lnk n) (Owk n) (Tlk n) m (nI bb) (nI k) x Q
    unfold wp_X8_tells_
    unfold pT at hp
    rcases w8 hk with rfl | rfl | rfl | rfl | rfl | rfl | rfl | rfl
    · skip
      repeat (refine ⟨fun q => absurd q (by decide), fun _ => ?_⟩)
      refine ⟨fun _ => ?_, fun q => absurd rfl q⟩
      obtain ⟨v1, T1, v2, T2, e1, e2, rfl, rfl⟩ := o2_inv hp
      rw [List.length_cons, List.length_append] at hl
      rw [show tM m (2 :: (T1 ++ T2)) = tM (tM (noteM m 2) T1) T2 from tM_app (noteM m 2) T1 T2] at hq
      have hF1 := (congrFun (noteM_F (m := m) (b := 2) (k := 18) (by decide)) bb).trans hF
      refine noteM_w hI (by omega) ?_
      rw [cl bb, hF1]
      refine ⟨vin hb, ?_⟩
      refine Lnk_ok n hkk hkk hb hF1 (noteM_n hI) e1 (by omega) ?_
      (try simp only [cl bb]); rw [show gF (tM (noteM m 2) T1) 18 bb = nI _ from (congrFun (tM_F (by decide)) bb).trans hF1]
      refine ⟨vin hb, ?_⟩
      exact Owk_ok n hkk hkk hb ((congrFun (tM_F (by decide)) bb).trans hF1) (tM_n (noteM_n hI)) e2 (by omega) hq
    · skip
      iterate 3 (refine ⟨fun q => absurd q (by decide), fun _ => ?_⟩)
      refine aboveM (k := 1) hk ?_
      exact Tlk_ok n hkk (abM_lt _) hb hF hI hp hl hq
    · skip
      iterate 3 (refine ⟨fun q => absurd q (by decide), fun _ => ?_⟩)
      refine aboveM (k := 2) hk ?_
      exact Tlk_ok n hkk (abM_lt _) hb hF hI hp hl hq
    · skip
      iterate 3 (refine ⟨fun q => absurd q (by decide), fun _ => ?_⟩)
      refine aboveM (k := 3) hk ?_
      exact Tlk_ok n hkk (abM_lt _) hb hF hI hp hl hq
    · skip
      iterate 3 (refine ⟨fun q => absurd q (by decide), fun _ => ?_⟩)
      refine aboveM (k := 4) hk ?_
      exact Tlk_ok n hkk (abM_lt _) hb hF hI hp hl hq
    · skip
      repeat (refine ⟨fun q => absurd q (by decide), fun _ => ?_⟩)
      refine ⟨fun _ => ?_, fun q => absurd rfl q⟩
      obtain ⟨v1, T1, e1, rfl, rfl⟩ := o1_inv hp
      rw [List.length_cons] at hl
      have hF1 := (congrFun (noteM_F (m := m) (b := 60) (k := 18) (by decide)) bb).trans hF
      refine noteM_w hI (by omega) ?_
      exact Tlk_ok n hkk (by decide) hb hF1 (noteM_n hI) e1 (by omega) hq
    · skip
      iterate 3 (refine ⟨fun q => absurd q (by decide), fun _ => ?_⟩)
      refine aboveM (k := 6) hk ?_
      exact Tlk_ok n hkk (abM_lt _) hb hF hI hp hl hq
    · skip
      repeat (refine ⟨fun q => absurd q (by decide), fun _ => ?_⟩)
      refine ⟨fun _ => ?_, fun q => absurd rfl q⟩
      obtain ⟨v1, T1, e1, rfl, rfl⟩ := o1_inv hp
      rw [List.length_cons] at hl
      have hF1 := (congrFun (noteM_F (m := m) (b := 81) (k := 18) (by decide)) bb).trans hF
      refine noteM_w hI (by omega) ?_
      exact Tlk_ok n hkk (by decide) hb hF1 (noteM_n hI) e1 (by omega) hq
theorem op_act {n bs : Nat} {c m : rfS} (h : Rel n bs c m) (x1 x2 x3 : Int32) : wp_X7_act (wp_X0_run (Pf 20)) c x1 x2 x3 (fun r1 c2 => wp_X8_act (Lnk 20) (Owk 20) (Tlk 20) (Wk 20) m x1 x2 x3 (fun r2 m2 => r1 = r2 ∧ RelE c2 m2)) := by
  obtain ⟨t1, t2, t3, t4⟩ := h.2.2.2.2.2.2.1
  have z1 : gI (sI c 49 3 0) 49 3 = nI 0 := by rw [gI_sI, if_pos ⟨rfl, rfl⟩]; rfl
  have z2 : gI (sI m 0 31 0) 0 31 = nI 0 := by rw [gI_sI, if_pos ⟨rfl, rfl⟩]; rfl
  have rel : ∀ T : List Int32, T.length < 1000 → Rel n bs (tC (sI c 49 3 0) T) (tM (sI m 0 31 0) T) := by
    intro T hT
    refine h.tr (RTr_run (k := 0) (by omega) z1 z2 (fun i hi => absurd hi (by omega))) (fun k hk => (tC_F hk).trans rfl) (fun k j hk => (tC_I hk).trans ?_) (fun k => tC_L.trans rfl) (fun k hk => (tM_F hk).trans rfl) (fun j hj => (tM_I (fun q => hj q.1)).trans ?_) (fun k => tM_L.trans rfl)
    · rw [gI_sI, if_neg hk]
    · rw [gI_sI, if_neg (fun q => hj q.1)]
  have rel0 := rel [] (by decide)
  have n1 : gI (sI c 49 3 0) 49 1 = nI bs := by rw [gI_sI, if_neg (by decide)]; exact t2
  unfold wp_X7_act wp_X8_act wp_X7_isBody
  simp only [w_isWithin, w_within, bI_0, Classical.not_not, n1, t3]
  refine ⟨bI_Z, fun hw => ⟨fun _ => ⟨by simp, n, bs, rel0⟩, fun q => absurd q hw⟩, fun hw => ⟨fun ha => ?_, fun ha => ?_⟩⟩
  · obtain ⟨b, hb, rfl⟩ : ∃ b, b < bs ∧ x1 = nI b := i_ix (by omega) hw.1 ((i_pred (by omega)).mp hw.2)
    obtain ⟨a, ha4, rfl⟩ := i_below (k := 3) (by decide) ha
    obtain ⟨e1, kk, k8, e2⟩ := t4 b hb
    obtain ⟨v, T, p1, p2, p3, p4, p5, p6⟩ := acts_same (nI b) x3 k8 ha4
    have hF : gF (sI c 49 3 0) 50 b = nI kk := e2
    have hG : gF (sI m 0 31 0) 18 b = nI kk := e1.symm.trans e2
    unfold wp_X0_run
    rw [cl b, hF]
    refine ⟨vin (by omega), ?_⟩
    refine Pf_ok 20 (d := 0) (r := 0) k8 k8 ha4 (by omega) hF z1 p1 (by omega) (by decide) ?_
    refine ⟨fun q => absurd hw q, fun _ => ⟨fun _ => ⟨vin (by omega), ?_⟩, fun q => absurd ha q⟩⟩
    rw [hG]
    have fin : v = v ∧ RelE (tC (sI c 49 3 0) T) (tM (sI m 0 31 0) T) := ⟨rfl, n, bs, rel T (by omega)⟩
    rcases w4 ha4 with rfl | rfl | rfl | rfl
    · exact ⟨fun q => absurd rfl q, fun _ => Wk_ok 20 (r := 0) k8 (by omega) z2 (p3 rfl) (by omega) fin⟩
    · exact ⟨fun _ => ⟨fun q => absurd rfl q, fun _ => Lnk_ok 20 (r := 0) k8 k8 (by omega) hG z2 (p4 rfl) (by omega) fin⟩, fun q => absurd q (by decide)⟩
    · exact ⟨fun _ => ⟨fun _ => ⟨fun q => absurd rfl q, fun _ => Owk_ok 20 (r := 0) k8 k8 (by omega) hG z2 (p5 rfl) (by omega) fin⟩, fun q => absurd q (by decide)⟩, fun q => absurd q (by decide)⟩
    · exact ⟨fun _ => ⟨fun _ => ⟨fun _ => Tlk_ok 20 (r := 0) k8 k8 (by omega) hG z2 (p6 rfl) (by omega) fin, fun q => absurd q (by decide)⟩, fun q => absurd q (by decide)⟩, fun q => absurd q (by decide)⟩
  · exact ⟨fun q => absurd hw q, fun _ => ⟨fun q => absurd q ha, fun _ => ⟨by simp, n, bs, rel0⟩⟩⟩

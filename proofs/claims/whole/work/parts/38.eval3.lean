/-! the model works the law out -/
theorem tokM {Q : Int32 → rfS → Prop} {m : rfS} {f p e0 : Nat} {t : Int32} {st : List Int32} {nm : Nat → Int32} (ht : lwOk t) (hp : p < e0) (he : e0 ≤ 200) (hc : gF m 7 p = t) (hnm : ∀ i, i < 6 → gF m 13 i = nm i) (hs : stk (gF m 12) st) (hl : st.length < 200)
    (hw : 18 ≤ t ∨ t ≤ 5 ∨ ((t = 16 ∨ t = 17) ∧ 1 ≤ st.length) ∨ 2 ≤ st.length)
    (hk : ∀ m2, Fr1 12 m m2 → stk (gF m2 12) (evT nm t st) → wl_X8_worked_5 Q f (nI e0) (nI (evT nm t st).length) (nI (p + 1)) m2) : wl_X8_worked_5 Q (f + 1) (nI e0) (nI st.length) (nI p) m := by
  unfold wl_X8_worked_5
  rw [cl p, hc, nI_1]
  refine ⟨fun q => by have := (nI_leI (by omega) (by omega)).mp q; omega, fun _ => ⟨vin (by omega), ?_⟩⟩
  have push : ∀ v : Int32, evT nm t st = v :: st → wj_X8_worked_63 Q (wl_X8_worked_5 Q f) (nI e0) (nI (st.length + 1)) (nI p) v (nI st.length) m := by
    intro v hv
    unfold wj_X8_worked_63
    rw [cl st.length, nI_1]
    refine ⟨vin hl, ?_⟩
    have := hk (sF m 12 st.length v) (Fr1.s 12 m _ _) (by rw [hv]; exact ⟨gF_sFs, stk_fr st (fun i hi => gF_sFi (by omega)) hs⟩)
    rw [hv] at this
    exact this
  rcases lwTk ht with ⟨k, hk9, rfl⟩ | ⟨j, hj, rfl⟩
  · have e18 : (18 : Int32) ≤ nI (18 + k) := nI_le (a := 18) (by omega) (by omega)
    have n18 : ¬ nI (18 + k) < 18 := Int32.not_lt.mpr e18
    refine ⟨fun _ => ?_, fun q => absurd e18 q⟩
    unfold wj_X8_worked_33
    rw [nI_1]
    refine ⟨fun q => absurd q n18, fun _ => push _ ?_⟩
    unfold evT
    rw [if_pos e18]
  · have n18 : ¬ (18 : Int32) ≤ nI j := fun q => by have := (nI_leI (a := 18) (by decide) (by omega)).mp q; omega
    refine ⟨fun q => absurd q n18, fun _ => ?_⟩
    rcases Nat.lt_or_ge j 6 with h6 | h6
    · have h5 : nI j ≤ 5 := nI_le (b := 5) (by omega) (by decide)
      refine ⟨fun q => absurd h5 (Int32.not_le.mpr q), fun _ => ?_⟩
      unfold wj_X8_worked_33
      rw [nI_1, cl j, hnm j h6]
      refine ⟨fun _ => ⟨vin h6, push _ ?_⟩, fun q => absurd (Int32.not_le.mp n18) q⟩
      unfold evT
      rw [if_neg n18, if_pos h5, cl j]
    · have n5 : ¬ nI j ≤ 5 := fun q => by have := (nI_leI (b := 5) (by omega) (by decide)).mp q; omega
      refine ⟨fun _ => ?_, fun q => absurd (Int32.not_le.mp n5) q⟩
      rcases Nat.lt_or_ge j 16 with h16 | h16
      · have e1 : ¬ nI j = 16 ∧ ¬ nI j = 17 := ⟨fun q => by have := (nI_eq (b := 16) (by omega) (by decide)).mp q; omega, fun q => by have := (nI_eq (b := 17) (by omega) (by decide)).mp q; omega⟩
        have h2 : 2 ≤ st.length := by
          rcases hw with q | q | q | q
          · exact absurd q n18
          · exact absurd q n5
          · rcases q.1 with z | z
            · exact absurd z e1.1
            · exact absurd z e1.2
          · exact q
        obtain ⟨b, a, r, rfl⟩ : ∃ b a r, st = b :: a :: r := by
          match st, h2 with
          | b :: a :: r, _ => exact ⟨b, a, r, rfl⟩
        obtain ⟨s1, s2, s3⟩ := hs
        have ee : evT nm (nI j) (b :: a :: r) = opV (nI j) a b :: r := by
          unfold evT
          rw [if_neg n18, if_neg n5, if_neg (fun z => z.elim e1.1 e1.2)]
        rw [ee] at hk
        simp only [List.length_cons] at s1 hl hk ⊢
        refine ⟨fun q => absurd q e1.1, fun _ => ⟨fun _ => ?_, fun q => absurd q e1.2⟩⟩
        rw [m1n, nI_pred, cl (r.length + 1), cl r.length, s1, s2]
        exact ⟨vin (by omega), vin (by omega), bothM h6 (by omega) ⟨vin (by omega), hk _ (Fr1.s 12 m _ _) ⟨gF_sFs, stk_fr r (fun i hi => gF_sFi (by omega)) s3⟩⟩⟩
      · have e1 : nI j = 16 ∨ nI j = 17 := by
          have : j = 16 ∨ j = 17 := by omega
          rcases this with rfl | rfl
          · exact Or.inl rfl
          · exact Or.inr rfl
        have h2 : 1 ≤ st.length := by
          rcases hw with q | q | q | q
          · exact absurd q n18
          · exact absurd q n5
          · exact q.2
          · omega
        obtain ⟨a, r, rfl⟩ : ∃ a r, st = a :: r := by
          match st, h2 with
          | a :: r, _ => exact ⟨a, r, rfl⟩
        obtain ⟨s1, s3⟩ := hs
        have ee : evT nm (nI j) (a :: r) = unV (nI j) a :: r := by
          unfold evT
          rw [if_neg n18, if_neg n5, if_pos e1]
        rw [ee] at hk
        simp only [List.length_cons] at hl hk ⊢
        have un : wj_X8_worked_81 Q (wl_X8_worked_5 Q f) (nI e0) (nI (r.length + 1)) (nI p) (nI j) m := by
          unfold wj_X8_worked_81 wj_X8_worked_123
          rw [nI_pred, cl r.length, s1, nI_1]
          have go : ∀ v, v = unV (nI j) a → wl_X8_worked_5 Q f (nI e0) (nI (r.length + 1)) (nI (p + 1)) (sF m 12 r.length v) := fun v hv => by
            subst hv
            exact hk _ (Fr1.s 12 m _ _) ⟨gF_sFs, stk_fr r (fun i hi => gF_sFi (by omega)) s3⟩
          refine ⟨fun q => ⟨vin (by omega), fun ha => ⟨vin (by omega), go _ ?_⟩, fun ha => ⟨vin (by omega), go _ ?_⟩⟩, fun q => ⟨vin (by omega), vin (by omega), go _ ?_⟩⟩
          · unfold unV; rw [if_neg q, if_neg ha]
          · unfold unV; rw [if_neg q, if_pos ha]
          · unfold unV; rw [if_pos q]
        exact ⟨fun _ => un, fun q => ⟨fun z => absurd (e1.resolve_left q) z, fun _ => un⟩⟩
theorem segM {Q : Int32 → rfS → Prop} {nm : Nat → Int32} : ∀ (code st : List Int32) (e p : Nat) (m : rfS), (∀ t ∈ code, lwOk t) → lwWf code st.length = some e → p + code.length ≤ 200 → seg (gF m 7) p code → (∀ i, i < 6 → gF m 13 i = nm i) → stk (gF m 12) st → st.length + code.length ≤ 200 → (∀ m2, Fr1 12 m m2 → stk (gF m2 12) (evL nm code st) → Q (gF m2 12 0) m2) → wl_X8_worked_5 Q (code.length + 1) (nI (p + code.length)) (nI st.length) (nI p) m
  | [], st, e, p, m, _, _, hp, _, _, hs, _, hk => by
    unfold wl_X8_worked_5
    exact ⟨fun _ => hk m (Fr1.rf 12 m) hs, fun q => absurd (nI_le (by simp) (by simp at hp; omega)) q⟩
  | t :: r, st, e, p, m, ho, hw, hp, hsg, hnm, hs, hl, hk => by
    obtain ⟨w1, w2, w3⟩ := wf_step (nm := nm) hw
    simp only [List.length_cons] at hp hl ⊢
    refine tokM (nm := nm) (ho t List.mem_cons_self) (by omega) hp hsg.1 hnm hs (by omega) w1 (fun m2 h1 h2 => ?_)
    have := segM (nm := nm) (Q := Q) r (evT nm t st) e (p + 1) m2 (fun x hx => ho x (List.mem_cons_of_mem _ hx)) w2 (by omega) (by rw [h1.1 7 (by decide)]; exact hsg.2) (fun i hi => by rw [h1.1 13 (by decide)]; exact hnm i hi) h2 (by omega) (fun m3 g1 g2 => hk m3 (h1.tr g1) g2)
    rw [show p + 1 + r.length = p + (r.length + 1) by omega] at this
    exact this
theorem workM {Q : Int32 → rfS → Prop} {nm : Nat → Int32} {code : List Int32} {p : Nat} {m : rfS} (ho : ∀ t ∈ code, lwOk t) (hw : lwWf code 0 = some 1) (hp : p + code.length ≤ 200) (hsg : seg (gF m 7) p code) (hnm : ∀ i, i < 6 → gF m 13 i = nm i) (hk : ∀ m2, Fr1 12 m m2 → Q ((evL nm code []).headD 0) m2) : wp_X8_worked m (nI p) (nI (p + code.length)) Q := by
  unfold wp_X8_worked
  obtain ⟨v, hv⟩ := ev1 (nm := nm) hw
  refine ⟨code.length + 1, segM (nm := nm) code [] 1 p m ho hw hp hsg hnm trivial (by simp; omega) (fun m2 h1 h2 => ?_)⟩
  rw [hv] at h2
  have h2v : gF m2 12 0 = v := h2.1
  have := hk m2 h1
  rw [hv] at this
  rw [h2v]
  exact this
theorem linesM {Q : Int32 → rfS → Prop} {nm : Nat → Int32} {N : Nat} (hN : N ≤ 60) : ∀ (L : List (Option (List Int32) × List Int32)) (k p : Nat) (m : rfS), (∀ q ∈ L, lwGood q) → gI m 0 6 = nI N → k + L.length = N → lwTab m L k p → p + (L.flatMap (fun q => q.1.getD [] ++ q.2)).length ≤ 200 → (∀ i, i < 6 → gF m 13 i = nm i) → (∀ m2, Fr1 12 m m2 → Q (lawV nm L) m2) → wl_X8_byLaw_96 Q (fun (x3_19 : Int32) (σ20 : rfS) => wj_X8_byLaw_141 Q x3_19 σ20) (L.length + 1) (nI k) m
  | [], k, p, m, _, h6, hk, _, _, _, hq => by
    simp at hk
    unfold wl_X8_byLaw_96
    rw [h6]
    exact ⟨fun _ => hq m (Fr1.rf 12 m), fun q => absurd (nI_le (by omega) (by omega)) q⟩
  | (qa, qb) :: r, k, p, m, hg, h6, hk, ht, hp, hnm, hq => by
    obtain ⟨g1, g2, g3⟩ := hg (qa, qb) List.mem_cons_self
    have g1 : ∀ a, qa = some a → a ≠ [] ∧ lwWf a 0 = some 1 ∧ ∀ t ∈ a, lwOk t := g1
    have g2 : lwWf qb 0 = some 1 := g2
    have g3 : ∀ t ∈ qb, lwOk t := g3
    unfold lwTab at ht
    obtain ⟨t1, t2, t3, t4, t5, t6⟩ := ht
    simp only at t1 t2 t3 t4 t5 t6
    rw [List.flatMap_cons, List.length_append, List.length_append] at hp
    simp only [List.length_cons] at hk hp ⊢
    unfold wl_X8_byLaw_96
    rw [h6, cl k, t1, t2, nI_1]
    have fin : ∀ m1, Fr1 12 m m1 → (∀ m2, Fr1 12 m m2 → Q ((evL nm qb []).headD 0) m2) → wj_X8_byLaw_141 Q (nI k) m1 := by
      intro m1 h1 hq1
      unfold wj_X8_byLaw_141
      rw [cl k, h1.1 5 (by decide), h1.1 6 (by decide), t2, t3]
      refine ⟨vin (by omega), vin (by omega), workM (nm := nm) g3 g2 (by omega) ?_ (fun i hi => by rw [h1.1 13 (by decide)]; exact hnm i hi) (fun m2 h2 => hq1 m2 (h1.tr h2))⟩
      rw [h1.1 7 (by decide)]
      exact seg_of qb _ t5
    refine ⟨fun q => by have := (nI_leI (by omega) (by omega)).mp q; omega, fun _ => ⟨vin (by omega), vin (by omega), ?_⟩⟩
    cases qa with
    | none =>
      simp only [Option.getD_none, List.length_nil, Nat.add_zero] at *
      exact ⟨fun _ => fin m (Fr1.rf 12 m) (fun m2 h2 => hq m2 h2), fun q => absurd (Int32.le_refl _) q⟩
    | some a =>
      simp only [Option.getD_some] at *
      obtain ⟨ga1, ga2, ga3⟩ := g1 a rfl
      have apos : 0 < a.length := List.length_pos_iff.mpr ga1
      refine ⟨fun q => by have := (nI_leI (by omega) (by omega)).mp q; omega, fun _ => ⟨vin (by omega), vin (by omega), ?_⟩⟩
      refine workM (nm := nm) ga3 ga2 (by omega) (seg_of a _ t4) hnm (fun m2 h2 => ⟨fun hz => fin m2 h2 (fun m3 h3 => ?_), fun hz => ?_⟩)
      · have := hq m3 h3
        have this : Q (if (evL nm a []).headD 0 = 0 then lawV nm r else (evL nm qb []).headD 0) m3 := this
        rw [if_neg hz] at this
        exact this
      · refine linesM (nm := nm) hN r (k + 1) (p + a.length + qb.length) m2 (fun x hx => hg x (List.mem_cons_of_mem _ hx)) (by rw [h2.2.1]; exact h6) (by omega) (lwTab.fr (h2.1 4 (by decide)) (h2.1 5 (by decide)) (h2.1 6 (by decide)) (h2.1 7 (by decide)) r _ _ t6) (by omega) (fun i hi => by rw [h2.1 13 (by decide)]; exact hnm i hi) (fun m3 h3 => ?_)
        have := hq m3 (h2.tr h3)
        have this : Q (if (evL nm a []).headD 0 = 0 then lawV nm r else (evL nm qb []).headD 0) m3 := this
        rw [if_pos hz] at this
        exact this

/-! judge -/
abbrev ssOk (x : Int32) : Prop := ¬ x < 0 ∧ (0 ≤ x / 10 ∧ x / 10 ≤ 5) ∧ (0 ≤ x - x / 10 * 10 ∧ x - x / 10 * 10 ≤ 5)
theorem w_areShelves (c : rfS) (x : Int32) (Q : Int32 → rfS → Prop) : wp_X7_areShelves c x Q = Q (bI (ssOk x)) c := by
  unfold wp_X7_areShelves
  simp only [w_isShelf, bI_0, Classical.not_not]
  by_cases h1 : x < 0
  · rw [bI_f (fun q => q.1 h1)]; simp [h1]
  · by_cases h2 : (0 ≤ x / 10 ∧ x / 10 ≤ 5)
    · by_cases h3 : (0 ≤ x - x / 10 * 10 ∧ x - x / 10 * 10 ≤ 5)
      · rw [bI_t ⟨h1, h2, h3⟩]
        exact propext ⟨fun q => ((q.2 h1).2 h2).2 h3, fun q => ⟨fun z => absurd z h1, fun _ => ⟨fun z => absurd h2 z, fun _ => ⟨fun z => absurd h3 z, fun _ => q⟩⟩⟩⟩
      · rw [bI_f (fun q => h3 q.2.2)]
        exact propext ⟨fun q => ((q.2 h1).2 h2).1 h3, fun q => ⟨fun z => absurd z h1, fun _ => ⟨fun z => absurd h2 z, fun _ => ⟨fun z => q, fun z => absurd z h3⟩⟩⟩⟩
    · rw [bI_f (fun q => h2 q.2.1)]
      exact propext ⟨fun q => (q.2 h1).1 h2, fun q => ⟨fun z => absurd z h1, fun _ => ⟨fun z => q, fun z => absurd z h2⟩⟩⟩
theorem noDebts_bad {m : rfS} {x : Int32} (h : ¬ ssOk x) {Q : Int32 → rfS → Prop} (hq : Q (-1) m) : wp_X8_noDebts m x Q := by
  unfold wp_X8_noDebts
  simp only [w_mShelf, bI_0, Classical.not_not]
  exact ⟨fun _ => hq, fun h1 => ⟨fun _ => hq, fun h2 => ⟨fun h3 => absurd ⟨h1, h2, h3⟩ h, fun _ => hq⟩⟩⟩
theorem debts_both {n bs : Nat} {c m : rfS} (h : Rel n bs c m) {x : Int32} (ok : ssOk x) : ∃ (r : Int32) (a b : Nat), a < 6 ∧ b < 6 ∧ x / 10 = nI a ∧ x - x / 10 * 10 = nI b ∧ (r = -11 ∨ r = -12 ∨ (r = 0 ∧ ∃ K g K2 g2, rotC c a n K g ∧ rotM m a n K g ∧ rotC c b n K2 g2 ∧ rotM m b n K2 g2)) ∧ (∀ Q : Int32 → rfS → Prop, Q r c → wp_X7_refusalOfDebts c x Q) ∧ (∀ Q : Int32 → rfS → Prop, Q r m → wp_X8_noDebts m x Q) := by
  obtain ⟨o1, o2, o3⟩ := id ok
  obtain ⟨a, ha, ea⟩ := i_below (k := 5) (by decide) o2
  obtain ⟨b, hb, eb⟩ := i_below (k := 5) (by decide) o3
  obtain ⟨r, hr, rC, rM⟩ := ref_both h ha
  obtain ⟨r2, hr2, rC2, rM2⟩ := ref_both h hb
  unfold wp_X7_refusalOfDebts wp_X8_noDebts
  simp only [w_mShelf, bI_0, Classical.not_not]
  have mm : ∀ Q : Int32 → rfS → Prop, wp_X8_noBytes m (nI a) (fun (r6 : Int32) (σ5 : rfS) => ((0 ≤ r6 → wp_X8_noBytes σ5 (nI b) (fun (r8 : Int32) (σ7 : rfS) => Q r8 σ7)) ∧ (¬ (0 ≤ r6) → Q r6 σ5))) → ((x < 0 → Q (-1) m) ∧ (¬ x < 0 → (¬ (0 ≤ x / 10 ∧ x / 10 ≤ 5) → Q (-1) m) ∧ ((0 ≤ x / 10 ∧ x / 10 ≤ 5) → ((0 ≤ x - x / 10 * 10 ∧ x - x / 10 * 10 ≤ 5) → wp_X8_noBytes m (x / 10) fun r6 σ5 => (0 ≤ r6 → wp_X8_noBytes σ5 (x - x / 10 * 10) fun r8 σ7 => Q r8 σ7) ∧ (¬0 ≤ r6 → Q r6 σ5)) ∧ (¬ (0 ≤ x - x / 10 * 10 ∧ x - x / 10 * 10 ≤ 5) → Q (-1) m)))) := by
    intro Q hq
    refine ⟨fun z => absurd z o1, fun _ => ⟨fun z => absurd o2 z, fun _ => ⟨fun _ => ?_, fun z => absurd o3 z⟩⟩⟩
    rw [eb, ea]; exact hq
  rcases hr with z | z | ⟨z, K, g, q1, q2⟩
  · refine ⟨r, a, b, ha, hb, ea, eb, Or.inl z, fun Q hq => ?_, fun Q hq => mm Q (rM _ ⟨fun q => ?_, fun _ => hq⟩)⟩
    · rw [ea, cl a]
      exact ⟨vin ha, rC _ ⟨fun q => by rw [z] at q; exact absurd q (by decide), fun _ => hq⟩⟩
    · rw [z] at q; exact absurd q (by decide)
  · refine ⟨r, a, b, ha, hb, ea, eb, Or.inr (Or.inl z), fun Q hq => ?_, fun Q hq => mm Q (rM _ ⟨fun q => ?_, fun _ => hq⟩)⟩
    · rw [ea, cl a]
      exact ⟨vin ha, rC _ ⟨fun q => by rw [z] at q; exact absurd q (by decide), fun _ => hq⟩⟩
    · rw [z] at q; exact absurd q (by decide)
  · refine ⟨r2, a, b, ha, hb, ea, eb, ?_, fun Q hq => ?_, fun Q hq => mm Q (rM _ ⟨fun _ => rM2 _ hq, fun q => absurd (by rw [z]; decide) q⟩)⟩
    · rcases hr2 with y | y | ⟨y, K2, g2, q3, q4⟩
      · exact Or.inl y
      · exact Or.inr (Or.inl y)
      · exact Or.inr (Or.inr ⟨y, K, g, K2, g2, q1, q2, q3, q4⟩)
    · rw [eb, ea, cl a, cl b]
      exact ⟨vin ha, rC _ ⟨fun _ => ⟨vin hb, rC2 _ hq⟩, fun q => absurd z q⟩⟩
def jdR (o g : Nat → Int32) (D L : Nat) : Nat → Nat → Int32
  | 0, _ => -2
  | f + 1, k => if L ≤ k then -2 else if D < k ∨ ¬ g k = o k then nI k else jdR o g D L f (k + 1)
theorem jdR_ge {o g : Nat → Int32} {D L : Nat} : ∀ f k, jdR o g D L f k = -2 ∨ ∃ j, j < L ∧ jdR o g D L f k = nI j
  | 0, k => Or.inl rfl
  | f + 1, k => by
    unfold jdR
    by_cases h : L ≤ k
    · rw [if_pos h]; exact Or.inl rfl
    · rw [if_neg h]
      by_cases h2 : D < k ∨ ¬ g k = o k
      · rw [if_pos h2]; exact Or.inr ⟨k, by omega, rfl⟩
      · rw [if_neg h2]; exact jdR_ge f (k + 1)
theorem notsoL {c : rfS} {a b n K K2 one d : Nat} {g g2 : Nat → Int32} {wn o : Int32} (hr : rotC c a n K g) (hr2 : rotC c b n K2 g2) (ho : one < n) (hd : d < 7) (h12 : gI c 12 3 = nI d) {Q : Int32 → rfS → Prop} : ∀ (f i : Nat) (x8 : Int32), (i ≤ dyK28 g n K → x8 = obN wn d one (rtW g) o i) → i ≤ K2 → K2 - i < f → Q (jdR (obN wn d one (rtW g) o) g2 (dyK28 g n K) K2 f i) c → wl_X7_firstNotSo_40 Q f (nI one) wn (53 + 2 * a) (53 + 2 * b) (nI (dyK28 g n K)) x8 (nI i) c := by
  have hn7 := hr.2.2.2.1
  have hK2 := hr2.2.1
  obtain ⟨d1, d2, d3⟩ := rt_i (g := g) (K := K) hn7 (Nat.le_refl _)
  intro f
  induction f with
  | zero => intro i x8 _ _ h; omega
  | succ f ih =>
    intro i x8 hx8 hi hf hq
    unfold wl_X7_firstNotSo_40
    unfold jdR at hq
    rw [hr2.1]
    simp only [lg_cmp_eq]
    refine ⟨fun q => ?_, fun q => ?_⟩
    · have := (nI_leI (by omega) (by omega)).mp q
      rw [if_pos this] at hq; exact hq
    · have hlt : i < K2 := by
        rcases Nat.lt_or_ge i K2 with z | z
        · exact z
        · exact absurd (nI_le z (by omega)) q
      rw [if_neg (by omega)] at hq
      refine ⟨fun q2 => ?_, fun q2 => ?_⟩
      · have := (nI_ltI (by omega) (by omega)).mp q2
        rw [if_pos (Or.inl this)] at hq; exact hq
      · have hle : i ≤ dyK28 g n K := by
          rcases Nat.lt_or_ge (dyK28 g n K) i with z | z
          · exact absurd (nI_lt z (by omega)) q2
          · exact z
        rw [hx8 hle, cl i, hr2.2.2.2.2 i hlt, l_eq, nI_1, h12]
        refine ⟨vin (by omega), fun q3 => ?_, fun q3 => ?_⟩
        · rw [if_neg (fun z => z.elim (fun y => by omega) (fun y => y q3))] at hq
          refine ⟨fun q4 => ?_, fun q4 => ?_⟩
          · have := (nI_leI (by omega) (by omega)).mp q4
            exact ih (i + 1) _ (fun z => by omega) (by omega) (by omega) hq
          · have hlt2 : i < dyK28 g n K := by
              rcases Nat.lt_or_ge i (dyK28 g n K) with z | z
              · exact z
              · exact absurd (nI_le z (by omega)) q4
            rw [hr.2.2.2.2 i (by omega), Int32.toInt32_toInt64, (d3 i hlt2).2]
            refine ⟨vin (by omega), obC (by omega) (by have := (d3 i hlt2).1; omega) (day_at hd (by omega)) ?_⟩
            exact ih (i + 1) _ (fun _ => rfl) (by omega) (by omega) hq
        · rw [if_pos (Or.inr q3)] at hq; exact hq
theorem notsoC {c : rfS} {a b n K K2 one d : Nat} {g g2 : Nat → Int32} {x wn o : Int32} (ha : a < 6) (hb : b < 6) (ea : x / 10 = nI a) (eb : x - x / 10 * 10 = nI b) (hr : rotC c a n K g) (hr2 : rotC c b n K2 g2) (ho : one < n) (hd : d < 7) (h12 : gI c 12 3 = nI d) {Q : Int32 → rfS → Prop} (hq : Q (jdR (obN wn d one (rtW g) o) g2 (dyK28 g n K) K2 61 0) c) : wp_X7_firstNotSo c x (nI one) wn o Q := by
  unfold wp_X7_firstNotSo
  rw [eb, ea, cl a, cl b]
  have hK2 := hr2.2.1
  exact ⟨vin ha, vin hb, daysC hr ⟨61, notsoL hr hr2 ho hd h12 61 0 o (fun _ => rfl) (by omega) (by omega) hq⟩⟩
theorem unlikeL {E : heT} {a b K K2 one : Nat} {g g2 : Nat → Int32} {st : sdT} (ha : a < 6) (hb : b < 6) (ho : one < E.1) (hd : st.2.2.2 < 7) {Q : Int32 → rfS → Prop} {kx : Int32 → rfS → Prop} : ∀ (f i : Nat) (m : rfS), heM m E → rotM m a E.1 K g → rotM m b E.1 K2 g2 → (i ≤ dyK28 g E.1 K → stM m E.1 (itS E (rtW g) st (i - 1))) → i ≤ K2 → K2 - i < f → (∀ m2, FrQ E.1 m m2 → kx (jdR (obN (E.2.1 one) st.2.2.2 one (rtW g) (st.1 one)) g2 (dyK28 g E.1 K) K2 f i) m2) → wl_X8_unlike_33 Q kx (f + 1) (nI one) (nI a) (nI b) (nI (dyK28 g E.1 K)) (-2) (nI i) m := by
  intro f
  induction f with
  | zero => intro i m _ _ _ _ _ h; omega
  | succ f ih =>
    intro i m hE hr hr2 hst hi hf hq
    have hn7 := hE.1
    have hK2 := hr2.2.1
    obtain ⟨d1, d2, d3⟩ := rt_i (g := g) (K := K) hn7 (Nat.le_refl _)
    unfold wl_X8_unlike_33
    unfold jdR at hq
    rw [cl b, hr2.1]
    refine ⟨vin hb, fun q => ?_, fun q => ⟨fun z => absurd rfl z, fun _ => ?_⟩⟩
    · have := (nI_leI (by omega) (by omega)).mp q
      have := hq m (FrQ.rf _ m)
      rw [if_pos ‹_›] at this; exact this
    · have hlt : i < K2 := by
        rcases Nat.lt_or_ge i K2 with z | z
        · exact z
        · exact absurd (nI_le z (by omega)) q
      rw [if_neg (by omega)] at hq
      -- found
      have found : ∀ m2, FrQ E.1 m m2 → (dyK28 g E.1 K < i ∨ ¬ g2 i = obN (E.2.1 one) st.2.2.2 one (rtW g) (st.1 one) i) → gF m2 21 = gF m 21 → wl_X8_unlike_33 Q kx (f + 1) (nI one) (nI a) (nI b) (nI (dyK28 g E.1 K)) (nI i) (nI (i + 1)) m2 := by
        intro m2 fr q2 e21
        unfold wl_X8_unlike_33
        have := hq m2 fr
        rw [if_pos q2] at this
        exact ⟨vin hb, fun _ => this, fun _ => ⟨fun _ => this, fun z => absurd z (ne_m2 i (by omega))⟩⟩
      by_cases hle : i ≤ dyK28 g E.1 K
      · have nlt : ¬ nI (dyK28 g E.1 K) < nI i := nI_nlt (by omega) (by omega)
        have body : ∀ m2, FrQ E.1 m m2 → stM m2 E.1 (itS E (rtW g) st i) → heM m2 E → rotM m2 a E.1 K g → rotM m2 b E.1 K2 g2 → wj_X8_unlike_78 Q (wl_X8_unlike_33 Q kx (f + 1)) (nI one) (nI a) (nI b) (nI (dyK28 g E.1 K)) (-2) (nI i) m2 := by
          intro m2 fr t2 e2 r2 r3
          unfold wj_X8_unlike_78
          rw [show (7 : Int32) = nI 7 from rfl, nI_add, cl (7 + one), nI_1]
          have ow : gF m2 1 (7 + one) = obN (E.2.1 one) st.2.2.2 one (rtW g) (st.1 one) i := by
            rw [← it_owed hd]; exact t2.1 one ho
          rw [ow]
          refine ⟨fun z => absurd z nlt, fun _ => ⟨vin (by omega), w_told hb (by omega) _ ?_⟩⟩
          rw [r3.2.2.2.2 i hlt]
          refine ⟨fun q2 => ?_, fun q2 => ?_⟩
          · refine ih (i + 1) m2 e2 r2 r3 (fun _ => t2) (by omega) (by omega) (fun m3 f3 => ?_)
            have := hq m3 (fr.tr f3)
            rw [if_neg (fun z => z.elim (fun y => by omega) (fun y => y q2.symm))] at this; exact this
          · exact found m2 fr (Or.inr (fun z => q2 z.symm)) (fr.1 21 (by decide) (by decide) (by decide) (by decide))
        refine ⟨fun q2 => ?_, fun q2 => ⟨fun z => absurd z nlt, fun _ => ?_⟩⟩
        · have e : i = 0 := by
            have := (nI_leI (b := 0) (by omega) (by omega)).mp q2
            omega
          subst e
          exact body m (FrQ.rf _ m) (hst (by omega)) hE hr hr2
        · have e : 0 < i := by
            rcases Nat.eq_zero_or_pos i with z | z
            · subst z; exact absurd (by decide) q2
            · exact z
          rw [show nI i - 1 = nI (i - 1) from pk_sub (b := 1) (by omega)]
          refine w_told ha (by omega) _ ?_
          rw [hr.2.2.2.2 (i - 1) (by omega), (d3 (i - 1) (by omega)).2]
          refine passM (E := E) hE (hst hle) (d3 (i - 1) (by omega)).1 (fun m2 f2 t2 => ?_)
          refine body m2 f2 ?_ (hE.Q f2) (hr.Q f2) (hr2.Q f2)
          have : itS E (rtW g) st i = dyS E (itS E (rtW g) st (i - 1)) (rtW g (i - 1)) := by
            rw [show i = (i - 1) + 1 by omega]; rfl
          rw [this]; exact t2
      · have lt : nI (dyK28 g E.1 K) < nI i := nI_lt (by omega) (by omega)
        have e0 : ¬ nI i ≤ 0 := nI_nle (by omega) (by omega)
        refine ⟨fun z => absurd z e0, fun _ => ⟨fun _ => ?_, fun z => absurd lt z⟩⟩
        unfold wj_X8_unlike_78
        rw [nI_1]
        exact ⟨fun _ => found m (FrQ.rf _ m) (Or.inl (by omega)) rfl, fun z => absurd lt z⟩
theorem unlikeM {E : heT} {m : rfS} {a b K K2 one : Nat} {g g2 : Nat → Int32} {st : sdT} {x : Int32} (ha : a < 6) (hb : b < 6) (ea : x / 10 = nI a) (eb : x - x / 10 * 10 = nI b) (ho : one < E.1) (hE : heM m E) (hst : stM m E.1 st) (hr : rotM m a E.1 K g) (hr2 : rotM m b E.1 K2 g2) {Q : Int32 → rfS → Prop} (hq : ∀ m2, ScN m m2 → Q (jdR (obN (E.2.1 one) st.2.2.2 one (rtW g) (st.1 one)) g2 (dyK28 g E.1 K) K2 61 0) m2) : wp_X8_unlike m x (nI one) Q := by
  unfold wp_X8_unlike
  have hK2 := hr2.2.1
  refine keepM (by decide) (by decide) (fun m2 km => ?_)
  rw [eb, ea]
  refine daysM ha (hr.kept (by decide) km) ⟨62, unlikeL (E := E) (st := st) ha hb ho hst.2.2.2.2 61 0 m2 (hE.kept (by decide) km) (hr.kept (by decide) km) (hr2.kept (by decide) km) (fun _ => hst.kept (by decide) km) (Nat.zero_le _) (by omega) (fun m3 f3 => ?_)⟩
  unfold wj_X8_unlike_115
  exact layM (by decide) (by decide) (fun m4 lm => hq m4 (ScN.think hE.1 (by decide) km f3 lm))
theorem op_judge {n bs : Nat} {c m : rfS} (h : Rel n bs c m) (x1 x2 : Int32) : wp_X7_judge c x1 x2 (fun r1 c2 => wp_X8_judge m x1 x2 (fun r2 m2 => r1 = r2 ∧ RelE c2 m2)) := by
  obtain ⟨lo, d, hd, ed, e1, e2, s1, s2⟩ := h.env
  have hn7 := h.1.1
  have hnC := h.1.2.1
  have hnM := h.1.2.2.1
  unfold wp_X7_judge wp_X8_judge
  simp only [w_areShelves, w_isOne, w_mOne, hnC, hnM, i_pred (n := n) (by omega), bI_0, Classical.not_not]
  have oi : (0 ≤ x2 ∧ x2 ≤ gI m 0 0 - 1) ↔ (0 ≤ x2 ∧ x2 < nI n) := by rw [hnM, i_pred (by omega)]
  refine ⟨fun q => noDebts_bad q ⟨fun _ => ⟨by simp, n, bs, h⟩, fun z => absurd rfl z⟩, fun g1 => ?_⟩
  obtain ⟨r, a, b, ha, hb, ea, eb, hr, rC, rM⟩ := debts_both h g1
  have rn : ¬ r = -1 := by
    rcases hr with z | z | z
    · rw [z]; decide
    · rw [z]; decide
    · rw [z.1]; decide
  refine ⟨fun g2 => ?_, fun q => rM _ ⟨fun _ => ⟨by simp, n, bs, h⟩, fun _ => ⟨fun z => absurd (oi.mp z) q, fun _ => ⟨by simp, n, bs, h⟩⟩⟩⟩
  obtain ⟨one, ho, rfl⟩ := i_ix (by omega) g2.1 g2.2
  rw [cl one]
  refine rC _ ⟨fun hr0 => ?_, fun hr0 => ?_⟩
  · obtain ⟨K, g, K2, g2', q1, q2, q3, q4⟩ : ∃ K g K2 g2, rotC c a n K g ∧ rotM m a n K g ∧ rotC c b n K2 g2 ∧ rotM m b n K2 g2 := by
      rcases hr with z | z | z
      · rw [z] at hr0; exact absurd hr0 (by decide)
      · rw [z] at hr0; exact absurd hr0 (by decide)
      · exact z.2
    refine ⟨vin (by omega), vin (by omega), notsoC ha hb ea eb q1 q3 ho hd ed ?_⟩
    refine rM _ ⟨fun z => absurd z rn, fun _ => ⟨fun _ => ⟨fun _ => ?_, fun z => absurd (by rw [hr0]; decide) z⟩, fun z => absurd (oi.mpr g2) z⟩⟩
    exact unlikeM (E := (n, gF c 2, gF c 4, gF c 5, lo)) (st := (gF c 13, gF c 14, gI c 12 2, d)) ha hb ea eb ho e2 s2 q2 q4 (fun m2 f2 => ⟨rfl, n, bs, h.scn (ScC.rf c) f2⟩)
  · refine rM _ ⟨fun z => absurd z rn, fun _ => ⟨fun _ => ⟨fun q => ?_, fun _ => ⟨by simp, n, bs, h⟩⟩, fun z => absurd (oi.mpr g2) z⟩⟩
    rcases hr with z | z | z
    · rw [z] at q; exact absurd q (by decide)
    · rw [z] at q; exact absurd q (by decide)
    · exact absurd z.1 hr0

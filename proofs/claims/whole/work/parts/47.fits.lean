/-! fits -/
def cU (P : Nat → Prop) [DecidablePred P] : Nat → Int32
  | 0 => 0
  | k + 1 => if P k then cU P k + 1 else cU P k
def fU (P : Nat → Prop) [DecidablePred P] : Nat → Int32
  | 0 => -2
  | k + 1 => if P k then (if fU P k = -2 then nI k else fU P k) else fU P k
def cD (P : Nat → Prop) [DecidablePred P] : Nat → Nat → Int32
  | 0, _ => 0
  | f + 1, i => if P i then cD P f (i + 1) + 1 else cD P f (i + 1)
def fD (P : Nat → Prop) [DecidablePred P] : Nat → Nat → Int32
  | 0, _ => -2
  | f + 1, i => if P i then nI i else fD P f (i + 1)
theorem cUD (P : Nat → Prop) [DecidablePred P] : ∀ f i, cU P i + cD P f i = cU P (i + f)
  | 0, i => by show cU P i + 0 = cU P i; exact Int32.add_zero _
  | f + 1, i => by
    have e := cUD P f (i + 1)
    rw [show i + (f + 1) = i + 1 + f by omega, ← e]
    rw [show cD P (f + 1) i = if P i then cD P f (i + 1) + 1 else cD P f (i + 1) from rfl]
    rw [show cU P (i + 1) = if P i then cU P i + 1 else cU P i from rfl]
    by_cases h : P i
    · rw [if_pos h, if_pos h, Int32.add_comm (cD P f (i + 1)) 1, ← Int32.add_assoc]
    · rw [if_neg h, if_neg h]
theorem fUD (P : Nat → Prop) [DecidablePred P] : ∀ f i, i + f < 1000 → (if fU P i = -2 then fD P f i else fU P i) = fU P (i + f)
  | 0, i, _ => by
    show (if fU P i = -2 then -2 else fU P i) = fU P i
    by_cases h : fU P i = -2
    · rw [if_pos h, h]
    · rw [if_neg h]
  | f + 1, i, hi => by
    have e := fUD P f (i + 1) (by omega)
    rw [show i + (f + 1) = i + 1 + f by omega, ← e]
    rw [show fD P (f + 1) i = if P i then nI i else fD P f (i + 1) from rfl]
    rw [show fU P (i + 1) = if P i then (if fU P i = -2 then nI i else fU P i) else fU P i from rfl]
    by_cases h : P i
    · by_cases h2 : fU P i = -2
      · rw [if_pos h, if_pos h, if_pos h2, if_neg (ne_m2 i (by omega))]
      · rw [if_pos h, if_pos h, if_neg h2, if_neg h2]
    · rw [if_neg h, if_neg h]
/-- what one is with v in the place of b's number of that part -/
def fwn (wa : Nat → Int32) (part a b : Nat) (v : Int32) : Int32 := if part = 0 ∧ a = b then v else wa a
def fow (oa : Nat → Int32) (part a b : Nat) (v : Int32) : Int32 := if part = 1 ∧ a = b then v else oa a
abbrev fitP (wa oa : Nat → Int32) (part a b d : Nat) (W : Nat → Nat) (g2 : Nat → Int32) (D K2 : Nat) : Nat → Prop := fun v => jdR (obN (fwn wa part a b (nI v)) d a W (fow oa part a b (nI v))) g2 D K2 61 0 = -2
theorem fitsCL {c : rfS} {sa sb n K K2 a b d M part : Nat} {g g2 : Nat → Int32} {x x3 x6 x7 : Int32} (ha : sa < 6) (hb : sb < 6) (ea : x / 10 = nI sa) (eb : x - x / 10 * 10 = nI sb) (hr : rotC c sa n K g) (hr2 : rotC c sb n K2 g2) (ho : a < n) (hd : d < 7) (h12 : gI c 12 3 = nI d) (hM : M < 500) (h6 : (x6 = 0 ∧ a ≠ b) ∨ (x6 = 1 ∧ a = b)) (h7 : (x7 = 0 ∧ part = 1) ∨ (x7 = 1 ∧ part = 0)) {Q : Int32 → rfS → Prop} {kx : Int32 → Int32 → Int32 → rfS → Prop} (hk : kx x3 (cU (fitP (gF c 2) (gF c 13) part a b d (rtW g) g2 (dyK28 g n K) K2) (M + 1)) (fU (fitP (gF c 2) (gF c 13) part a b d (rtW g) g2 (dyK28 g n K) K2) (M + 1)) c) : ∀ (f i : Nat), i ≤ M + 1 → M + 1 - i < f → wl_X7_fits_100 Q kx f x x3 (nI a) x6 x7 (nI M) (cU (fitP (gF c 2) (gF c 13) part a b d (rtW g) g2 (dyK28 g n K) K2) i) (fU (fitP (gF c 2) (gF c 13) part a b d (rtW g) g2 (dyK28 g n K) K2) i) (nI i) c := by
  intro f
  induction f with
  | zero => intro i _ h; omega
  | succ f ih =>
    intro i hi hf
    have hn7 := hr.2.2.2.1
    unfold wl_X7_fits_100
    refine ⟨fun q => ?_, fun q => ?_⟩
    · have := (nI_ltI (by omega) (by omega)).mp q
      rw [show i = M + 1 by omega]; exact hk
    · have hlt : i ≤ M := by
        rcases Nat.lt_or_ge M i with z | z
        · exact absurd (nI_lt z (by omega)) q
        · exact z
      have main : wj_X7_fits_159 Q (wl_X7_fits_100 Q kx f) x x3 (nI a) x6 x7 (nI M) (cU (fitP (gF c 2) (gF c 13) part a b d (rtW g) g2 (dyK28 g n K) K2) i) (fU (fitP (gF c 2) (gF c 13) part a b d (rtW g) g2 (dyK28 g n K) K2) i) (nI i) (fwn (gF c 2) part a b (nI i)) (fow (gF c 13) part a b (nI i)) c := by
        unfold wj_X7_fits_159
        refine notsoC ha hb ea eb hr hr2 ho hd h12 ⟨fun q2 => ?_, fun q2 => ⟨fun q3 => ?_, fun q3 => ?_⟩⟩
        · have := ih (i + 1) (by omega) (by omega)
          rw [nI_1]
          rw [show cU (fitP (gF c 2) (gF c 13) part a b d (rtW g) g2 (dyK28 g n K) K2) (i + 1) = cU (fitP (gF c 2) (gF c 13) part a b d (rtW g) g2 (dyK28 g n K) K2) i from if_neg q2, show fU (fitP (gF c 2) (gF c 13) part a b d (rtW g) g2 (dyK28 g n K) K2) (i + 1) = fU (fitP (gF c 2) (gF c 13) part a b d (rtW g) g2 (dyK28 g n K) K2) i from if_neg q2] at this
          exact this
        · have := ih (i + 1) (by omega) (by omega)
          rw [nI_1]
          rw [show cU (fitP (gF c 2) (gF c 13) part a b d (rtW g) g2 (dyK28 g n K) K2) (i + 1) = cU (fitP (gF c 2) (gF c 13) part a b d (rtW g) g2 (dyK28 g n K) K2) i + 1 from if_pos q2, show fU (fitP (gF c 2) (gF c 13) part a b d (rtW g) g2 (dyK28 g n K) K2) (i + 1) = fU (fitP (gF c 2) (gF c 13) part a b d (rtW g) g2 (dyK28 g n K) K2) i from (if_pos q2).trans (if_neg q3)] at this
          exact this
        · have := ih (i + 1) (by omega) (by omega)
          rw [nI_1]
          rw [show cU (fitP (gF c 2) (gF c 13) part a b d (rtW g) g2 (dyK28 g n K) K2) (i + 1) = cU (fitP (gF c 2) (gF c 13) part a b d (rtW g) g2 (dyK28 g n K) K2) i + 1 from if_pos q2, show fU (fitP (gF c 2) (gF c 13) part a b d (rtW g) g2 (dyK28 g n K) K2) (i + 1) = nI i from (if_pos q2).trans (if_pos q3)] at this
          exact this
      rcases h6 with ⟨z6, y6⟩ | ⟨z6, y6⟩ <;> rcases h7 with ⟨z7, y7⟩ | ⟨z7, y7⟩ <;> subst z6 z7 y7
      · rw [show fwn (gF c 2) 1 a b (nI i) = gF c 2 a from if_neg (by omega), show fow (gF c 13) 1 a b (nI i) = gF c 13 a from if_neg (by omega)] at main
        refine ⟨fun _ => ?_, fun z => absurd rfl z⟩
        unfold wj_X7_fits_122 wj_X7_fits_132 wj_X7_fits_149
        rw [cl a]
        exact ⟨vin (by omega), fun _ => ⟨vin (by omega), main⟩, fun z => absurd rfl z⟩
      · rw [show fwn (gF c 2) 0 a b (nI i) = gF c 2 a from if_neg (by omega), show fow (gF c 13) 0 a b (nI i) = gF c 13 a from if_neg (by omega)] at main
        refine ⟨fun _ => ?_, fun z => absurd rfl z⟩
        unfold wj_X7_fits_122 wj_X7_fits_132 wj_X7_fits_149
        rw [cl a]
        exact ⟨vin (by omega), fun _ => ⟨vin (by omega), main⟩, fun z => absurd rfl z⟩
      · rw [show fwn (gF c 2) 1 a b (nI i) = gF c 2 a from if_neg (by omega), show fow (gF c 13) 1 a b (nI i) = nI i from if_pos ⟨rfl, y6⟩] at main
        refine ⟨fun z => absurd z (by decide), fun _ => ⟨fun _ => ?_, fun z => absurd rfl z⟩⟩
        unfold wj_X7_fits_122 wj_X7_fits_132
        rw [cl a]
        exact ⟨vin (by omega), fun z => absurd z (by decide), fun _ => ⟨fun z => absurd rfl z, fun _ => main⟩⟩
      · rw [show fwn (gF c 2) 0 a b (nI i) = nI i from if_pos ⟨rfl, y6⟩, show fow (gF c 13) 0 a b (nI i) = gF c 13 a from if_neg (by omega)] at main
        refine ⟨fun z => absurd z (by decide), fun _ => ⟨fun z => absurd z (by decide), fun _ => ?_⟩⟩
        unfold wj_X7_fits_132 wj_X7_fits_149
        rw [cl a]
        exact ⟨fun z => absurd z (by decide), fun _ => ⟨fun _ => ⟨vin (by omega), main⟩, fun z => absurd z (by decide)⟩⟩
/-- as m but for one number -/
def ScX (p : Nat) (m m2 : rfS) : Prop := (∀ q, q ≠ 1 → q ≠ 2 → q ≠ 12 → q ≠ 13 → (q < 23 ∨ 27 < q) → gF m2 q = gF m q) ∧ (∀ j, j ≠ p → gF m2 1 j = gF m 1 j) ∧ gF m2 2 0 = gF m 2 0 ∧ gF m2 2 1 = gF m 2 1 ∧ (∀ j, j ≠ 40 → j ≠ 41 → gI m2 0 j = gI m 0 j) ∧ ∀ q, gL m2 q = gL m q
theorem ScX.s {p : Nat} {m m2 : rfS} (h : ScX p m m2) (v : Int32) : ScX p m (sF m2 1 p v) := ⟨fun q a b c d e => by rw [gF_sF_ne a]; exact h.1 q a b c d e, fun j hj => by rw [gF_sFi hj]; exact h.2.1 j hj, by rw [gF_sFn (by decide)]; exact h.2.2.1, by rw [gF_sFn (by decide)]; exact h.2.2.2.1, h.2.2.2.2.1, h.2.2.2.2.2⟩
theorem ScX.n {p : Nat} {m m2 m3 : rfS} (h : ScX p m m2) (h2 : ScN m2 m3) : ScX p m m3 := ⟨fun q a b c d e => (h2.1 q a b c d e).trans (h.1 q a b c d e), fun j hj => (h2.2.1 j).trans (h.2.1 j hj), h2.2.2.1.trans h.2.2.1, h2.2.2.2.1.trans h.2.2.2.1, fun j a b => (h2.2.2.2.2.1 j a b).trans (h.2.2.2.2.1 j a b), fun q => (h2.2.2.2.2.2 q).trans (h.2.2.2.2.2 q)⟩
theorem fitsML {E : heT} {m : rfS} {sa sb K K2 a b M part : Nat} {st : sdT} {g g2 : Nat → Int32} {x x2 x3 x5 x6 : Int32} (ha : sa < 6) (hb : sb < 6) (ea : x / 10 = nI sa) (eb : x - x / 10 * 10 = nI sb) (hE : heM m E) (hst : stM m E.1 st) (hr : rotM m sa E.1 K g) (hr2 : rotM m sb E.1 K2 g2) (ho : a < E.1) (ho2 : b < E.1) (e2a : x2 / 10 = nI a) (e2b : x2 - x2 / 10 * 10 = nI b) (hM : M < 500) (hp : part < 2) (h5 : x5 = nI part) {Q : Int32 → rfS → Prop} {kx : Int32 → Int32 → Int32 → Int32 → Int32 → Int32 → rfS → Prop} (hk : ∀ m2, ScX (7 * part + b) m m2 → kx x2 x3 x5 x6 (cD (fitP E.2.1 st.1 part a b st.2.2.2 (rtW g) g2 (dyK28 g E.1 K) K2) (M + 1) 0) (fD (fitP E.2.1 st.1 part a b st.2.2.2 (rtW g) g2 (dyK28 g E.1 K) K2) (M + 1) 0) m2) : ∀ (j : Nat) (m2 : rfS), j ≤ M + 1 → ScX (7 * part + b) m m2 → wl_X8_fits_96 Q kx (j + 1) x x2 x3 x5 x6 (cD (fitP E.2.1 st.1 part a b st.2.2.2 (rtW g) g2 (dyK28 g E.1 K) K2) (M + 1 - j) j) (fD (fitP E.2.1 st.1 part a b st.2.2.2 (rtW g) g2 (dyK28 g E.1 K) K2) (M + 1 - j) j) (nI j - 1) m2 := by
  intro j
  induction j with
  | zero =>
    intro m2 _ hx
    unfold wl_X8_fits_96
    exact ⟨fun _ => hk m2 hx, fun z => absurd (by decide) z⟩
  | succ j ih =>
    intro m2 hj hx
    have hn7 := hE.1
    unfold wl_X8_fits_96
    rw [nI_pred, e2b, e2a, h5]
    refine ⟨fun z => absurd z (nI_pos (by omega)), fun _ => becM (n := E.1) hn7 (by omega) (by unfold bnd; rw [if_pos (by omega)]; exact ho2) ?_⟩
    have up : upM m2 part b (nI j) = sF m2 1 (7 * part + b) (nI j) := by unfold upM; rw [if_pos (by omega)]
    rw [up]
    have hx1 := hx.s (nI j)
    obtain ⟨g1, g2', g3, g4, g5, g6⟩ := hx1
    have at_p : gF (sF m2 1 (7 * part + b) (nI j)) 1 (7 * part + b) = nI j := gF_sFs
    have hrv : rotM (sF m2 1 (7 * part + b) (nI j)) sa E.1 K g := hr.fr (g1 21 (by decide) (by decide) (by decide) (by decide) (by decide)) (g5 0 (by decide) (by decide)) (g6 22)
    have hrv2 : rotM (sF m2 1 (7 * part + b) (nI j)) sb E.1 K2 g2 := hr2.fr (g1 21 (by decide) (by decide) (by decide) (by decide) (by decide)) (g5 0 (by decide) (by decide)) (g6 22)
    have law : LawM E.2.2.2.2 (sF m2 1 (7 * part + b) (nI j)) := hE.2.2.2.2.fr (g5 5 (by decide) (by decide)) (g5 6 (by decide) (by decide)) (g1 4 (by decide) (by decide) (by decide) (by decide) (by decide)) (g1 5 (by decide) (by decide) (by decide) (by decide) (by decide)) (g1 6 (by decide) (by decide) (by decide) (by decide) (by decide)) (g1 7 (by decide) (by decide) (by decide) (by decide) (by decide))
    -- the world with v
    have run : ∀ Q2 : Int32 → rfS → Prop, (∀ m3, ScN (sF m2 1 (7 * part + b) (nI j)) m3 → Q2 (jdR (obN (fwn E.2.1 part a b (nI j)) st.2.2.2 a (rtW g) (fow st.1 part a b (nI j))) g2 (dyK28 g E.1 K) K2 61 0) m3) → wp_X8_unlike (sF m2 1 (7 * part + b) (nI j)) x (nI a) Q2 := by
      intro Q2 hq2
      have hE' : heM (sF m2 1 (7 * part + b) (nI j)) (E.1, (fun i => fwn E.2.1 part i b (nI j)), E.2.2.1, E.2.2.2.1, E.2.2.2.2) := by
        refine ⟨hn7, by rw [g5 0 (by decide) (by decide)]; exact hE.2.1, fun i hi => ?_, fun d hd => ?_, law⟩
        · have hi : i < E.1 := hi
          show gF _ 1 i = fwn E.2.1 part i b (nI j)
          unfold fwn
          by_cases e : part = 0 ∧ i = b
          · rw [if_pos e]; obtain ⟨rfl, rfl⟩ := e; rw [Nat.mul_zero, Nat.zero_add] at at_p ⊢; exact at_p
          · rw [if_neg e, g2' i (by omega)]; exact hE.2.2.1 i hi
        · rw [g2' (28 + d) (by omega), g2' (35 + d) (by omega)]; exact hE.2.2.2.1 d hd
      have hst' : stM (sF m2 1 (7 * part + b) (nI j)) E.1 ((fun i => fow st.1 part i b (nI j)), st.2.1, st.2.2.1, st.2.2.2) := by
        refine ⟨fun i hi => ?_, fun i hi => ?_, by rw [g3]; exact hst.2.2.1, by rw [g4]; exact hst.2.2.2.1, hst.2.2.2.2⟩
        · show gF _ 1 (7 + i) = fow st.1 part i b (nI j)
          unfold fow
          by_cases e : part = 1 ∧ i = b
          · rw [if_pos e]; obtain ⟨rfl, rfl⟩ := e; exact at_p
          · rw [if_neg e, g2' (7 + i) (by omega)]; exact hst.1 i hi
        · rw [g2' (14 + i) (by omega)]; exact hst.2.1 i hi
      exact unlikeM (E := (E.1, (fun i => fwn E.2.1 part i b (nI j)), E.2.2.1, E.2.2.2.1, E.2.2.2.2)) ha hb ea eb ho hE' hst' hrv hrv2 hq2
    refine run _ (fun m3 f3 => ?_)
    have hx3 : ScX (7 * part + b) m m3 := (hx.s (nI j)).n f3
    have ihj := ih m3 (by omega) hx3
    rw [show M + 1 - j = (M + 1 - (j + 1)) + 1 by omega] at ihj
    unfold cD fD at ihj
    rw [show nI j + -1 = nI j - 1 from (Int32.sub_eq_add_neg _ _).symm]
    rw [h5] at ihj
    refine ⟨fun q => ?_, fun q => ?_⟩
    · rw [if_pos q, if_pos q] at ihj; exact ihj
    · rw [if_neg q, if_neg q] at ihj; exact ihj
abbrev abOk (n : Nat) (x : Int32) : Prop := ¬ x < 0 ∧ (0 ≤ x / 10 ∧ x / 10 < nI n) ∧ (0 ≤ x - x / 10 * 10 ∧ x - x / 10 * 10 < nI n)
theorem w_areBrothers {c : rfS} {n : Nat} (hn : gI c 1 0 = nI n) (x : Int32) (Q : Int32 → rfS → Prop) : wp_X7_areBrothers c x Q = Q (bI (abOk n x)) c := by
  unfold wp_X7_areBrothers
  simp only [w_isOne, bI_0, Classical.not_not, hn]
  by_cases h1 : x < 0
  · rw [bI_f (fun q => q.1 h1)]; simp [h1]
  · by_cases h2 : (0 ≤ x / 10 ∧ x / 10 < nI n)
    · by_cases h3 : (0 ≤ x - x / 10 * 10 ∧ x - x / 10 * 10 < nI n)
      · rw [bI_t ⟨h1, h2, h3⟩]
        exact propext ⟨fun q => ((q.2 h1).2 h2).2 h3, fun q => ⟨fun z => absurd z h1, fun _ => ⟨fun z => absurd h2 z, fun _ => ⟨fun z => absurd h3 z, fun _ => q⟩⟩⟩⟩
      · rw [bI_f (fun q => h3 q.2.2)]
        exact propext ⟨fun q => ((q.2 h1).2 h2).1 h3, fun q => ⟨fun z => absurd z h1, fun _ => ⟨fun z => absurd h2 z, fun _ => ⟨fun z => q, fun z => absurd z h3⟩⟩⟩⟩
    · rw [bI_f (fun q => h2 q.2.1)]
      exact propext ⟨fun q => (q.2 h1).1 h2, fun q => ⟨fun z => absurd z h1, fun _ => ⟨fun z => q, fun z => absurd z h2⟩⟩⟩
theorem op_fits {n bs : Nat} {c m : rfS} (h : Rel n bs c m) (x1 x2 x3 : Int32) : wp_X7_fits c x1 x2 x3 (fun r1 c2 => wp_X8_fits m x1 x2 x3 (fun r2 m2 => r1 = r2 ∧ RelE c2 m2)) := by
  obtain ⟨lo, d, hd, ed, e1, e2, s1, s2⟩ := h.env
  have hn7 := h.1.1
  have hnC := h.1.2.1
  have hnM := h.1.2.2.1
  unfold wp_X7_fits
  simp only [w_areShelves, w_areBrothers hnC, w_isWithin, bI_0, Classical.not_not]
  refine ⟨fun q => ?_, fun g1 => ?_⟩
  · unfold wp_X8_fits
    exact noDebts_bad q ⟨fun _ => ⟨by simp, n, bs, h⟩, fun z => absurd rfl z⟩
  obtain ⟨r, sa, sb, hsa, hsb, ea, eb, hr, rC, rM⟩ := debts_both h g1
  have rn : ¬ r = -1 := by
    rcases hr with z | z | z
    · rw [z]; decide
    · rw [z]; decide
    · rw [z.1]; decide
  -- the model's refusals
  have mBad : ∀ v : Int32, (¬ (abOk n x2 ∧ (0 ≤ x3 ∧ x3 ≤ 3)) → v = -1) → (abOk n x2 → (0 ≤ x3 ∧ x3 ≤ 3) → v = r ∧ ¬ 0 ≤ r) → wp_X8_fits m x1 x2 x3 (fun r2 m2 => v = r2 ∧ RelE c m2) := by
    intro v hv1 hv2
    unfold wp_X8_fits
    refine rM _ ⟨fun z => absurd z rn, fun _ => ?_⟩
    simp only [w_mOne, w_within, bI_0, Classical.not_not, hnM, i_pred (n := n) (by omega)]
    refine ⟨fun q => ⟨hv1 (fun z => z.1.1 q), n, bs, h⟩, fun q1 => ⟨fun q => ⟨hv1 (fun z => q z.1.2.1), n, bs, h⟩, fun q2 => ⟨fun q => ⟨hv1 (fun z => q z.1.2.2), n, bs, h⟩, fun q3 => ⟨fun q4 => ⟨fun q5 => absurd q5 (hv2 ⟨q1, q2, q3⟩ q4).2, fun _ => ⟨(hv2 ⟨q1, q2, q3⟩ q4).1, n, bs, h⟩⟩, fun q => ⟨hv1 (fun z => q z.2), n, bs, h⟩⟩⟩⟩⟩
  have mb1 : ¬ (abOk n x2 ∧ (0 ≤ x3 ∧ x3 ≤ 3)) → wp_X8_fits m x1 x2 x3 (fun r2 m2 => -1 = r2 ∧ RelE c m2) := fun z => mBad (-1) (fun _ => rfl) (fun a b => absurd ⟨a, b⟩ z)
  refine ⟨fun q => mb1 (fun z => q z.1), fun g2 => ⟨fun g3 => rC _ ⟨fun hr0 => ?_, fun hr0 => mBad r (fun z => absurd ⟨g2, g3⟩ z) (fun _ _ => ⟨rfl, fun q => ?_⟩)⟩, fun q => mb1 (fun z => q z.2)⟩⟩
  · obtain ⟨K, g, K2, g2', q1, q2, q3, q4⟩ : ∃ K g K2 g2, rotC c sa n K g ∧ rotM m sa n K g ∧ rotC c sb n K2 g2 ∧ rotM m sb n K2 g2 := by
      rcases hr with z | z | z
      · rw [z] at hr0; exact absurd hr0 (by decide)
      · rw [z] at hr0; exact absurd hr0 (by decide)
      · exact z.2
    obtain ⟨o1, o2, o3⟩ := id g2
    obtain ⟨a, ha, e2a⟩ := i_ix (by omega) o2.1 o2.2
    obtain ⟨b, hb, e2b⟩ := i_ix (by omega) o3.1 o3.2
    -- the class's loop and the model's loop
    have loops : ∀ (part M : Nat) (x6 x7 : Int32), ((part = 0 ∧ M = 127) ∨ (part = 1 ∧ M = 99)) → x3 / 2 = nI part → ((x6 = 0 ∧ a ≠ b) ∨ (x6 = 1 ∧ a = b)) → ((x7 = 0 ∧ part = 1) ∨ (x7 = 1 ∧ part = 0)) → wj_X7_fits_88 (fun r1 c2 => wp_X8_fits m x1 x2 x3 (fun r2 m2 => r1 = r2 ∧ RelE c2 m2)) x1 x3 (nI a) x6 x7 (nI M) c := by
      intro part M x6 x7 hp e5 h6 h7
      unfold wj_X7_fits_88
      have hp2 : part < 2 ∧ M < 500 ∧ M < 130 := by omega
      refine ⟨132, fitsCL (part := part) hsa hsb ea eb q1 q3 ha hd ed hp2.2.1 h6 h7 ?_ 132 0 (by omega) (by omega)⟩
      -- the model, with its own end
      have mdl : ∀ v : Int32, (∀ m2 : rfS, ((¬ (x3 - x3 / 2 * 2) = 0 → v = (fU (fitP (gF c 2) (gF c 13) part a b d (rtW g) g2' (dyK28 g n K) K2) (M + 1))) ∧ ((x3 - x3 / 2 * 2) = 0 → v = (cU (fitP (gF c 2) (gF c 13) part a b d (rtW g) g2' (dyK28 g n K) K2) (M + 1))))) → wp_X8_fits m x1 x2 x3 (fun r2 m2 => v = r2 ∧ RelE c m2) := by
        intro v hv
        unfold wp_X8_fits
        refine rM _ ⟨fun z => absurd z rn, fun _ => ?_⟩
        simp only [w_mOne, w_within, bI_0, Classical.not_not, hnM, i_pred (n := n) (by omega)]
        refine ⟨fun z => absurd z o1, fun _ => ⟨fun z => absurd o2 z, fun _ => ⟨fun z => absurd o3 z, fun _ => ⟨fun _ => ⟨fun _ => ?_, fun z => absurd (by rw [hr0]; decide) z⟩, fun z => absurd g3 z⟩⟩⟩⟩
        rw [e2b, e5]
        have hbn : b < bnd n part := by unfold bnd; rw [if_pos (by omega)]; exact hb
        refine numM hn7 (by omega) hbn ?_
        have eM : vM m part b = gF m 1 (7 * part + b) := by unfold vM; rw [if_pos (by omega)]
        have main : wj_X8_fits_94 (fun r2 m2 => v = r2 ∧ RelE c m2) x1 x2 x3 (nI part) (vM m part b) 0 (-2) (nI M) m := by
          unfold wj_X8_fits_94
          refine ⟨M + 1 + 1, ?_⟩
          have L := fitsML (E := (n, gF c 2, gF c 4, gF c 5, lo)) (m := m) (st := (gF c 13, gF c 14, gI c 12 2, d)) (a := a) (b := b) (M := M) (part := part) (x2 := x2) (x3 := x3) (x5 := nI part) (x6 := vM m part b) hsa hsb ea eb e2 s2 q2 q4 ha hb e2a e2b hp2.2.1 hp2.1 rfl (Q := fun r2 m2 => v = r2 ∧ RelE c m2) (kx := (fun (x2_17 : Int32) (x3_18 : Int32) (x5_19 : Int32) (x6_20 : Int32) (x7_21 : Int32) (x8_22 : Int32) (σ23 : rfS) => wp_X8_becomes σ23 (x2_17 - x2_17 / 10 * 10) x5_19 x6_20 (fun (σ24 : rfS) => ((¬ (x3_18 - x3_18 / 2 * 2) = 0 → v = x8_22 ∧ RelE c σ24) ∧ ((x3_18 - x3_18 / 2 * 2) = 0 → v = x7_21 ∧ RelE c σ24))))) ?_ (M + 1) m (Nat.le_refl _) ⟨fun _ _ _ _ _ _ => rfl, fun _ _ => rfl, rfl, rfl, fun _ _ _ => rfl, fun _ => rfl⟩
          · rw [Nat.sub_self, nI_pred] at L
            exact L
          · intro m2 hx
            rw [e2b]
            refine becM hn7 (by omega) hbn ?_
            have up : upM m2 part b (vM m part b) = sF m2 1 (7 * part + b) (gF m 1 (7 * part + b)) := by unfold upM; rw [if_pos (by omega), eM]
            rw [up]
            have hx2 := hx.s (gF m 1 (7 * part + b))
            have sn : ScN m (sF m2 1 (7 * part + b) (gF m 1 (7 * part + b))) := ⟨hx2.1, fun j => by
              by_cases e : j = 7 * part + b
              · rw [e, gF_sFs]
              · exact hx2.2.1 j e, hx2.2.2⟩
            have R : RelE c (sF m2 1 (7 * part + b) (gF m 1 (7 * part + b))) := ⟨n, bs, h.scn (ScC.rf c) sn⟩
            have c1 : cD (fitP (gF c 2) (gF c 13) part a b d (rtW g) g2' (dyK28 g n K) K2) (M + 1) 0 = cU (fitP (gF c 2) (gF c 13) part a b d (rtW g) g2' (dyK28 g n K) K2) (M + 1) := by
              have := cUD (fitP (gF c 2) (gF c 13) part a b d (rtW g) g2' (dyK28 g n K) K2) (M + 1) 0
              rw [Nat.zero_add, show cU (fitP (gF c 2) (gF c 13) part a b d (rtW g) g2' (dyK28 g n K) K2) 0 = 0 from rfl, Int32.zero_add] at this
              exact this
            have c2 : fD (fitP (gF c 2) (gF c 13) part a b d (rtW g) g2' (dyK28 g n K) K2) (M + 1) 0 = fU (fitP (gF c 2) (gF c 13) part a b d (rtW g) g2' (dyK28 g n K) K2) (M + 1) := by
              have := fUD (fitP (gF c 2) (gF c 13) part a b d (rtW g) g2' (dyK28 g n K) K2) (M + 1) 0 (by omega)
              rw [Nat.zero_add, if_pos (show fU (fitP (gF c 2) (gF c 13) part a b d (rtW g) g2' (dyK28 g n K) K2) 0 = -2 from rfl)] at this
              exact this
            exact ⟨fun q => ⟨((hv m2).1 q).trans c2.symm, R⟩, fun q => ⟨((hv m2).2 q).trans c1.symm, R⟩⟩
        rcases hp with ⟨y1, y2⟩ | ⟨y1, y2⟩
        · subst y1 y2
          exact ⟨fun z => absurd rfl z, fun _ => main⟩
        · subst y1 y2
          exact ⟨fun _ => main, fun z => absurd z (by decide)⟩
      exact ⟨fun q => mdl _ (fun _ => ⟨fun _ => rfl, fun z => absurd z q⟩), fun q => mdl _ (fun _ => ⟨fun z => absurd q z, fun _ => rfl⟩)⟩
    obtain ⟨w, hw, rfl⟩ := i_below (k := 3) (by decide) g3
    have fin : ∀ x6 : Int32, ((x6 = 0 ∧ a ≠ b) ∨ (x6 = 1 ∧ a = b)) → wj_X7_fits_62 (fun r1 c2 => wp_X8_fits m x1 x2 (nI w) (fun r2 m2 => r1 = r2 ∧ RelE c2 m2)) x1 (nI w) (nI a) x6 c := by
      intro x6 h6
      unfold wj_X7_fits_62 wj_X7_fits_74
      have two : (2 : Int32) ≤ nI w ↔ 2 ≤ w := nI_leI (a := 2) (by decide) (by omega)
      refine ⟨fun q => ⟨fun _ => loops 1 99 x6 0 (Or.inr ⟨rfl, rfl⟩) ?_ h6 (Or.inl ⟨rfl, rfl⟩), fun z => absurd rfl z⟩, fun q => ⟨fun z => absurd z (by decide), fun _ => loops 0 127 x6 1 (Or.inl ⟨rfl, rfl⟩) ?_ h6 (Or.inr ⟨rfl, rfl⟩)⟩⟩
      · rw [show (2 : Int32) = nI 2 from rfl, nI_div (by omega) (by decide), show w / 2 = 1 by have := two.mp q; omega]
      · rw [show (2 : Int32) = nI 2 from rfl, nI_div (by omega) (by decide), show w / 2 = 0 by have : ¬ 2 ≤ w := fun z => q (two.mpr z); omega]
    rw [e2b, e2a]
    refine ⟨fun q => fin 0 (Or.inl ⟨rfl, fun z => q (by rw [z])⟩), fun q => fin 1 (Or.inr ⟨rfl, (nI_eq (by omega) (by omega)).mp q⟩)⟩
  · rcases hr with z | z | z
    · rw [z] at q; exact absurd q (by decide)
    · rw [z] at q; exact absurd q (by decide)
    · exact absurd z.1 hr0

/-! deep, judge -/
theorem nI_div {a b : Nat} (ha : a < 2 ^ 31) (hb : b < 2 ^ 31) : nI a / nI b = nI (a / b) := by
  have hlt : a / b < 2 ^ 31 := Nat.lt_of_le_of_lt (Nat.div_le_self _ _) ha
  rw [i_eq, Int32.toInt_div, nI_toInt ha, nI_toInt hb, nI_toInt hlt]
  have e : (a : Int).tdiv (b : Int) = ((a / b : Nat) : Int) := rfl
  rw [e]
  clear e
  generalize a / b = t at hlt ⊢
  rw [Int.bmod_def]
  split <;> omega
theorem nI_mod {a b : Nat} (ha : a < 2 ^ 31) (hb : b < 2 ^ 31) : nI a - nI a / nI b * nI b = nI (a % b) := by
  rw [nI_div ha hb, pk_mul, pk_sub (Nat.div_mul_le_self a b)]
  congr 1
  have := Nat.div_add_mod a b
  rw [Nat.mul_comm] at this
  omega
def obN (wn : Int32) (d one : Nat) (W : Nat → Nat) (o : Int32) : Nat → Int32
  | 0 => o
  | k + 1 => obV (obN wn d one W o k) one (W k) (wbit wn ((d + k) % 7))
theorem it_day {E : heT} {W : Nat → Nat} {s : sdT} (hd : s.2.2.2 < 7) : ∀ k, (itS E W s k).2.2.2 = (s.2.2.2 + k) % 7
  | 0 => (Nat.mod_eq_of_lt hd).symm
  | k + 1 => by
    show ((itS E W s k).2.2.2 + 1) % 7 = _
    rw [it_day hd k]; omega
theorem it_owed {E : heT} {W : Nat → Nat} {s : sdT} (hd : s.2.2.2 < 7) (one : Nat) : ∀ k, (itS E W s k).1 one = obN (E.2.1 one) s.2.2.2 one W (s.1 one) k
  | 0 => rfl
  | k + 1 => by
    show obV ((itS E W s k).1 one) one (W k) (wbit (E.2.1 one) (itS E W s k).2.2.2) = _
    rw [it_day hd k, it_owed hd one k]; rfl
def dpR (o : Nat → Int32) (x : Int32) (D : Nat) : Nat → Nat → Int32
  | 0, _ => -2
  | f + 1, k => if D < k then -2 else if o k < x then dpR o x D f (k + 1) else nI k
theorem day_at {d i : Nat} (hd : d < 7) (hi : i < 1000) : (nI d + nI i) - (nI d + nI i) / 7 * 7 = nI ((d + i) % 7) := by
  rw [nI_add, show (7 : Int32) = nI 7 from rfl, nI_mod (by omega) (by decide)]
theorem deepC {c : rfS} {s n K one d : Nat} {g : Nat → Int32} {x : Int32} (hr : rotC c s n K g) (ho : one < n) (hd : d < 7) (h12 : gI c 12 3 = nI d) {Q : Int32 → rfS → Prop} : ∀ (f i : Nat), i ≤ dyK28 g n K + 1 → dyK28 g n K + 1 - i < f → Q (dpR (obN (gF c 2 one) d one (rtW g) (gF c 13 one)) x (dyK28 g n K) f i) c → wl_X7_deep_83 Q f (nI one) x (53 + 2 * s) (nI (dyK28 g n K)) (obN (gF c 2 one) d one (rtW g) (gF c 13 one) i) (nI i) c := by
  have hn7 := hr.2.2.2.1
  obtain ⟨d1, d2, d3⟩ := rt_i (g := g) (K := K) hn7 (Nat.le_refl _)
  intro f
  induction f with
  | zero => intro i _ h; omega
  | succ f ih =>
    intro i hi hf hq
    unfold wl_X7_deep_83
    unfold dpR at hq
    refine ⟨fun q => ?_, fun q => ?_⟩
    · have := (nI_ltI (by omega) (by omega)).mp q
      rw [if_pos this] at hq; exact hq
    · have hle : ¬ dyK28 g n K < i := fun z => q (nI_lt z (by omega))
      rw [if_neg hle] at hq
      refine ⟨fun q2 => ?_, fun q2 => ?_⟩
      · rw [if_pos q2] at hq
        rw [nI_1]
        refine ⟨fun q3 => ?_, fun q3 => ?_⟩
        · have e : i = dyK28 g n K := by
            have := (nI_leI (by omega) (by omega)).mp q3
            omega
          have f1 : ∃ f2, f = f2 + 1 := ⟨f - 1, by omega⟩
          obtain ⟨f2, rfl⟩ := f1
          unfold wl_X7_deep_83
          unfold dpR at hq
          rw [if_pos (by omega)] at hq
          exact ⟨fun _ => hq, fun z => absurd (nI_lt (by omega) (by omega)) z⟩
        · have hlt : i < dyK28 g n K := by
            rcases Nat.lt_or_ge i (dyK28 g n K) with z | z
            · exact z
            · exact absurd (nI_le z (by omega)) q3
          rw [cl one, cl i, hr.2.2.2.2 i (by omega), Int32.toInt32_toInt64, (d3 i hlt).2, h12]
          refine ⟨vin (by omega), vin (by omega), obC (by omega) (by have := (d3 i hlt).1; omega) (day_at hd (by omega)) ?_⟩
          exact ih (i + 1) (by omega) (by omega) hq
      · rw [if_neg q2] at hq; exact hq
theorem ne_m2 (i : Nat) (h : i < 2 ^ 31) : ¬ nI i = -2 := fun q => by
  have h1 : (nI i).toInt = (-2 : Int32).toInt := by rw [q]
  rw [nI_toInt h] at h1
  have h2 : (-2 : Int32).toInt = -2 := by decide
  omega
theorem deepM {E : heT} {s K one : Nat} {g : Nat → Int32} {x : Int32} {st : sdT} (hs : s < 6) (ho : one < E.1) (hd : st.2.2.2 < 7) {Q : Int32 → rfS → Prop} {kx : Int32 → rfS → Prop} : ∀ (f i : Nat) (m : rfS), heM m E → rotM m s E.1 K g → stM m E.1 (itS E (rtW g) st (i - 1)) → i ≤ dyK28 g E.1 K + 1 → dyK28 g E.1 K + 1 - i < f → (∀ m2, FrQ E.1 m m2 → kx (dpR (obN (E.2.1 one) st.2.2.2 one (rtW g) (st.1 one)) x (dyK28 g E.1 K) f i) m2) → wl_X8_deep_64 Q kx (f + 1) (nI s) (nI one) x (nI (dyK28 g E.1 K)) (-2) (nI i) m := by
  intro f
  induction f with
  | zero => intro i m _ _ _ _ h; omega
  | succ f ih =>
    intro i m hE hr hst hi hf hq
    have hn7 := hE.1
    obtain ⟨d1, d2, d3⟩ := rt_i (g := g) (K := K) hn7 (Nat.le_refl _)
    unfold wl_X8_deep_64
    unfold dpR at hq
    refine ⟨fun q => ?_, fun q => ⟨fun z => absurd rfl z, fun _ => ?_⟩⟩
    · have := (nI_ltI (by omega) (by omega)).mp q
      have := hq m (FrQ.rf _ m)
      rw [if_pos ‹_›] at this; exact this
    · have hle : ¬ dyK28 g E.1 K < i := fun z => q (nI_lt z (by omega))
      rw [if_neg hle] at hq
      -- behind the day
      have body : ∀ m2, FrQ E.1 m m2 → stM m2 E.1 (itS E (rtW g) st i) → heM m2 E → rotM m2 s E.1 K g → wj_X8_deep_97 Q (wl_X8_deep_64 Q kx (f + 1)) (nI s) (nI one) x (nI (dyK28 g E.1 K)) (-2) (nI i) m2 := by
        intro m2 fr t2 e2 r2
        unfold wj_X8_deep_97
        rw [show (7 : Int32) = nI 7 from rfl, nI_add, cl (7 + one), nI_1]
        have ow : gF m2 1 (7 + one) = obN (E.2.1 one) st.2.2.2 one (rtW g) (st.1 one) i := by
          rw [← it_owed hd]; exact t2.1 one ho
        rw [ow]
        refine ⟨vin (by omega), fun q2 => ?_, fun q2 => ?_⟩
        · refine ih (i + 1) m2 e2 r2 t2 (by omega) (by omega) (fun m3 f3 => ?_)
          have := hq m3 (fr.tr f3)
          rw [if_pos q2] at this; exact this
        · unfold wl_X8_deep_64
          have := hq m2 fr
          rw [if_neg q2] at this
          exact ⟨fun _ => this, fun _ => ⟨fun _ => this, fun z => absurd z (ne_m2 i (by omega))⟩⟩
      refine ⟨fun q2 => ?_, fun q2 => ?_⟩
      · have e : i = 0 := by
          have := (nI_leI (b := 0) (by omega) (by omega)).mp q2
          omega
        subst e
        exact body m (FrQ.rf _ m) hst hE hr
      · have e : 0 < i := by
          rcases Nat.eq_zero_or_pos i with z | z
          · subst z; exact absurd (by decide) q2
          · exact z
        rw [show nI i - 1 = nI (i - 1) from pk_sub (b := 1) (by omega)]
        refine w_told hs (by have := hr.2.1; omega) _ ?_
        rw [hr.2.2.2.2 (i - 1) (by omega), (d3 (i - 1) (by omega)).2]
        refine passM (E := E) hE hst (d3 (i - 1) (by omega)).1 (fun m2 f2 t2 => ?_)
        refine body m2 f2 ?_ (hE.Q f2) (hr.Q f2)
        have : itS E (rtW g) st i = dyS E (itS E (rtW g) st (i - 1)) (rtW g (i - 1)) := by
          rw [show i = (i - 1) + 1 by omega]; rfl
        rw [this]; exact t2
theorem op_deep {n bs : Nat} {c m : rfS} (h : Rel n bs c m) (x1 x2 x3 : Int32) : wp_X7_deep c x1 x2 x3 (fun r1 c2 => wp_X8_deep m x1 x2 x3 (fun r2 m2 => r1 = r2 ∧ RelE c2 m2)) := by
  obtain ⟨lo, d, hd, ed, e1, e2, s1, s2⟩ := h.env
  have hn7 := h.1.1
  have hnC := h.1.2.1
  have hnM := h.1.2.2.1
  unfold wp_X7_deep wp_X8_deep
  simp only [w_isShelf, w_isWithin, w_isOne, w_mShelf, w_within, w_mOne, hnC, hnM, i_pred (n := n) (by omega), bI_0, Classical.not_not]
  refine ⟨fun q => ⟨fun _ => ⟨by simp, n, bs, h⟩, fun z => absurd z q⟩, fun g1 => ⟨fun q => ⟨fun z => absurd g1 z, fun _ => ⟨fun _ => ⟨by simp, n, bs, h⟩, fun z => absurd z q⟩⟩, fun g2 => ⟨fun g3 => ?_, fun q => ⟨fun z => absurd g1 z, fun _ => ⟨fun z => absurd g2 z, fun _ => ⟨fun z => absurd z q, fun _ => ⟨by simp, n, bs, h⟩⟩⟩⟩⟩⟩⟩
  obtain ⟨s, hs, rfl⟩ := i_below (k := 5) (by decide) g1
  obtain ⟨one, ho, rfl⟩ := i_ix (by omega) g2.1 g2.2
  obtain ⟨r, hr, rC, rM⟩ := ref_both h hs
  rw [cl s]
  refine ⟨vin hs, rC _ ⟨fun hr0 => ?_, fun hr0 => ?_⟩⟩
  · obtain ⟨K, g, hrc, hrm⟩ : ∃ K g, rotC c s n K g ∧ rotM m s n K g := by
      rcases hr with q | q | q
      · rw [q] at hr0; exact absurd hr0 (by decide)
      · rw [q] at hr0; exact absurd hr0 (by decide)
      · exact q.2
    obtain ⟨d1, d2, d3⟩ := rt_i (g := g) (K := K) hn7 (Nat.le_refl _)
    rw [cl one]
    refine ⟨vin hs, daysC hrc ⟨vin (by omega), 31, deepC hrc ho hd ed 31 0 (by omega) (by omega) ?_⟩⟩
    refine ⟨fun z => absurd g1 z, fun _ => ⟨fun z => absurd g2 z, fun _ => ⟨fun _ => ?_, fun z => absurd g3 z⟩⟩⟩
    refine rM _ ⟨fun _ => keepM (by decide) (by decide) (fun m2 km => ?_), fun q => absurd (by rw [hr0]; decide) q⟩
    refine daysM hs (hrm.kept (by decide) km) ⟨32, deepM (E := (n, gF c 2, gF c 4, gF c 5, lo)) (st := (gF c 13, gF c 14, gI c 12 2, d)) hs ho hd 31 0 m2 (e2.kept (by decide) km) (hrm.kept (by decide) km) (s2.kept (by decide) km) (Nat.zero_le _) (show dyK28 g n K + 1 - 0 < 31 by omega) (fun m3 f3 => ?_)⟩
    unfold wj_X8_deep_120
    exact layM (by decide) (by decide) (fun m4 lm => ⟨rfl, n, bs, h.scn (ScC.rf c) (ScN.think hn7 (by decide) km f3 lm)⟩)
  · refine ⟨fun z => absurd g1 z, fun _ => ⟨fun z => absurd g2 z, fun _ => ⟨fun _ => ?_, fun z => absurd g3 z⟩⟩⟩
    refine rM _ ⟨fun q => ?_, fun _ => ⟨by simp, n, bs, h⟩⟩
    rcases hr with z | z | z
    · rw [z] at q; exact absurd q (by decide)
    · rw [z] at q; exact absurd q (by decide)
    · exact absurd z.1 hr0

/-! later -/
def smF (g : Nat → Int32) : Nat → Int32
  | 0 => 0
  | k + 1 => smF g k + g k
theorem sumCL {c : rfS} {a n : Nat} {g : Nat → Int32} (hn : n ≤ 7) (hg : ∀ i, i < n → gF c (a + 1) i = g i) {Q : Int32 → rfS → Prop} (hq : Q (smF g n) c) : ∀ (f i : Nat), i ≤ n → n - i < f → wl_X5_owedOfAll_4 Q f a (nI n) (smF g i) (nI i) c := by
  intro f
  induction f with
  | zero => intro i _ h; omega
  | succ f ih =>
    intro i hi hf
    unfold wl_X5_owedOfAll_4
    refine ⟨fun q => ?_, fun q => ?_⟩
    · have := (nI_leI (by omega) (by omega)).mp q
      rw [show i = n by omega]; exact hq
    · have hlt : i < n := by
        rcases Nat.lt_or_ge i n with z | z
        · exact z
        · exact absurd (nI_le z (by omega)) q
      rw [cl i, hg i hlt, nI_1]
      exact ⟨vin (by omega), ih (i + 1) (by omega) (by omega)⟩
theorem sumC {c : rfS} {a n : Nat} {s : sdT} (hn : n ≤ 7) (hs : stC c a n s) {Q : Int32 → rfS → Prop} (hq : Q (smF s.1 n) c) : wp_X5_owedOfAll c a (nI n) Q := by
  unfold wp_X5_owedOfAll
  exact ⟨8, sumCL hn hs.1 hq 8 0 (by omega) (by omega)⟩
theorem sumML {m : rfS} {n : Nat} {g : Nat → Int32} (hn : n ≤ 7) (h0 : gI m 0 0 = nI n) (hg : ∀ i, i < n → gF m 1 (7 + i) = g i) {Q : Int32 → rfS → Prop} (hq : Q (smF g n) m) : ∀ (f i : Nat), i ≤ n → n - i < f → wl_X8_allOwed_4 Q f (smF g i) (nI i) m := by
  intro f
  induction f with
  | zero => intro i _ h; omega
  | succ f ih =>
    intro i hi hf
    unfold wl_X8_allOwed_4
    rw [h0]
    refine ⟨fun q => ?_, fun q => ?_⟩
    · have := (nI_leI (by omega) (by omega)).mp q
      rw [show i = n by omega]; exact hq
    · have hlt : i < n := by
        rcases Nat.lt_or_ge i n with z | z
        · exact z
        · exact absurd (nI_le z (by omega)) q
      rw [show (7 : Int32) = nI 7 from rfl, nI_add, cl (7 + i), hg i hlt, nI_1]
      exact ⟨vin (by omega), ih (i + 1) (by omega) (by omega)⟩
theorem sumM {m : rfS} {E : heT} {s : sdT} (hE : heM m E) (hs : stM m E.1 s) {Q : Int32 → rfS → Prop} (hq : Q (smF s.1 E.1) m) : wp_X8_allOwed m Q := by
  unfold wp_X8_allOwed
  exact ⟨8, sumML hE.1 hE.2.1 hs.1 hq 8 0 (by omega) (by have := hE.1; omega)⟩
/-- days one behind the other -/
def itS (E : heT) (W : Nat → Nat) (s : sdT) : Nat → sdT
  | 0 => s
  | k + 1 => dyS E (itS E W s k) (W k)
def itD (E : heT) (W : Nat → Nat) (s : sdT) : Nat → Int32
  | 0 => 0
  | k + 1 => itD E W s k + dyD E (itS E W s k) (W k)
theorem rotC.fr {c c2 : rfS} {s n K : Nat} {g : Nat → Int32} (h : rotC c s n K g) (h1 : gI c2 (53 + 2 * s) = gI c (53 + 2 * s)) (h2 : gI c2 1 0 = gI c 1 0) (h3 : gL c2 (53 + 2 * s + 1) = gL c (53 + 2 * s + 1)) : rotC c2 s n K g := by
  unfold rotC; rw [h1, h2, h3]; exact h
theorem rotC.sc {c c2 : rfS} {s n K : Nat} {g : Nat → Int32} (h : rotC c s n K g) (f : ScC c c2) : rotC c2 s n K g := h.fr (f.2.1 _ (by omega)) (by rw [f.2.1 1 (by omega)]) (f.2.2 _)
theorem rotM.fr {m m2 : rfS} {s n K : Nat} {g : Nat → Int32} (h : rotM m s n K g) (h1 : gF m2 21 = gF m 21) (h2 : gI m2 0 0 = gI m 0 0) (h3 : gL m2 22 = gL m 22) : rotM m2 s n K g := by
  unfold rotM; rw [h1, h2, h3]; exact h
theorem rotM.Q {m m2 : rfS} {s n K q : Nat} {g : Nat → Int32} (h : rotM m s n K g) (f : FrQ q m m2) : rotM m2 s n K g := h.fr (f.1 21 (by decide) (by decide) (by decide) (by decide)) (by rw [f.2.2.1]) (f.2.2.2 22)
theorem rotM.kept {m m2 : rfS} {s n K a : Nat} {g : Nat → Int32} (ha : 23 ≤ a) (h : rotM m s n K g) (f : keptM m m2 a) : rotM m2 s n K g := h.fr (f.2.2.2.1 21 (by omega)) (by rw [f.2.2.2.2.1]) (f.2.2.2.2.2 22)
/-- the rota as numbers -/
def rtW (g : Nat → Int32) : Nat → Nat := fun i => (g i).toNatClampNeg
theorem mayR.w {n : Nat} {x : Int32} (hn : n ≤ 7) (h : mayR n x) : (x.toNatClampNeg < n ∨ x.toNatClampNeg = 7) ∧ x = nI x.toNatClampNeg := by
  rcases h with h | h
  · obtain ⟨j, h1, rfl⟩ := i_ix (by omega) h.1 h.2
    rw [cl j]; exact ⟨Or.inl h1, rfl⟩
  · rw [h]; exact ⟨Or.inr (by decide), by decide⟩
theorem rt_i {g : Nat → Int32} {n K D : Nat} (hn : n ≤ 7) (hD : D ≤ dyK28 g n K) : D ≤ K ∧ D ≤ 28 ∧ ∀ i, i < D → (rtW g i < n ∨ rtW g i = 7) ∧ g i = nI (rtW g i) := by
  obtain ⟨a, b, _, d⟩ := dyN_le (g := g) (n := n) (K := K) 29 0
  have a := a (by omega)
  have b := b (by omega)
  unfold dyK28 at hD
  exact ⟨by omega, by omega, fun i hi => (d i (by omega) (by omega)).w hn⟩
theorem followL {E : heT} {s K D : Nat} {g : Nat → Int32} {st : sdT} (hD : D ≤ dyK28 g E.1 K) {Q : Int32 → rfS → Prop} : ∀ (f i : Nat) (c : rfS), heC c E → rotC c s E.1 K g → stC c 26 E.1 (itS E (rtW g) st i) → i ≤ D → D - i < f → (∀ c2, ScC c c2 → stC c2 26 E.1 (itS E (rtW g) st D) → Q (itD E (rtW g) st D) c2) → wl_X6_follow_37 Q f (53 + 2 * s) (nI D) (itD E (rtW g) st i) (nI i) c := by
  intro f
  induction f with
  | zero => intro i c _ _ _ _ h; omega
  | succ f ih =>
    intro i c hE hr hst hi hf hq
    obtain ⟨d1, d2, d3⟩ := rt_i hE.1 hD
    unfold wl_X6_follow_37
    refine ⟨fun q => ?_, fun q => ?_⟩
    · have := (nI_leI (by omega) (by omega)).mp q
      have e : i = D := by omega
      subst e
      exact hq c (ScC.rf c) hst
    · have hlt : i < D := by
        rcases Nat.lt_or_ge i D with z | z
        · exact z
        · exact absurd (nI_le z (by omega)) q
      rw [cl i, hr.2.2.2.2 i (by omega), nI_1]
      have e : (g i).toInt64.toInt32 = nI (rtW g i) := by rw [Int32.toInt32_toInt64]; exact (d3 i hlt).2
      rw [e]
      refine ⟨vin (by have := hr.2.1; omega), passC (E := E) isSt26 hE hst (d3 i hlt).1 (fun c2 f2 t2 => ?_)⟩
      have sc : ScC c c2 := ScC.P (by decide) f2
      exact ih (i + 1) c2 (hE.P isSt26 f2) (hr.sc sc) t2 (by omega) (by omega) (fun c3 f3 t3 => hq c3 (sc.tr f3) t3)
theorem followC {E : heT} {c : rfS} {s K N : Nat} {g : Nat → Int32} {st : sdT} (hN : N ≤ 28) (hE : heC c E) (hr : rotC c s E.1 K g) (hst : stC c 12 E.1 st) {Q : Int32 → rfS → Prop} (hq : ∀ c2, ScC c c2 → stC c2 26 E.1 (itS E (rtW g) st (if dyK28 g E.1 K < N then dyK28 g E.1 K else N)) → Q (itD E (rtW g) st (if dyK28 g E.1 K < N then dyK28 g E.1 K else N)) c2) : wp_X6_follow c 12 (53 + 2 * s) (nI N) Q := by
  unfold wp_X6_follow
  rw [hE.2.1]
  have sc : ScC c (cpC c 26 12 E.1) := ScC.cp c (by decide) (by decide)
  refine copyC hE.1 (daysC (hr.sc sc) ⟨30, ?_⟩)
  obtain ⟨d1, d2, d3⟩ := rt_i (g := g) (K := K) hE.1 (Nat.le_refl _)
  have e : (if nI (dyK28 g E.1 K) < nI N then nI (dyK28 g E.1 K) else nI N) = nI (if dyK28 g E.1 K < N then dyK28 g E.1 K else N) := by
    by_cases q : dyK28 g E.1 K < N
    · rw [if_pos q, if_pos (nI_lt q (by omega))]
    · rw [if_neg q, if_neg (nI_nlt (by omega) (by omega))]
  rw [e]
  refine followL (st := st) ?_ 30 0 _ (hE.cp isSt26 (by decide)) (hr.sc sc) (hst.cp (by decide)) (by omega) ?_ (fun c2 f2 t2 => hq c2 (sc.tr f2) t2)
  · split <;> omega
  · split <;> omega
theorem goesL {E : heT} {s K D : Nat} {g : Nat → Int32} {st : sdT} (hs : s < 6) (hD : D ≤ dyK28 g E.1 K) {Q : Int32 → rfS → Prop} : ∀ (f i : Nat) (m : rfS), heM m E → rotM m s E.1 K g → stM m E.1 (itS E (rtW g) st i) → i ≤ D → D - i < f → (∀ m2, FrQ E.1 m m2 → stM m2 E.1 (itS E (rtW g) st D) → Q (itD E (rtW g) st D) m2) → wl_X8_goes_16 Q f (nI s) (itD E (rtW g) st i) (nI D) (nI i) m := by
  intro f
  induction f with
  | zero => intro i m _ _ _ _ h; omega
  | succ f ih =>
    intro i m hE hr hst hi hf hq
    obtain ⟨d1, d2, d3⟩ := rt_i hE.1 hD
    unfold wl_X8_goes_16
    refine ⟨fun q => ?_, fun q => ?_⟩
    · have := (nI_leI (by omega) (by omega)).mp q
      have e : i = D := by omega
      subst e
      exact hq m (FrQ.rf _ m) hst
    · have hlt : i < D := by
        rcases Nat.lt_or_ge i D with z | z
        · exact z
        · exact absurd (nI_le z (by omega)) q
      refine w_told hs (by have := hr.2.1; omega) _ ?_
      rw [hr.2.2.2.2 i (by omega), (d3 i hlt).2, nI_1]
      refine passM (E := E) hE hst (d3 i hlt).1 (fun m2 f2 t2 => ?_)
      exact ih (i + 1) m2 (hE.Q f2) (hr.Q f2) t2 (by omega) (by omega) (fun m3 f3 t3 => hq m3 (f2.tr f3) t3)
theorem goesM {E : heT} {m : rfS} {s K N : Nat} {g : Nat → Int32} {st : sdT} (hs : s < 6) (hN : N ≤ 28) (hE : heM m E) (hr : rotM m s E.1 K g) (hst : stM m E.1 st) {Q : Int32 → rfS → Prop} (hq : ∀ m2, FrQ E.1 m m2 → stM m2 E.1 (itS E (rtW g) st (if dyK28 g E.1 K < N then dyK28 g E.1 K else N)) → Q (itD E (rtW g) st (if dyK28 g E.1 K < N then dyK28 g E.1 K else N)) m2) : wp_X8_goes m (nI s) (nI N) Q := by
  unfold wp_X8_goes
  refine daysM hs hr ⟨30, ?_⟩
  obtain ⟨d1, d2, d3⟩ := rt_i (g := g) (K := K) hE.1 (Nat.le_refl _)
  have e : (if nI (dyK28 g E.1 K) < nI N then nI (dyK28 g E.1 K) else nI N) = nI (if dyK28 g E.1 K < N then dyK28 g E.1 K else N) := by
    by_cases q : dyK28 g E.1 K < N
    · rw [if_pos q, if_pos (nI_lt q (by omega))]
    · rw [if_neg q, if_neg (nI_nlt (by omega) (by omega))]
  rw [e]
  refine goesL (st := st) hs ?_ 30 0 _ hE hr hst (by omega) ?_ hq
  · split <;> omega
  · split <;> omega
theorem op_later {n bs : Nat} {c m : rfS} (h : Rel n bs c m) (x1 x2 x3 x4 : Int32) : wp_X7_later c x1 x2 x3 x4 (fun r1 c2 => wp_X8_later m x1 x2 x3 x4 (fun r2 m2 => r1 = r2 ∧ RelE c2 m2)) := by
  obtain ⟨lo, d, hd, ed, e1, e2, s1, s2⟩ := h.env
  have hn7 := h.1.1
  have hnC := h.1.2.1
  have hnM := h.1.2.2.1
  -- whether the words are fit
  let fit : Prop := (0 ≤ x1 ∧ x1 ≤ 5) ∧ (0 ≤ x2 ∧ x2 ≤ 28) ∧ (0 ≤ x4 ∧ x4 ≤ 4) ∧ (if x4 < 2 then 0 ≤ x3 ∧ x3 < nI n else x3 = 0)
  have hlt2 : ∀ {y : Int32}, (0 ≤ y ∧ y ≤ 4) → ((y = 0 ∨ y = 1) ↔ y < 2) := by
    intro y hy
    obtain ⟨a, ha, rfl⟩ := i_below (k := 4) (by decide) hy
    have : a = 0 ∨ a = 1 ∨ a = 2 ∨ a = 3 ∨ a = 4 := by omega
    rcases this with rfl | rfl | rfl | rfl | rfl <;> decide
  have mBad : ¬ fit → ∀ Q : Int32 → rfS → Prop, Q (-1) m → wp_X8_later m x1 x2 x3 x4 Q := by
    intro hnf Q hq
    unfold wp_X8_later
    simp only [w_mShelf, w_within, w_mOne, hnM, i_pred (n := n) (by omega), bI_0, Classical.not_not]
    refine ⟨fun _ => hq, fun g1 => ⟨fun _ => hq, fun g2 => ⟨fun _ => hq, fun g3 => ⟨fun q => ⟨fun q2 => ?_, fun _ => hq⟩, fun q => ⟨fun _ => hq, fun q2 => ?_⟩⟩⟩⟩⟩
    · exact absurd ⟨g1, g2, g3, by rw [if_neg (Int32.not_lt.mpr q)]; exact q2⟩ hnf
    · exact absurd ⟨g1, g2, g3, by rw [if_pos (Int32.not_le.mp q)]; exact q2⟩ hnf
  have mGood : fit → ∀ Q : Int32 → rfS → Prop, wj_X8_later_50 Q x1 x2 x3 x4 m → wp_X8_later m x1 x2 x3 x4 Q := by
    intro hf Q hq
    obtain ⟨g1, g2, g3, g4⟩ := hf
    unfold wp_X8_later
    simp only [w_mShelf, w_within, w_mOne, hnM, i_pred (n := n) (by omega), bI_0, Classical.not_not]
    refine ⟨fun q => absurd g1 q, fun _ => ⟨fun q => absurd g2 q, fun _ => ⟨fun q => absurd g3 q, fun _ => ⟨fun q => ⟨fun _ => hq, fun q2 => ?_⟩, fun q => ⟨fun q2 => ?_, fun _ => hq⟩⟩⟩⟩⟩
    · rw [if_neg (Int32.not_lt.mpr q)] at g4; exact absurd g4 q2
    · rw [if_pos (Int32.not_le.mp q)] at g4; exact absurd g4 q2
  have cMain : ∀ xs0 : Int32, ((0 ≤ x4 ∧ x4 ≤ 4) → (¬ xs0 = 0 ↔ (if x4 < 2 then 0 ≤ x3 ∧ x3 < nI n else x3 = 0))) → wj_X7_later_43 (fun r1 c2 => wp_X8_later m x1 x2 x3 x4 (fun r2 m2 => r1 = r2 ∧ RelE c2 m2)) x1 x2 x3 x4 xs0 c := by
    intro xs0 hx
    unfold wj_X7_later_43
    simp only [w_isShelf, w_isWithin, bI_0, Classical.not_not]
    have bad : ¬ fit → wp_X8_later m x1 x2 x3 x4 (fun r2 m2 => -1 = r2 ∧ RelE c m2) := fun z => mBad z _ ⟨rfl, n, bs, h⟩
    refine ⟨fun q => bad (fun z => q z.1), fun g1 => ⟨fun q => bad (fun z => q z.2.1), fun g2 => ⟨fun q => bad (fun z => absurd q ((hx z.2.2.1).mpr z.2.2.2)), fun q0 => ⟨fun g3 => ?_, fun q => bad (fun z => q z.2.2.1)⟩⟩⟩⟩
    have g4 := (hx g3).mp q0
    have hfit : fit := ⟨g1, g2, g3, g4⟩
    obtain ⟨s, hs, rfl⟩ := i_below (k := 5) (by decide) g1
    obtain ⟨N, hN, rfl⟩ := i_below (k := 28) (by decide) g2
    obtain ⟨r, hr, rC, rM⟩ := ref_both h hs
    rw [cl s]
    refine ⟨vin hs, rC _ ⟨fun hr0 => ?_, fun hr0 => mGood hfit _ ?_⟩⟩
    · obtain ⟨K, g, hrc, hrm⟩ : ∃ K g, rotC c s n K g ∧ rotM m s n K g := by
        rcases hr with q | q | q
        · rw [q] at hr0; exact absurd hr0 (by decide)
        · rw [q] at hr0; exact absurd hr0 (by decide)
        · exact q.2
      have hn7' := hn7
      refine ⟨vin hs, followC (E := (n, gF c 2, gF c 4, gF c 5, lo)) (by omega) e1 hrc s1 (fun c2 f2 t2 => ?_)⟩
      have hn2 : gI c2 1 0 = nI n := by rw [f2.2.1 1 (by omega)]; exact hnC
      -- the model's way
      have mrun : ∀ (v : Int32), (∀ m3 : rfS, stM m3 n (itS (n, gF c 2, gF c 4, gF c 5, lo) (rtW g) (gF c 13, gF c 14, gI c 12 2, d) (if dyK28 g n K < N then dyK28 g n K else N)) → heM m3 (n, gF c 2, gF c 4, gF c 5, lo) → ∀ Q : Int32 → rfS → Prop, (wj_X8_later_135 Q v m3) → ((¬ x4 = 2 → ((¬ x4 = 3 → ((¬ x4 = 4 → vp_in ((7 + (7 * x4)) + x3) 42 ∧ (wj_X8_later_135 Q (gF m3 1 (((7 + (7 * x4)) + x3).toNatClampNeg)) m3)) ∧ (x4 = 4 → wp_X8_allOwed m3 (fun (r15 : Int32) (σ14 : rfS) => wj_X8_later_135 Q r15 σ14)))) ∧ (x4 = 3 → wj_X8_later_135 Q (gF m3 2 0) m3))) ∧ (x4 = 2 → wj_X8_later_135 Q (itD (n, gF c 2, gF c 4, gF c 5, lo) (rtW g) (gF c 13, gF c 14, gI c 12 2, d) (if dyK28 g n K < N then dyK28 g n K else N)) m3))) → wp_X8_later m (nI s) (nI N) x3 x4 (fun r2 m2 => v = r2 ∧ RelE c2 m2) := by
        intro v hv
        refine mGood hfit _ ?_
        unfold wj_X8_later_50
        refine rM _ ⟨fun _ => keepM (by decide) (by decide) (fun m2 km => ?_), fun q => absurd (by rw [hr0]; decide) q⟩
        refine goesM (E := (n, gF c 2, gF c 4, gF c 5, lo)) hs (by omega) (e2.kept (by decide) km) (hrm.kept (by decide) km) (s2.kept (by decide) km) (fun m3 f3 t3 => hv m3 t3 ((e2.kept (by decide) km).Q f3) _ ?_)
        unfold wj_X8_later_135
        exact layM (by decide) (by decide) (fun m4 lm => ⟨rfl, n, bs, h.scn f2 (ScN.think hn7 (by decide) km f3 lm)⟩)
      unfold wp_X6_latest
      refine ⟨isSt26, ?_⟩
      have four : x4 = 0 ∨ x4 = 1 ∨ x4 = 2 ∨ x4 = 3 ∨ x4 = 4 := by
        obtain ⟨a, ha, rfl⟩ := i_below (k := 4) (by decide) g3
        have : a = 0 ∨ a = 1 ∨ a = 2 ∨ a = 3 ∨ a = 4 := by omega
        rcases this with rfl | rfl | rfl | rfl | rfl <;> simp [nI]
      have owned : x4 < 2 → ∃ w, w < n ∧ x3 = nI w := fun q => by
        rw [if_pos q] at g4
        exact i_ix (by omega) g4.1 g4.2
      refine ⟨fun q => ?_, fun q0 => ⟨fun q => ?_, fun q1 => ⟨fun q => ?_, fun q2 => ⟨fun q => ?_, fun q3 => ?_⟩⟩⟩⟩
      · subst q
        obtain ⟨w, hw, rfl⟩ := owned (by decide)
        rw [cl w]
        refine ⟨vin (by omega), mrun _ (fun m3 t3 _ Q hv => ⟨fun _ => ⟨fun _ => ⟨fun _ => ?_, fun q => absurd q (by decide)⟩, fun q => absurd q (by decide)⟩, fun q => absurd q (by decide)⟩)⟩
        rw [show (7 : Int32) + 7 * 0 + nI w = nI (7 + w) from by rw [show (7 : Int32) + 7 * 0 = nI 7 from by decide, nI_add], cl (7 + w)]
        have a1 := t2.1 w hw
        have a2 := t3.1 w hw
        refine ⟨vin (by omega), ?_⟩
        rw [a2]
        rw [a1] at hv
        exact hv
      · subst q
        obtain ⟨w, hw, rfl⟩ := owned (by decide)
        rw [cl w]
        refine ⟨vin (by omega), mrun _ (fun m3 t3 _ Q hv => ⟨fun _ => ⟨fun _ => ⟨fun _ => ?_, fun q => absurd q (by decide)⟩, fun q => absurd q (by decide)⟩, fun q => absurd q (by decide)⟩)⟩
        rw [show (7 : Int32) + 7 * 1 + nI w = nI (14 + w) from by rw [show (7 : Int32) + 7 * 1 = nI 14 from by decide, nI_add], cl (14 + w)]
        have a1 := t2.2.1 w hw
        have a2 := t3.2.1 w hw
        refine ⟨vin (by omega), ?_⟩
        rw [a2]
        rw [a1] at hv
        exact hv
      · subst q
        exact mrun _ (fun m3 t3 _ Q hv => ⟨fun q => absurd rfl q, fun _ => hv⟩)
      · subst q
        refine mrun _ (fun m3 t3 _ Q hv => ⟨fun _ => ⟨fun q => absurd rfl q, fun _ => ?_⟩, fun q => absurd q (by decide)⟩)
        rw [t3.2.2.1]
        have a1 : gI c2 26 2 = _ := t2.2.2.1
        rw [a1] at hv
        exact hv
      · have q4 : x4 = 4 := by
          rcases four with z | z | z | z | z
          · exact absurd z q0
          · exact absurd z q1
          · exact absurd z q2
          · exact absurd z q3
          · exact z
        subst q4
        rw [hn2]
        refine sumC hn7 t2 (mrun _ (fun m3 t3 e3 Q hv => ⟨fun _ => ⟨fun _ => ⟨fun q => absurd rfl q, fun _ => ?_⟩, fun q => absurd q (by decide)⟩, fun q => absurd q (by decide)⟩))
        exact sumM (E := (n, gF c 2, gF c 4, gF c 5, lo)) e3 t3 hv
    · unfold wj_X8_later_50
      refine rM _ ⟨fun q => ?_, fun _ => ⟨rfl, n, bs, h⟩⟩
      rcases hr with z | z | z
      · rw [z] at q; exact absurd q (by decide)
      · rw [z] at q; exact absurd q (by decide)
      · exact absurd z.1 hr0
  unfold wp_X7_later
  refine ⟨fun q => ?_, fun q0 => ⟨fun q1 => ?_, fun q => ?_⟩⟩
  · unfold wj_X7_later_11 wj_X7_later_16
    simp only [w_isOne, hnC]
    refine ⟨fun z => absurd z (by decide), fun _ => cMain _ (fun _ => ?_)⟩
    rw [bI_0, Classical.not_not, q, if_pos (by decide)]
  · unfold wj_X7_later_16
    refine ⟨fun _ => ⟨fun q => cMain _ (fun g => ?_), fun q => cMain _ (fun g => ?_)⟩, fun z => absurd rfl z⟩
    · rw [if_neg (fun z => ((hlt2 g).mpr z).elim q0 q1)]
      exact ⟨fun z => absurd rfl z, fun z => absurd z q⟩
    · rw [if_neg (fun z => ((hlt2 g).mpr z).elim q0 q1)]
      exact ⟨fun _ => q, fun _ => by decide⟩
  · unfold wj_X7_later_11 wj_X7_later_16
    simp only [w_isOne, hnC]
    refine ⟨fun z => absurd z (by decide), fun _ => cMain _ (fun _ => ?_)⟩
    rw [bI_0, Classical.not_not, q, if_pos (by decide)]

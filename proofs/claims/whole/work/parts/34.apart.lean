/-! apart -/
def apP (kn : Nat → Int32) (n : Nat) (s : Int32) : Prop := ∀ a b, a < n → b < a → ¬ ((kn a ^^^ kn b) &&& s) = 0
noncomputable def apB (kn : Nat → Int32) (n : Nat) (s : Int32) : Bool := @decide (apP kn n s) (Classical.propDecidable _)
theorem apC {c : rfS} {n : Nat} (hn : n ≤ 7) (hc : gI c 1 0 = nI n) {s : Int32} {Q : Int32 → rfS → Prop} (h1 : apP (gF c 14) n s → Q 1 c) (h0 : ¬ apP (gF c 14) n s → Q 0 c) : wp_X7_areToldApart c s Q := by
  unfold wp_X7_areToldApart
  have inner : ∀ (kx : Int32 → Int32 → rfS → Prop) (k a b : Nat), a < n → b + k = a → ((∀ q, b ≤ q → q < a → ¬ ((gF c 14 a ^^^ gF c 14 q) &&& s) = 0) → kx s (nI a) c) → wl_X7_areToldApart_15 Q kx (k + 1) s (nI a) (nI b) c := by
    intro kx k
    induction k with
    | zero =>
      intro a b ha hb hk
      unfold wl_X7_areToldApart_15
      exact ⟨fun _ => hk (fun q q1 q2 => by omega), fun q => absurd (nI_le (by omega) (by omega)) q⟩
    | succ k ih =>
      intro a b ha hb hk
      unfold wl_X7_areToldApart_15
      rw [cl a, cl b, nI_1]
      refine ⟨fun q => by have := (nI_leI (by omega) (by omega)).mp q; omega, fun _ => ⟨vin (by omega), vin (by omega), fun e => ih a (b + 1) ha (by omega) (fun hq => hk (fun q q1 q2 => ?_)), fun e => h0 (fun hp => hp a b ha (by omega) e)⟩⟩
      by_cases z : q = b
      · rw [z]; exact e
      · exact hq q (by omega) q2
  have outer : ∀ (k a : Nat), a + k = n → (∀ x y, x < a → y < x → ¬ ((gF c 14 x ^^^ gF c 14 y) &&& s) = 0) → wl_X7_areToldApart_2 Q (k + 1) s (nI a) c := by
    intro k
    induction k with
    | zero =>
      intro a ha hp
      unfold wl_X7_areToldApart_2
      rw [hc]
      exact ⟨fun _ => h1 (fun x y hx hy => hp x y (by omega) hy), fun q => absurd (nI_le (by omega) (by omega)) q⟩
    | succ k ih =>
      intro a ha hp
      unfold wl_X7_areToldApart_2
      rw [hc]
      refine ⟨fun q => by have := (nI_leI (by omega) (by omega)).mp q; omega, fun _ => ⟨a + 1, inner _ a a 0 (by omega) (by omega) (fun hq => ?_)⟩⟩
      show wl_X7_areToldApart_2 Q (k + 1) s (nI a + 1) c
      rw [nI_1]
      refine ih (a + 1) (by omega) (fun x y hx hy => ?_)
      by_cases z : x = a
      · rw [z]; exact hq y (by omega) (by omega)
      · exact hp x y (by omega) hy
  exact ⟨n + 1, outer n 0 (by omega) (fun x y hx => by omega)⟩
theorem apM {m : rfS} {n : Nat} (hn : n ≤ 7) (hc : gI m 0 0 = nI n) {s : Int32} {Q : Int32 → rfS → Prop} (h1 : apP (fun i => gF m 1 (14 + i)) n s → Q 1 m) (h0 : ¬ apP (fun i => gF m 1 (14 + i)) n s → Q 0 m) : wp_X8_parts m s Q := by
  unfold wp_X8_parts
  have inner : ∀ (kx : Int32 → Int32 → rfS → Prop) (k a b : Nat), a < b → b + k = n → ((∀ q, b ≤ q → q < n → ¬ ((gF m 1 (14 + a) ^^^ gF m 1 (14 + q)) &&& s) = 0) → kx s (nI a) m) → wl_X8_parts_14 Q kx (k + 1) s (nI a) (nI b) m := by
    intro kx k
    induction k with
    | zero =>
      intro a b ha hb hk
      unfold wl_X8_parts_14
      rw [hc]
      exact ⟨fun _ => hk (fun q q1 q2 => by omega), fun q => absurd (nI_le (by omega) (by omega)) q⟩
    | succ k ih =>
      intro a b ha hb hk
      unfold wl_X8_parts_14
      rw [hc, show (14 : Int32) = nI 14 from rfl, nI_add, nI_add, cl (14 + a), cl (14 + b), nI_1]
      refine ⟨fun q => by have := (nI_leI (by omega) (by omega)).mp q; omega, fun _ => ⟨vin (by omega), vin (by omega), fun e => ih a (b + 1) (by omega) (by omega) (fun hq => hk (fun q q1 q2 => ?_)), fun e => h0 (fun hp => hp b a (by omega) ha ?_)⟩⟩
      · by_cases z : q = b
        · rw [z]; exact e
        · exact hq q (by omega) q2
      · rw [Int32.xor_comm]; exact e
  have outer : ∀ (k a : Nat), a + k = n → (∀ x y, x < a → x < y → y < n → ¬ ((gF m 1 (14 + x) ^^^ gF m 1 (14 + y)) &&& s) = 0) → wl_X8_parts_2 Q (k + 1) s (nI a) m := by
    intro k
    induction k with
    | zero =>
      intro a ha hp
      unfold wl_X8_parts_2
      rw [hc]
      refine ⟨fun _ => h1 (fun x y hx hy => ?_), fun q => absurd (nI_le (by omega) (by omega)) q⟩
      have := hp y x (by omega) hy hx
      rw [Int32.xor_comm]
      exact this
    | succ k ih =>
      intro a ha hp
      unfold wl_X8_parts_2
      rw [hc, nI_1]
      refine ⟨fun q => by have := (nI_leI (by omega) (by omega)).mp q; omega, fun _ => ⟨n - (a + 1) + 1, inner _ (n - (a + 1)) a (a + 1) (by omega) (by omega) (fun hq => ?_)⟩⟩
      show wl_X8_parts_2 Q (k + 1) s (nI a + 1) m
      rw [nI_1]
      refine ih (a + 1) (by omega) (fun x y hx hy hyn => ?_)
      by_cases z : x = a
      · rw [z]; exact hq y (by omega) hyn
      · exact hp x y (by omega) hy hyn
  exact ⟨n + 1, outer n 0 (by omega) (fun x y hx => by omega)⟩
theorem apC2 {c : rfS} {n : Nat} (hn : n ≤ 7) (hc : gI c 1 0 = nI n) {Q : Int32 → rfS → Prop} (hq : Q (tdL (apB (gF c 14) n) 256 0 (-2)) c) : wp_X7_fewestApart c Q := by
  unfold wp_X7_fewestApart
  have lp : ∀ (k s : Nat) (b : Int32), s + k = 256 → Q (tdL (apB (gF c 14) n) k s b) c → wl_X7_fewestApart_5 Q (k + 1) b (nI s) c := by
    intro k
    induction k with
    | zero =>
      intro s b hs hk
      unfold wl_X7_fewestApart_5
      exact ⟨fun _ => hk, fun q => absurd (nI_le (a := 256) (by omega) (by omega)) q⟩
    | succ k ih =>
      intro s b hs hk
      unfold wl_X7_fewestApart_5
      rw [nI_1]
      simp only [w_fewer]
      unfold tdL at hk
      refine ⟨fun q => by have := (nI_leI (a := 256) (by decide) (by omega)).mp q; omega, fun _ => apC hn hc (fun e => ⟨fun q => absurd q (by decide), fun _ => ih (s + 1) _ (by omega) ?_⟩) (fun e => ⟨fun _ => ih (s + 1) b (by omega) ?_, fun q => absurd rfl q⟩)⟩
      · have : apB (gF c 14) n (nI s) = true := @decide_eq_true _ (Classical.propDecidable _) e
        rw [this] at hk; exact hk
      · have : apB (gF c 14) n (nI s) = false := @decide_eq_false _ (Classical.propDecidable _) e
        rw [this] at hk; exact hk
  exact ⟨257, lp 256 0 (-2) (by omega) hq⟩
theorem apM2 {m : rfS} {n : Nat} (hn : n ≤ 7) (hc : gI m 0 0 = nI n) {Q : Int32 → rfS → Prop} {kx : Int32 → Int32 → rfS → Prop} {w : Int32} : ∀ (k s : Nat) (b : Int32), s + k = 256 → kx w (tdL (apB (fun i => gF m 1 (14 + i)) n) k s b) m → wl_X8_apart_74 Q kx (k + 1) w b (nI s) m := by
  intro k
  induction k with
  | zero =>
    intro s b hs hk
    unfold wl_X8_apart_74
    exact ⟨fun _ => hk, fun q => absurd (nI_le (a := 256) (by omega) (by omega)) q⟩
  | succ k ih =>
    intro s b hs hk
    unfold wl_X8_apart_74
    rw [nI_1]
    simp only [w_bc]
    unfold tdL at hk
    have ht : apP (fun i => gF m 1 (14 + i)) n (nI s) → apB (fun i => gF m 1 (14 + i)) n (nI s) = true := fun e => @decide_eq_true _ (Classical.propDecidable _) e
    refine ⟨fun q => by have := (nI_leI (a := 256) (by decide) (by omega)).mp q; omega, fun _ => apM hn hc (fun e => ⟨fun q => absurd q (by decide), fun _ => ⟨fun e3 => ih (s + 1) _ (by omega) ?_, fun e3 => ⟨fun e4 => ih (s + 1) _ (by omega) ?_, fun e4 => ih (s + 1) _ (by omega) ?_⟩⟩⟩) (fun e => ⟨fun _ => ih (s + 1) b (by omega) ?_, fun q => absurd rfl q⟩)⟩
    · rw [ht e] at hk
      simp only [if_true] at hk
      unfold fewV at hk
      rw [if_pos e3] at hk
      exact hk
    · rw [ht e] at hk
      simp only [if_true] at hk
      unfold fewV at hk
      rw [if_neg e3, if_pos e4] at hk
      exact hk
    · rw [ht e] at hk
      simp only [if_true] at hk
      unfold fewV at hk
      rw [if_neg e3, if_neg e4] at hk
      exact hk
    · have : apB (fun i => gF m 1 (14 + i)) n (nI s) = false := @decide_eq_false _ (Classical.propDecidable _) e
      rw [this] at hk; exact hk
def allK (kn : Nat → Int32) : Nat → Nat → Int32 → Int32
  | 0, _, acc => acc
  | k + 1, i, acc => allK kn k (i + 1) (acc &&& kn i)
theorem allK_c {kn kn2 : Nat → Int32} : ∀ (k i : Nat) (acc : Int32), (∀ j, i ≤ j → j < i + k → kn j = kn2 j) → allK kn k i acc = allK kn2 k i acc
  | 0, _, _, _ => rfl
  | k + 1, i, acc, h => by
    unfold allK
    rw [h i (by omega) (by omega)]
    exact allK_c k (i + 1) _ (fun j h1 h2 => h j (by omega) (by omega))
theorem allC {c : rfS} {n : Nat} (hn : n ≤ 7) (hc : gI c 1 0 = nI n) {Q : Int32 → rfS → Prop} (hq : Q (allK (gF c 14) n 0 255) c) : wp_X7_knownByAll c Q := by
  unfold wp_X7_knownByAll
  have lp : ∀ (k i : Nat) (acc : Int32), i + k = n → Q (allK (gF c 14) k i acc) c → wl_X7_knownByAll_6 Q (k + 1) acc (nI i) c := by
    intro k
    induction k with
    | zero =>
      intro i acc hi h
      unfold wl_X7_knownByAll_6
      rw [hc]
      exact ⟨fun _ => h, fun q => absurd (nI_le (by omega) (by omega)) q⟩
    | succ k ih =>
      intro i acc hi h
      unfold wl_X7_knownByAll_6
      rw [hc, nI_1, cl i]
      exact ⟨fun q => by have := (nI_leI (by omega) (by omega)).mp q; omega, fun _ => ⟨vin (by omega), ih (i + 1) _ (by omega) h⟩⟩
  exact ⟨n + 1, lp n 0 255 (by omega) hq⟩
theorem allM {m : rfS} {n : Nat} (hn : n ≤ 7) (hc : gI m 0 0 = nI n) {Q : Int32 → rfS → Prop} {kx : Int32 → Int32 → rfS → Prop} {w : Int32} : ∀ (k i : Nat) (acc : Int32), i + k = n → kx w (allK (fun i => gF m 1 (14 + i)) k i acc) m → wl_X8_apart_35 Q kx (k + 1) w acc (nI i) m := by
  intro k
  induction k with
  | zero =>
    intro i acc hi h
    unfold wl_X8_apart_35
    rw [hc]
    exact ⟨fun _ => h, fun q => absurd (nI_le (by omega) (by omega)) q⟩
  | succ k ih =>
    intro i acc hi h
    unfold wl_X8_apart_35
    rw [hc, nI_1, show (14 : Int32) = nI 14 from rfl, nI_add, cl (14 + i)]
    exact ⟨fun q => by have := (nI_leI (by omega) (by omega)).mp q; omega, fun _ => ⟨vin (by omega), ih (i + 1) _ (by omega) h⟩⟩
theorem op_apart {n bs : Nat} {c m : rfS} (h : Rel n bs c m) (x : Int32) : wp_X7_apart c x (fun r1 c2 => wp_X8_apart m x (fun r2 m2 => r1 = r2 ∧ RelE c2 m2)) := by
  obtain ⟨hn7, hnC, hnM, hV⟩ := h.1
  have eB : apB (gF c 14) n = apB (fun i => gF m 1 (14 + i)) n := by
    funext s
    unfold apB
    have : apP (gF c 14) n s = apP (fun i => gF m 1 (14 + i)) n s := by
      unfold apP
      apply propext
      constructor
      · intro q a b ha hb
        have := q a b ha hb
        rw [h.1.kn a ha, h.1.kn b (by omega)] at this
        exact this
      · intro q a b ha hb
        rw [h.1.kn a ha, h.1.kn b (by omega)]
        exact q a b ha hb
    rw [this]
  unfold wp_X7_apart wp_X8_apart
  simp only [w_within, bI_0, Classical.not_not, w_many, w_bc]
  have hin : ∀ k : Nat, k ≤ 3 → 0 ≤ nI k ∧ nI k ≤ 3 := fun k hk => rg_of (hi := 3) (by decide) hk
  refine ⟨fun e => ?_, fun e0 => ⟨fun e => ?_, fun e1 => ⟨fun e => ?_, fun e2 => ⟨fun e => ?_, fun e3 => ?_⟩⟩⟩⟩
  · subst e
    refine apC2 hn7 hnC ⟨fun _ => ⟨fun _ => ⟨n + 1, allM hn7 hnM n 0 255 (by omega) ⟨fun _ => ⟨257, apM2 hn7 hnM 256 0 (-2) (by omega) ?_⟩, fun q => absurd q (by decide)⟩⟩, fun q => absurd q (by decide)⟩, fun q => absurd (hin 0 (by decide)) q⟩
    rw [eB]
    generalize tdL (apB (fun i => gF m 1 (14 + i)) n) 256 0 (-2) = b
    unfold manyV
    refine ⟨fun e => absurd e (by decide), fun e => ⟨fun e2 => ⟨?_, n, bs, h⟩, fun e2 => ⟨?_, n, bs, h⟩⟩⟩
    · rw [if_neg e2, if_pos rfl]
    · rw [if_pos e2]
  · subst e
    refine apC2 hn7 hnC ⟨fun _ => ⟨fun _ => ⟨n + 1, allM hn7 hnM n 0 255 (by omega) ⟨fun _ => ⟨257, apM2 hn7 hnM 256 0 (-2) (by omega) ?_⟩, fun q => absurd q (by decide)⟩⟩, fun q => absurd q (by decide)⟩, fun q => absurd (hin 1 (by decide)) q⟩
    rw [eB]
    generalize tdL (apB (fun i => gF m 1 (14 + i)) n) 256 0 (-2) = b
    unfold manyV
    refine ⟨fun e => ⟨?_, n, bs, h⟩, fun e => absurd rfl e⟩
    by_cases q : b = -2
    · rw [if_pos q]
    · rw [if_neg q, if_neg (by decide)]
  · subst e
    refine allC hn7 hnC ⟨fun _ => ⟨fun _ => ⟨n + 1, allM hn7 hnM n 0 255 (by omega) ⟨fun q => absurd rfl q, fun _ => ⟨?_, n, bs, h⟩⟩⟩, fun q => absurd q (by decide)⟩, fun q => absurd (hin 2 (by decide)) q⟩
    exact allK_c n 0 255 (fun j _ hj => h.1.kn j (by omega))
  · subst e
    refine knC hn7 hnC ⟨fun _ => ⟨fun q => absurd rfl q, fun _ => knM hn7 hnM ⟨?_, n, bs, h⟩⟩, fun q => absurd (hin 3 (by decide)) q⟩
    rw [hnC, hnM]
    exact h.1.kb _
  · refine ⟨fun q => ?_, fun _ => ⟨by simp, n, bs, h⟩⟩
    obtain ⟨a, ha, rfl⟩ := i_below (k := 3) (by decide) q
    have : a = 0 ∨ a = 1 ∨ a = 2 ∨ a = 3 := by omega
    rcases this with rfl | rfl | rfl | rfl
    · exact absurd rfl e0
    · exact absurd rfl e1
    · exact absurd rfl e2
    · exact absurd rfl e3

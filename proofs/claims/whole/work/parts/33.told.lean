/-! who knows what: count, told, apart -/
theorem and1 (z : Int32) : z &&& 1 = 0 ∨ z &&& 1 = 1 := by
  have key : ∀ i, i < 32 → bt (1 : Int32) i = decide (i = 0) := by decide +kernel
  by_cases h : bt z 0 = true
  · right
    apply b_ext
    intro i hi
    rw [b_and, key i hi]
    by_cases e : i = 0
    · subst e; simp [h]
    · simp [e]
  · left
    apply b_ext
    intro i hi
    rw [b_and, key i hi, b_0]
    by_cases e : i = 0
    · subst e; simp [h]
    · simp [e]
theorem w_has (m : rfS) (x z : Int32) (Q : Int32 → rfS → Prop) : wp_X8_has m x z Q = Q (bI (¬ (x >>> (z &&& 31)) &&& 1 = 0)) m := by
  unfold wp_X8_has
  rcases and1 (x >>> (z &&& 31)) with h | h
  · rw [h, bI_f (by simp)]; simp (decide := true)
  · rw [h, bI_t (by decide)]; simp (decide := true)
def kbG (kn : Nat → Int32) (set : Int32) : Nat → Nat → Int32 → Int32
  | 0, _, acc => acc
  | k + 1, i, acc => kbG kn set k (i + 1) (if (set >>> (nI i &&& 31)) &&& 1 = 0 then acc else acc ||| kn i)
theorem kbG_c {kn kn2 : Nat → Int32} {set : Int32} : ∀ (k i : Nat) (acc : Int32), (∀ j, i ≤ j → j < i + k → kn j = kn2 j) → kbG kn set k i acc = kbG kn2 set k i acc
  | 0, _, _, _ => rfl
  | k + 1, i, acc, h => by
    unfold kbG
    rw [h i (by omega) (by omega)]
    exact kbG_c k (i + 1) _ (fun j h1 h2 => h j (by omega) (by omega))
theorem nlt {a b : Nat} (ha : a < 2 ^ 31) (hb : b < 2 ^ 31) (h : ¬ nI a ≤ nI b) : b < a := by
  rcases Nat.lt_or_ge b a with q | q
  · exact q
  · exact absurd ((nI_leI ha hb).mpr q) h
theorem knC {c : rfS} {n : Nat} (hn : n ≤ 7) (hc : gI c 1 0 = nI n) {set : Int32} {Q : Int32 → rfS → Prop} (hq : Q (kbG (gF c 14) set n 0 0) c) : wp_X7_knownByGroup c set Q := by
  unfold wp_X7_knownByGroup
  have lp : ∀ (k i : Nat) (acc : Int32), i + k = n → Q (kbG (gF c 14) set k i acc) c → wl_X7_knownByGroup_4 Q (k + 1) set acc (nI i) c := by
    intro k
    induction k with
    | zero =>
      intro i acc hi h
      unfold wl_X7_knownByGroup_4
      rw [hc]
      exact ⟨fun _ => h, fun q => absurd (nI_le (by omega) (by omega)) q⟩
    | succ k ih =>
      intro i acc hi h
      unfold wl_X7_knownByGroup_4
      rw [hc, nI_1, cl i]
      refine ⟨fun q => by have := (nI_leI (by omega) (by omega)).mp q; omega, fun _ => ⟨fun e => ih (i + 1) acc (by omega) ?_, fun e => ⟨vin (by omega), ih (i + 1) _ (by omega) ?_⟩⟩⟩
      · unfold kbG at h; rw [if_pos e] at h; exact h
      · unfold kbG at h; rw [if_neg e] at h; exact h
  exact ⟨n + 1, lp n 0 0 (by omega) hq⟩
theorem knM {m : rfS} {n : Nat} (hn : n ≤ 7) (hc : gI m 0 0 = nI n) {set : Int32} {Q : Int32 → rfS → Prop} (hq : Q (kbG (fun i => gF m 1 (14 + i)) set n 0 0) m) : wp_X8_knownBy m set Q := by
  unfold wp_X8_knownBy
  have lp : ∀ (k i : Nat) (acc : Int32), i + k = n → Q (kbG (fun i => gF m 1 (14 + i)) set k i acc) m → wl_X8_knownBy_4 Q (k + 1) set acc (nI i) m := by
    intro k
    induction k with
    | zero =>
      intro i acc hi h
      unfold wl_X8_knownBy_4
      rw [hc]
      exact ⟨fun _ => h, fun q => absurd (nI_le (by omega) (by omega)) q⟩
    | succ k ih =>
      intro i acc hi h
      unfold wl_X8_knownBy_4
      rw [hc, nI_1, w_has, bI_0, Classical.not_not, show (14 : Int32) = nI 14 from rfl, nI_add, cl (14 + i)]
      refine ⟨fun q => by have := (nI_leI (by omega) (by omega)).mp q; omega, fun _ => ⟨fun e => ih (i + 1) acc (by omega) ?_, fun e => ⟨vin (by omega), ih (i + 1) _ (by omega) ?_⟩⟩⟩
      · unfold kbG at h; rw [if_pos e] at h; exact h
      · unfold kbG at h; rw [if_neg e] at h; exact h
  exact ⟨n + 1, lp n 0 0 (by omega) hq⟩
theorem RV.kn {n : Nat} {c m : rfS} (h : RV n c m) : ∀ i, i < n → gF c 14 i = gF m 1 (14 + i) := fun i hi => (h.2.2.2 2 i (by decide) (by simpa [bnd] using hi)).1
theorem RV.kb {n : Nat} {c m : rfS} (h : RV n c m) (set : Int32) : kbG (gF c 14) set n 0 0 = kbG (fun i => gF m 1 (14 + i)) set n 0 0 := kbG_c n 0 0 (fun j _ hj => h.kn j (by omega))
theorem op_count {n bs : Nat} {c m : rfS} (h : Rel n bs c m) (x : Int32) : wp_X7_count c x (fun r1 c2 => wp_X8_count m x (fun r2 m2 => r1 = r2 ∧ RelE c2 m2)) := by
  obtain ⟨hn7, hnC, hnM, hV⟩ := h.1
  obtain ⟨len, t1, t2, t3, t4⟩ := h.2.1
  obtain ⟨dn, kp, d1, d2, d3, d4, d5, d6, d7⟩ := h.2.2.2.2.2.1
  obtain ⟨b1, b2, b3, b4⟩ := h.2.2.2.2.2.2.1
  obtain ⟨k, k1, k2, k3, k4⟩ := h.2.2.2.2.2.2.2.1
  unfold wp_X7_count wp_X8_count
  simp only [hnC, hnM, t2, t3, d3, d4, b2, b3, k2, k3]
  refine ⟨fun e => ⟨fun _ => ⟨by simp, n, bs, h⟩, fun q => absurd e q⟩, fun e0 => ⟨fun e => knC hn7 hnC ?_, fun e1 => ⟨fun e => ⟨fun q => absurd q e0, fun _ => ⟨fun q => absurd q e1, fun _ => ⟨fun _ => ⟨by simp, n, bs, h⟩, fun q => absurd e q⟩⟩⟩, fun e2 => ⟨fun e => ⟨fun q => absurd q e0, fun _ => ⟨fun q => absurd q e1, fun _ => ⟨fun q => absurd q e2, fun _ => ⟨fun _ => ⟨by simp, n, bs, h⟩, fun q => absurd e q⟩⟩⟩⟩, fun e3 => ⟨fun e => ⟨fun q => absurd q e0, fun _ => ⟨fun q => absurd q e1, fun _ => ⟨fun q => absurd q e2, fun _ => ⟨fun q => absurd q e3, fun _ => ⟨fun _ => ⟨by simp, n, bs, h⟩, fun q => absurd e q⟩⟩⟩⟩⟩, fun e4 => ⟨fun e => ⟨fun q => absurd q e0, fun _ => ⟨fun q => absurd q e1, fun _ => ⟨fun q => absurd q e2, fun _ => ⟨fun q => absurd q e3, fun _ => ⟨fun q => absurd q e4, fun _ => ⟨fun _ => ⟨by simp, n, bs, h⟩, fun q => absurd e q⟩⟩⟩⟩⟩⟩, fun e5 => ⟨fun q => absurd q e0, fun _ => ⟨fun q => absurd q e1, fun _ => ⟨fun q => absurd q e2, fun _ => ⟨fun q => absurd q e3, fun _ => ⟨fun q => absurd q e4, fun _ => ⟨fun q => absurd q e5, fun _ => ⟨by simp, n, bs, h⟩⟩⟩⟩⟩⟩⟩⟩⟩⟩⟩⟩⟩
  rw [w_bc]
  refine ⟨fun q => absurd q e0, fun _ => ⟨fun _ => knM hn7 hnM ?_, fun q => absurd e q⟩⟩
  rw [w_bc, h.1.kb]
  exact ⟨by simp, n, bs, h⟩
/-! the fewest -/
def fewV (b s : Int32) : Int32 := if b = -2 then s else if bc b ≤ bc s then b else s
theorem w_fewer (c : rfS) (b s : Int32) (Q : Int32 → rfS → Prop) : wp_X7_fewer c b s Q = Q (fewV b s) c := by
  unfold wp_X7_fewer fewV
  simp only [w_bc]
  by_cases h : b = -2
  · simp [h]
  · by_cases h2 : bc b ≤ bc s
    · simp [h, h2]
    · simp [h, h2]
def manyV (b w : Int32) : Int32 := if b = -2 then b else if w = 0 then bc b else b
theorem w_many (c : rfS) (b w : Int32) (Q : Int32 → rfS → Prop) : wp_X7_manyOrWhich c b w Q = Q (manyV b w) c := by
  unfold wp_X7_manyOrWhich manyV
  simp only [w_bc]
  by_cases h : b = -2
  · simp [h]
  · by_cases h2 : w = 0
    · simp [h, h2]
    · simp [h, h2]
def tdL (P : Int32 → Bool) : Nat → Nat → Int32 → Int32
  | 0, _, b => b
  | k + 1, i, b => tdL P k (i + 1) (if P (nI i) then fewV b (nI i) else b)
theorem sh1 {n : Nat} (h : n ≤ 7) : (1 : Int32) <<< (nI n &&& 31) = nI (2 ^ n) := by
  rcases w8 (show n < 8 by omega) with rfl | rfl | rfl | rfl | rfl | rfl | rfl | rfl <;> decide
theorem p2 {n : Nat} (h : n ≤ 7) : 2 ^ n ≤ 128 := by
  rcases w8 (show n < 8 by omega) with rfl | rfl | rfl | rfl | rfl | rfl | rfl | rfl <;> decide
def tdP (kn : Nat → Int32) (n i : Nat) (facts s : Int32) : Bool := decide ((s >>> (nI i &&& 31)) &&& 1 = 0) && decide (facts &&& ((kn i ||| kbG kn s n 0 0) ^^^ (-1)) = 0)
theorem tdP_t {kn : Nat → Int32} {n i : Nat} {f s : Int32} (h1 : (s >>> (nI i &&& 31)) &&& 1 = 0) (h2 : f &&& ((kn i ||| kbG kn s n 0 0) ^^^ (-1)) = 0) : tdP kn n i f s = true := by
  unfold tdP; rw [decide_eq_true h1, decide_eq_true h2]; rfl
theorem tdP_1 {kn : Nat → Int32} {n i : Nat} {f s : Int32} (h1 : ¬ (s >>> (nI i &&& 31)) &&& 1 = 0) : tdP kn n i f s = false := by
  unfold tdP; rw [decide_eq_false h1]; rfl
theorem tdP_2 {kn : Nat → Int32} {n i : Nat} {f s : Int32} (h2 : ¬ f &&& ((kn i ||| kbG kn s n 0 0) ^^^ (-1)) = 0) : tdP kn n i f s = false := by
  unfold tdP; rw [decide_eq_false h2, Bool.and_false]
theorem op_told {n bs : Nat} {c m : rfS} (h : Rel n bs c m) (x1 x2 x3 : Int32) : wp_X7_told c x1 x2 x3 (fun r1 c2 => wp_X8_told m x1 x2 x3 (fun r2 m2 => r1 = r2 ∧ RelE c2 m2)) := by
  obtain ⟨hn7, hnC, hnM, hV⟩ := h.1
  have mbad : (¬ (0 ≤ x1 ∧ x1 < nI n) ∨ ¬ (0 ≤ x2 ∧ x2 ≤ 255) ∨ ¬ (0 ≤ x3 ∧ x3 ≤ 1)) → wp_X8_told m x1 x2 x3 (fun r2 m2 => -1 = r2 ∧ RelE c m2) := by
    intro hb
    unfold wp_X8_told
    simp only [w_mOne, hnM, i_pred (n := n) (by omega), w_within, bI_0, Classical.not_not]
    refine ⟨fun _ => ⟨by simp, n, bs, h⟩, fun q1 => ⟨fun _ => ⟨by simp, n, bs, h⟩, fun q2 => ⟨fun q3 => ?_, fun _ => ⟨by simp, n, bs, h⟩⟩⟩⟩
    rcases hb with hb | hb | hb
    · exact absurd q1 hb
    · exact absurd q2 hb
    · exact absurd q3 hb
  unfold wp_X7_told
  simp only [w_isOne, hnC, w_isWithin, bI_0, Classical.not_not]
  refine ⟨fun hb => mbad (Or.inl hb), fun h1 => ⟨fun hb => mbad (Or.inr (Or.inl hb)), fun h2 => ⟨fun h3 => ?_, fun hb => mbad (Or.inr (Or.inr hb))⟩⟩⟩
  obtain ⟨i, hi, rfl⟩ := i_ix (by omega) h1.1 h1.2
  have hp := p2 hn7
  have lpC : ∀ (Q : Int32 → rfS → Prop) (kx : Int32 → Int32 → rfS → Prop) (k s : Nat) (b : Int32), s + k = 2 ^ n → kx x3 (tdL (tdP (gF c 14) n i x2) k s b) c → wl_X7_told_40 Q kx (k + 1) (nI i) x2 x3 b (nI s) c := by
    intro Q kx k
    induction k with
    | zero =>
      intro s b hs hk
      unfold wl_X7_told_40
      rw [hnC, sh1 hn7]
      exact ⟨fun _ => hk, fun q => absurd (nI_le (by omega) (by omega)) q⟩
    | succ k ih =>
      intro s b hs hk
      unfold wl_X7_told_40 wj_X7_told_68
      rw [hnC, sh1 hn7, cl i, nI_1]
      simp only [w_fewer]
      unfold tdL at hk
      refine ⟨fun q => by have := (nI_leI (by omega) (by omega)).mp q; omega, fun _ => ⟨fun e => ⟨vin (by omega), knC hn7 hnC ⟨fun q => absurd (by simp) q, fun _ => ⟨fun e2 => ih (s + 1) b (by omega) ?_, fun e2 => ih (s + 1) _ (by omega) ?_⟩⟩⟩, fun e => ⟨vin (by omega), knC hn7 hnC ⟨fun _ => ih (s + 1) b (by omega) ?_, fun q => absurd q (by decide)⟩⟩⟩⟩
      · have : tdP (gF c 14) n i x2 (nI s) = false := tdP_2 e2
        rw [this] at hk; exact hk
      · have : tdP (gF c 14) n i x2 (nI s) = true := tdP_t e e2
        rw [this] at hk; exact hk
      · have : tdP (gF c 14) n i x2 (nI s) = false := tdP_1 e
        rw [this] at hk; exact hk
  have lpM : ∀ (Q : Int32 → rfS → Prop) (kx : Int32 → Int32 → rfS → Prop) (k s : Nat) (b : Int32), s + k = 2 ^ n → kx x3 (tdL (tdP (fun j => gF m 1 (14 + j)) n i x2) k s b) m → wl_X8_told_37 Q kx (k + 1) (nI i) x2 x3 b (nI s) m := by
    intro Q kx k
    induction k with
    | zero =>
      intro s b hs hk
      unfold wl_X8_told_37
      rw [hnM, sh1 hn7]
      exact ⟨fun _ => hk, fun q => absurd (nI_le (by omega) (by omega)) q⟩
    | succ k ih =>
      intro s b hs hk
      unfold wl_X8_told_37
      rw [hnM, sh1 hn7, show (14 : Int32) = nI 14 from rfl, nI_add, cl (14 + i), nI_1]
      simp only [w_bc, w_has, bI_0, Classical.not_not]
      unfold tdL at hk
      refine ⟨fun q => by have := (nI_leI (by omega) (by omega)).mp q; omega, fun _ => ⟨fun e => ih (s + 1) b (by omega) ?_, fun e => ⟨vin (by omega), knM hn7 hnM ⟨fun e2 => ⟨fun e3 => ih (s + 1) _ (by omega) ?_, fun e3 => ⟨fun e4 => ih (s + 1) b (by omega) ?_, fun e4 => ih (s + 1) _ (by omega) ?_⟩⟩, fun e2 => ih (s + 1) b (by omega) ?_⟩⟩⟩⟩
      · have : tdP (fun j => gF m 1 (14 + j)) n i x2 (nI s) = false := tdP_1 e
        rw [this] at hk; exact hk
      · have : tdP (fun j => gF m 1 (14 + j)) n i x2 (nI s) = true := tdP_t e e2
        rw [this] at hk
        simp only [if_true] at hk
        unfold fewV at hk
        rw [if_pos e3] at hk
        exact hk
      · have : tdP (fun j => gF m 1 (14 + j)) n i x2 (nI s) = true := tdP_t e e2
        rw [this] at hk
        simp only [if_true] at hk
        unfold fewV at hk
        rw [if_neg e3, if_pos e4] at hk
        exact hk
      · have : tdP (fun j => gF m 1 (14 + j)) n i x2 (nI s) = true := tdP_t e e2
        rw [this] at hk
        simp only [if_true] at hk
        unfold fewV at hk
        rw [if_neg e3, if_neg e4] at hk
        exact hk
      · have : tdP (fun j => gF m 1 (14 + j)) n i x2 (nI s) = false := tdP_2 e2
        rw [this] at hk; exact hk
  have eP : tdP (gF c 14) n i x2 = tdP (fun j => gF m 1 (14 + j)) n i x2 := by
    funext s
    unfold tdP
    rw [h.1.kb, h.1.kn i hi]
  refine ⟨2 ^ n + 1, lpC _ _ (2 ^ n) 0 (-2) (by omega) ?_⟩
  rw [w_many]
  unfold wp_X8_told
  simp only [w_mOne, hnM, i_pred (n := n) (by omega), w_within, bI_0, Classical.not_not, w_bc]
  refine ⟨fun q => absurd h1 q, fun _ => ⟨fun q => absurd h2 q, fun _ => ⟨fun _ => ⟨2 ^ n + 1, lpM _ _ (2 ^ n) 0 (-2) (by omega) ?_⟩, fun q => absurd h3 q⟩⟩⟩
  rw [eP]
  generalize tdL (tdP (fun j => gF m 1 (14 + j)) n i x2) (2 ^ n) 0 (-2) = b
  unfold manyV
  have h31 : x3 = 0 ∨ x3 = 1 := by
    obtain ⟨a, ha, rfl⟩ := i_below (k := 1) (by decide) h3
    have : a = 0 ∨ a = 1 := by omega
    rcases this with rfl | rfl
    · exact Or.inl rfl
    · exact Or.inr rfl
  refine ⟨fun e => ⟨?_, n, bs, h⟩, fun e => ⟨fun e2 => ⟨?_, n, bs, h⟩, fun e2 => ⟨?_, n, bs, h⟩⟩⟩
  · subst e
    by_cases q : b = -2
    · rw [if_pos q]
    · rw [if_neg q, if_neg (by decide)]
  · rw [if_neg e2, if_pos (h31.resolve_right e)]
  · rw [if_pos e2]

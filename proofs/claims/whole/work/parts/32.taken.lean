/-! taken -/
def und (k j : Nat) : Bool := (([[0], [1, 0], [2, 0], [3, 2, 0], [4, 1, 0], [5, 3, 2, 0], [6, 0], [7, 4, 1, 0]] : List (List Nat)).getD k []).contains j
theorem undC {c : rfS} {k j : Nat} (hk : k < 8) (hj : j < 8) {Q : Int32 → rfS → Prop} (h1 : und k j = true → Q 1 c) (h0 : und k j = false → Q 0 c) : wp_X0_isUnder c (nI k) (nI j) Q := by
  unfold wp_X0_isUnder
  refine ⟨8, ?_⟩
  rcases w8 hk with rfl | rfl | rfl | rfl | rfl | rfl | rfl | rfl <;> rcases w8 hj with rfl | rfl | rfl | rfl | rfl | rfl | rfl | rfl
  all_goals
    first
    | (have hq := h1 (by decide); simp (decide := true) [wl_X0_isUnder_4, wj_X0_isUnder_32, rfSL, vp_in, hq]; done)
    | (have hq := h0 (by decide); simp (decide := true) [wl_X0_isUnder_4, wj_X0_isUnder_32, rfSL, vp_in, hq]; done)
theorem undM {m : rfS} {k j : Nat} {x3 : Int32} (hk : k < 8) (hj : j < 8) {Q : Int32 → rfS → Prop} (h1 : und k j = true → Q x3 m) (h0 : und k j = false → Q (-12) m) : wl_X8_taken_61 Q (fun (x2_15 : Int32) (x3_16 : Int32) (x4_17 : Int32) (σ18 : rfS) => wj_X8_taken_82 Q x2_15 x3_16 x4_17 σ18) 8 (nI j) x3 (nI k) m := by
  rcases w8 hk with rfl | rfl | rfl | rfl | rfl | rfl | rfl | rfl <;> rcases w8 hj with rfl | rfl | rfl | rfl | rfl | rfl | rfl | rfl
  all_goals
    first
    | (have hq := h1 (by decide); simp (decide := true) [wl_X8_taken_61, wj_X8_taken_82, wp_X8_above, hq]; done)
    | (have hq := h0 (by decide); simp (decide := true) [wl_X8_taken_61, wj_X8_taken_82, wp_X8_above, hq]; done)
/-- the model's taken, for a shelf s and a kind j -/
theorem takM {m : rfS} {s j : Nat} (hs : s < 6) (hj : j < 8) {G : Int32 → rfS → Prop} (h1 : gF m 20 s = -1 → G (-11) m) (h2 : ¬ gF m 20 s = -1 → 0 ≤ gF m 20 s ∧ gF m 20 s ≤ 4 → G (-12) m) (h3 : ¬ gF m 20 s = -1 → ¬ (0 ≤ gF m 20 s ∧ gF m 20 s ≤ 4) → ∃ b kk, b < 50 ∧ kk < 8 ∧ gF m 20 s = nI (10 + b) ∧ gF m 18 b = nI kk ∧ (und kk j = true → G (nI kk) m) ∧ (und kk j = false → G (-12) m)) : wp_X8_taken m (nI s) (nI j) G := by
  unfold wp_X8_taken
  simp only [w_mShelf, w_within, bI_0, Classical.not_not]
  have hw : 0 ≤ nI s ∧ nI s ≤ 5 := rg_of (hi := 5) (by decide) (by omega)
  have hk : 0 ≤ nI j ∧ nI j ≤ 7 := rg_of (hi := 7) (by decide) (by omega)
  refine ⟨fun q => absurd hw q, fun _ => ⟨fun _ => ⟨vin hs, ?_⟩, fun q => absurd hk q⟩⟩
  simp only [w_isRow hs, bI_0, Classical.not_not]
  rw [cl s]
  refine ⟨fun a => ⟨fun b => ⟨vin hs, ?_⟩, fun b => h2 a b⟩, fun a => h1 a⟩
  obtain ⟨b, kk, q1, q2, q3, q4, q5, q6⟩ := h3 a b
  have e3 : gF m 20 s - 10 = nI b := by
    rw [q3, show (10 : Int32) = nI 10 from rfl, pk_sub (by omega)]
    congr 1
    omega
  rw [e3, cl b, q4]
  exact ⟨vin q1, 8, undM q2 hj q5 q6⟩
theorem op_taken {n bs : Nat} {c m : rfS} (h : Rel n bs c m) (x1 x2 : Int32) : wp_X7_taken c x1 x2 (fun r1 c2 => wp_X8_taken m x1 x2 (fun r2 m2 => r1 = r2 ∧ RelE c2 m2)) := by
  have hSh := h.2.2.2.2.2.2.2.2.1
  obtain ⟨hb50, hb2, hb3, hb4⟩ := h.2.2.2.2.2.2.1
  have mb : ¬ (0 ≤ x1 ∧ x1 ≤ 5) ∨ ¬ (0 ≤ x2 ∧ x2 ≤ 7) → wp_X8_taken m x1 x2 (fun r2 m2 => -1 = r2 ∧ RelE c m2) := by
    intro hb
    unfold wp_X8_taken
    simp only [w_mShelf, w_within, bI_0, Classical.not_not]
    refine ⟨fun _ => ⟨by simp, n, bs, h⟩, fun q => ⟨fun q2 => ?_, fun _ => ⟨by simp, n, bs, h⟩⟩⟩
    rcases hb with hb | hb
    · exact absurd q hb
    · exact absurd q2 hb
  unfold wp_X7_taken
  simp only [w_isShelf, w_isWithin, bI_0, Classical.not_not]
  refine ⟨fun hw => mb (Or.inl hw), fun hw => ⟨fun hk => ?_, fun hk => mb (Or.inr hk)⟩⟩
  obtain ⟨s, hs, rfl⟩ := i_below (k := 5) (by decide) hw
  obtain ⟨j, hj, rfl⟩ := i_below (k := 7) (by decide) hk
  rw [cl s]
  refine ⟨vin hs, ?_⟩
  rcases hSh s hs with ⟨a1, a2⟩ | ⟨b, b1, b2, b3, b4⟩ | ⟨t, k, ht, hk9, r1, r2, r3, r4, r5⟩
  · rw [a1]
    exact ⟨fun q => absurd rfl q, fun _ => takM hs hj (fun _ => ⟨rfl, n, bs, h⟩) (fun q => absurd a2 q) (fun q => absurd a2 q)⟩
  · have hb := sh_boot (b := b) (by omega)
    obtain ⟨e1, kk, k8, e2⟩ := hb4 b b1
    rw [b2, b3]
    refine ⟨fun _ => ⟨fun q => absurd rfl q, fun _ => ⟨vin (by omega), ?_⟩⟩, fun q => absurd q (by decide)⟩
    rw [cl b, e2]
    refine undC k8 hj (fun u => ?_) (fun u => ?_)
    · rw [b3, cl b, e2]
      exact ⟨fun _ => ⟨vin (by omega), takM hs hj (fun q => absurd (by rw [b4] at q; exact q) hb.2) (fun _ q => absurd (by rw [b4] at q; exact q) hb.1) (fun _ _ => ⟨b, kk, by omega, k8, b4, by rw [← e1]; exact e2, fun _ => ⟨rfl, n, bs, h⟩, fun q => by rw [u] at q; cases q⟩)⟩, fun q => absurd q (by decide)⟩
    · exact ⟨fun q => absurd rfl q, fun _ => takM hs hj (fun q => absurd (by rw [b4] at q; exact q) hb.2) (fun _ q => absurd (by rw [b4] at q; exact q) hb.1) (fun _ _ => ⟨b, kk, by omega, k8, b4, by rw [← e1]; exact e2, fun q => (by rw [u] at q; cases q), fun _ => ⟨rfl, n, bs, h⟩⟩)⟩
  · rw [r1]
    obtain ⟨f1, f2, f3, f4⟩ := sh_row ht
    exact ⟨fun _ => ⟨fun _ => takM hs hj (fun q => absurd (by rw [r2] at q; exact q) f3) (fun _ _ => ⟨rfl, n, bs, h⟩) (fun _ q => absurd (by rw [r2]; exact ⟨f1, f2⟩) q), fun q => absurd q f3⟩, fun q => absurd q f4⟩

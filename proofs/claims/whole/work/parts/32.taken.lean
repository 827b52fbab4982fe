/-! taken -/
def und (k j : Nat) : Bool := (([[0], [1, 0], [2, 0], [3, 2, 0], [4, 1, 0], [5, 3, 2, 0], [6, 0], [7, 4, 1, 0]] : List (List Nat)).getD k []).contains j
theorem undC {c : rfS} {k j : Nat} (hk : k < 8) (hj : j < 8) {Q : Int32 → rfS → Prop} (h1 : und k j = true → Q 1 c) (h0 : und k j = false → Q 0 c) : wp_X0_isUnder c (nI k) (nI j) Q := by
  unfold wp_X0_isUnder
  refine ⟨8, ?_⟩
  rcases w8 hk with rfl | rfl | rfl | rfl | rfl | rfl | rfl | rfl <;> rcases w8 hj with rfl | rfl | rfl | rfl | rfl | rfl | rfl | rfl
  all_goals
    first
    | (have hq := h1 (by decide); simp (decide := true) [wl_X0_isUnder_4, wj_X0_isUnder_32, rfSL, vp_in, hq]; done)
    | (have hq := h0 (by decide); simp (decide := true) [wl_X0_isUnder_4, wj_X0_isUnder_32, rfSL, vp_in, hq]; done)

/-! the law: the loop -/
set_option maxHeartbeats 4000000 in
set_option maxRecDepth 40000 in
theorem sw_all {E : lzE} {b L : Nat} {xs : Nat → Int32} {aC aM : Nat → Nat} (X : lwX E b L xs aC aM) {i : Nat} (hi : i + 6 ≤ L) {n bs : Nat} {sC sM : rfS} (hR : Rel n bs sC sM) (kk : ∀ c2 m2, RelE c2 m2 → Lw E b aC aM 1378 (lls b aC aM i) [] c2 m2) {x : Int32} : Lw E b aC aM 33 (lls b aC aM i) [.int x] sC sM := by
  refine Lw_tsw X (dt := 1378) [(0, 196), (1, 219), (2, 262), (3, 305), (4, 338), (5, 361), (6, 374), (7, 397), (8, 450), (9, 493), (10, 526), (11, 569), (12, 592), (13, 615), (14, 638), (15, 671), (16, 714), (17, 757), (18, 800), (19, 823), (20, 856), (21, 899), (22, 912), (23, 935), (24, 948), (25, 961), (26, 974), (27, 987), (28, 1010), (29, 1053), (30, 1076), (31, 1109), (32, 1152), (33, 1225), (34, 1259), (35, 1322), (36, 1355)] dw_33 rfl (by decide +kernel) (by decide +kernel) (by decide +kernel) ?_
  exact ⟨fun _ => cs_0 X hi hR kk, fun _ => ⟨fun _ => cs_1 X hi hR kk, fun _ => ⟨fun _ => cs_2 X hi hR kk, fun _ => ⟨fun _ => cs_3 X hi hR kk, fun _ => ⟨fun _ => cs_4 X hi hR kk, fun _ => ⟨fun _ => cs_5 X hi hR kk, fun _ => ⟨fun _ => cs_6 X hi hR kk, fun _ => ⟨fun _ => cs_7 X hi hR kk, fun _ => ⟨fun _ => cs_8 X hi hR kk, fun _ => ⟨fun _ => cs_9 X hi hR kk, fun _ => ⟨fun _ => cs_10 X hi hR kk, fun _ => ⟨fun _ => cs_11 X hi hR kk, fun _ => ⟨fun _ => cs_12 X hi hR kk, fun _ => ⟨fun _ => cs_13 X hi hR kk, fun _ => ⟨fun _ => cs_14 X hi hR kk, fun _ => ⟨fun _ => cs_15 X hi hR kk, fun _ => ⟨fun _ => cs_16 X hi hR kk, fun _ => ⟨fun _ => cs_17 X hi hR kk, fun _ => ⟨fun _ => cs_18 X hi hR kk, fun _ => ⟨fun _ => cs_19 X hi hR kk, fun _ => ⟨fun _ => cs_20 X hi hR kk, fun _ => ⟨fun _ => cs_21 X hi hR kk, fun _ => ⟨fun _ => cs_22 X hi hR kk, fun _ => ⟨fun _ => cs_23 X hi hR kk, fun _ => ⟨fun _ => cs_24 X hi hR kk, fun _ => ⟨fun _ => cs_25 X hi hR kk, fun _ => ⟨fun _ => cs_26 X hi hR kk, fun _ => ⟨fun _ => cs_27 X hi hR kk, fun _ => ⟨fun _ => cs_28 X hi hR kk, fun _ => ⟨fun _ => cs_29 X hi hR kk, fun _ => ⟨fun _ => cs_30 X hi hR kk, fun _ => ⟨fun _ => cs_31 X hi hR kk, fun _ => ⟨fun _ => cs_32 X hi hR kk, fun _ => ⟨fun _ => cs_33 X hi hR kk, fun _ => ⟨fun _ => cs_34 X hi hR kk, fun _ => ⟨fun _ => cs_35 X hi hR kk, fun _ => ⟨fun _ => cs_36 X hi hR kk, fun _ => kk _ _ ⟨_, _, hR⟩⟩⟩⟩⟩⟩⟩⟩⟩⟩⟩⟩⟩⟩⟩⟩⟩⟩⟩⟩⟩⟩⟩⟩⟩⟩⟩⟩⟩⟩⟩⟩⟩⟩⟩⟩⟩⟩
theorem law_loop {E : lzE} {b L : Nat} {xs : Nat → Int32} {aC aM : Nat → Nat} (X : lwX E b L xs aC aM) (hL : L ≤ 3072) : ∀ (f i : Nat) (sC sM : rfS), L < i + f → i ≤ L + 6 → RelE sC sM → Lw E b aC aM 18 (lls b aC aM i) [] sC sM := by
  intro f
  induction f with
  | zero =>
    intro i sC sM hf hi hE
    have hgt : nI L - nI 6 < nI i := by
      rw [i_lt, pk_sub_toInt (by omega) (by decide), nI_toInt (by omega)]
      omega
    refine Lw_iload_n X (j := 3) rfl rfl dw_18 rfl ?_
    refine Lw_aload_n X (j := 0) rfl rfl dw_19 rfl ?_
    refine Lw_len X dw_20 rfl ?_
    refine Lw_bipush X (v := 6) (by decide) dw_21 rfl ?_
    refine Lw_isub X dw_23 rfl ?_
    refine Lw_gt X (tgt := 1384) dw_24 rfl rfl (fun _ => ?_) (fun q => absurd hgt q)
    refine Lw_iconst X (v := 1) (by decide) dw_1384 rfl ?_
    exact Lw_end X dw_1385
  | succ f ih =>
    intro i sC sM hf hi hE
    refine Lw_iload_n X (j := 3) rfl rfl dw_18 rfl ?_
    refine Lw_aload_n X (j := 0) rfl rfl dw_19 rfl ?_
    refine Lw_len X dw_20 rfl ?_
    refine Lw_bipush X (v := 6) (by decide) dw_21 rfl ?_
    refine Lw_isub X dw_23 rfl ?_
    refine Lw_gt X (tgt := 1384) dw_24 rfl rfl (fun _ => ?_) (fun q => ?_)
    · refine Lw_iconst X (v := 1) (by decide) dw_1384 rfl ?_
      exact Lw_end X dw_1385
    · have h6 : i + 6 ≤ L := by
        have q2 : ¬ nI L - nI 6 < nI i := q
        rw [i_lt, pk_sub_toInt (by omega) (by decide), nI_toInt (by omega)] at q2
        omega
      obtain ⟨n, bs, hR⟩ := hE
      refine Lw_aload_n X (j := 0) rfl rfl dw_27 rfl ?_
      refine Lw_iload_n X (j := 3) rfl rfl dw_28 rfl ?_
      refine Lw_ld X (j := i) (by omega) rfl dw_29 rfl ?_
      refine Lw_bipush X (v := 63) (by decide) dw_30 rfl ?_
      refine Lw_iand X dw_32 rfl ?_
      refine sw_all X h6 hR (fun c2 m2 hE2 => ?_)
      refine Lw_inc6 X dw_1378 rfl ?_
      refine Lw_goto X (tgt := 18) dw_1381 rfl ?_
      exact ih (i + 6) c2 m2 (by omega) (by omega) hE2

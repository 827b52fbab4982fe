def wj_X8_tries_154 (κ_X8_tries : rfS → Int32 → Int32 → (rfS → Prop) → Prop) (Q : rfS → Prop) (kb_127 : Int32 → Int32 → Int32 → rfS → Prop) (x1 : Int32) (x2 : Int32) (x3 : Int32) (xs0 : Int32) (xs1 : Int32) (σ : rfS) : Prop :=
  vp_in xs1 7 ∧ κ_X8_tries (sF σ 25 (xs1.toNatClampNeg) xs0) (x1 + 1) x2 (fun (σ2 : rfS) => kb_127 x1 x2 (x3 + 1) σ2)
set_option maxRecDepth 20000 in
theorem sj_X8_tries_154 {d : Nat} {E : rfE} {Q : rfS → Prop} (X : rfX ΛM E yX8_tries cX8_tries 6 none) {κ_X8_tries : rfS → Int32 → Int32 → (rfS → Prop) → Prop} (hκ_X8_tries : ∀ (σ : rfS) (x1 : Int32) (x2 : Int32) (Q : rfS → Prop), κ_X8_tries σ x1 x2 Q → RM ΛM d yX8_tries cX8_tries 6 none [.ref 0, .int x1, .int x2] σ (qv Q)) (hB : 4 ≤ d) {kb_127 : Int32 → Int32 → Int32 → rfS → Prop} (hkb_127 : ∀ (x1 : Int32) (x2 : Int32) (x3 : Int32) (σ : rfS), kb_127 x1 x2 x3 σ → Rf ΛM (d + 1) E 6 (qv Q) 127 [(0, .ref 0), (1, .int x1), (2, .int x2), (3, .int x3)] [] σ) (x1 : Int32) (x2 : Int32) (x3 : Int32) (xs0 : Int32) (xs1 : Int32) (σ : rfS) (h : wj_X8_tries_154 κ_X8_tries Q kb_127 x1 x2 x3 xs0 xs1 σ) : Rf ΛM (d + 1) E 6 (qv Q) 154 [(0, .ref 0), (1, .int x1), (2, .int x2), (3, .int x3)] [.int xs0, .int xs1, .ref 25] σ := by
  unfold wj_X8_tries_154 at h
  obtain ⟨s1, h⟩ := h
  refine Rf_iastore X (Nat.le_of_ble_eq_true rfl) rfl rfl s1 dX8_tries_154 rfl ?_
  refine Rf_aload_n X (j := 0) rfl rfl dX8_tries_155 rfl ?_
  refine Rf_iload_n X (j := 1) rfl rfl dX8_tries_156 rfl ?_
  refine Rf_iconst X (v := 1) rfl dX8_tries_157 rfl ?_
  refine Rf_iadd X dX8_tries_158 rfl ?_
  refine Rf_iload_n X (j := 2) rfl rfl dX8_tries_159 rfl ?_
  refine Rf_cVv (as := [.int (x1 + 1), .int x2]) (st := []) X mi_X8_tries lm_X8_259 rfl (Nat.le_of_ble_eq_true rfl) rfl (hκ_X8_tries _ _ _ _ h) (Nat.le_refl _) rfl rfl (Nat.le_of_ble_eq_true rfl) dX8_tries_160 rfl (fun σ2 h => ?_)
  refine Rf_iinc X (i := 3) (j := 3) (v := x3 + 1) rfl rfl (Nat.le_of_ble_eq_true rfl) (ls2 := [(3, .int (x3 + 1)), (0, .ref 0), (1, .int x1), (2, .int x2)]) rfl dX8_tries_163 rfl ?_
  refine Rf_goto X (tgt := 127) dX8_tries_166 rfl ?_
  refine Rf_sub [1, 2, 3, 0] rfl ?_
  exact hkb_127 _ _ _ σ2 h
def wl_X8_tries_127 (κ_X8_tries : rfS → Int32 → Int32 → (rfS → Prop) → Prop) (Q : rfS → Prop) : Nat → Int32 → Int32 → Int32 → rfS → Prop
  | 0, _, _, _, _ => False
  | n + 1, x1, x2, x3, σ => (((gI σ 0 0) < x3 → Q σ) ∧ (¬ ((gI σ 0 0) < x3) → ((¬ x3 = (gI σ 0 0) → wj_X8_tries_154 κ_X8_tries Q (wl_X8_tries_127 κ_X8_tries Q n) x1 x2 x3 x3 x1 σ) ∧ (x3 = (gI σ 0 0) → wj_X8_tries_154 κ_X8_tries Q (wl_X8_tries_127 κ_X8_tries Q n) x1 x2 x3 7 x1 σ))))
set_option maxRecDepth 20000 in
theorem sl_X8_tries_127 {d : Nat} {E : rfE} {Q : rfS → Prop} (X : rfX ΛM E yX8_tries cX8_tries 6 none) {κ_X8_tries : rfS → Int32 → Int32 → (rfS → Prop) → Prop} (hκ_X8_tries : ∀ (σ : rfS) (x1 : Int32) (x2 : Int32) (Q : rfS → Prop), κ_X8_tries σ x1 x2 Q → RM ΛM d yX8_tries cX8_tries 6 none [.ref 0, .int x1, .int x2] σ (qv Q)) (hB : 4 ≤ d) : ∀ (n : Nat) (x1 : Int32) (x2 : Int32) (x3 : Int32) (σ : rfS), wl_X8_tries_127 κ_X8_tries Q n x1 x2 x3 σ → Rf ΛM (d + 1) E 6 (qv Q) 127 [(0, .ref 0), (1, .int x1), (2, .int x2), (3, .int x3)] [] σ := by
  intro n
  induction n with
  | zero =>
    intro x1 x2 x3 σ h
    exact False.elim h
  | succ n hkb_127 =>
    intro x1 x2 x3 σ h
    unfold wl_X8_tries_127 at h
    refine Rf_iload_n X (j := 3) rfl rfl dX8_tries_127 rfl ?_
    refine Rf_aload_n X (j := 0) rfl rfl dX8_tries_128 rfl ?_
    refine Rf_get X kc8 (Nat.le_of_ble_eq_true rfl) rfl (j := 0) (Nat.le_of_ble_eq_true rfl) lf_X8_94 (v := .int (gI σ 0 0)) rfl dX8_tries_129 rfl ?_
    refine Rf_icmp_gt X (tgt := 169) dX8_tries_132 rfl rfl (fun c4 => ?_) (fun c4 => ?_)
    · have h := h.1 c4
      exact Rf_vret X dX8_tries_169 ⟨rfl, h⟩
    · have h := h.2 c4
      refine Rf_aload_n X (j := 0) rfl rfl dX8_tries_135 rfl ?_
      refine Rf_get X kc8 (Nat.le_of_ble_eq_true rfl) rfl (j := 38) (Nat.le_of_ble_eq_true rfl) lf_X8_85 (v := .ref 25) rfl dX8_tries_136 rfl ?_
      refine Rf_iload_n X (j := 1) rfl rfl dX8_tries_139 rfl ?_
      refine Rf_iload_n X (j := 3) rfl rfl dX8_tries_140 rfl ?_
      refine Rf_aload_n X (j := 0) rfl rfl dX8_tries_141 rfl ?_
      refine Rf_get X kc8 (Nat.le_of_ble_eq_true rfl) rfl (j := 0) (Nat.le_of_ble_eq_true rfl) lf_X8_94 (v := .int (gI σ 0 0)) rfl dX8_tries_142 rfl ?_
      refine Rf_icmp_ne X (tgt := 153) dX8_tries_145 rfl rfl (fun c3 => ?_) (fun c3 => ?_)
      · have h := h.1 c3
        refine Rf_iload_n X (j := 3) rfl rfl dX8_tries_153 rfl ?_
        exact sj_X8_tries_154 X hκ_X8_tries hB hkb_127 _ _ _ _ _ _ h
      · have h := h.2 c3
        refine Rf_bipush X (v := 7) rfl dX8_tries_148 rfl ?_
        refine Rf_goto X (tgt := 154) dX8_tries_150 rfl ?_
        exact sj_X8_tries_154 X hκ_X8_tries hB hkb_127 _ _ _ _ _ _ h
def wl_X8_tries_18 (κ_X8_tries : rfS → Int32 → Int32 → (rfS → Prop) → Prop) (Q : rfS → Prop) (kx_44 : Int32 → Int32 → rfS → Prop) : Nat → Int32 → Int32 → Int32 → rfS → Prop
  | 0, _, _, _, _ => False
  | n + 1, x2, x3, x4, σ => ((x2 ≤ x4 → kx_44 x2 x3 σ) ∧ (¬ (x2 ≤ x4) → vp_in x4 7 ∧ wp_X8_passes σ (gF σ 25 (x4.toNatClampNeg)) (fun (r9 : Int32) (σ8 : rfS) => wl_X8_tries_18 κ_X8_tries Q kx_44 n x2 (x3 + r9) (x4 + 1) σ8)))
set_option maxRecDepth 20000 in
theorem sl_X8_tries_18 {d : Nat} {E : rfE} {Q : rfS → Prop} (X : rfX ΛM E yX8_tries cX8_tries 6 none) {κ_X8_tries : rfS → Int32 → Int32 → (rfS → Prop) → Prop} (hκ_X8_tries : ∀ (σ : rfS) (x1 : Int32) (x2 : Int32) (Q : rfS → Prop), κ_X8_tries σ x1 x2 Q → RM ΛM d yX8_tries cX8_tries 6 none [.ref 0, .int x1, .int x2] σ (qv Q)) (hB : 4 ≤ d) {kx_44 : Int32 → Int32 → rfS → Prop} (hkx_44 : ∀ (x2 : Int32) (x3 : Int32) (σ : rfS), kx_44 x2 x3 σ → Rf ΛM (d + 1) E 6 (qv Q) 44 [(0, .ref 0), (2, .int x2), (3, .int x3)] [] σ) : ∀ (n : Nat) (x2 : Int32) (x3 : Int32) (x4 : Int32) (σ : rfS), wl_X8_tries_18 κ_X8_tries Q kx_44 n x2 x3 x4 σ → Rf ΛM (d + 1) E 6 (qv Q) 18 [(0, .ref 0), (2, .int x2), (3, .int x3), (4, .int x4)] [] σ := by
  intro n
  induction n with
  | zero =>
    intro x2 x3 x4 σ h
    exact False.elim h
  | succ n hkb_18 =>
    intro x2 x3 x4 σ h
    unfold wl_X8_tries_18 at h
    refine Rf_iload X (j := 3) rfl dX8_tries_18 rfl ?_
    refine Rf_iload_n X (j := 1) rfl rfl dX8_tries_20 rfl ?_
    refine Rf_icmp_ge X (tgt := 44) dX8_tries_21 rfl rfl (fun c10 => ?_) (fun c10 => ?_)
    · have h := h.1 c10
      refine Rf_sub [0, 1, 2] rfl ?_
      exact hkx_44 _ _ σ h
    · have h := h.2 c10
      refine Rf_iload_n X (j := 2) rfl rfl dX8_tries_24 rfl ?_
      refine Rf_aload_n X (j := 0) rfl rfl dX8_tries_25 rfl ?_
      refine Rf_aload_n X (j := 0) rfl rfl dX8_tries_26 rfl ?_
      refine Rf_get X kc8 (Nat.le_of_ble_eq_true rfl) rfl (j := 38) (Nat.le_of_ble_eq_true rfl) lf_X8_85 (v := .ref 25) rfl dX8_tries_27 rfl ?_
      refine Rf_iload X (j := 3) rfl dX8_tries_30 rfl ?_
      obtain ⟨s7, h⟩ := h
      refine Rf_iaload X (Nat.le_of_ble_eq_true rfl) rfl rfl s7 dX8_tries_32 rfl (v := gF σ 25 (x4.toNatClampNeg)) rfl ?_
      refine Rf_cVi (as := [.int (gF σ 25 (x4.toNatClampNeg))]) (st := [.int x3]) X mi_X8_passes lm_X8_234 rfl (Nat.le_of_ble_eq_true rfl) rfl (k_X8_passes h) (by omega) rfl rfl (Nat.le_of_ble_eq_true rfl) dX8_tries_33 rfl (fun r9 σ8 h => ?_)
      refine Rf_iadd X dX8_tries_36 rfl ?_
      refine Rf_istore_n X rfl (i := 3) (Nat.le_of_ble_eq_true rfl) (ls2 := [(3, .int (x3 + r9)), (0, .ref 0), (2, .int x2), (4, .int x4)]) rfl dX8_tries_37 rfl ?_
      refine Rf_iinc X (i := 4) (j := 3) (v := x4 + 1) rfl rfl (Nat.le_of_ble_eq_true rfl) (ls2 := [(4, .int (x4 + 1)), (3, .int (x3 + r9)), (0, .ref 0), (2, .int x2)]) rfl dX8_tries_38 rfl ?_
      refine Rf_goto X (tgt := 18) dX8_tries_41 rfl ?_
      refine Rf_sub [2, 3, 1, 0] rfl ?_
      exact hkb_18 _ _ _ σ8 h
def wl_X8_tries_98 (κ_X8_tries : rfS → Int32 → Int32 → (rfS → Prop) → Prop) (Q : rfS → Prop) : Nat → Int32 → Int32 → rfS → Prop
  | 0, _, _, _ => False
  | n + 1, x2, x5, σ => ((x2 ≤ x5 → Q σ) ∧ (¬ (x2 ≤ x5) → vp_in x5 7 ∧ vp_in x5 7 ∧ (wl_X8_tries_98 κ_X8_tries Q n x2 (x5 + 1) (sF σ 26 (x5.toNatClampNeg) (gF σ 25 (x5.toNatClampNeg))))))
set_option maxRecDepth 20000 in
theorem sl_X8_tries_98 {d : Nat} {E : rfE} {Q : rfS → Prop} (X : rfX ΛM E yX8_tries cX8_tries 6 none) {κ_X8_tries : rfS → Int32 → Int32 → (rfS → Prop) → Prop} (hκ_X8_tries : ∀ (σ : rfS) (x1 : Int32) (x2 : Int32) (Q : rfS → Prop), κ_X8_tries σ x1 x2 Q → RM ΛM d yX8_tries cX8_tries 6 none [.ref 0, .int x1, .int x2] σ (qv Q)) (hB : 4 ≤ d) : ∀ (n : Nat) (x2 : Int32) (x5 : Int32) (σ : rfS), wl_X8_tries_98 κ_X8_tries Q n x2 x5 σ → Rf ΛM (d + 1) E 6 (qv Q) 98 [(0, .ref 0), (2, .int x2), (5, .int x5)] [] σ := by
  intro n
  induction n with
  | zero =>
    intro x2 x5 σ h
    exact False.elim h
  | succ n hkb_98 =>
    intro x2 x5 σ h
    unfold wl_X8_tries_98 at h
    refine Rf_iload X (j := 2) rfl dX8_tries_98 rfl ?_
    refine Rf_iload_n X (j := 1) rfl rfl dX8_tries_100 rfl ?_
    refine Rf_icmp_ge X (tgt := 124) dX8_tries_101 rfl rfl (fun c20 => ?_) (fun c20 => ?_)
    · have h := h.1 c20
      exact Rf_vret X dX8_tries_124 ⟨rfl, h⟩
    · have h := h.2 c20
      refine Rf_aload_n X (j := 0) rfl rfl dX8_tries_104 rfl ?_
      refine Rf_get X kc8 (Nat.le_of_ble_eq_true rfl) rfl (j := 39) (Nat.le_of_ble_eq_true rfl) lf_X8_88 (v := .ref 26) rfl dX8_tries_105 rfl ?_
      refine Rf_iload X (j := 2) rfl dX8_tries_108 rfl ?_
      refine Rf_aload_n X (j := 0) rfl rfl dX8_tries_110 rfl ?_
      refine Rf_get X kc8 (Nat.le_of_ble_eq_true rfl) rfl (j := 38) (Nat.le_of_ble_eq_true rfl) lf_X8_85 (v := .ref 25) rfl dX8_tries_111 rfl ?_
      refine Rf_iload X (j := 2) rfl dX8_tries_114 rfl ?_
      obtain ⟨s18, h⟩ := h
      refine Rf_iaload X (Nat.le_of_ble_eq_true rfl) rfl rfl s18 dX8_tries_116 rfl (v := gF σ 25 (x5.toNatClampNeg)) rfl ?_
      obtain ⟨s19, h⟩ := h
      refine Rf_iastore X (Nat.le_of_ble_eq_true rfl) rfl rfl s19 dX8_tries_117 rfl ?_
      refine Rf_iinc X (i := 5) (j := 2) (v := x5 + 1) rfl rfl (Nat.le_of_ble_eq_true rfl) (ls2 := [(5, .int (x5 + 1)), (0, .ref 0), (2, .int x2)]) rfl dX8_tries_118 rfl ?_
      refine Rf_goto X (tgt := 98) dX8_tries_121 rfl ?_
      refine Rf_sub [1, 2, 0] rfl ?_
      exact hkb_98 _ _ (sF σ 26 (x5.toNatClampNeg) (gF σ 25 (x5.toNatClampNeg))) h
def wj_X8_tries_84 (κ_X8_tries : rfS → Int32 → Int32 → (rfS → Prop) → Prop) (Q : rfS → Prop) (x2 : Int32) (x3 : Int32) (x4 : Int32) (σ : rfS) : Prop :=
  (∃ n21, wl_X8_tries_98 κ_X8_tries Q n21 x2 0 (sI (sI σ 0 40 x3) 0 41 x4))
set_option maxRecDepth 20000 in
theorem sj_X8_tries_84 {d : Nat} {E : rfE} {Q : rfS → Prop} (X : rfX ΛM E yX8_tries cX8_tries 6 none) {κ_X8_tries : rfS → Int32 → Int32 → (rfS → Prop) → Prop} (hκ_X8_tries : ∀ (σ : rfS) (x1 : Int32) (x2 : Int32) (Q : rfS → Prop), κ_X8_tries σ x1 x2 Q → RM ΛM d yX8_tries cX8_tries 6 none [.ref 0, .int x1, .int x2] σ (qv Q)) (hB : 4 ≤ d) (x2 : Int32) (x3 : Int32) (x4 : Int32) (σ : rfS) (h : wj_X8_tries_84 κ_X8_tries Q x2 x3 x4 σ) : Rf ΛM (d + 1) E 6 (qv Q) 84 [(0, .ref 0), (2, .int x2), (3, .int x3), (4, .int x4)] [] σ := by
  unfold wj_X8_tries_84 at h
  refine Rf_aload_n X (j := 0) rfl rfl dX8_tries_84 rfl ?_
  refine Rf_iload_n X (j := 2) rfl rfl dX8_tries_85 rfl ?_
  refine Rf_put X kc8 (Nat.le_of_ble_eq_true rfl) rfl (j := 40) (Nat.le_of_ble_eq_true rfl) rfl lf_X8_253 rfl rfl rfl dX8_tries_86 rfl ?_
  refine Rf_aload_n X (j := 0) rfl rfl dX8_tries_89 rfl ?_
  refine Rf_iload X (j := 3) rfl dX8_tries_90 rfl ?_
  refine Rf_put X kc8 (Nat.le_of_ble_eq_true rfl) rfl (j := 41) (Nat.le_of_ble_eq_true rfl) rfl lf_X8_256 rfl rfl rfl dX8_tries_92 rfl ?_
  refine Rf_iconst X (v := 0) rfl dX8_tries_95 rfl ?_
  refine Rf_istore X (i := 5) (Nat.le_of_ble_eq_true rfl) (ls2 := [(5, .int 0), (0, .ref 0), (2, .int x2), (3, .int x3), (4, .int x4)]) rfl dX8_tries_96 rfl ?_
  obtain ⟨n21, h⟩ := h
  refine Rf_sub [1, 2, 0] rfl ?_
  exact sl_X8_tries_98 X hκ_X8_tries hB n21 _ _ _ h
def wp_X8_tries (κ_X8_tries : rfS → Int32 → Int32 → (rfS → Prop) → Prop) (σ : rfS) (x1 : Int32) (x2 : Int32) (Q : rfS → Prop) : Prop :=
  ((¬ x1 = x2 → (∃ n5, wl_X8_tries_127 κ_X8_tries Q n5 x1 x2 0 σ)) ∧ (x1 = x2 → wp_X8_keeps σ 23 (fun (σ6 : rfS) => (∃ n11, wl_X8_tries_18 κ_X8_tries Q (fun (x2_12 : Int32) (x3_13 : Int32) (σ14 : rfS) => wp_X8_allOwed σ14 (fun (r16 : Int32) (σ15 : rfS) => wp_X8_laysBack σ15 23 (fun (σ17 : rfS) => ((x3_13 < (gI σ17 0 40) → Q σ17) ∧ (¬ (x3_13 < (gI σ17 0 40)) → ((¬ x3_13 = (gI σ17 0 40) → wj_X8_tries_84 κ_X8_tries Q x2_12 x3_13 r16 σ17) ∧ (x3_13 = (gI σ17 0 40) → ((r16 < (gI σ17 0 41) → wj_X8_tries_84 κ_X8_tries Q x2_12 x3_13 r16 σ17) ∧ (¬ (r16 < (gI σ17 0 41)) → Q σ17))))))))) n11 x2 0 0 σ6))))
set_option maxRecDepth 20000 in
theorem k_X8_tries {d : Nat} {κ_X8_tries : rfS → Int32 → Int32 → (rfS → Prop) → Prop} (hκ_X8_tries : ∀ (σ : rfS) (x1 : Int32) (x2 : Int32) (Q : rfS → Prop), κ_X8_tries σ x1 x2 Q → RM ΛM d yX8_tries cX8_tries 6 none [.ref 0, .int x1, .int x2] σ (qv Q)) (hB : 4 ≤ d) {σ : rfS} {x1 : Int32} {x2 : Int32} {Q : rfS → Prop} (h : wp_X8_tries κ_X8_tries σ x1 x2 Q) : RM ΛM (d + 1) yX8_tries cX8_tries 6 none [.ref 0, .int x1, .int x2] σ (qv Q) := by
  unfold wp_X8_tries at h
  refine RM.intro (by decide) (Nat.le_of_ble_eq_true rfl) (fun E X => ?_)
  show Rf ΛM (d + 1) E 6 (qv Q) 0 [(0, .ref 0), (1, .int x1), (2, .int x2)] [] σ
  refine Rf_iload_n X (j := 1) rfl rfl dX8_tries_0 rfl ?_
  refine Rf_iload_n X (j := 2) rfl rfl dX8_tries_1 rfl ?_
  refine Rf_icmp_ne X (tgt := 125) dX8_tries_2 rfl rfl (fun c25 => ?_) (fun c25 => ?_)
  · have h := h.1 c25
    refine Rf_iconst X (v := 0) rfl dX8_tries_125 rfl ?_
    refine Rf_istore_n X rfl (i := 3) (Nat.le_of_ble_eq_true rfl) (ls2 := [(3, .int 0), (0, .ref 0), (1, .int x1), (2, .int x2)]) rfl dX8_tries_126 rfl ?_
    obtain ⟨n5, h⟩ := h
    refine Rf_sub [1, 2, 3, 0] rfl ?_
    exact sl_X8_tries_127 X hκ_X8_tries hB n5 _ _ _ _ h
  · have h := h.2 c25
    refine Rf_aload_n X (j := 0) rfl rfl dX8_tries_5 rfl ?_
    refine Rf_aload_n X (j := 0) rfl rfl dX8_tries_6 rfl ?_
    refine Rf_get X kc8 (Nat.le_of_ble_eq_true rfl) rfl (j := 36) (Nat.le_of_ble_eq_true rfl) lf_X8_79 (v := .ref 23) rfl dX8_tries_7 rfl ?_
    refine Rf_cVv (as := [.ref 23]) (st := []) X mi_X8_keeps lm_X8_240 rfl (Nat.le_of_ble_eq_true rfl) rfl (k_X8_keeps (by unfold isW; decide) h) (by omega) rfl rfl (Nat.le_of_ble_eq_true rfl) dX8_tries_10 rfl (fun σ6 h => ?_)
    refine Rf_iconst X (v := 0) rfl dX8_tries_13 rfl ?_
    refine Rf_istore_n X rfl (i := 3) (Nat.le_of_ble_eq_true rfl) (ls2 := [(3, .int 0), (0, .ref 0), (1, .int x1), (2, .int x2)]) rfl dX8_tries_14 rfl ?_
    refine Rf_iconst X (v := 0) rfl dX8_tries_15 rfl ?_
    refine Rf_istore X (i := 4) (Nat.le_of_ble_eq_true rfl) (ls2 := [(4, .int 0), (3, .int 0), (0, .ref 0), (1, .int x1), (2, .int x2)]) rfl dX8_tries_16 rfl ?_
    obtain ⟨n11, h⟩ := h
    refine Rf_sub [2, 4, 1, 0] rfl ?_
    refine sl_X8_tries_18 X hκ_X8_tries hB (fun x2_12 x3_13 σ14 h => ?_) n11 _ _ _ _ h
    · refine Rf_aload_n X (j := 0) rfl rfl dX8_tries_44 rfl ?_
      refine Rf_cVi (as := []) (st := []) X mi_X8_allOwed lm_X8_247 rfl (Nat.le_of_ble_eq_true rfl) rfl (k_X8_allOwed h) (by omega) rfl rfl (Nat.le_of_ble_eq_true rfl) dX8_tries_45 rfl (fun r16 σ15 h => ?_)
      refine Rf_istore X (i := 4) (Nat.le_of_ble_eq_true rfl) (ls2 := [(4, .int r16), (0, .ref 0), (2, .int x2_12), (3, .int x3_13)]) rfl dX8_tries_48 rfl ?_
      refine Rf_aload_n X (j := 1) rfl rfl dX8_tries_50 rfl ?_
      refine Rf_aload_n X (j := 1) rfl rfl dX8_tries_51 rfl ?_
      refine Rf_get X kc8 (Nat.le_of_ble_eq_true rfl) rfl (j := 36) (Nat.le_of_ble_eq_true rfl) lf_X8_79 (v := .ref 23) rfl dX8_tries_52 rfl ?_
      refine Rf_cVv (as := [.ref 23]) (st := []) X mi_X8_laysBack lm_X8_250 rfl (Nat.le_of_ble_eq_true rfl) rfl (k_X8_laysBack (by unfold isW; decide) h) (by omega) rfl rfl (Nat.le_of_ble_eq_true rfl) dX8_tries_55 rfl (fun σ17 h => ?_)
      refine Rf_iload_n X (j := 3) rfl rfl dX8_tries_58 rfl ?_
      refine Rf_aload_n X (j := 1) rfl rfl dX8_tries_59 rfl ?_
      refine Rf_get X kc8 (Nat.le_of_ble_eq_true rfl) rfl (j := 40) (Nat.le_of_ble_eq_true rfl) lf_X8_253 (v := .int (gI σ17 0 40)) rfl dX8_tries_60 rfl ?_
      refine Rf_icmp_lt X (tgt := 83) dX8_tries_63 rfl rfl (fun c24 => ?_) (fun c24 => ?_)
      · have h := h.1 c24
        exact Rf_vret X dX8_tries_83 ⟨rfl, h⟩
      · have h := h.2 c24
        refine Rf_iload_n X (j := 3) rfl rfl dX8_tries_66 rfl ?_
        refine Rf_aload_n X (j := 1) rfl rfl dX8_tries_67 rfl ?_
        refine Rf_get X kc8 (Nat.le_of_ble_eq_true rfl) rfl (j := 40) (Nat.le_of_ble_eq_true rfl) lf_X8_253 (v := .int (gI σ17 0 40)) rfl dX8_tries_68 rfl ?_
        refine Rf_icmp_ne X (tgt := 84) dX8_tries_71 rfl rfl (fun c23 => ?_) (fun c23 => ?_)
        · have h := h.1 c23
          refine Rf_sub [1, 2, 3, 0] rfl ?_
          exact sj_X8_tries_84 X hκ_X8_tries hB _ _ _ _ h
        · have h := h.2 c23
          refine Rf_iload X (j := 0) rfl dX8_tries_74 rfl ?_
          refine Rf_aload_n X (j := 1) rfl rfl dX8_tries_76 rfl ?_
          refine Rf_get X kc8 (Nat.le_of_ble_eq_true rfl) rfl (j := 41) (Nat.le_of_ble_eq_true rfl) lf_X8_256 (v := .int (gI σ17 0 41)) rfl dX8_tries_77 rfl ?_
          refine Rf_icmp_lt X (tgt := 84) dX8_tries_80 rfl rfl (fun c22 => ?_) (fun c22 => ?_)
          · have h := h.1 c22
            refine Rf_sub [1, 2, 3, 0] rfl ?_
            exact sj_X8_tries_84 X hκ_X8_tries hB _ _ _ _ h
          · have h := h.2 c22
            exact Rf_vret X dX8_tries_83 ⟨rfl, h⟩
def wp_X8_bestRota (κ_X8_tries : rfS → Int32 → Int32 → (rfS → Prop) → Prop) (σ : rfS) (x1 : Int32) (x2 : Int32) (Q : Int32 → rfS → Prop) : Prop :=
  wp_X8_within σ x1 0 4 (fun (r2 : Int32) (σ1 : rfS) => ((r2 = 0 → Q (-1) σ1) ∧ (¬ r2 = 0 → wp_X8_within σ1 x2 (-2) (x1 - 1) (fun (r4 : Int32) (σ3 : rfS) => ((¬ r4 = 0 → κ_X8_tries (sI (sI σ3 0 40 (-1)) 0 41 0) 0 x1 (fun (σ5 : rfS) => ((¬ x2 = (-1) → ((¬ x2 = (-2) → vp_in x2 7 ∧ (Q (gF σ5 26 (x2.toNatClampNeg)) σ5)) ∧ (x2 = (-2) → Q (gI σ5 0 41) σ5))) ∧ (x2 = (-1) → Q (gI σ5 0 40) σ5)))) ∧ (r4 = 0 → Q (-1) σ3))))))
set_option maxRecDepth 20000 in
theorem k_X8_bestRota {d : Nat} {κ_X8_tries : rfS → Int32 → Int32 → (rfS → Prop) → Prop} (hκ_X8_tries : ∀ (σ : rfS) (x1 : Int32) (x2 : Int32) (Q : rfS → Prop), κ_X8_tries σ x1 x2 Q → RM ΛM d yX8_tries cX8_tries 6 none [.ref 0, .int x1, .int x2] σ (qv Q)) (hB : 0 ≤ d) {σ : rfS} {x1 : Int32} {x2 : Int32} {Q : Int32 → rfS → Prop} (h : wp_X8_bestRota κ_X8_tries σ x1 x2 Q) : RM ΛM (d + 1) yX8_bestRota cX8_bestRota 3 (some .int) [.ref 0, .int x1, .int x2] σ (qi Q) := by
  unfold wp_X8_bestRota at h
  refine RM.intro (by decide) (Nat.le_of_ble_eq_true rfl) (fun E X => ?_)
  show Rf ΛM (d + 1) E 3 (qi Q) 0 [(0, .ref 0), (1, .int x1), (2, .int x2)] [] σ
  refine Rf_iload_n X (j := 1) rfl rfl dX8_bestRota_0 rfl ?_
  refine Rf_iconst X (v := 0) rfl dX8_bestRota_1 rfl ?_
  refine Rf_iconst X (v := 4) rfl dX8_bestRota_2 rfl ?_
  refine Rf_cSi (as := [.int x1, .int 0, .int 4]) (st := []) X ms_X8_within lm_X8_98 (k_X8_within h) (by omega) rfl rfl (Nat.le_of_ble_eq_true rfl) dX8_bestRota_3 rfl (fun r2 σ1 h => ?_)
  refine Rf_if_eq X (tgt := 21) dX8_bestRota_6 rfl rfl (fun c10 => ?_) (fun c10 => ?_)
  · have h := h.1 c10
    refine Rf_iconst X (v := (-1)) (by decide) dX8_bestRota_21 rfl ?_
    exact Rf_iret X rfl dX8_bestRota_22 ⟨_, rfl, h⟩
  · have h := h.2 c10
    refine Rf_iload_n X (j := 2) rfl rfl dX8_bestRota_9 rfl ?_
    refine Rf_bipush X (v := (-2)) (by decide) dX8_bestRota_10 rfl ?_
    refine Rf_iload_n X (j := 1) rfl rfl dX8_bestRota_12 rfl ?_
    refine Rf_iconst X (v := 1) rfl dX8_bestRota_13 rfl ?_
    refine Rf_isub X dX8_bestRota_14 rfl ?_
    refine Rf_cSi (as := [.int x2, .int (-2), .int (x1 - 1)]) (st := []) X ms_X8_within lm_X8_98 (k_X8_within h) (by omega) rfl rfl (Nat.le_of_ble_eq_true rfl) dX8_bestRota_15 rfl (fun r4 σ3 h => ?_)
    refine Rf_if_ne X (tgt := 23) dX8_bestRota_18 rfl rfl (fun c9 => ?_) (fun c9 => ?_)
    · have h := h.1 c9
      refine Rf_aload_n X (j := 0) rfl rfl dX8_bestRota_23 rfl ?_
      refine Rf_iconst X (v := (-1)) (by decide) dX8_bestRota_24 rfl ?_
      refine Rf_put X kc8 (Nat.le_of_ble_eq_true rfl) rfl (j := 40) (Nat.le_of_ble_eq_true rfl) rfl lf_X8_253 rfl rfl rfl dX8_bestRota_25 rfl ?_
      refine Rf_aload_n X (j := 0) rfl rfl dX8_bestRota_28 rfl ?_
      refine Rf_iconst X (v := 0) rfl dX8_bestRota_29 rfl ?_
      refine Rf_put X kc8 (Nat.le_of_ble_eq_true rfl) rfl (j := 41) (Nat.le_of_ble_eq_true rfl) rfl lf_X8_256 rfl rfl rfl dX8_bestRota_30 rfl ?_
      refine Rf_aload_n X (j := 0) rfl rfl dX8_bestRota_33 rfl ?_
      refine Rf_iconst X (v := 0) rfl dX8_bestRota_34 rfl ?_
      refine Rf_iload_n X (j := 1) rfl rfl dX8_bestRota_35 rfl ?_
      refine Rf_cVv (as := [.int 0, .int x1]) (st := []) X mi_X8_tries lm_X8_259 rfl (Nat.le_of_ble_eq_true rfl) rfl (hκ_X8_tries _ _ _ _ h) (Nat.le_refl _) rfl rfl (Nat.le_of_ble_eq_true rfl) dX8_bestRota_36 rfl (fun σ5 h => ?_)
      refine Rf_iload_n X (j := 2) rfl rfl dX8_bestRota_39 rfl ?_
      refine Rf_iconst X (v := (-1)) (by decide) dX8_bestRota_40 rfl ?_
      refine Rf_icmp_ne X (tgt := 51) dX8_bestRota_41 rfl rfl (fun c8 => ?_) (fun c8 => ?_)
      · have h := h.1 c8
        refine Rf_iload_n X (j := 2) rfl rfl dX8_bestRota_51 rfl ?_
        refine Rf_bipush X (v := (-2)) (by decide) dX8_bestRota_52 rfl ?_
        refine Rf_icmp_ne X (tgt := 64) dX8_bestRota_54 rfl rfl (fun c7 => ?_) (fun c7 => ?_)
        · have h := h.1 c7
          refine Rf_aload_n X (j := 0) rfl rfl dX8_bestRota_64 rfl ?_
          refine Rf_get X kc8 (Nat.le_of_ble_eq_true rfl) rfl (j := 39) (Nat.le_of_ble_eq_true rfl) lf_X8_88 (v := .ref 26) rfl dX8_bestRota_65 rfl ?_
          refine Rf_iload_n X (j := 2) rfl rfl dX8_bestRota_68 rfl ?_
          obtain ⟨s6, h⟩ := h
          refine Rf_iaload X (Nat.le_of_ble_eq_true rfl) rfl rfl s6 dX8_bestRota_69 rfl (v := gF σ5 26 (x2.toNatClampNeg)) rfl ?_
          exact Rf_iret X rfl dX8_bestRota_70 ⟨_, rfl, h⟩
        · have h := h.2 c7
          refine Rf_aload_n X (j := 0) rfl rfl dX8_bestRota_57 rfl ?_
          refine Rf_get X kc8 (Nat.le_of_ble_eq_true rfl) rfl (j := 41) (Nat.le_of_ble_eq_true rfl) lf_X8_256 (v := .int (gI σ5 0 41)) rfl dX8_bestRota_58 rfl ?_
          refine Rf_goto X (tgt := 70) dX8_bestRota_61 rfl ?_
          exact Rf_iret X rfl dX8_bestRota_70 ⟨_, rfl, h⟩
      · have h := h.2 c8
        refine Rf_aload_n X (j := 0) rfl rfl dX8_bestRota_44 rfl ?_
        refine Rf_get X kc8 (Nat.le_of_ble_eq_true rfl) rfl (j := 40) (Nat.le_of_ble_eq_true rfl) lf_X8_253 (v := .int (gI σ5 0 40)) rfl dX8_bestRota_45 rfl ?_
        refine Rf_goto X (tgt := 70) dX8_bestRota_48 rfl ?_
        exact Rf_iret X rfl dX8_bestRota_70 ⟨_, rfl, h⟩
    · have h := h.2 c9
      refine Rf_iconst X (v := (-1)) (by decide) dX8_bestRota_21 rfl ?_
      exact Rf_iret X rfl dX8_bestRota_22 ⟨_, rfl, h⟩
def wl_X8_knownBy_4 (Q : Int32 → rfS → Prop) : Nat → Int32 → Int32 → Int32 → rfS → Prop
  | 0, _, _, _, _ => False
  | n + 1, x1, x2, x3, σ => (((gI σ 0 0) ≤ x3 → Q x2 σ) ∧ (¬ ((gI σ 0 0) ≤ x3) → wp_X8_has σ x1 x3 (fun (r2 : Int32) (σ1 : rfS) => ((r2 = 0 → wl_X8_knownBy_4 Q n x1 x2 (x3 + 1) σ1) ∧ (¬ r2 = 0 → vp_in (14 + x3) 42 ∧ (wl_X8_knownBy_4 Q n x1 (x2 ||| (gF σ1 1 ((14 + x3).toNatClampNeg))) (x3 + 1) σ1))))))
set_option maxRecDepth 20000 in
theorem sl_X8_knownBy_4 {E : rfE} {Q : Int32 → rfS → Prop} (X : rfX ΛM E yX8_knownBy cX8_knownBy 4 (some .int)) : ∀ (n : Nat) (x1 : Int32) (x2 : Int32) (x3 : Int32) (σ : rfS), wl_X8_knownBy_4 Q n x1 x2 x3 σ → Rf ΛM 1 E 4 (qi Q) 4 [(0, .ref 0), (1, .int x1), (2, .int x2), (3, .int x3)] [] σ := by
  intro n
  induction n with
  | zero =>
    intro x1 x2 x3 σ h
    exact False.elim h
  | succ n hkb_4 =>
    intro x1 x2 x3 σ h
    unfold wl_X8_knownBy_4 at h
    refine Rf_iload_n X (j := 3) rfl rfl dX8_knownBy_4 rfl ?_
    refine Rf_aload_n X (j := 0) rfl rfl dX8_knownBy_5 rfl ?_
    refine Rf_get X kc8 (Nat.le_of_ble_eq_true rfl) rfl (j := 0) (Nat.le_of_ble_eq_true rfl) lf_X8_94 (v := .int (gI σ 0 0)) rfl dX8_knownBy_6 rfl ?_
    refine Rf_icmp_ge X (tgt := 38) dX8_knownBy_9 rfl rfl (fun c5 => ?_) (fun c5 => ?_)
    · have h := h.1 c5
      refine Rf_iload_n X (j := 2) rfl rfl dX8_knownBy_38 rfl ?_
      exact Rf_iret X rfl dX8_knownBy_39 ⟨_, rfl, h⟩
    · have h := h.2 c5
      refine Rf_iload_n X (j := 1) rfl rfl dX8_knownBy_12 rfl ?_
      refine Rf_iload_n X (j := 3) rfl rfl dX8_knownBy_13 rfl ?_
      refine Rf_cSi (as := [.int x1, .int x3]) (st := []) X ms_X8_has lm_X8_203 (k_X8_has h) (Nat.le_of_ble_eq_true rfl) rfl rfl (Nat.le_of_ble_eq_true rfl) dX8_knownBy_14 rfl (fun r2 σ1 h => ?_)
      refine Rf_if_eq X (tgt := 32) dX8_knownBy_17 rfl rfl (fun c4 => ?_) (fun c4 => ?_)
      · have h := h.1 c4
        refine Rf_iinc X (i := 3) (j := 3) (v := x3 + 1) rfl rfl (Nat.le_of_ble_eq_true rfl) (ls2 := [(3, .int (x3 + 1)), (0, .ref 0), (1, .int x1), (2, .int x2)]) rfl dX8_knownBy_32 rfl ?_
        refine Rf_goto X (tgt := 4) dX8_knownBy_35 rfl ?_
        refine Rf_sub [1, 2, 3, 0] rfl ?_
        exact hkb_4 _ _ _ σ1 h
      · have h := h.2 c4
        refine Rf_iload_n X (j := 2) rfl rfl dX8_knownBy_20 rfl ?_
        refine Rf_aload_n X (j := 0) rfl rfl dX8_knownBy_21 rfl ?_
        refine Rf_get X kc8 (Nat.le_of_ble_eq_true rfl) rfl (j := 1) (Nat.le_of_ble_eq_true rfl) lf_X8_9 (v := .ref 1) rfl dX8_knownBy_22 rfl ?_
        refine Rf_bipush X (v := 14) rfl dX8_knownBy_25 rfl ?_
        refine Rf_iload_n X (j := 3) rfl rfl dX8_knownBy_27 rfl ?_
        refine Rf_iadd X dX8_knownBy_28 rfl ?_
        obtain ⟨s3, h⟩ := h
        refine Rf_iaload X (Nat.le_of_ble_eq_true rfl) rfl rfl s3 dX8_knownBy_29 rfl (v := gF σ1 1 ((14 + x3).toNatClampNeg)) rfl ?_
        refine Rf_ior X dX8_knownBy_30 rfl ?_
        refine Rf_istore_n X rfl (i := 2) (Nat.le_of_ble_eq_true rfl) (ls2 := [(2, .int (x2 ||| (gF σ1 1 ((14 + x3).toNatClampNeg)))), (0, .ref 0), (1, .int x1), (3, .int x3)]) rfl dX8_knownBy_31 rfl ?_
        refine Rf_iinc X (i := 3) (j := 3) (v := x3 + 1) rfl rfl (Nat.le_of_ble_eq_true rfl) (ls2 := [(3, .int (x3 + 1)), (2, .int (x2 ||| (gF σ1 1 ((14 + x3).toNatClampNeg)))), (0, .ref 0), (1, .int x1)]) rfl dX8_knownBy_32 rfl ?_
        refine Rf_goto X (tgt := 4) dX8_knownBy_35 rfl ?_
        refine Rf_sub [2, 3, 1, 0] rfl ?_
        exact hkb_4 _ _ _ σ1 h
def wp_X8_knownBy (σ : rfS) (x1 : Int32) (Q : Int32 → rfS → Prop) : Prop :=
  (∃ n6, wl_X8_knownBy_4 Q n6 x1 0 0 σ)
set_option maxRecDepth 20000 in
theorem k_X8_knownBy {σ : rfS} {x1 : Int32} {Q : Int32 → rfS → Prop} (h : wp_X8_knownBy σ x1 Q) : RM ΛM 1 yX8_knownBy cX8_knownBy 4 (some .int) [.ref 0, .int x1] σ (qi Q) := by
  unfold wp_X8_knownBy at h
  refine RM.intro (by decide) (Nat.le_of_ble_eq_true rfl) (fun E X => ?_)
  show Rf ΛM 1 E 4 (qi Q) 0 [(0, .ref 0), (1, .int x1)] [] σ
  refine Rf_iconst X (v := 0) rfl dX8_knownBy_0 rfl ?_
  refine Rf_istore_n X rfl (i := 2) (Nat.le_of_ble_eq_true rfl) (ls2 := [(2, .int 0), (0, .ref 0), (1, .int x1)]) rfl dX8_knownBy_1 rfl ?_
  refine Rf_iconst X (v := 0) rfl dX8_knownBy_2 rfl ?_
  refine Rf_istore_n X rfl (i := 3) (Nat.le_of_ble_eq_true rfl) (ls2 := [(3, .int 0), (2, .int 0), (0, .ref 0), (1, .int x1)]) rfl dX8_knownBy_3 rfl ?_
  obtain ⟨n6, h⟩ := h
  refine Rf_sub [2, 3, 1, 0] rfl ?_
  exact sl_X8_knownBy_4 X n6 _ _ _ _ h
def wl_X8_told_37 (Q : Int32 → rfS → Prop) (kx_113 : Int32 → Int32 → rfS → Prop) : Nat → Int32 → Int32 → Int32 → Int32 → Int32 → rfS → Prop
  | 0, _, _, _, _, _, _ => False
  | n + 1, x1, x2, x3, x4, x5, σ => (((1 <<< ((gI σ 0 0) &&& 31)) ≤ x5 → kx_113 x3 x4 σ) ∧ (¬ ((1 <<< ((gI σ 0 0) &&& 31)) ≤ x5) → wp_X8_has σ x5 x1 (fun (r8 : Int32) (σ7 : rfS) => ((¬ r8 = 0 → wl_X8_told_37 Q kx_113 n x1 x2 x3 x4 (x5 + 1) σ7) ∧ (r8 = 0 → vp_in (14 + x1) 42 ∧ wp_X8_knownBy σ7 x5 (fun (r11 : Int32) (σ10 : rfS) => (((x2 &&& (((gF σ7 1 ((14 + x1).toNatClampNeg)) ||| r11) ^^^ (-1))) = 0 → ((x4 = (-2) → wl_X8_told_37 Q kx_113 n x1 x2 x3 x5 (x5 + 1) σ10) ∧ (¬ x4 = (-2) → wp_J6_bitCount_0f7a4 σ10 x5 (fun (r13 : Int32) (σ12 : rfS) => wp_J6_bitCount_0f7a4 σ12 x4 (fun (r15 : Int32) (σ14 : rfS) => ((r15 ≤ r13 → wl_X8_told_37 Q kx_113 n x1 x2 x3 x4 (x5 + 1) σ14) ∧ (¬ (r15 ≤ r13) → wl_X8_told_37 Q kx_113 n x1 x2 x3 x5 (x5 + 1) σ14))))))) ∧ (¬ (x2 &&& (((gF σ7 1 ((14 + x1).toNatClampNeg)) ||| r11) ^^^ (-1))) = 0 → wl_X8_told_37 Q kx_113 n x1 x2 x3 x4 (x5 + 1) σ10))))))))
set_option maxRecDepth 20000 in
theorem sl_X8_told_37 {E : rfE} {Q : Int32 → rfS → Prop} (X : rfX ΛM E yX8_told cX8_told 6 (some .int)) {kx_113 : Int32 → Int32 → rfS → Prop} (hkx_113 : ∀ (x3 : Int32) (x4 : Int32) (σ : rfS), kx_113 x3 x4 σ → Rf ΛM 2 E 6 (qi Q) 113 [(3, .int x3), (4, .int x4)] [] σ) : ∀ (n : Nat) (x1 : Int32) (x2 : Int32) (x3 : Int32) (x4 : Int32) (x5 : Int32) (σ : rfS), wl_X8_told_37 Q kx_113 n x1 x2 x3 x4 x5 σ → Rf ΛM 2 E 6 (qi Q) 37 [(0, .ref 0), (1, .int x1), (2, .int x2), (3, .int x3), (4, .int x4), (5, .int x5)] [] σ := by
  intro n
  induction n with
  | zero =>
    intro x1 x2 x3 x4 x5 σ h
    exact False.elim h
  | succ n hkb_37 =>
    intro x1 x2 x3 x4 x5 σ h
    unfold wl_X8_told_37 at h
    refine Rf_iload X (j := 5) rfl dX8_told_37 rfl ?_
    refine Rf_iconst X (v := 1) rfl dX8_told_39 rfl ?_
    refine Rf_aload_n X (j := 0) rfl rfl dX8_told_40 rfl ?_
    refine Rf_get X kc8 (Nat.le_of_ble_eq_true rfl) rfl (j := 0) (Nat.le_of_ble_eq_true rfl) lf_X8_94 (v := .int (gI σ 0 0)) rfl dX8_told_41 rfl ?_
    refine Rf_ishl X dX8_told_44 rfl ?_
    refine Rf_icmp_ge X (tgt := 113) dX8_told_45 rfl rfl (fun c20 => ?_) (fun c20 => ?_)
    · have h := h.1 c20
      refine Rf_sub [3, 4] rfl ?_
      exact hkx_113 _ _ σ h
    · have h := h.2 c20
      refine Rf_iload X (j := 5) rfl dX8_told_48 rfl ?_
      refine Rf_iload_n X (j := 1) rfl rfl dX8_told_50 rfl ?_
      refine Rf_cSi (as := [.int x5, .int x1]) (st := []) X ms_X8_has lm_X8_203 (k_X8_has h) (Nat.le_of_ble_eq_true rfl) rfl rfl (Nat.le_of_ble_eq_true rfl) dX8_told_51 rfl (fun r8 σ7 h => ?_)
      refine Rf_if_ne X (tgt := 107) dX8_told_54 rfl rfl (fun c19 => ?_) (fun c19 => ?_)
      · have h := h.1 c19
        refine Rf_iinc X (i := 5) (j := 5) (v := x5 + 1) rfl rfl (Nat.le_of_ble_eq_true rfl) (ls2 := [(5, .int (x5 + 1)), (0, .ref 0), (1, .int x1), (2, .int x2), (3, .int x3), (4, .int x4)]) rfl dX8_told_107 rfl ?_
        refine Rf_goto X (tgt := 37) dX8_told_110 rfl ?_
        refine Rf_sub [1, 2, 3, 4, 5, 0] rfl ?_
        exact hkb_37 _ _ _ _ _ σ7 h
      · have h := h.2 c19
        refine Rf_iload_n X (j := 2) rfl rfl dX8_told_57 rfl ?_
        refine Rf_aload_n X (j := 0) rfl rfl dX8_told_58 rfl ?_
        refine Rf_get X kc8 (Nat.le_of_ble_eq_true rfl) rfl (j := 1) (Nat.le_of_ble_eq_true rfl) lf_X8_9 (v := .ref 1) rfl dX8_told_59 rfl ?_
        refine Rf_bipush X (v := 14) rfl dX8_told_62 rfl ?_
        refine Rf_iload_n X (j := 1) rfl rfl dX8_told_64 rfl ?_
        refine Rf_iadd X dX8_told_65 rfl ?_
        obtain ⟨s9, h⟩ := h
        refine Rf_iaload X (Nat.le_of_ble_eq_true rfl) rfl rfl s9 dX8_told_66 rfl (v := gF σ7 1 ((14 + x1).toNatClampNeg)) rfl ?_
        refine Rf_aload_n X (j := 0) rfl rfl dX8_told_67 rfl ?_
        refine Rf_iload X (j := 5) rfl dX8_told_68 rfl ?_
        refine Rf_cVi (as := [.int x5]) (st := [.int (gF σ7 1 ((14 + x1).toNatClampNeg)), .int x2]) X mi_X8_knownBy lm_X8_263 rfl (Nat.le_of_ble_eq_true rfl) rfl (k_X8_knownBy h) (Nat.le_of_ble_eq_true rfl) rfl rfl (Nat.le_of_ble_eq_true rfl) dX8_told_70 rfl (fun r11 σ10 h => ?_)
        refine Rf_ior X dX8_told_73 rfl ?_
        refine Rf_iconst X (v := (-1)) (by decide) dX8_told_74 rfl ?_
        refine Rf_ixor X dX8_told_75 rfl ?_
        refine Rf_iand X dX8_told_76 rfl ?_
        refine Rf_if_eq X (tgt := 83) dX8_told_77 rfl rfl (fun c18 => ?_) (fun c18 => ?_)
        · have h := h.1 c18
          refine Rf_iload X (j := 4) rfl dX8_told_83 rfl ?_
          refine Rf_bipush X (v := (-2)) (by decide) dX8_told_85 rfl ?_
          refine Rf_icmp_eq X (tgt := 103) dX8_told_87 rfl rfl (fun c17 => ?_) (fun c17 => ?_)
          · have h := h.1 c17
            refine Rf_iload X (j := 5) rfl dX8_told_103 rfl ?_
            refine Rf_istore X (i := 4) (Nat.le_of_ble_eq_true rfl) (ls2 := [(4, .int x5), (0, .ref 0), (1, .int x1), (2, .int x2), (3, .int x3), (5, .int x5)]) rfl dX8_told_105 rfl ?_
            refine Rf_iinc X (i := 5) (j := 5) (v := x5 + 1) rfl rfl (Nat.le_of_ble_eq_true rfl) (ls2 := [(5, .int (x5 + 1)), (4, .int x5), (0, .ref 0), (1, .int x1), (2, .int x2), (3, .int x3)]) rfl dX8_told_107 rfl ?_
            refine Rf_goto X (tgt := 37) dX8_told_110 rfl ?_
            refine Rf_sub [2, 3, 4, 5, 1, 0] rfl ?_
            exact hkb_37 _ _ _ _ _ σ10 h
          · have h := h.2 c17
            refine Rf_iload X (j := 5) rfl dX8_told_90 rfl ?_
            refine Rf_cSi (as := [.int x5]) (st := []) X ms_J6_bitCount_0f7a4 lm_X8_209 (k_J6_bitCount_0f7a4 h) (Nat.le_of_ble_eq_true rfl) rfl rfl (Nat.le_of_ble_eq_true rfl) dX8_told_92 rfl (fun r13 σ12 h => ?_)
            refine Rf_iload X (j := 4) rfl dX8_told_95 rfl ?_
            refine Rf_cSi (as := [.int x4]) (st := [.int r13]) X ms_J6_bitCount_0f7a4 lm_X8_209 (k_J6_bitCount_0f7a4 h) (Nat.le_of_ble_eq_true rfl) rfl rfl (Nat.le_of_ble_eq_true rfl) dX8_told_97 rfl (fun r15 σ14 h => ?_)
            refine Rf_icmp_ge X (tgt := 107) dX8_told_100 rfl rfl (fun c16 => ?_) (fun c16 => ?_)
            · have h := h.1 c16
              refine Rf_iinc X (i := 5) (j := 5) (v := x5 + 1) rfl rfl (Nat.le_of_ble_eq_true rfl) (ls2 := [(5, .int (x5 + 1)), (0, .ref 0), (1, .int x1), (2, .int x2), (3, .int x3), (4, .int x4)]) rfl dX8_told_107 rfl ?_
              refine Rf_goto X (tgt := 37) dX8_told_110 rfl ?_
              refine Rf_sub [1, 2, 3, 4, 5, 0] rfl ?_
              exact hkb_37 _ _ _ _ _ σ14 h
            · have h := h.2 c16
              refine Rf_iload X (j := 5) rfl dX8_told_103 rfl ?_
              refine Rf_istore X (i := 4) (Nat.le_of_ble_eq_true rfl) (ls2 := [(4, .int x5), (0, .ref 0), (1, .int x1), (2, .int x2), (3, .int x3), (5, .int x5)]) rfl dX8_told_105 rfl ?_
              refine Rf_iinc X (i := 5) (j := 5) (v := x5 + 1) rfl rfl (Nat.le_of_ble_eq_true rfl) (ls2 := [(5, .int (x5 + 1)), (4, .int x5), (0, .ref 0), (1, .int x1), (2, .int x2), (3, .int x3)]) rfl dX8_told_107 rfl ?_
              refine Rf_goto X (tgt := 37) dX8_told_110 rfl ?_
              refine Rf_sub [2, 3, 4, 5, 1, 0] rfl ?_
              exact hkb_37 _ _ _ _ _ σ14 h
        · have h := h.2 c18
          refine Rf_goto X (tgt := 107) dX8_told_80 rfl ?_
          refine Rf_iinc X (i := 5) (j := 5) (v := x5 + 1) rfl rfl (Nat.le_of_ble_eq_true rfl) (ls2 := [(5, .int (x5 + 1)), (0, .ref 0), (1, .int x1), (2, .int x2), (3, .int x3), (4, .int x4)]) rfl dX8_told_107 rfl ?_
          refine Rf_goto X (tgt := 37) dX8_told_110 rfl ?_
          refine Rf_sub [1, 2, 3, 4, 5, 0] rfl ?_
          exact hkb_37 _ _ _ _ _ σ10 h
def wp_X8_told (σ : rfS) (x1 : Int32) (x2 : Int32) (x3 : Int32) (Q : Int32 → rfS → Prop) : Prop :=
  wp_X8_isOne σ x1 (fun (r2 : Int32) (σ1 : rfS) => ((r2 = 0 → Q (-1) σ1) ∧ (¬ r2 = 0 → wp_X8_within σ1 x2 0 255 (fun (r4 : Int32) (σ3 : rfS) => ((r4 = 0 → Q (-1) σ3) ∧ (¬ r4 = 0 → wp_X8_within σ3 x3 0 1 (fun (r6 : Int32) (σ5 : rfS) => ((¬ r6 = 0 → (∃ n21, wl_X8_told_37 Q (fun (x3_22 : Int32) (x4_23 : Int32) (σ24 : rfS) => ((x3_22 = 1 → Q x4_23 σ24) ∧ (¬ x3_22 = 1 → ((¬ x4_23 = (-2) → wp_J6_bitCount_0f7a4 σ24 x4_23 (fun (r26 : Int32) (σ25 : rfS) => Q r26 σ25)) ∧ (x4_23 = (-2) → Q x4_23 σ24))))) n21 x1 x2 x3 (-2) 0 σ5)) ∧ (r6 = 0 → Q (-1) σ5)))))))))
set_option maxRecDepth 20000 in
theorem k_X8_told {σ : rfS} {x1 : Int32} {x2 : Int32} {x3 : Int32} {Q : Int32 → rfS → Prop} (h : wp_X8_told σ x1 x2 x3 Q) : RM ΛM 2 yX8_told cX8_told 6 (some .int) [.ref 0, .int x1, .int x2, .int x3] σ (qi Q) := by
  unfold wp_X8_told at h
  refine RM.intro (by decide) (Nat.le_of_ble_eq_true rfl) (fun E X => ?_)
  show Rf ΛM 2 E 6 (qi Q) 0 [(0, .ref 0), (1, .int x1), (2, .int x2), (3, .int x3)] [] σ
  refine Rf_aload_n X (j := 0) rfl rfl dX8_told_0 rfl ?_
  refine Rf_iload_n X (j := 1) rfl rfl dX8_told_1 rfl ?_
  refine Rf_cVi (as := [.int x1]) (st := []) X mi_X8_isOne lm_X8_116 rfl (Nat.le_of_ble_eq_true rfl) rfl (k_X8_isOne h) (Nat.le_of_ble_eq_true rfl) rfl rfl (Nat.le_of_ble_eq_true rfl) dX8_told_2 rfl (fun r2 σ1 h => ?_)
  refine Rf_if_eq X (tgt := 28) dX8_told_5 rfl rfl (fun c31 => ?_) (fun c31 => ?_)
  · have h := h.1 c31
    refine Rf_iconst X (v := (-1)) (by decide) dX8_told_28 rfl ?_
    exact Rf_iret X rfl dX8_told_29 ⟨_, rfl, h⟩
  · have h := h.2 c31
    refine Rf_iload_n X (j := 2) rfl rfl dX8_told_8 rfl ?_
    refine Rf_iconst X (v := 0) rfl dX8_told_9 rfl ?_
    refine Rf_sipush X (v := 255) rfl dX8_told_10 rfl ?_
    refine Rf_cSi (as := [.int x2, .int 0, .int 255]) (st := []) X ms_X8_within lm_X8_98 (k_X8_within h) (Nat.le_of_ble_eq_true rfl) rfl rfl (Nat.le_of_ble_eq_true rfl) dX8_told_13 rfl (fun r4 σ3 h => ?_)
    refine Rf_if_eq X (tgt := 28) dX8_told_16 rfl rfl (fun c30 => ?_) (fun c30 => ?_)
    · have h := h.1 c30
      refine Rf_iconst X (v := (-1)) (by decide) dX8_told_28 rfl ?_
      exact Rf_iret X rfl dX8_told_29 ⟨_, rfl, h⟩
    · have h := h.2 c30
      refine Rf_iload_n X (j := 3) rfl rfl dX8_told_19 rfl ?_
      refine Rf_iconst X (v := 0) rfl dX8_told_20 rfl ?_
      refine Rf_iconst X (v := 1) rfl dX8_told_21 rfl ?_
      refine Rf_cSi (as := [.int x3, .int 0, .int 1]) (st := []) X ms_X8_within lm_X8_98 (k_X8_within h) (Nat.le_of_ble_eq_true rfl) rfl rfl (Nat.le_of_ble_eq_true rfl) dX8_told_22 rfl (fun r6 σ5 h => ?_)
      refine Rf_if_ne X (tgt := 30) dX8_told_25 rfl rfl (fun c29 => ?_) (fun c29 => ?_)
      · have h := h.1 c29
        refine Rf_bipush X (v := (-2)) (by decide) dX8_told_30 rfl ?_
        refine Rf_istore X (i := 4) (Nat.le_of_ble_eq_true rfl) (ls2 := [(4, .int (-2)), (0, .ref 0), (1, .int x1), (2, .int x2), (3, .int x3)]) rfl dX8_told_32 rfl ?_
        refine Rf_iconst X (v := 0) rfl dX8_told_34 rfl ?_
        refine Rf_istore X (i := 5) (Nat.le_of_ble_eq_true rfl) (ls2 := [(5, .int 0), (4, .int (-2)), (0, .ref 0), (1, .int x1), (2, .int x2), (3, .int x3)]) rfl dX8_told_35 rfl ?_
        obtain ⟨n21, h⟩ := h
        refine Rf_sub [2, 3, 4, 5, 1, 0] rfl ?_
        refine sl_X8_told_37 X (fun x3_22 x4_23 σ24 h => ?_) n21 _ _ _ _ _ _ h
        · refine Rf_iload_n X (j := 0) rfl rfl dX8_told_113 rfl ?_
          refine Rf_iconst X (v := 1) rfl dX8_told_114 rfl ?_
          refine Rf_icmp_eq X (tgt := 125) dX8_told_115 rfl rfl (fun c28 => ?_) (fun c28 => ?_)
          · have h := h.1 c28
            refine Rf_iload X (j := 1) rfl dX8_told_125 rfl ?_
            refine Rf_goto X (tgt := 135) dX8_told_127 rfl ?_
            exact Rf_iret X rfl dX8_told_135 ⟨_, rfl, h⟩
          · have h := h.2 c28
            refine Rf_iload X (j := 1) rfl dX8_told_118 rfl ?_
            refine Rf_bipush X (v := (-2)) (by decide) dX8_told_120 rfl ?_
            refine Rf_icmp_ne X (tgt := 130) dX8_told_122 rfl rfl (fun c27 => ?_) (fun c27 => ?_)
            · have h := h.1 c27
              refine Rf_iload X (j := 1) rfl dX8_told_130 rfl ?_
              refine Rf_cSi (as := [.int x4_23]) (st := []) X ms_J6_bitCount_0f7a4 lm_X8_209 (k_J6_bitCount_0f7a4 h) (Nat.le_of_ble_eq_true rfl) rfl rfl (Nat.le_of_ble_eq_true rfl) dX8_told_132 rfl (fun r26 σ25 h => ?_)
              exact Rf_iret X rfl dX8_told_135 ⟨_, rfl, h⟩
            · have h := h.2 c27
              refine Rf_iload X (j := 1) rfl dX8_told_125 rfl ?_
              refine Rf_goto X (tgt := 135) dX8_told_127 rfl ?_
              exact Rf_iret X rfl dX8_told_135 ⟨_, rfl, h⟩
      · have h := h.2 c29
        refine Rf_iconst X (v := (-1)) (by decide) dX8_told_28 rfl ?_
        exact Rf_iret X rfl dX8_told_29 ⟨_, rfl, h⟩
def wl_X8_parts_14 (Q : Int32 → rfS → Prop) (kx_54 : Int32 → Int32 → rfS → Prop) : Nat → Int32 → Int32 → Int32 → rfS → Prop
  | 0, _, _, _, _ => False
  | n + 1, x1, x2, x3, σ => (((gI σ 0 0) ≤ x3 → kx_54 x1 x2 σ) ∧ (¬ ((gI σ 0 0) ≤ x3) → vp_in (14 + x2) 42 ∧ vp_in (14 + x3) 42 ∧ ((¬ (((gF σ 1 ((14 + x2).toNatClampNeg)) ^^^ (gF σ 1 ((14 + x3).toNatClampNeg))) &&& x1) = 0 → wl_X8_parts_14 Q kx_54 n x1 x2 (x3 + 1) σ) ∧ ((((gF σ 1 ((14 + x2).toNatClampNeg)) ^^^ (gF σ 1 ((14 + x3).toNatClampNeg))) &&& x1) = 0 → Q 0 σ))))
set_option maxRecDepth 20000 in
theorem sl_X8_parts_14 {E : rfE} {Q : Int32 → rfS → Prop} (X : rfX ΛM E yX8_parts cX8_parts 4 (some .boolean)) {kx_54 : Int32 → Int32 → rfS → Prop} (hkx_54 : ∀ (x1 : Int32) (x2 : Int32) (σ : rfS), kx_54 x1 x2 σ → Rf ΛM 0 E 4 (qi Q) 54 [(0, .ref 0), (1, .int x1), (2, .int x2)] [] σ) : ∀ (n : Nat) (x1 : Int32) (x2 : Int32) (x3 : Int32) (σ : rfS), wl_X8_parts_14 Q kx_54 n x1 x2 x3 σ → Rf ΛM 0 E 4 (qi Q) 14 [(0, .ref 0), (1, .int x1), (2, .int x2), (3, .int x3)] [] σ := by
  intro n
  induction n with
  | zero =>
    intro x1 x2 x3 σ h
    exact False.elim h
  | succ n hkb_14 =>
    intro x1 x2 x3 σ h
    unfold wl_X8_parts_14 at h
    refine Rf_iload_n X (j := 3) rfl rfl dX8_parts_14 rfl ?_
    refine Rf_aload_n X (j := 0) rfl rfl dX8_parts_15 rfl ?_
    refine Rf_get X kc8 (Nat.le_of_ble_eq_true rfl) rfl (j := 0) (Nat.le_of_ble_eq_true rfl) lf_X8_94 (v := .int (gI σ 0 0)) rfl dX8_parts_16 rfl ?_
    refine Rf_icmp_ge X (tgt := 54) dX8_parts_19 rfl rfl (fun c4 => ?_) (fun c4 => ?_)
    · have h := h.1 c4
      refine Rf_sub [0, 1, 2] rfl ?_
      exact hkx_54 _ _ σ h
    · have h := h.2 c4
      refine Rf_aload_n X (j := 0) rfl rfl dX8_parts_22 rfl ?_
      refine Rf_get X kc8 (Nat.le_of_ble_eq_true rfl) rfl (j := 1) (Nat.le_of_ble_eq_true rfl) lf_X8_9 (v := .ref 1) rfl dX8_parts_23 rfl ?_
      refine Rf_bipush X (v := 14) rfl dX8_parts_26 rfl ?_
      refine Rf_iload_n X (j := 2) rfl rfl dX8_parts_28 rfl ?_
      refine Rf_iadd X dX8_parts_29 rfl ?_
      obtain ⟨s1, h⟩ := h
      refine Rf_iaload X (Nat.le_of_ble_eq_true rfl) rfl rfl s1 dX8_parts_30 rfl (v := gF σ 1 ((14 + x2).toNatClampNeg)) rfl ?_
      refine Rf_aload_n X (j := 0) rfl rfl dX8_parts_31 rfl ?_
      refine Rf_get X kc8 (Nat.le_of_ble_eq_true rfl) rfl (j := 1) (Nat.le_of_ble_eq_true rfl) lf_X8_9 (v := .ref 1) rfl dX8_parts_32 rfl ?_
      refine Rf_bipush X (v := 14) rfl dX8_parts_35 rfl ?_
      refine Rf_iload_n X (j := 3) rfl rfl dX8_parts_37 rfl ?_
      refine Rf_iadd X dX8_parts_38 rfl ?_
      obtain ⟨s2, h⟩ := h
      refine Rf_iaload X (Nat.le_of_ble_eq_true rfl) rfl rfl s2 dX8_parts_39 rfl (v := gF σ 1 ((14 + x3).toNatClampNeg)) rfl ?_
      refine Rf_ixor X dX8_parts_40 rfl ?_
      refine Rf_iload_n X (j := 1) rfl rfl dX8_parts_41 rfl ?_
      refine Rf_iand X dX8_parts_42 rfl ?_
      refine Rf_if_ne X (tgt := 48) dX8_parts_43 rfl rfl (fun c3 => ?_) (fun c3 => ?_)
      · have h := h.1 c3
        refine Rf_iinc X (i := 3) (j := 3) (v := x3 + 1) rfl rfl (Nat.le_of_ble_eq_true rfl) (ls2 := [(3, .int (x3 + 1)), (0, .ref 0), (1, .int x1), (2, .int x2)]) rfl dX8_parts_48 rfl ?_
        refine Rf_goto X (tgt := 14) dX8_parts_51 rfl ?_
        refine Rf_sub [1, 2, 3, 0] rfl ?_
        exact hkb_14 _ _ _ σ h
      · have h := h.2 c3
        refine Rf_iconst X (v := 0) rfl dX8_parts_46 rfl ?_
        exact Rf_iret X rfl dX8_parts_47 ⟨_, rfl, h⟩
def wl_X8_parts_2 (Q : Int32 → rfS → Prop) : Nat → Int32 → Int32 → rfS → Prop
  | 0, _, _, _ => False
  | n + 1, x1, x2, σ => (((gI σ 0 0) ≤ x2 → Q 1 σ) ∧ (¬ ((gI σ 0 0) ≤ x2) → (∃ n5, wl_X8_parts_14 Q (fun (x1_6 : Int32) (x2_7 : Int32) (σ8 : rfS) => wl_X8_parts_2 Q n x1_6 (x2_7 + 1) σ8) n5 x1 x2 (x2 + 1) σ)))
set_option maxRecDepth 20000 in
theorem sl_X8_parts_2 {E : rfE} {Q : Int32 → rfS → Prop} (X : rfX ΛM E yX8_parts cX8_parts 4 (some .boolean)) : ∀ (n : Nat) (x1 : Int32) (x2 : Int32) (σ : rfS), wl_X8_parts_2 Q n x1 x2 σ → Rf ΛM 0 E 4 (qi Q) 2 [(0, .ref 0), (1, .int x1), (2, .int x2)] [] σ := by
  intro n
  induction n with
  | zero =>
    intro x1 x2 σ h
    exact False.elim h
  | succ n hkb_2 =>
    intro x1 x2 σ h
    unfold wl_X8_parts_2 at h
    refine Rf_iload_n X (j := 2) rfl rfl dX8_parts_2 rfl ?_
    refine Rf_aload_n X (j := 0) rfl rfl dX8_parts_3 rfl ?_
    refine Rf_get X kc8 (Nat.le_of_ble_eq_true rfl) rfl (j := 0) (Nat.le_of_ble_eq_true rfl) lf_X8_94 (v := .int (gI σ 0 0)) rfl dX8_parts_4 rfl ?_
    refine Rf_icmp_ge X (tgt := 60) dX8_parts_7 rfl rfl (fun c9 => ?_) (fun c9 => ?_)
    · have h := h.1 c9
      refine Rf_iconst X (v := 1) rfl dX8_parts_60 rfl ?_
      exact Rf_iret X rfl dX8_parts_61 ⟨_, rfl, h⟩
    · have h := h.2 c9
      refine Rf_iload_n X (j := 2) rfl rfl dX8_parts_10 rfl ?_
      refine Rf_iconst X (v := 1) rfl dX8_parts_11 rfl ?_
      refine Rf_iadd X dX8_parts_12 rfl ?_
      refine Rf_istore_n X rfl (i := 3) (Nat.le_of_ble_eq_true rfl) (ls2 := [(3, .int (x2 + 1)), (0, .ref 0), (1, .int x1), (2, .int x2)]) rfl dX8_parts_13 rfl ?_
      obtain ⟨n5, h⟩ := h
      refine Rf_sub [1, 2, 3, 0] rfl ?_
      refine sl_X8_parts_14 X (fun x1_6 x2_7 σ8 h => ?_) n5 _ _ _ _ h
      · refine Rf_iinc X (i := 2) (j := 2) (v := x2_7 + 1) rfl rfl (Nat.le_of_ble_eq_true rfl) (ls2 := [(2, .int (x2_7 + 1)), (0, .ref 0), (1, .int x1_6)]) rfl dX8_parts_54 rfl ?_
        refine Rf_goto X (tgt := 2) dX8_parts_57 rfl ?_
        refine Rf_sub [1, 2, 0] rfl ?_
        exact hkb_2 _ _ σ8 h
def wp_X8_parts (σ : rfS) (x1 : Int32) (Q : Int32 → rfS → Prop) : Prop :=
  (∃ n10, wl_X8_parts_2 Q n10 x1 0 σ)
set_option maxRecDepth 20000 in
theorem k_X8_parts {σ : rfS} {x1 : Int32} {Q : Int32 → rfS → Prop} (h : wp_X8_parts σ x1 Q) : RM ΛM 0 yX8_parts cX8_parts 4 (some .boolean) [.ref 0, .int x1] σ (qi Q) := by
  unfold wp_X8_parts at h
  refine RM.intro (by decide) (Nat.le_of_ble_eq_true rfl) (fun E X => ?_)
  show Rf ΛM 0 E 4 (qi Q) 0 [(0, .ref 0), (1, .int x1)] [] σ
  refine Rf_iconst X (v := 0) rfl dX8_parts_0 rfl ?_
  refine Rf_istore_n X rfl (i := 2) (Nat.le_of_ble_eq_true rfl) (ls2 := [(2, .int 0), (0, .ref 0), (1, .int x1)]) rfl dX8_parts_1 rfl ?_
  obtain ⟨n10, h⟩ := h
  refine Rf_sub [1, 2, 0] rfl ?_
  exact sl_X8_parts_2 X n10 _ _ _ h
def wl_X8_apart_35 (Q : Int32 → rfS → Prop) (kx_61 : Int32 → Int32 → rfS → Prop) : Nat → Int32 → Int32 → Int32 → rfS → Prop
  | 0, _, _, _, _ => False
  | n + 1, x1, x2, x3, σ => (((gI σ 0 0) ≤ x3 → kx_61 x1 x2 σ) ∧ (¬ ((gI σ 0 0) ≤ x3) → vp_in (14 + x3) 42 ∧ (wl_X8_apart_35 Q kx_61 n x1 (x2 &&& (gF σ 1 ((14 + x3).toNatClampNeg))) (x3 + 1) σ)))
set_option maxRecDepth 20000 in
theorem sl_X8_apart_35 {E : rfE} {Q : Int32 → rfS → Prop} (X : rfX ΛM E yX8_apart cX8_apart 5 (some .int)) {kx_61 : Int32 → Int32 → rfS → Prop} (hkx_61 : ∀ (x1 : Int32) (x2 : Int32) (σ : rfS), kx_61 x1 x2 σ → Rf ΛM 2 E 5 (qi Q) 61 [(0, .ref 0), (1, .int x1), (2, .int x2)] [] σ) : ∀ (n : Nat) (x1 : Int32) (x2 : Int32) (x3 : Int32) (σ : rfS), wl_X8_apart_35 Q kx_61 n x1 x2 x3 σ → Rf ΛM 2 E 5 (qi Q) 35 [(0, .ref 0), (1, .int x1), (2, .int x2), (3, .int x3)] [] σ := by
  intro n
  induction n with
  | zero =>
    intro x1 x2 x3 σ h
    exact False.elim h
  | succ n hkb_35 =>
    intro x1 x2 x3 σ h
    unfold wl_X8_apart_35 at h
    refine Rf_iload_n X (j := 3) rfl rfl dX8_apart_35 rfl ?_
    refine Rf_aload_n X (j := 0) rfl rfl dX8_apart_36 rfl ?_
    refine Rf_get X kc8 (Nat.le_of_ble_eq_true rfl) rfl (j := 0) (Nat.le_of_ble_eq_true rfl) lf_X8_94 (v := .int (gI σ 0 0)) rfl dX8_apart_37 rfl ?_
    refine Rf_icmp_ge X (tgt := 61) dX8_apart_40 rfl rfl (fun c4 => ?_) (fun c4 => ?_)
    · have h := h.1 c4
      refine Rf_sub [0, 1, 2] rfl ?_
      exact hkx_61 _ _ σ h
    · have h := h.2 c4
      refine Rf_iload_n X (j := 2) rfl rfl dX8_apart_43 rfl ?_
      refine Rf_aload_n X (j := 0) rfl rfl dX8_apart_44 rfl ?_
      refine Rf_get X kc8 (Nat.le_of_ble_eq_true rfl) rfl (j := 1) (Nat.le_of_ble_eq_true rfl) lf_X8_9 (v := .ref 1) rfl dX8_apart_45 rfl ?_
      refine Rf_bipush X (v := 14) rfl dX8_apart_48 rfl ?_
      refine Rf_iload_n X (j := 3) rfl rfl dX8_apart_50 rfl ?_
      refine Rf_iadd X dX8_apart_51 rfl ?_
      obtain ⟨s3, h⟩ := h
      refine Rf_iaload X (Nat.le_of_ble_eq_true rfl) rfl rfl s3 dX8_apart_52 rfl (v := gF σ 1 ((14 + x3).toNatClampNeg)) rfl ?_
      refine Rf_iand X dX8_apart_53 rfl ?_
      refine Rf_istore_n X rfl (i := 2) (Nat.le_of_ble_eq_true rfl) (ls2 := [(2, .int (x2 &&& (gF σ 1 ((14 + x3).toNatClampNeg)))), (0, .ref 0), (1, .int x1), (3, .int x3)]) rfl dX8_apart_54 rfl ?_
      refine Rf_iinc X (i := 3) (j := 3) (v := x3 + 1) rfl rfl (Nat.le_of_ble_eq_true rfl) (ls2 := [(3, .int (x3 + 1)), (2, .int (x2 &&& (gF σ 1 ((14 + x3).toNatClampNeg)))), (0, .ref 0), (1, .int x1)]) rfl dX8_apart_55 rfl ?_
      refine Rf_goto X (tgt := 35) dX8_apart_58 rfl ?_
      refine Rf_sub [2, 3, 1, 0] rfl ?_
      exact hkb_35 _ _ _ σ h
def wl_X8_apart_74 (Q : Int32 → rfS → Prop) (kx_118 : Int32 → Int32 → rfS → Prop) : Nat → Int32 → Int32 → Int32 → rfS → Prop
  | 0, _, _, _, _ => False
  | n + 1, x1, x3, x4, σ => ((256 ≤ x4 → kx_118 x1 x3 σ) ∧ (¬ (256 ≤ x4) → wp_X8_parts σ x4 (fun (r10 : Int32) (σ9 : rfS) => ((r10 = 0 → wl_X8_apart_74 Q kx_118 n x1 x3 (x4 + 1) σ9) ∧ (¬ r10 = 0 → ((x3 = (-2) → wl_X8_apart_74 Q kx_118 n x1 x4 (x4 + 1) σ9) ∧ (¬ x3 = (-2) → wp_J6_bitCount_0f7a4 σ9 x4 (fun (r12 : Int32) (σ11 : rfS) => wp_J6_bitCount_0f7a4 σ11 x3 (fun (r14 : Int32) (σ13 : rfS) => ((r14 ≤ r12 → wl_X8_apart_74 Q kx_118 n x1 x3 (x4 + 1) σ13) ∧ (¬ (r14 ≤ r12) → wl_X8_apart_74 Q kx_118 n x1 x4 (x4 + 1) σ13)))))))))))
set_option maxRecDepth 20000 in
theorem sl_X8_apart_74 {E : rfE} {Q : Int32 → rfS → Prop} (X : rfX ΛM E yX8_apart cX8_apart 5 (some .int)) {kx_118 : Int32 → Int32 → rfS → Prop} (hkx_118 : ∀ (x1 : Int32) (x3 : Int32) (σ : rfS), kx_118 x1 x3 σ → Rf ΛM 2 E 5 (qi Q) 118 [(1, .int x1), (3, .int x3)] [] σ) : ∀ (n : Nat) (x1 : Int32) (x3 : Int32) (x4 : Int32) (σ : rfS), wl_X8_apart_74 Q kx_118 n x1 x3 x4 σ → Rf ΛM 2 E 5 (qi Q) 74 [(0, .ref 0), (1, .int x1), (3, .int x3), (4, .int x4)] [] σ := by
  intro n
  induction n with
  | zero =>
    intro x1 x3 x4 σ h
    exact False.elim h
  | succ n hkb_74 =>
    intro x1 x3 x4 σ h
    unfold wl_X8_apart_74 at h
    refine Rf_iload X (j := 3) rfl dX8_apart_74 rfl ?_
    refine Rf_sipush X (v := 256) rfl dX8_apart_76 rfl ?_
    refine Rf_icmp_ge X (tgt := 118) dX8_apart_79 rfl rfl (fun c18 => ?_) (fun c18 => ?_)
    · have h := h.1 c18
      refine Rf_sub [1, 2] rfl ?_
      exact hkx_118 _ _ σ h
    · have h := h.2 c18
      refine Rf_aload_n X (j := 0) rfl rfl dX8_apart_82 rfl ?_
      refine Rf_iload X (j := 3) rfl dX8_apart_83 rfl ?_
      refine Rf_cVi (as := [.int x4]) (st := []) X mi_X8_parts lm_X8_266 rfl (Nat.le_of_ble_eq_true rfl) rfl (k_X8_parts h) (Nat.le_of_ble_eq_true rfl) rfl rfl (Nat.le_of_ble_eq_true rfl) dX8_apart_85 rfl (fun r10 σ9 h => ?_)
      refine Rf_if_eq X (tgt := 112) dX8_apart_88 rfl rfl (fun c17 => ?_) (fun c17 => ?_)
      · have h := h.1 c17
        refine Rf_iinc X (i := 4) (j := 3) (v := x4 + 1) rfl rfl (Nat.le_of_ble_eq_true rfl) (ls2 := [(4, .int (x4 + 1)), (0, .ref 0), (1, .int x1), (3, .int x3)]) rfl dX8_apart_112 rfl ?_
        refine Rf_goto X (tgt := 74) dX8_apart_115 rfl ?_
        refine Rf_sub [1, 2, 3, 0] rfl ?_
        exact hkb_74 _ _ _ σ9 h
      · have h := h.2 c17
        refine Rf_iload_n X (j := 2) rfl rfl dX8_apart_91 rfl ?_
        refine Rf_bipush X (v := (-2)) (by decide) dX8_apart_92 rfl ?_
        refine Rf_icmp_eq X (tgt := 109) dX8_apart_94 rfl rfl (fun c16 => ?_) (fun c16 => ?_)
        · have h := h.1 c16
          refine Rf_iload X (j := 3) rfl dX8_apart_109 rfl ?_
          refine Rf_istore_n X rfl (i := 3) (Nat.le_of_ble_eq_true rfl) (ls2 := [(3, .int x4), (0, .ref 0), (1, .int x1), (4, .int x4)]) rfl dX8_apart_111 rfl ?_
          refine Rf_iinc X (i := 4) (j := 3) (v := x4 + 1) rfl rfl (Nat.le_of_ble_eq_true rfl) (ls2 := [(4, .int (x4 + 1)), (3, .int x4), (0, .ref 0), (1, .int x1)]) rfl dX8_apart_112 rfl ?_
          refine Rf_goto X (tgt := 74) dX8_apart_115 rfl ?_
          refine Rf_sub [2, 3, 1, 0] rfl ?_
          exact hkb_74 _ _ _ σ9 h
        · have h := h.2 c16
          refine Rf_iload X (j := 3) rfl dX8_apart_97 rfl ?_
          refine Rf_cSi (as := [.int x4]) (st := []) X ms_J6_bitCount_0f7a4 lm_X8_209 (k_J6_bitCount_0f7a4 h) (Nat.le_of_ble_eq_true rfl) rfl rfl (Nat.le_of_ble_eq_true rfl) dX8_apart_99 rfl (fun r12 σ11 h => ?_)
          refine Rf_iload_n X (j := 2) rfl rfl dX8_apart_102 rfl ?_
          refine Rf_cSi (as := [.int x3]) (st := [.int r12]) X ms_J6_bitCount_0f7a4 lm_X8_209 (k_J6_bitCount_0f7a4 h) (Nat.le_of_ble_eq_true rfl) rfl rfl (Nat.le_of_ble_eq_true rfl) dX8_apart_103 rfl (fun r14 σ13 h => ?_)
          refine Rf_icmp_ge X (tgt := 112) dX8_apart_106 rfl rfl (fun c15 => ?_) (fun c15 => ?_)
          · have h := h.1 c15
            refine Rf_iinc X (i := 4) (j := 3) (v := x4 + 1) rfl rfl (Nat.le_of_ble_eq_true rfl) (ls2 := [(4, .int (x4 + 1)), (0, .ref 0), (1, .int x1), (3, .int x3)]) rfl dX8_apart_112 rfl ?_
            refine Rf_goto X (tgt := 74) dX8_apart_115 rfl ?_
            refine Rf_sub [1, 2, 3, 0] rfl ?_
            exact hkb_74 _ _ _ σ13 h
          · have h := h.2 c15
            refine Rf_iload X (j := 3) rfl dX8_apart_109 rfl ?_
            refine Rf_istore_n X rfl (i := 3) (Nat.le_of_ble_eq_true rfl) (ls2 := [(3, .int x4), (0, .ref 0), (1, .int x1), (4, .int x4)]) rfl dX8_apart_111 rfl ?_
            refine Rf_iinc X (i := 4) (j := 3) (v := x4 + 1) rfl rfl (Nat.le_of_ble_eq_true rfl) (ls2 := [(4, .int (x4 + 1)), (3, .int x4), (0, .ref 0), (1, .int x1)]) rfl dX8_apart_112 rfl ?_
            refine Rf_goto X (tgt := 74) dX8_apart_115 rfl ?_
            refine Rf_sub [2, 3, 1, 0] rfl ?_
            exact hkb_74 _ _ _ σ13 h
def wp_X8_apart (σ : rfS) (x1 : Int32) (Q : Int32 → rfS → Prop) : Prop :=
  wp_X8_within σ x1 0 3 (fun (r2 : Int32) (σ1 : rfS) => ((¬ r2 = 0 → ((¬ x1 = 3 → (∃ n5, wl_X8_apart_35 Q (fun (x1_6 : Int32) (x2_7 : Int32) (σ8 : rfS) => ((¬ x1_6 = 2 → (∃ n19, wl_X8_apart_74 Q (fun (x1_20 : Int32) (x3_21 : Int32) (σ22 : rfS) => ((x1_20 = 1 → Q x3_21 σ22) ∧ (¬ x1_20 = 1 → ((¬ x3_21 = (-2) → wp_J6_bitCount_0f7a4 σ22 x3_21 (fun (r24 : Int32) (σ23 : rfS) => Q r24 σ23)) ∧ (x3_21 = (-2) → Q x3_21 σ22))))) n19 x1_6 (-2) 0 σ8)) ∧ (x1_6 = 2 → Q x2_7 σ8))) n5 x1 255 0 σ1)) ∧ (x1 = 3 → wp_X8_knownBy σ1 ((1 <<< ((gI σ1 0 0) &&& 31)) - 1) (fun (r29 : Int32) (σ28 : rfS) => Q r29 σ28)))) ∧ (r2 = 0 → Q (-1) σ1)))
set_option maxRecDepth 20000 in
theorem k_X8_apart {σ : rfS} {x1 : Int32} {Q : Int32 → rfS → Prop} (h : wp_X8_apart σ x1 Q) : RM ΛM 2 yX8_apart cX8_apart 5 (some .int) [.ref 0, .int x1] σ (qi Q) := by
  unfold wp_X8_apart at h
  refine RM.intro (by decide) (Nat.le_of_ble_eq_true rfl) (fun E X => ?_)
  show Rf ΛM 2 E 5 (qi Q) 0 [(0, .ref 0), (1, .int x1)] [] σ
  refine Rf_iload_n X (j := 1) rfl rfl dX8_apart_0 rfl ?_
  refine Rf_iconst X (v := 0) rfl dX8_apart_1 rfl ?_
  refine Rf_iconst X (v := 3) rfl dX8_apart_2 rfl ?_
  refine Rf_cSi (as := [.int x1, .int 0, .int 3]) (st := []) X ms_X8_within lm_X8_98 (k_X8_within h) (Nat.le_of_ble_eq_true rfl) rfl rfl (Nat.le_of_ble_eq_true rfl) dX8_apart_3 rfl (fun r2 σ1 h => ?_)
  refine Rf_if_ne X (tgt := 11) dX8_apart_6 rfl rfl (fun c31 => ?_) (fun c31 => ?_)
  · have h := h.1 c31
    refine Rf_iload_n X (j := 1) rfl rfl dX8_apart_11 rfl ?_
    refine Rf_iconst X (v := 3) rfl dX8_apart_12 rfl ?_
    refine Rf_icmp_ne X (tgt := 29) dX8_apart_13 rfl rfl (fun c30 => ?_) (fun c30 => ?_)
    · have h := h.1 c30
      refine Rf_sipush X (v := 255) rfl dX8_apart_29 rfl ?_
      refine Rf_istore_n X rfl (i := 2) (Nat.le_of_ble_eq_true rfl) (ls2 := [(2, .int 255), (0, .ref 0), (1, .int x1)]) rfl dX8_apart_32 rfl ?_
      refine Rf_iconst X (v := 0) rfl dX8_apart_33 rfl ?_
      refine Rf_istore_n X rfl (i := 3) (Nat.le_of_ble_eq_true rfl) (ls2 := [(3, .int 0), (2, .int 255), (0, .ref 0), (1, .int x1)]) rfl dX8_apart_34 rfl ?_
      obtain ⟨n5, h⟩ := h
      refine Rf_sub [2, 3, 1, 0] rfl ?_
      refine sl_X8_apart_35 X (fun x1_6 x2_7 σ8 h => ?_) n5 _ _ _ _ h
      · refine Rf_iload_n X (j := 1) rfl rfl dX8_apart_61 rfl ?_
        refine Rf_iconst X (v := 2) rfl dX8_apart_62 rfl ?_
        refine Rf_icmp_ne X (tgt := 68) dX8_apart_63 rfl rfl (fun c27 => ?_) (fun c27 => ?_)
        · have h := h.1 c27
          refine Rf_bipush X (v := (-2)) (by decide) dX8_apart_68 rfl ?_
          refine Rf_istore_n X rfl (i := 3) (Nat.le_of_ble_eq_true rfl) (ls2 := [(3, .int (-2)), (0, .ref 0), (1, .int x1_6), (2, .int x2_7)]) rfl dX8_apart_70 rfl ?_
          refine Rf_iconst X (v := 0) rfl dX8_apart_71 rfl ?_
          refine Rf_istore X (i := 4) (Nat.le_of_ble_eq_true rfl) (ls2 := [(4, .int 0), (3, .int (-2)), (0, .ref 0), (1, .int x1_6), (2, .int x2_7)]) rfl dX8_apart_72 rfl ?_
          obtain ⟨n19, h⟩ := h
          refine Rf_sub [2, 3, 1, 0] rfl ?_
          refine sl_X8_apart_74 X (fun x1_20 x3_21 σ22 h => ?_) n19 _ _ _ _ h
          · refine Rf_iload_n X (j := 0) rfl rfl dX8_apart_118 rfl ?_
            refine Rf_iconst X (v := 1) rfl dX8_apart_119 rfl ?_
            refine Rf_icmp_eq X (tgt := 129) dX8_apart_120 rfl rfl (fun c26 => ?_) (fun c26 => ?_)
            · have h := h.1 c26
              refine Rf_iload_n X (j := 1) rfl rfl dX8_apart_129 rfl ?_
              refine Rf_goto X (tgt := 137) dX8_apart_130 rfl ?_
              exact Rf_iret X rfl dX8_apart_137 ⟨_, rfl, h⟩
            · have h := h.2 c26
              refine Rf_iload_n X (j := 1) rfl rfl dX8_apart_123 rfl ?_
              refine Rf_bipush X (v := (-2)) (by decide) dX8_apart_124 rfl ?_
              refine Rf_icmp_ne X (tgt := 133) dX8_apart_126 rfl rfl (fun c25 => ?_) (fun c25 => ?_)
              · have h := h.1 c25
                refine Rf_iload_n X (j := 1) rfl rfl dX8_apart_133 rfl ?_
                refine Rf_cSi (as := [.int x3_21]) (st := []) X ms_J6_bitCount_0f7a4 lm_X8_209 (k_J6_bitCount_0f7a4 h) (Nat.le_of_ble_eq_true rfl) rfl rfl (Nat.le_of_ble_eq_true rfl) dX8_apart_134 rfl (fun r24 σ23 h => ?_)
                exact Rf_iret X rfl dX8_apart_137 ⟨_, rfl, h⟩
              · have h := h.2 c25
                refine Rf_iload_n X (j := 1) rfl rfl dX8_apart_129 rfl ?_
                refine Rf_goto X (tgt := 137) dX8_apart_130 rfl ?_
                exact Rf_iret X rfl dX8_apart_137 ⟨_, rfl, h⟩
        · have h := h.2 c27
          refine Rf_iload_n X (j := 2) rfl rfl dX8_apart_66 rfl ?_
          exact Rf_iret X rfl dX8_apart_67 ⟨_, rfl, h⟩
    · have h := h.2 c30
      refine Rf_aload_n X (j := 0) rfl rfl dX8_apart_16 rfl ?_
      refine Rf_iconst X (v := 1) rfl dX8_apart_17 rfl ?_
      refine Rf_aload_n X (j := 0) rfl rfl dX8_apart_18 rfl ?_
      refine Rf_get X kc8 (Nat.le_of_ble_eq_true rfl) rfl (j := 0) (Nat.le_of_ble_eq_true rfl) lf_X8_94 (v := .int (gI σ1 0 0)) rfl dX8_apart_19 rfl ?_
      refine Rf_ishl X dX8_apart_22 rfl ?_
      refine Rf_iconst X (v := 1) rfl dX8_apart_23 rfl ?_
      refine Rf_isub X dX8_apart_24 rfl ?_
      refine Rf_cVi (as := [.int ((1 <<< ((gI σ1 0 0) &&& 31)) - 1)]) (st := []) X mi_X8_knownBy lm_X8_263 rfl (Nat.le_of_ble_eq_true rfl) rfl (k_X8_knownBy h) (Nat.le_of_ble_eq_true rfl) rfl rfl (Nat.le_of_ble_eq_true rfl) dX8_apart_25 rfl (fun r29 σ28 h => ?_)
      exact Rf_iret X rfl dX8_apart_28 ⟨_, rfl, h⟩
  · have h := h.2 c31
    refine Rf_iconst X (v := (-1)) (by decide) dX8_apart_9 rfl ?_
    exact Rf_iret X rfl dX8_apart_10 ⟨_, rfl, h⟩
def wl_X8_deals_54 (κ_X8_deals : rfS → Int32 → Int32 → Int32 → (rfS → Prop) → Prop) (Q : rfS → Prop) (kx_115 : Int32 → Int32 → Int32 → rfS → Prop) : Nat → Int32 → Int32 → Int32 → Int32 → rfS → Prop
  | 0, _, _, _, _, _ => False
  | n + 1, x1, x2, x3, x4, σ => (((gI σ 0 0) ≤ x4 → kx_115 x1 x2 x3 σ) ∧ (¬ ((gI σ 0 0) ≤ x4) → wp_X8_has σ x2 x4 (fun (r2 : Int32) (σ1 : rfS) => ((¬ r2 = 0 → wl_X8_deals_54 κ_X8_deals Q kx_115 n x1 x2 x3 (x4 + 1) σ1) ∧ (r2 = 0 → wp_X8_wants σ1 x4 x1 (fun (r4 : Int32) (σ3 : rfS) => ((¬ r4 = 0 → vp_in x1 7 ∧ κ_X8_deals (sF σ3 25 (x1.toNatClampNeg) x4) (x1 + 1) (x2 ||| (1 <<< (x4 &&& 31))) (x3 + 1) (fun (σ6 : rfS) => wl_X8_deals_54 κ_X8_deals Q kx_115 n x1 x2 x3 (x4 + 1) σ6)) ∧ (r4 = 0 → wl_X8_deals_54 κ_X8_deals Q kx_115 n x1 x2 x3 (x4 + 1) σ3))))))))
set_option maxRecDepth 20000 in
theorem sl_X8_deals_54 {d : Nat} {E : rfE} {Q : rfS → Prop} (X : rfX ΛM E yX8_deals cX8_deals 5 none) {κ_X8_deals : rfS → Int32 → Int32 → Int32 → (rfS → Prop) → Prop} (hκ_X8_deals : ∀ (σ : rfS) (x1 : Int32) (x2 : Int32) (x3 : Int32) (Q : rfS → Prop), κ_X8_deals σ x1 x2 x3 Q → RM ΛM d yX8_deals cX8_deals 5 none [.ref 0, .int x1, .int x2, .int x3] σ (qv Q)) (hB : 1 ≤ d) {kx_115 : Int32 → Int32 → Int32 → rfS → Prop} (hkx_115 : ∀ (x1 : Int32) (x2 : Int32) (x3 : Int32) (σ : rfS), kx_115 x1 x2 x3 σ → Rf ΛM (d + 1) E 5 (qv Q) 115 [(0, .ref 0), (1, .int x1), (2, .int x2), (3, .int x3)] [] σ) : ∀ (n : Nat) (x1 : Int32) (x2 : Int32) (x3 : Int32) (x4 : Int32) (σ : rfS), wl_X8_deals_54 κ_X8_deals Q kx_115 n x1 x2 x3 x4 σ → Rf ΛM (d + 1) E 5 (qv Q) 54 [(0, .ref 0), (1, .int x1), (2, .int x2), (3, .int x3), (4, .int x4)] [] σ := by
  intro n
  induction n with
  | zero =>
    intro x1 x2 x3 x4 σ h
    exact False.elim h
  | succ n hkb_54 =>
    intro x1 x2 x3 x4 σ h
    unfold wl_X8_deals_54 at h
    refine Rf_iload X (j := 4) rfl dX8_deals_54 rfl ?_
    refine Rf_aload_n X (j := 0) rfl rfl dX8_deals_56 rfl ?_
    refine Rf_get X kc8 (Nat.le_of_ble_eq_true rfl) rfl (j := 0) (Nat.le_of_ble_eq_true rfl) lf_X8_94 (v := .int (gI σ 0 0)) rfl dX8_deals_57 rfl ?_
    refine Rf_icmp_ge X (tgt := 115) dX8_deals_60 rfl rfl (fun c9 => ?_) (fun c9 => ?_)
    · have h := h.1 c9
      refine Rf_sub [0, 1, 2, 3] rfl ?_
      exact hkx_115 _ _ _ σ h
    · have h := h.2 c9
      refine Rf_iload_n X (j := 2) rfl rfl dX8_deals_63 rfl ?_
      refine Rf_iload X (j := 4) rfl dX8_deals_64 rfl ?_
      refine Rf_cSi (as := [.int x2, .int x4]) (st := []) X ms_X8_has lm_X8_203 (k_X8_has h) (by omega) rfl rfl (Nat.le_of_ble_eq_true rfl) dX8_deals_66 rfl (fun r2 σ1 h => ?_)
      refine Rf_if_ne X (tgt := 109) dX8_deals_69 rfl rfl (fun c8 => ?_) (fun c8 => ?_)
      · have h := h.1 c8
        refine Rf_iinc X (i := 4) (j := 4) (v := x4 + 1) rfl rfl (Nat.le_of_ble_eq_true rfl) (ls2 := [(4, .int (x4 + 1)), (0, .ref 0), (1, .int x1), (2, .int x2), (3, .int x3)]) rfl dX8_deals_109 rfl ?_
        refine Rf_goto X (tgt := 54) dX8_deals_112 rfl ?_
        refine Rf_sub [1, 2, 3, 4, 0] rfl ?_
        exact hkb_54 _ _ _ _ σ1 h
      · have h := h.2 c8
        refine Rf_aload_n X (j := 0) rfl rfl dX8_deals_72 rfl ?_
        refine Rf_iload X (j := 4) rfl dX8_deals_73 rfl ?_
        refine Rf_iload_n X (j := 1) rfl rfl dX8_deals_75 rfl ?_
        refine Rf_cVi (as := [.int x4, .int x1]) (st := []) X mi_X8_wants lm_X8_206 rfl (Nat.le_of_ble_eq_true rfl) rfl (k_X8_wants h) (by omega) rfl rfl (Nat.le_of_ble_eq_true rfl) dX8_deals_76 rfl (fun r4 σ3 h => ?_)
        refine Rf_if_ne X (tgt := 85) dX8_deals_79 rfl rfl (fun c7 => ?_) (fun c7 => ?_)
        · have h := h.1 c7
          refine Rf_aload_n X (j := 0) rfl rfl dX8_deals_85 rfl ?_
          refine Rf_get X kc8 (Nat.le_of_ble_eq_true rfl) rfl (j := 38) (Nat.le_of_ble_eq_true rfl) lf_X8_85 (v := .ref 25) rfl dX8_deals_86 rfl ?_
          refine Rf_iload_n X (j := 1) rfl rfl dX8_deals_89 rfl ?_
          refine Rf_iload X (j := 4) rfl dX8_deals_90 rfl ?_
          obtain ⟨s5, h⟩ := h
          refine Rf_iastore X (Nat.le_of_ble_eq_true rfl) rfl rfl s5 dX8_deals_92 rfl ?_
          refine Rf_aload_n X (j := 0) rfl rfl dX8_deals_93 rfl ?_
          refine Rf_iload_n X (j := 1) rfl rfl dX8_deals_94 rfl ?_
          refine Rf_iconst X (v := 1) rfl dX8_deals_95 rfl ?_
          refine Rf_iadd X dX8_deals_96 rfl ?_
          refine Rf_iload_n X (j := 2) rfl rfl dX8_deals_97 rfl ?_
          refine Rf_iconst X (v := 1) rfl dX8_deals_98 rfl ?_
          refine Rf_iload X (j := 4) rfl dX8_deals_99 rfl ?_
          refine Rf_ishl X dX8_deals_101 rfl ?_
          refine Rf_ior X dX8_deals_102 rfl ?_
          refine Rf_iload_n X (j := 3) rfl rfl dX8_deals_103 rfl ?_
          refine Rf_iconst X (v := 1) rfl dX8_deals_104 rfl ?_
          refine Rf_iadd X dX8_deals_105 rfl ?_
          refine Rf_cVv (as := [.int (x1 + 1), .int (x2 ||| (1 <<< (x4 &&& 31))), .int (x3 + 1)]) (st := []) X mi_X8_deals lm_X8_269 rfl (Nat.le_of_ble_eq_true rfl) rfl (hκ_X8_deals _ _ _ _ _ h) (Nat.le_refl _) rfl rfl (Nat.le_of_ble_eq_true rfl) dX8_deals_106 rfl (fun σ6 h => ?_)
          refine Rf_iinc X (i := 4) (j := 4) (v := x4 + 1) rfl rfl (Nat.le_of_ble_eq_true rfl) (ls2 := [(4, .int (x4 + 1)), (0, .ref 0), (1, .int x1), (2, .int x2), (3, .int x3)]) rfl dX8_deals_109 rfl ?_
          refine Rf_goto X (tgt := 54) dX8_deals_112 rfl ?_
          refine Rf_sub [1, 2, 3, 4, 0] rfl ?_
          exact hkb_54 _ _ _ _ σ6 h
        · have h := h.2 c7
          refine Rf_goto X (tgt := 109) dX8_deals_82 rfl ?_
          refine Rf_iinc X (i := 4) (j := 4) (v := x4 + 1) rfl rfl (Nat.le_of_ble_eq_true rfl) (ls2 := [(4, .int (x4 + 1)), (0, .ref 0), (1, .int x1), (2, .int x2), (3, .int x3)]) rfl dX8_deals_109 rfl ?_
          refine Rf_goto X (tgt := 54) dX8_deals_112 rfl ?_
          refine Rf_sub [1, 2, 3, 4, 0] rfl ?_
          exact hkb_54 _ _ _ _ σ3 h
def wl_X8_deals_23 (κ_X8_deals : rfS → Int32 → Int32 → Int32 → (rfS → Prop) → Prop) (Q : rfS → Prop) : Nat → Int32 → rfS → Prop
  | 0, _, _ => False
  | n + 1, x4, σ => ((7 ≤ x4 → Q σ) ∧ (¬ (7 ≤ x4) → vp_in x4 7 ∧ vp_in x4 7 ∧ (wl_X8_deals_23 κ_X8_deals Q n (x4 + 1) (sF σ 26 (x4.toNatClampNeg) (gF σ 25 (x4.toNatClampNeg))))))
set_option maxRecDepth 20000 in
theorem sl_X8_deals_23 {d : Nat} {E : rfE} {Q : rfS → Prop} (X : rfX ΛM E yX8_deals cX8_deals 5 none) {κ_X8_deals : rfS → Int32 → Int32 → Int32 → (rfS → Prop) → Prop} (hκ_X8_deals : ∀ (σ : rfS) (x1 : Int32) (x2 : Int32) (x3 : Int32) (Q : rfS → Prop), κ_X8_deals σ x1 x2 x3 Q → RM ΛM d yX8_deals cX8_deals 5 none [.ref 0, .int x1, .int x2, .int x3] σ (qv Q)) (hB : 1 ≤ d) : ∀ (n : Nat) (x4 : Int32) (σ : rfS), wl_X8_deals_23 κ_X8_deals Q n x4 σ → Rf ΛM (d + 1) E 5 (qv Q) 23 [(0, .ref 0), (4, .int x4)] [] σ := by
  intro n
  induction n with
  | zero =>
    intro x4 σ h
    exact False.elim h
  | succ n hkb_23 =>
    intro x4 σ h
    unfold wl_X8_deals_23 at h
    refine Rf_iload X (j := 1) rfl dX8_deals_23 rfl ?_
    refine Rf_bipush X (v := 7) rfl dX8_deals_25 rfl ?_
    refine Rf_icmp_ge X (tgt := 50) dX8_deals_27 rfl rfl (fun c19 => ?_) (fun c19 => ?_)
    · have h := h.1 c19
      exact Rf_vret X dX8_deals_50 ⟨rfl, h⟩
    · have h := h.2 c19
      refine Rf_aload_n X (j := 0) rfl rfl dX8_deals_30 rfl ?_
      refine Rf_get X kc8 (Nat.le_of_ble_eq_true rfl) rfl (j := 39) (Nat.le_of_ble_eq_true rfl) lf_X8_88 (v := .ref 26) rfl dX8_deals_31 rfl ?_
      refine Rf_iload X (j := 1) rfl dX8_deals_34 rfl ?_
      refine Rf_aload_n X (j := 0) rfl rfl dX8_deals_36 rfl ?_
      refine Rf_get X kc8 (Nat.le_of_ble_eq_true rfl) rfl (j := 38) (Nat.le_of_ble_eq_true rfl) lf_X8_85 (v := .ref 25) rfl dX8_deals_37 rfl ?_
      refine Rf_iload X (j := 1) rfl dX8_deals_40 rfl ?_
      obtain ⟨s17, h⟩ := h
      refine Rf_iaload X (Nat.le_of_ble_eq_true rfl) rfl rfl s17 dX8_deals_42 rfl (v := gF σ 25 (x4.toNatClampNeg)) rfl ?_
      obtain ⟨s18, h⟩ := h
      refine Rf_iastore X (Nat.le_of_ble_eq_true rfl) rfl rfl s18 dX8_deals_43 rfl ?_
      refine Rf_iinc X (i := 4) (j := 1) (v := x4 + 1) rfl rfl (Nat.le_of_ble_eq_true rfl) (ls2 := [(4, .int (x4 + 1)), (0, .ref 0)]) rfl dX8_deals_44 rfl ?_
      refine Rf_goto X (tgt := 23) dX8_deals_47 rfl ?_
      refine Rf_sub [1, 0] rfl ?_
      exact hkb_23 _ (sF σ 26 (x4.toNatClampNeg) (gF σ 25 (x4.toNatClampNeg))) h
def wp_X8_deals (κ_X8_deals : rfS → Int32 → Int32 → Int32 → (rfS → Prop) → Prop) (σ : rfS) (x1 : Int32) (x2 : Int32) (x3 : Int32) (Q : rfS → Prop) : Prop :=
  ((¬ x1 = 7 → (∃ n10, wl_X8_deals_54 κ_X8_deals Q (fun (x1_11 : Int32) (x2_12 : Int32) (x3_13 : Int32) (σ14 : rfS) => vp_in x1_11 7 ∧ κ_X8_deals (sF σ14 25 (x1_11.toNatClampNeg) 7) (x1_11 + 1) x2_12 x3_13 (fun (σ16 : rfS) => Q σ16)) n10 x1 x2 x3 0 σ)) ∧ (x1 = 7 → (((gI σ 0 40) < x3 → (∃ n20, wl_X8_deals_23 κ_X8_deals Q n20 0 (sI σ 0 40 x3))) ∧ (¬ ((gI σ 0 40) < x3) → Q σ))))
set_option maxRecDepth 20000 in
theorem k_X8_deals {d : Nat} {κ_X8_deals : rfS → Int32 → Int32 → Int32 → (rfS → Prop) → Prop} (hκ_X8_deals : ∀ (σ : rfS) (x1 : Int32) (x2 : Int32) (x3 : Int32) (Q : rfS → Prop), κ_X8_deals σ x1 x2 x3 Q → RM ΛM d yX8_deals cX8_deals 5 none [.ref 0, .int x1, .int x2, .int x3] σ (qv Q)) (hB : 1 ≤ d) {σ : rfS} {x1 : Int32} {x2 : Int32} {x3 : Int32} {Q : rfS → Prop} (h : wp_X8_deals κ_X8_deals σ x1 x2 x3 Q) : RM ΛM (d + 1) yX8_deals cX8_deals 5 none [.ref 0, .int x1, .int x2, .int x3] σ (qv Q) := by
  unfold wp_X8_deals at h
  refine RM.intro (by decide) (Nat.le_of_ble_eq_true rfl) (fun E X => ?_)
  show Rf ΛM (d + 1) E 5 (qv Q) 0 [(0, .ref 0), (1, .int x1), (2, .int x2), (3, .int x3)] [] σ
  refine Rf_iload_n X (j := 1) rfl rfl dX8_deals_0 rfl ?_
  refine Rf_bipush X (v := 7) rfl dX8_deals_1 rfl ?_
  refine Rf_icmp_ne X (tgt := 51) dX8_deals_3 rfl rfl (fun c22 => ?_) (fun c22 => ?_)
  · have h := h.1 c22
    refine Rf_iconst X (v := 0) rfl dX8_deals_51 rfl ?_
    refine Rf_istore X (i := 4) (Nat.le_of_ble_eq_true rfl) (ls2 := [(4, .int 0), (0, .ref 0), (1, .int x1), (2, .int x2), (3, .int x3)]) rfl dX8_deals_52 rfl ?_
    obtain ⟨n10, h⟩ := h
    refine Rf_sub [1, 2, 3, 4, 0] rfl ?_
    refine sl_X8_deals_54 X hκ_X8_deals hB (fun x1_11 x2_12 x3_13 σ14 h => ?_) n10 _ _ _ _ _ h
    · refine Rf_aload_n X (j := 0) rfl rfl dX8_deals_115 rfl ?_
      refine Rf_get X kc8 (Nat.le_of_ble_eq_true rfl) rfl (j := 38) (Nat.le_of_ble_eq_true rfl) lf_X8_85 (v := .ref 25) rfl dX8_deals_116 rfl ?_
      refine Rf_iload_n X (j := 1) rfl rfl dX8_deals_119 rfl ?_
      refine Rf_bipush X (v := 7) rfl dX8_deals_120 rfl ?_
      obtain ⟨s15, h⟩ := h
      refine Rf_iastore X (Nat.le_of_ble_eq_true rfl) rfl rfl s15 dX8_deals_122 rfl ?_
      refine Rf_aload_n X (j := 0) rfl rfl dX8_deals_123 rfl ?_
      refine Rf_iload_n X (j := 1) rfl rfl dX8_deals_124 rfl ?_
      refine Rf_iconst X (v := 1) rfl dX8_deals_125 rfl ?_
      refine Rf_iadd X dX8_deals_126 rfl ?_
      refine Rf_iload_n X (j := 2) rfl rfl dX8_deals_127 rfl ?_
      refine Rf_iload_n X (j := 3) rfl rfl dX8_deals_128 rfl ?_
      refine Rf_cVv (as := [.int (x1_11 + 1), .int x2_12, .int x3_13]) (st := []) X mi_X8_deals lm_X8_269 rfl (Nat.le_of_ble_eq_true rfl) rfl (hκ_X8_deals _ _ _ _ _ h) (Nat.le_refl _) rfl rfl (Nat.le_of_ble_eq_true rfl) dX8_deals_129 rfl (fun σ16 h => ?_)
      exact Rf_vret X dX8_deals_132 ⟨rfl, h⟩
  · have h := h.2 c22
    refine Rf_iload_n X (j := 3) rfl rfl dX8_deals_6 rfl ?_
    refine Rf_aload_n X (j := 0) rfl rfl dX8_deals_7 rfl ?_
    refine Rf_get X kc8 (Nat.le_of_ble_eq_true rfl) rfl (j := 40) (Nat.le_of_ble_eq_true rfl) lf_X8_253 (v := .int (gI σ 0 40)) rfl dX8_deals_8 rfl ?_
    refine Rf_icmp_gt X (tgt := 15) dX8_deals_11 rfl rfl (fun c21 => ?_) (fun c21 => ?_)
    · have h := h.1 c21
      refine Rf_aload_n X (j := 0) rfl rfl dX8_deals_15 rfl ?_
      refine Rf_iload_n X (j := 3) rfl rfl dX8_deals_16 rfl ?_
      refine Rf_put X kc8 (Nat.le_of_ble_eq_true rfl) rfl (j := 40) (Nat.le_of_ble_eq_true rfl) rfl lf_X8_253 rfl rfl rfl dX8_deals_17 rfl ?_
      refine Rf_iconst X (v := 0) rfl dX8_deals_20 rfl ?_
      refine Rf_istore X (i := 4) (Nat.le_of_ble_eq_true rfl) (ls2 := [(4, .int 0), (0, .ref 0), (1, .int x1), (2, .int x2), (3, .int x3)]) rfl dX8_deals_21 rfl ?_
      obtain ⟨n20, h⟩ := h
      refine Rf_sub [1, 0] rfl ?_
      exact sl_X8_deals_23 X hκ_X8_deals hB n20 _ _ h
    · have h := h.2 c21
      exact Rf_vret X dX8_deals_14 ⟨rfl, h⟩
def wp_X8_week (κ_X8_deals : rfS → Int32 → Int32 → Int32 → (rfS → Prop) → Prop) (σ : rfS) (x1 : Int32) (Q : Int32 → rfS → Prop) : Prop :=
  wp_X8_within σ x1 (-1) 6 (fun (r2 : Int32) (σ1 : rfS) => ((¬ r2 = 0 → κ_X8_deals (sI σ1 0 40 (-1)) 0 0 0 (fun (σ3 : rfS) => ((¬ x1 = (-1) → vp_in x1 7 ∧ (Q (gF σ3 26 (x1.toNatClampNeg)) σ3)) ∧ (x1 = (-1) → Q (gI σ3 0 40) σ3)))) ∧ (r2 = 0 → Q (-1) σ1)))
set_option maxRecDepth 20000 in
theorem k_X8_week {d : Nat} {κ_X8_deals : rfS → Int32 → Int32 → Int32 → (rfS → Prop) → Prop} (hκ_X8_deals : ∀ (σ : rfS) (x1 : Int32) (x2 : Int32) (x3 : Int32) (Q : rfS → Prop), κ_X8_deals σ x1 x2 x3 Q → RM ΛM d yX8_deals cX8_deals 5 none [.ref 0, .int x1, .int x2, .int x3] σ (qv Q)) (hB : 0 ≤ d) {σ : rfS} {x1 : Int32} {Q : Int32 → rfS → Prop} (h : wp_X8_week κ_X8_deals σ x1 Q) : RM ΛM (d + 1) yX8_week cX8_week 2 (some .int) [.ref 0, .int x1] σ (qi Q) := by
  unfold wp_X8_week at h
  refine RM.intro (by decide) (Nat.le_of_ble_eq_true rfl) (fun E X => ?_)
  show Rf ΛM (d + 1) E 2 (qi Q) 0 [(0, .ref 0), (1, .int x1)] [] σ
  refine Rf_iload_n X (j := 1) rfl rfl dX8_week_0 rfl ?_
  refine Rf_iconst X (v := (-1)) (by decide) dX8_week_1 rfl ?_
  refine Rf_bipush X (v := 6) rfl dX8_week_2 rfl ?_
  refine Rf_cSi (as := [.int x1, .int (-1), .int 6]) (st := []) X ms_X8_within lm_X8_98 (k_X8_within h) (by omega) rfl rfl (Nat.le_of_ble_eq_true rfl) dX8_week_4 rfl (fun r2 σ1 h => ?_)
  refine Rf_if_ne X (tgt := 12) dX8_week_7 rfl rfl (fun c6 => ?_) (fun c6 => ?_)
  · have h := h.1 c6
    refine Rf_aload_n X (j := 0) rfl rfl dX8_week_12 rfl ?_
    refine Rf_iconst X (v := (-1)) (by decide) dX8_week_13 rfl ?_
    refine Rf_put X kc8 (Nat.le_of_ble_eq_true rfl) rfl (j := 40) (Nat.le_of_ble_eq_true rfl) rfl lf_X8_253 rfl rfl rfl dX8_week_14 rfl ?_
    refine Rf_aload_n X (j := 0) rfl rfl dX8_week_17 rfl ?_
    refine Rf_iconst X (v := 0) rfl dX8_week_18 rfl ?_
    refine Rf_iconst X (v := 0) rfl dX8_week_19 rfl ?_
    refine Rf_iconst X (v := 0) rfl dX8_week_20 rfl ?_
    refine Rf_cVv (as := [.int 0, .int 0, .int 0]) (st := []) X mi_X8_deals lm_X8_269 rfl (Nat.le_of_ble_eq_true rfl) rfl (hκ_X8_deals _ _ _ _ _ h) (Nat.le_refl _) rfl rfl (Nat.le_of_ble_eq_true rfl) dX8_week_21 rfl (fun σ3 h => ?_)
    refine Rf_iload_n X (j := 1) rfl rfl dX8_week_24 rfl ?_
    refine Rf_iconst X (v := (-1)) (by decide) dX8_week_25 rfl ?_
    refine Rf_icmp_ne X (tgt := 36) dX8_week_26 rfl rfl (fun c5 => ?_) (fun c5 => ?_)
    · have h := h.1 c5
      refine Rf_aload_n X (j := 0) rfl rfl dX8_week_36 rfl ?_
      refine Rf_get X kc8 (Nat.le_of_ble_eq_true rfl) rfl (j := 39) (Nat.le_of_ble_eq_true rfl) lf_X8_88 (v := .ref 26) rfl dX8_week_37 rfl ?_
      refine Rf_iload_n X (j := 1) rfl rfl dX8_week_40 rfl ?_
      obtain ⟨s4, h⟩ := h
      refine Rf_iaload X (Nat.le_of_ble_eq_true rfl) rfl rfl s4 dX8_week_41 rfl (v := gF σ3 26 (x1.toNatClampNeg)) rfl ?_
      exact Rf_iret X rfl dX8_week_42 ⟨_, rfl, h⟩
    · have h := h.2 c5
      refine Rf_aload_n X (j := 0) rfl rfl dX8_week_29 rfl ?_
      refine Rf_get X kc8 (Nat.le_of_ble_eq_true rfl) rfl (j := 40) (Nat.le_of_ble_eq_true rfl) lf_X8_253 (v := .int (gI σ3 0 40)) rfl dX8_week_30 rfl ?_
      refine Rf_goto X (tgt := 42) dX8_week_33 rfl ?_
      exact Rf_iret X rfl dX8_week_42 ⟨_, rfl, h⟩
  · have h := h.2 c6
    refine Rf_iconst X (v := (-1)) (by decide) dX8_week_10 rfl ?_
    exact Rf_iret X rfl dX8_week_11 ⟨_, rfl, h⟩
def wp_X8_slow (σ : rfS) (x1 : Int32) (Q : Int32 → rfS → Prop) : Prop :=
  vp_in (21 + x1) 42 ∧ Q (gF σ 1 ((21 + x1).toNatClampNeg)) σ
set_option maxRecDepth 20000 in
theorem k_X8_slow {σ : rfS} {x1 : Int32} {Q : Int32 → rfS → Prop} (h : wp_X8_slow σ x1 Q) : RM ΛM 0 yX8_slow cX8_slow 2 (some .int) [.ref 0, .int x1] σ (qi Q) := by
  unfold wp_X8_slow at h
  refine RM.intro (by decide) (Nat.le_of_ble_eq_true rfl) (fun E X => ?_)
  show Rf ΛM 0 E 2 (qi Q) 0 [(0, .ref 0), (1, .int x1)] [] σ
  refine Rf_aload_n X (j := 0) rfl rfl dX8_slow_0 rfl ?_
  refine Rf_get X kc8 (Nat.le_of_ble_eq_true rfl) rfl (j := 1) (Nat.le_of_ble_eq_true rfl) lf_X8_9 (v := .ref 1) rfl dX8_slow_1 rfl ?_
  refine Rf_bipush X (v := 21) rfl dX8_slow_4 rfl ?_
  refine Rf_iload_n X (j := 1) rfl rfl dX8_slow_6 rfl ?_
  refine Rf_iadd X dX8_slow_7 rfl ?_
  obtain ⟨s1, h⟩ := h
  refine Rf_iaload X (Nat.le_of_ble_eq_true rfl) rfl rfl s1 dX8_slow_8 rfl (v := gF σ 1 ((21 + x1).toNatClampNeg)) rfl ?_
  exact Rf_iret X rfl dX8_slow_9 ⟨_, rfl, h⟩
def wl_X8_goOut_46 (Q : Int32 → rfS → Prop) : Nat → Int32 → Int32 → Int32 → Int32 → rfS → Prop
  | 0, _, _, _, _, _ => False
  | n + 1, x4, x5, x6, x7, σ => (((gI σ 0 0) ≤ x7 → Q (x5 + x6) σ) ∧ (¬ ((gI σ 0 0) ≤ x7) → wp_X8_has σ x4 x7 (fun (r6 : Int32) (σ5 : rfS) => ((¬ r6 = 0 → wl_X8_goOut_46 Q n x4 x5 x6 (x7 + 1) σ5) ∧ (r6 = 0 → wp_X8_slow σ5 x7 (fun (r8 : Int32) (σ7 : rfS) => vp_in (x4 ||| ((1 : Int32) <<< (x7 &&& 31))) 128 ∧ (wl_X8_goOut_46 Q n x4 x5 (if (r8 + (gF σ7 27 ((x4 ||| ((1 : Int32) <<< (x7 &&& 31))).toNatClampNeg))) < x6 then (r8 + (gF σ7 27 ((x4 ||| ((1 : Int32) <<< (x7 &&& 31))).toNatClampNeg))) else x6) (x7 + 1) σ7)))))))
set_option maxRecDepth 20000 in
theorem sl_X8_goOut_46 {E : rfE} {Q : Int32 → rfS → Prop} (X : rfX ΛM E yX8_goOut cX8_goOut 8 (some .int)) : ∀ (n : Nat) (x4 : Int32) (x5 : Int32) (x6 : Int32) (x7 : Int32) (σ : rfS), wl_X8_goOut_46 Q n x4 x5 x6 x7 σ → Rf ΛM 1 E 8 (qi Q) 46 [(0, .ref 0), (4, .int x4), (5, .int x5), (6, .int x6), (7, .int x7)] [] σ := by
  intro n
  induction n with
  | zero =>
    intro x4 x5 x6 x7 σ h
    exact False.elim h
  | succ n hkb_46 =>
    intro x4 x5 x6 x7 σ h
    unfold wl_X8_goOut_46 at h
    refine Rf_iload X (j := 4) rfl dX8_goOut_46 rfl ?_
    refine Rf_aload_n X (j := 0) rfl rfl dX8_goOut_48 rfl ?_
    refine Rf_get X kc8 (Nat.le_of_ble_eq_true rfl) rfl (j := 0) (Nat.le_of_ble_eq_true rfl) lf_X8_94 (v := .int (gI σ 0 0)) rfl dX8_goOut_49 rfl ?_
    refine Rf_icmp_ge X (tgt := 97) dX8_goOut_52 rfl rfl (fun c11 => ?_) (fun c11 => ?_)
    · have h := h.1 c11
      refine Rf_iload X (j := 2) rfl dX8_goOut_97 rfl ?_
      refine Rf_iload X (j := 3) rfl dX8_goOut_99 rfl ?_
      refine Rf_iadd X dX8_goOut_101 rfl ?_
      exact Rf_iret X rfl dX8_goOut_102 ⟨_, rfl, h⟩
    · have h := h.2 c11
      refine Rf_iload X (j := 1) rfl dX8_goOut_55 rfl ?_
      refine Rf_iload X (j := 4) rfl dX8_goOut_57 rfl ?_
      refine Rf_cSi (as := [.int x4, .int x7]) (st := []) X ms_X8_has lm_X8_203 (k_X8_has h) (Nat.le_of_ble_eq_true rfl) rfl rfl (Nat.le_of_ble_eq_true rfl) dX8_goOut_59 rfl (fun r6 σ5 h => ?_)
      refine Rf_if_ne X (tgt := 91) dX8_goOut_62 rfl rfl (fun c10 => ?_) (fun c10 => ?_)
      · have h := h.1 c10
        refine Rf_iinc X (i := 7) (j := 4) (v := x7 + 1) rfl rfl (Nat.le_of_ble_eq_true rfl) (ls2 := [(7, .int (x7 + 1)), (0, .ref 0), (4, .int x4), (5, .int x5), (6, .int x6)]) rfl dX8_goOut_91 rfl ?_
        refine Rf_goto X (tgt := 46) dX8_goOut_94 rfl ?_
        refine Rf_sub [1, 2, 3, 4, 0] rfl ?_
        exact hkb_46 _ _ _ _ σ5 h
      · have h := h.2 c10
        refine Rf_iload X (j := 3) rfl dX8_goOut_65 rfl ?_
        refine Rf_aload_n X (j := 0) rfl rfl dX8_goOut_67 rfl ?_
        refine Rf_iload X (j := 4) rfl dX8_goOut_68 rfl ?_
        refine Rf_cVi (as := [.int x7]) (st := [.int x6]) X mi_X8_slow lm_X8_272 rfl (Nat.le_of_ble_eq_true rfl) rfl (k_X8_slow h) (Nat.le_of_ble_eq_true rfl) rfl rfl (Nat.le_of_ble_eq_true rfl) dX8_goOut_70 rfl (fun r8 σ7 h => ?_)
        refine Rf_aload_n X (j := 0) rfl rfl dX8_goOut_73 rfl ?_
        refine Rf_get X kc8 (Nat.le_of_ble_eq_true rfl) rfl (j := 42) (Nat.le_of_ble_eq_true rfl) lf_X8_91 (v := .ref 27) rfl dX8_goOut_74 rfl ?_
        refine Rf_iload X (j := 1) rfl dX8_goOut_77 rfl ?_
        refine Rf_iconst X (v := 1) rfl dX8_goOut_79 rfl ?_
        refine Rf_iload X (j := 4) rfl dX8_goOut_80 rfl ?_
        refine Rf_ishl X dX8_goOut_82 rfl ?_
        refine Rf_ior X dX8_goOut_83 rfl ?_
        obtain ⟨s9, h⟩ := h
        refine Rf_iaload X (Nat.le_of_ble_eq_true rfl) rfl rfl s9 dX8_goOut_84 rfl (v := gF σ7 27 ((x4 ||| ((1 : Int32) <<< (x7 &&& 31))).toNatClampNeg)) rfl ?_
        refine Rf_iadd X dX8_goOut_85 rfl ?_
        refine Rf_min X lm_X8_220 mm_min.1 mm_min.2.1 mm_min.2.2 (Nat.le_of_ble_eq_true rfl) (Nat.le_of_ble_eq_true rfl) dX8_goOut_86 rfl ?_
        refine Rf_istore X (i := 6) (Nat.le_of_ble_eq_true rfl) (ls2 := [(6, .int (if (r8 + (gF σ7 27 ((x4 ||| ((1 : Int32) <<< (x7 &&& 31))).toNatClampNeg))) < x6 then (r8 + (gF σ7 27 ((x4 ||| ((1 : Int32) <<< (x7 &&& 31))).toNatClampNeg))) else x6)), (0, .ref 0), (4, .int x4), (5, .int x5), (7, .int x7)]) rfl dX8_goOut_89 rfl ?_
        refine Rf_iinc X (i := 7) (j := 4) (v := x7 + 1) rfl rfl (Nat.le_of_ble_eq_true rfl) (ls2 := [(7, .int (x7 + 1)), (6, .int (if (r8 + (gF σ7 27 ((x4 ||| ((1 : Int32) <<< (x7 &&& 31))).toNatClampNeg))) < x6 then (r8 + (gF σ7 27 ((x4 ||| ((1 : Int32) <<< (x7 &&& 31))).toNatClampNeg))) else x6)), (0, .ref 0), (4, .int x4), (5, .int x5)]) rfl dX8_goOut_91 rfl ?_
        refine Rf_goto X (tgt := 46) dX8_goOut_94 rfl ?_
        refine Rf_sub [2, 3, 4, 1, 0] rfl ?_
        exact hkb_46 _ _ _ _ σ7 h
def wp_X8_goOut (σ : rfS) (x1 : Int32) (x2 : Int32) (x3 : Int32) (Q : Int32 → rfS → Prop) : Prop :=
  wp_X8_slow σ x2 (fun (r2 : Int32) (σ1 : rfS) => wp_X8_slow σ1 x3 (fun (r4 : Int32) (σ3 : rfS) => ((¬ ((x1 &&& (((1 : Int32) <<< (x2 &&& 31)) ^^^ (-1))) &&& (((1 : Int32) <<< (x3 &&& 31)) ^^^ (-1))) = 0 → (∃ n12, wl_X8_goOut_46 Q n12 ((x1 &&& (((1 : Int32) <<< (x2 &&& 31)) ^^^ (-1))) &&& (((1 : Int32) <<< (x3 &&& 31)) ^^^ (-1))) (if r2 < r4 then r4 else r2) 9999 0 σ3)) ∧ (((x1 &&& (((1 : Int32) <<< (x2 &&& 31)) ^^^ (-1))) &&& (((1 : Int32) <<< (x3 &&& 31)) ^^^ (-1))) = 0 → Q (if r2 < r4 then r4 else r2) σ3))))
set_option maxRecDepth 20000 in
theorem k_X8_goOut {σ : rfS} {x1 : Int32} {x2 : Int32} {x3 : Int32} {Q : Int32 → rfS → Prop} (h : wp_X8_goOut σ x1 x2 x3 Q) : RM ΛM 1 yX8_goOut cX8_goOut 8 (some .int) [.ref 0, .int x1, .int x2, .int x3] σ (qi Q) := by
  unfold wp_X8_goOut at h
  refine RM.intro (by decide) (Nat.le_of_ble_eq_true rfl) (fun E X => ?_)
  show Rf ΛM 1 E 8 (qi Q) 0 [(0, .ref 0), (1, .int x1), (2, .int x2), (3, .int x3)] [] σ
  refine Rf_iload_n X (j := 1) rfl rfl dX8_goOut_0 rfl ?_
  refine Rf_iconst X (v := 1) rfl dX8_goOut_1 rfl ?_
  refine Rf_iload_n X (j := 2) rfl rfl dX8_goOut_2 rfl ?_
  refine Rf_ishl X dX8_goOut_3 rfl ?_
  refine Rf_iconst X (v := (-1)) (by decide) dX8_goOut_4 rfl ?_
  refine Rf_ixor X dX8_goOut_5 rfl ?_
  refine Rf_iand X dX8_goOut_6 rfl ?_
  refine Rf_iconst X (v := 1) rfl dX8_goOut_7 rfl ?_
  refine Rf_iload_n X (j := 3) rfl rfl dX8_goOut_8 rfl ?_
  refine Rf_ishl X dX8_goOut_9 rfl ?_
  refine Rf_iconst X (v := (-1)) (by decide) dX8_goOut_10 rfl ?_
  refine Rf_ixor X dX8_goOut_11 rfl ?_
  refine Rf_iand X dX8_goOut_12 rfl ?_
  refine Rf_istore X (i := 4) (Nat.le_of_ble_eq_true rfl) (ls2 := [(4, .int ((x1 &&& (((1 : Int32) <<< (x2 &&& 31)) ^^^ (-1))) &&& (((1 : Int32) <<< (x3 &&& 31)) ^^^ (-1)))), (0, .ref 0), (1, .int x1), (2, .int x2), (3, .int x3)]) rfl dX8_goOut_13 rfl ?_
  refine Rf_aload_n X (j := 1) rfl rfl dX8_goOut_15 rfl ?_
  refine Rf_iload_n X (j := 3) rfl rfl dX8_goOut_16 rfl ?_
  refine Rf_cVi (as := [.int x2]) (st := []) X mi_X8_slow lm_X8_272 rfl (Nat.le_of_ble_eq_true rfl) rfl (k_X8_slow h) (Nat.le_of_ble_eq_true rfl) rfl rfl (Nat.le_of_ble_eq_true rfl) dX8_goOut_17 rfl (fun r2 σ1 h => ?_)
  refine Rf_aload_n X (j := 1) rfl rfl dX8_goOut_20 rfl ?_
  refine Rf_iload_n X (j := 4) rfl rfl dX8_goOut_21 rfl ?_
  refine Rf_cVi (as := [.int x3]) (st := [.int r2]) X mi_X8_slow lm_X8_272 rfl (Nat.le_of_ble_eq_true rfl) rfl (k_X8_slow h) (Nat.le_of_ble_eq_true rfl) rfl rfl (Nat.le_of_ble_eq_true rfl) dX8_goOut_22 rfl (fun r4 σ3 h => ?_)
  refine Rf_max X lm_X8_225 mm_max.1 mm_max.2.1 mm_max.2.2 (Nat.le_of_ble_eq_true rfl) (Nat.le_of_ble_eq_true rfl) dX8_goOut_25 rfl ?_
  refine Rf_istore X (i := 5) (Nat.le_of_ble_eq_true rfl) (ls2 := [(5, .int (if r2 < r4 then r4 else r2)), (4, .int ((x1 &&& (((1 : Int32) <<< (x2 &&& 31)) ^^^ (-1))) &&& (((1 : Int32) <<< (x3 &&& 31)) ^^^ (-1)))), (0, .ref 0), (1, .int x1), (2, .int x2), (3, .int x3)]) rfl dX8_goOut_28 rfl ?_
  refine Rf_iload X (j := 1) rfl dX8_goOut_30 rfl ?_
  refine Rf_if_ne X (tgt := 38) dX8_goOut_32 rfl rfl (fun c13 => ?_) (fun c13 => ?_)
  · have h := h.1 c13
    refine Rf_sipush X (v := 9999) rfl dX8_goOut_38 rfl ?_
    refine Rf_istore X (i := 6) (Nat.le_of_ble_eq_true rfl) (ls2 := [(6, .int 9999), (5, .int (if r2 < r4 then r4 else r2)), (4, .int ((x1 &&& (((1 : Int32) <<< (x2 &&& 31)) ^^^ (-1))) &&& (((1 : Int32) <<< (x3 &&& 31)) ^^^ (-1)))), (0, .ref 0), (1, .int x1), (2, .int x2), (3, .int x3)]) rfl dX8_goOut_41 rfl ?_
    refine Rf_iconst X (v := 0) rfl dX8_goOut_43 rfl ?_
    refine Rf_istore X (i := 7) (Nat.le_of_ble_eq_true rfl) (ls2 := [(7, .int 0), (6, .int 9999), (5, .int (if r2 < r4 then r4 else r2)), (4, .int ((x1 &&& (((1 : Int32) <<< (x2 &&& 31)) ^^^ (-1))) &&& (((1 : Int32) <<< (x3 &&& 31)) ^^^ (-1)))), (0, .ref 0), (1, .int x1), (2, .int x2), (3, .int x3)]) rfl dX8_goOut_44 rfl ?_
    obtain ⟨n12, h⟩ := h
    refine Rf_sub [4, 3, 2, 1, 0] rfl ?_
    exact sl_X8_goOut_46 X n12 _ _ _ _ _ h
  · have h := h.2 c13
    refine Rf_iload X (j := 0) rfl dX8_goOut_35 rfl ?_
    exact Rf_iret X rfl dX8_goOut_37 ⟨_, rfl, h⟩
def wl_X8_burns_2 (Q : rfS → Prop) (kx_27 : rfS → Prop) : Nat → Int32 → rfS → Prop
  | 0, _, _ => False
  | n + 1, x1, σ => (((1 <<< ((gI σ 0 0) &&& 31)) ≤ x1 → kx_27 σ) ∧ (¬ ((1 <<< ((gI σ 0 0) &&& 31)) ≤ x1) → vp_in x1 128 ∧ (wl_X8_burns_2 Q kx_27 n (x1 + 1) (sF σ 27 (x1.toNatClampNeg) 9999))))
set_option maxRecDepth 20000 in
theorem sl_X8_burns_2 {E : rfE} {Q : rfS → Prop} (X : rfX ΛM E yX8_burns cX8_burns 6 none) {kx_27 : rfS → Prop} (hkx_27 : ∀ (σ : rfS), kx_27 σ → Rf ΛM 2 E 6 (qv Q) 27 [(0, .ref 0)] [] σ) : ∀ (n : Nat) (x1 : Int32) (σ : rfS), wl_X8_burns_2 Q kx_27 n x1 σ → Rf ΛM 2 E 6 (qv Q) 2 [(0, .ref 0), (1, .int x1)] [] σ := by
  intro n
  induction n with
  | zero =>
    intro x1 σ h
    exact False.elim h
  | succ n hkb_2 =>
    intro x1 σ h
    unfold wl_X8_burns_2 at h
    refine Rf_iload_n X (j := 1) rfl rfl dX8_burns_2 rfl ?_
    refine Rf_iconst X (v := 1) rfl dX8_burns_3 rfl ?_
    refine Rf_aload_n X (j := 0) rfl rfl dX8_burns_4 rfl ?_
    refine Rf_get X kc8 (Nat.le_of_ble_eq_true rfl) rfl (j := 0) (Nat.le_of_ble_eq_true rfl) lf_X8_94 (v := .int (gI σ 0 0)) rfl dX8_burns_5 rfl ?_
    refine Rf_ishl X dX8_burns_8 rfl ?_
    refine Rf_icmp_ge X (tgt := 27) dX8_burns_9 rfl rfl (fun c2 => ?_) (fun c2 => ?_)
    · have h := h.1 c2
      refine Rf_sub [0] rfl ?_
      exact hkx_27 σ h
    · have h := h.2 c2
      refine Rf_aload_n X (j := 0) rfl rfl dX8_burns_12 rfl ?_
      refine Rf_get X kc8 (Nat.le_of_ble_eq_true rfl) rfl (j := 42) (Nat.le_of_ble_eq_true rfl) lf_X8_91 (v := .ref 27) rfl dX8_burns_13 rfl ?_
      refine Rf_iload_n X (j := 1) rfl rfl dX8_burns_16 rfl ?_
      refine Rf_sipush X (v := 9999) rfl dX8_burns_17 rfl ?_
      obtain ⟨s1, h⟩ := h
      refine Rf_iastore X (Nat.le_of_ble_eq_true rfl) rfl rfl s1 dX8_burns_20 rfl ?_
      refine Rf_iinc X (i := 1) (j := 1) (v := x1 + 1) rfl rfl (Nat.le_of_ble_eq_true rfl) (ls2 := [(1, .int (x1 + 1)), (0, .ref 0)]) rfl dX8_burns_21 rfl ?_
      refine Rf_goto X (tgt := 2) dX8_burns_24 rfl ?_
      refine Rf_sub [1, 0] rfl ?_
      exact hkb_2 _ (sF σ 27 (x1.toNatClampNeg) 9999) h
def wj_X8_burns_100 (Q : rfS → Prop) (kb_60 : Int32 → Int32 → Int32 → Int32 → rfS → Prop) (x1 : Int32) (x2 : Int32) (x3 : Int32) (x4 : Int32) (xs0 : Int32) (σ : rfS) : Prop :=
  vp_in x2 128 ∧ ((xs0 < (gF σ 27 (x2.toNatClampNeg)) → vp_in x2 128 ∧ (kb_60 1 x2 x3 (x4 + 1) (sF σ 27 (x2.toNatClampNeg) xs0))) ∧ (¬ (xs0 < (gF σ 27 (x2.toNatClampNeg))) → kb_60 x1 x2 x3 (x4 + 1) σ))
set_option maxRecDepth 20000 in
theorem sj_X8_burns_100 {E : rfE} {Q : rfS → Prop} (X : rfX ΛM E yX8_burns cX8_burns 6 none) {kb_60 : Int32 → Int32 → Int32 → Int32 → rfS → Prop} (hkb_60 : ∀ (x1 : Int32) (x2 : Int32) (x3 : Int32) (x4 : Int32) (σ : rfS), kb_60 x1 x2 x3 x4 σ → Rf ΛM 2 E 6 (qv Q) 60 [(0, .ref 0), (1, .int x1), (2, .int x2), (3, .int x3), (4, .int x4)] [] σ) (x1 : Int32) (x2 : Int32) (x3 : Int32) (x4 : Int32) (xs0 : Int32) (σ : rfS) (h : wj_X8_burns_100 Q kb_60 x1 x2 x3 x4 xs0 σ) : Rf ΛM 2 E 6 (qv Q) 100 [(0, .ref 0), (1, .int x1), (2, .int x2), (3, .int x3), (4, .int x4)] [.int xs0] σ := by
  unfold wj_X8_burns_100 at h
  refine Rf_istore X (i := 5) (Nat.le_of_ble_eq_true rfl) (ls2 := [(5, .int xs0), (0, .ref 0), (1, .int x1), (2, .int x2), (3, .int x3), (4, .int x4)]) rfl dX8_burns_100 rfl ?_
  refine Rf_iload X (j := 0) rfl dX8_burns_102 rfl ?_
  refine Rf_aload_n X (j := 1) rfl rfl dX8_burns_104 rfl ?_
  refine Rf_get X kc8 (Nat.le_of_ble_eq_true rfl) rfl (j := 42) (Nat.le_of_ble_eq_true rfl) lf_X8_91 (v := .ref 27) rfl dX8_burns_105 rfl ?_
  refine Rf_iload_n X (j := 3) rfl rfl dX8_burns_108 rfl ?_
  obtain ⟨s7, h⟩ := h
  refine Rf_iaload X (Nat.le_of_ble_eq_true rfl) rfl rfl s7 dX8_burns_109 rfl (v := gF σ 27 (x2.toNatClampNeg)) rfl ?_
  refine Rf_icmp_lt X (tgt := 116) dX8_burns_110 rfl rfl (fun c9 => ?_) (fun c9 => ?_)
  · have h := h.1 c9
    refine Rf_aload_n X (j := 1) rfl rfl dX8_burns_116 rfl ?_
    refine Rf_get X kc8 (Nat.le_of_ble_eq_true rfl) rfl (j := 42) (Nat.le_of_ble_eq_true rfl) lf_X8_91 (v := .ref 27) rfl dX8_burns_117 rfl ?_
    refine Rf_iload_n X (j := 3) rfl rfl dX8_burns_120 rfl ?_
    refine Rf_iload X (j := 0) rfl dX8_burns_121 rfl ?_
    obtain ⟨s8, h⟩ := h
    refine Rf_iastore X (Nat.le_of_ble_eq_true rfl) rfl rfl s8 dX8_burns_123 rfl ?_
    refine Rf_iconst X (v := 1) rfl dX8_burns_124 rfl ?_
    refine Rf_istore_n X rfl (i := 1) (Nat.le_of_ble_eq_true rfl) (ls2 := [(1, .int 1), (5, .int xs0), (0, .ref 0), (2, .int x2), (3, .int x3), (4, .int x4)]) rfl dX8_burns_125 rfl ?_
    refine Rf_iinc X (i := 4) (j := 5) (v := x4 + 1) rfl rfl (Nat.le_of_ble_eq_true rfl) (ls2 := [(4, .int (x4 + 1)), (1, .int 1), (5, .int xs0), (0, .ref 0), (2, .int x2), (3, .int x3)]) rfl dX8_burns_126 rfl ?_
    refine Rf_goto X (tgt := 60) dX8_burns_129 rfl ?_
    refine Rf_sub [3, 1, 4, 5, 0] rfl ?_
    exact hkb_60 _ _ _ _ (sF σ 27 (x2.toNatClampNeg) xs0) h
  · have h := h.2 c9
    refine Rf_goto X (tgt := 126) dX8_burns_113 rfl ?_
    refine Rf_iinc X (i := 4) (j := 5) (v := x4 + 1) rfl rfl (Nat.le_of_ble_eq_true rfl) (ls2 := [(4, .int (x4 + 1)), (5, .int xs0), (0, .ref 0), (1, .int x1), (2, .int x2), (3, .int x3)]) rfl dX8_burns_126 rfl ?_
    refine Rf_goto X (tgt := 60) dX8_burns_129 rfl ?_
    refine Rf_sub [2, 3, 4, 5, 0] rfl ?_
    exact hkb_60 _ _ _ _ σ h
def wj_X8_burns_97 (Q : rfS → Prop) (kb_60 : Int32 → Int32 → Int32 → Int32 → rfS → Prop) (x1 : Int32) (x2 : Int32) (x3 : Int32) (x4 : Int32) (σ : rfS) : Prop :=
  wj_X8_burns_100 Q kb_60 x1 x2 x3 x4 9999 σ
set_option maxRecDepth 20000 in
theorem sj_X8_burns_97 {E : rfE} {Q : rfS → Prop} (X : rfX ΛM E yX8_burns cX8_burns 6 none) {kb_60 : Int32 → Int32 → Int32 → Int32 → rfS → Prop} (hkb_60 : ∀ (x1 : Int32) (x2 : Int32) (x3 : Int32) (x4 : Int32) (σ : rfS), kb_60 x1 x2 x3 x4 σ → Rf ΛM 2 E 6 (qv Q) 60 [(0, .ref 0), (1, .int x1), (2, .int x2), (3, .int x3), (4, .int x4)] [] σ) (x1 : Int32) (x2 : Int32) (x3 : Int32) (x4 : Int32) (σ : rfS) (h : wj_X8_burns_97 Q kb_60 x1 x2 x3 x4 σ) : Rf ΛM 2 E 6 (qv Q) 97 [(0, .ref 0), (1, .int x1), (2, .int x2), (3, .int x3), (4, .int x4)] [] σ := by
  unfold wj_X8_burns_97 at h
  refine Rf_sipush X (v := 9999) rfl dX8_burns_97 rfl ?_
  exact sj_X8_burns_100 X hkb_60 _ _ _ _ _ _ h
def wl_X8_burns_60 (Q : rfS → Prop) (kx_132 : Int32 → Int32 → Int32 → rfS → Prop) : Nat → Int32 → Int32 → Int32 → Int32 → rfS → Prop
  | 0, _, _, _, _, _ => False
  | n + 1, x1, x2, x3, x4, σ => (((gI σ 0 0) ≤ x4 → kx_132 x1 x2 x3 σ) ∧ (¬ ((gI σ 0 0) ≤ x4) → wp_X8_has σ x2 x3 (fun (r6 : Int32) (σ5 : rfS) => ((r6 = 0 → wj_X8_burns_97 Q (wl_X8_burns_60 Q kx_132 n) x1 x2 x3 x4 σ5) ∧ (¬ r6 = 0 → wp_X8_has σ5 x2 x4 (fun (r11 : Int32) (σ10 : rfS) => ((r11 = 0 → wj_X8_burns_97 Q (wl_X8_burns_60 Q kx_132 n) x1 x2 x3 x4 σ10) ∧ (¬ r11 = 0 → wp_X8_goOut σ10 x2 x3 x4 (fun (r13 : Int32) (σ12 : rfS) => wj_X8_burns_100 Q (wl_X8_burns_60 Q kx_132 n) x1 x2 x3 x4 r13 σ12)))))))))
set_option maxRecDepth 20000 in
theorem sl_X8_burns_60 {E : rfE} {Q : rfS → Prop} (X : rfX ΛM E yX8_burns cX8_burns 6 none) {kx_132 : Int32 → Int32 → Int32 → rfS → Prop} (hkx_132 : ∀ (x1 : Int32) (x2 : Int32) (x3 : Int32) (σ : rfS), kx_132 x1 x2 x3 σ → Rf ΛM 2 E 6 (qv Q) 132 [(0, .ref 0), (1, .int x1), (2, .int x2), (3, .int x3)] [] σ) : ∀ (n : Nat) (x1 : Int32) (x2 : Int32) (x3 : Int32) (x4 : Int32) (σ : rfS), wl_X8_burns_60 Q kx_132 n x1 x2 x3 x4 σ → Rf ΛM 2 E 6 (qv Q) 60 [(0, .ref 0), (1, .int x1), (2, .int x2), (3, .int x3), (4, .int x4)] [] σ := by
  intro n
  induction n with
  | zero =>
    intro x1 x2 x3 x4 σ h
    exact False.elim h
  | succ n hkb_60 =>
    intro x1 x2 x3 x4 σ h
    unfold wl_X8_burns_60 at h
    refine Rf_iload X (j := 4) rfl dX8_burns_60 rfl ?_
    refine Rf_aload_n X (j := 0) rfl rfl dX8_burns_62 rfl ?_
    refine Rf_get X kc8 (Nat.le_of_ble_eq_true rfl) rfl (j := 0) (Nat.le_of_ble_eq_true rfl) lf_X8_94 (v := .int (gI σ 0 0)) rfl dX8_burns_63 rfl ?_
    refine Rf_icmp_ge X (tgt := 132) dX8_burns_66 rfl rfl (fun c16 => ?_) (fun c16 => ?_)
    · have h := h.1 c16
      refine Rf_sub [0, 1, 2, 3] rfl ?_
      exact hkx_132 _ _ _ σ h
    · have h := h.2 c16
      refine Rf_iload_n X (j := 2) rfl rfl dX8_burns_69 rfl ?_
      refine Rf_iload_n X (j := 3) rfl rfl dX8_burns_70 rfl ?_
      refine Rf_cSi (as := [.int x2, .int x3]) (st := []) X ms_X8_has lm_X8_203 (k_X8_has h) (Nat.le_of_ble_eq_true rfl) rfl rfl (Nat.le_of_ble_eq_true rfl) dX8_burns_71 rfl (fun r6 σ5 h => ?_)
      refine Rf_if_eq X (tgt := 97) dX8_burns_74 rfl rfl (fun c15 => ?_) (fun c15 => ?_)
      · have h := h.1 c15
        exact sj_X8_burns_97 X hkb_60 _ _ _ _ _ h
      · have h := h.2 c15
        refine Rf_iload_n X (j := 2) rfl rfl dX8_burns_77 rfl ?_
        refine Rf_iload X (j := 4) rfl dX8_burns_78 rfl ?_
        refine Rf_cSi (as := [.int x2, .int x4]) (st := []) X ms_X8_has lm_X8_203 (k_X8_has h) (Nat.le_of_ble_eq_true rfl) rfl rfl (Nat.le_of_ble_eq_true rfl) dX8_burns_80 rfl (fun r11 σ10 h => ?_)
        refine Rf_if_eq X (tgt := 97) dX8_burns_83 rfl rfl (fun c14 => ?_) (fun c14 => ?_)
        · have h := h.1 c14
          exact sj_X8_burns_97 X hkb_60 _ _ _ _ _ h
        · have h := h.2 c14
          refine Rf_aload_n X (j := 0) rfl rfl dX8_burns_86 rfl ?_
          refine Rf_iload_n X (j := 2) rfl rfl dX8_burns_87 rfl ?_
          refine Rf_iload_n X (j := 3) rfl rfl dX8_burns_88 rfl ?_
          refine Rf_iload X (j := 4) rfl dX8_burns_89 rfl ?_
          refine Rf_cVi (as := [.int x2, .int x3, .int x4]) (st := []) X mi_X8_goOut lm_X8_275 rfl (Nat.le_of_ble_eq_true rfl) rfl (k_X8_goOut h) (Nat.le_of_ble_eq_true rfl) rfl rfl (Nat.le_of_ble_eq_true rfl) dX8_burns_91 rfl (fun r13 σ12 h => ?_)
          refine Rf_goto X (tgt := 100) dX8_burns_94 rfl ?_
          exact sj_X8_burns_100 X hkb_60 _ _ _ _ _ _ h
def wl_X8_burns_49 (Q : rfS → Prop) (kx_138 : Int32 → Int32 → rfS → Prop) : Nat → Int32 → Int32 → Int32 → rfS → Prop
  | 0, _, _, _, _ => False
  | n + 1, x1, x2, x3, σ => (((gI σ 0 0) ≤ x3 → kx_138 x1 x2 σ) ∧ (¬ ((gI σ 0 0) ≤ x3) → (∃ n17, wl_X8_burns_60 Q (fun (x1_18 : Int32) (x2_19 : Int32) (x3_20 : Int32) (σ21 : rfS) => wl_X8_burns_49 Q kx_138 n x1_18 x2_19 (x3_20 + 1) σ21) n17 x1 x2 x3 x3 σ)))
set_option maxRecDepth 20000 in
theorem sl_X8_burns_49 {E : rfE} {Q : rfS → Prop} (X : rfX ΛM E yX8_burns cX8_burns 6 none) {kx_138 : Int32 → Int32 → rfS → Prop} (hkx_138 : ∀ (x1 : Int32) (x2 : Int32) (σ : rfS), kx_138 x1 x2 σ → Rf ΛM 2 E 6 (qv Q) 138 [(0, .ref 0), (1, .int x1), (2, .int x2)] [] σ) : ∀ (n : Nat) (x1 : Int32) (x2 : Int32) (x3 : Int32) (σ : rfS), wl_X8_burns_49 Q kx_138 n x1 x2 x3 σ → Rf ΛM 2 E 6 (qv Q) 49 [(0, .ref 0), (1, .int x1), (2, .int x2), (3, .int x3)] [] σ := by
  intro n
  induction n with
  | zero =>
    intro x1 x2 x3 σ h
    exact False.elim h
  | succ n hkb_49 =>
    intro x1 x2 x3 σ h
    unfold wl_X8_burns_49 at h
    refine Rf_iload_n X (j := 3) rfl rfl dX8_burns_49 rfl ?_
    refine Rf_aload_n X (j := 0) rfl rfl dX8_burns_50 rfl ?_
    refine Rf_get X kc8 (Nat.le_of_ble_eq_true rfl) rfl (j := 0) (Nat.le_of_ble_eq_true rfl) lf_X8_94 (v := .int (gI σ 0 0)) rfl dX8_burns_51 rfl ?_
    refine Rf_icmp_ge X (tgt := 138) dX8_burns_54 rfl rfl (fun c22 => ?_) (fun c22 => ?_)
    · have h := h.1 c22
      refine Rf_sub [0, 1, 2] rfl ?_
      exact hkx_138 _ _ σ h
    · have h := h.2 c22
      refine Rf_iload_n X (j := 3) rfl rfl dX8_burns_57 rfl ?_
      refine Rf_istore X (i := 4) (Nat.le_of_ble_eq_true rfl) (ls2 := [(4, .int x3), (0, .ref 0), (1, .int x1), (2, .int x2), (3, .int x3)]) rfl dX8_burns_58 rfl ?_
      obtain ⟨n17, h⟩ := h
      refine Rf_sub [1, 2, 3, 4, 0] rfl ?_
      refine sl_X8_burns_60 X (fun x1_18 x2_19 x3_20 σ21 h => ?_) n17 _ _ _ _ _ h
      · refine Rf_iinc X (i := 3) (j := 3) (v := x3_20 + 1) rfl rfl (Nat.le_of_ble_eq_true rfl) (ls2 := [(3, .int (x3_20 + 1)), (0, .ref 0), (1, .int x1_18), (2, .int x2_19)]) rfl dX8_burns_132 rfl ?_
        refine Rf_goto X (tgt := 49) dX8_burns_135 rfl ?_
        refine Rf_sub [1, 2, 3, 0] rfl ?_
        exact hkb_49 _ _ _ σ21 h
def wl_X8_burns_37 (Q : rfS → Prop) (kx_144 : Int32 → rfS → Prop) : Nat → Int32 → Int32 → rfS → Prop
  | 0, _, _, _ => False
  | n + 1, x1, x2, σ => (((1 <<< ((gI σ 0 0) &&& 31)) ≤ x2 → kx_144 x1 σ) ∧ (¬ ((1 <<< ((gI σ 0 0) &&& 31)) ≤ x2) → (∃ n23, wl_X8_burns_49 Q (fun (x1_24 : Int32) (x2_25 : Int32) (σ26 : rfS) => wl_X8_burns_37 Q kx_144 n x1_24 (x2_25 + 1) σ26) n23 x1 x2 0 σ)))
set_option maxRecDepth 20000 in
theorem sl_X8_burns_37 {E : rfE} {Q : rfS → Prop} (X : rfX ΛM E yX8_burns cX8_burns 6 none) {kx_144 : Int32 → rfS → Prop} (hkx_144 : ∀ (x1 : Int32) (σ : rfS), kx_144 x1 σ → Rf ΛM 2 E 6 (qv Q) 144 [(0, .ref 0), (1, .int x1)] [] σ) : ∀ (n : Nat) (x1 : Int32) (x2 : Int32) (σ : rfS), wl_X8_burns_37 Q kx_144 n x1 x2 σ → Rf ΛM 2 E 6 (qv Q) 37 [(0, .ref 0), (1, .int x1), (2, .int x2)] [] σ := by
  intro n
  induction n with
  | zero =>
    intro x1 x2 σ h
    exact False.elim h
  | succ n hkb_37 =>
    intro x1 x2 σ h
    unfold wl_X8_burns_37 at h
    refine Rf_iload_n X (j := 2) rfl rfl dX8_burns_37 rfl ?_
    refine Rf_iconst X (v := 1) rfl dX8_burns_38 rfl ?_
    refine Rf_aload_n X (j := 0) rfl rfl dX8_burns_39 rfl ?_
    refine Rf_get X kc8 (Nat.le_of_ble_eq_true rfl) rfl (j := 0) (Nat.le_of_ble_eq_true rfl) lf_X8_94 (v := .int (gI σ 0 0)) rfl dX8_burns_40 rfl ?_
    refine Rf_ishl X dX8_burns_43 rfl ?_
    refine Rf_icmp_ge X (tgt := 144) dX8_burns_44 rfl rfl (fun c27 => ?_) (fun c27 => ?_)
    · have h := h.1 c27
      refine Rf_sub [0, 1] rfl ?_
      exact hkx_144 _ σ h
    · have h := h.2 c27
      refine Rf_iconst X (v := 0) rfl dX8_burns_47 rfl ?_
      refine Rf_istore_n X rfl (i := 3) (Nat.le_of_ble_eq_true rfl) (ls2 := [(3, .int 0), (0, .ref 0), (1, .int x1), (2, .int x2)]) rfl dX8_burns_48 rfl ?_
      obtain ⟨n23, h⟩ := h
      refine Rf_sub [1, 2, 3, 0] rfl ?_
      refine sl_X8_burns_49 X (fun x1_24 x2_25 σ26 h => ?_) n23 _ _ _ _ h
      · refine Rf_iinc X (i := 2) (j := 2) (v := x2_25 + 1) rfl rfl (Nat.le_of_ble_eq_true rfl) (ls2 := [(2, .int (x2_25 + 1)), (0, .ref 0), (1, .int x1_24)]) rfl dX8_burns_138 rfl ?_
        refine Rf_goto X (tgt := 37) dX8_burns_141 rfl ?_
        refine Rf_sub [1, 2, 0] rfl ?_
        exact hkb_37 _ _ σ26 h
def wl_X8_burns_29 (Q : rfS → Prop) : Nat → Int32 → rfS → Prop
  | 0, _, _ => False
  | n + 1, x1, σ => ((x1 = 0 → Q σ) ∧ (¬ x1 = 0 → (∃ n28, wl_X8_burns_37 Q (fun (x1_29 : Int32) (σ30 : rfS) => wl_X8_burns_29 Q n x1_29 σ30) n28 0 1 σ)))
set_option maxRecDepth 20000 in
theorem sl_X8_burns_29 {E : rfE} {Q : rfS → Prop} (X : rfX ΛM E yX8_burns cX8_burns 6 none) : ∀ (n : Nat) (x1 : Int32) (σ : rfS), wl_X8_burns_29 Q n x1 σ → Rf ΛM 2 E 6 (qv Q) 29 [(0, .ref 0), (1, .int x1)] [] σ := by
  intro n
  induction n with
  | zero =>
    intro x1 σ h
    exact False.elim h
  | succ n hkb_29 =>
    intro x1 σ h
    unfold wl_X8_burns_29 at h
    refine Rf_iload_n X (j := 1) rfl rfl dX8_burns_29 rfl ?_
    refine Rf_if_eq X (tgt := 147) dX8_burns_30 rfl rfl (fun c31 => ?_) (fun c31 => ?_)
    · have h := h.1 c31
      exact Rf_vret X dX8_burns_147 ⟨rfl, h⟩
    · have h := h.2 c31
      refine Rf_iconst X (v := 0) rfl dX8_burns_33 rfl ?_
      refine Rf_istore_n X rfl (i := 1) (Nat.le_of_ble_eq_true rfl) (ls2 := [(1, .int 0), (0, .ref 0)]) rfl dX8_burns_34 rfl ?_
      refine Rf_iconst X (v := 1) rfl dX8_burns_35 rfl ?_
      refine Rf_istore_n X rfl (i := 2) (Nat.le_of_ble_eq_true rfl) (ls2 := [(2, .int 1), (1, .int 0), (0, .ref 0)]) rfl dX8_burns_36 rfl ?_
      obtain ⟨n28, h⟩ := h
      refine Rf_sub [2, 1, 0] rfl ?_
      refine sl_X8_burns_37 X (fun x1_29 σ30 h => ?_) n28 _ _ _ h
      · refine Rf_goto X (tgt := 29) dX8_burns_144 rfl ?_
        exact hkb_29 _ σ30 h
def wp_X8_burns (σ : rfS) (Q : rfS → Prop) : Prop :=
  (∃ n3, wl_X8_burns_2 Q (fun (σ4 : rfS) => (∃ n32, wl_X8_burns_29 Q n32 1 σ4)) n3 1 σ)
set_option maxRecDepth 20000 in
theorem k_X8_burns {σ : rfS} {Q : rfS → Prop} (h : wp_X8_burns σ Q) : RM ΛM 2 yX8_burns cX8_burns 6 none [.ref 0] σ (qv Q) := by
  unfold wp_X8_burns at h
  refine RM.intro (by decide) (Nat.le_of_ble_eq_true rfl) (fun E X => ?_)
  show Rf ΛM 2 E 6 (qv Q) 0 [(0, .ref 0)] [] σ
  refine Rf_iconst X (v := 1) rfl dX8_burns_0 rfl ?_
  refine Rf_istore_n X rfl (i := 1) (Nat.le_of_ble_eq_true rfl) (ls2 := [(1, .int 1), (0, .ref 0)]) rfl dX8_burns_1 rfl ?_
  obtain ⟨n3, h⟩ := h
  refine Rf_sub [1, 0] rfl ?_
  refine sl_X8_burns_2 X (fun σ4 h => ?_) n3 _ _ h
  · refine Rf_iconst X (v := 1) rfl dX8_burns_27 rfl ?_
    refine Rf_istore_n X rfl (i := 1) (Nat.le_of_ble_eq_true rfl) (ls2 := [(1, .int 1), (0, .ref 0)]) rfl dX8_burns_28 rfl ?_
    obtain ⟨n32, h⟩ := h
    refine Rf_sub [1, 0] rfl ?_
    exact sl_X8_burns_29 X n32 _ _ h
def wl_X8_fire_46 (Q : Int32 → rfS → Prop) : Nat → Int32 → Int32 → rfS → Prop
  | 0, _, _, _ => False
  | n + 1, x2, x3, σ => (((gI σ 0 0) ≤ x3 → Q 2 σ) ∧ (¬ ((gI σ 0 0) ≤ x3) → wp_X8_goOut σ x2 x3 x3 (fun (r5 : Int32) (σ4 : rfS) => vp_in x2 128 ∧ ((¬ r5 = (gF σ4 27 (x2.toNatClampNeg)) → wl_X8_fire_46 Q n x2 (x3 + 1) σ4) ∧ (r5 = (gF σ4 27 (x2.toNatClampNeg)) → Q 1 σ4)))))
set_option maxRecDepth 20000 in
theorem sl_X8_fire_46 {E : rfE} {Q : Int32 → rfS → Prop} (X : rfX ΛM E yX8_fire cX8_fire 4 (some .int)) : ∀ (n : Nat) (x2 : Int32) (x3 : Int32) (σ : rfS), wl_X8_fire_46 Q n x2 x3 σ → Rf ΛM 3 E 4 (qi Q) 46 [(0, .ref 0), (2, .int x2), (3, .int x3)] [] σ := by
  intro n
  induction n with
  | zero =>
    intro x2 x3 σ h
    exact False.elim h
  | succ n hkb_46 =>
    intro x2 x3 σ h
    unfold wl_X8_fire_46 at h
    refine Rf_iload_n X (j := 2) rfl rfl dX8_fire_46 rfl ?_
    refine Rf_aload_n X (j := 0) rfl rfl dX8_fire_47 rfl ?_
    refine Rf_get X kc8 (Nat.le_of_ble_eq_true rfl) rfl (j := 0) (Nat.le_of_ble_eq_true rfl) lf_X8_94 (v := .int (gI σ 0 0)) rfl dX8_fire_48 rfl ?_
    refine Rf_icmp_ge X (tgt := 78) dX8_fire_51 rfl rfl (fun c8 => ?_) (fun c8 => ?_)
    · have h := h.1 c8
      refine Rf_iconst X (v := 2) rfl dX8_fire_78 rfl ?_
      exact Rf_iret X rfl dX8_fire_79 ⟨_, rfl, h⟩
    · have h := h.2 c8
      refine Rf_aload_n X (j := 0) rfl rfl dX8_fire_54 rfl ?_
      refine Rf_iload_n X (j := 1) rfl rfl dX8_fire_55 rfl ?_
      refine Rf_iload_n X (j := 2) rfl rfl dX8_fire_56 rfl ?_
      refine Rf_iload_n X (j := 2) rfl rfl dX8_fire_57 rfl ?_
      refine Rf_cVi (as := [.int x2, .int x3, .int x3]) (st := []) X mi_X8_goOut lm_X8_275 rfl (Nat.le_of_ble_eq_true rfl) rfl (k_X8_goOut h) (Nat.le_of_ble_eq_true rfl) rfl rfl (Nat.le_of_ble_eq_true rfl) dX8_fire_58 rfl (fun r5 σ4 h => ?_)
      refine Rf_aload_n X (j := 0) rfl rfl dX8_fire_61 rfl ?_
      refine Rf_get X kc8 (Nat.le_of_ble_eq_true rfl) rfl (j := 42) (Nat.le_of_ble_eq_true rfl) lf_X8_91 (v := .ref 27) rfl dX8_fire_62 rfl ?_
      refine Rf_iload_n X (j := 1) rfl rfl dX8_fire_65 rfl ?_
      obtain ⟨s6, h⟩ := h
      refine Rf_iaload X (Nat.le_of_ble_eq_true rfl) rfl rfl s6 dX8_fire_66 rfl (v := gF σ4 27 (x2.toNatClampNeg)) rfl ?_
      refine Rf_icmp_ne X (tgt := 72) dX8_fire_67 rfl rfl (fun c7 => ?_) (fun c7 => ?_)
      · have h := h.1 c7
        refine Rf_iinc X (i := 3) (j := 2) (v := x3 + 1) rfl rfl (Nat.le_of_ble_eq_true rfl) (ls2 := [(3, .int (x3 + 1)), (0, .ref 0), (2, .int x2)]) rfl dX8_fire_72 rfl ?_
        refine Rf_goto X (tgt := 46) dX8_fire_75 rfl ?_
        refine Rf_sub [1, 2, 0] rfl ?_
        exact hkb_46 _ _ σ4 h
      · have h := h.2 c7
        refine Rf_iconst X (v := 1) rfl dX8_fire_70 rfl ?_
        exact Rf_iret X rfl dX8_fire_71 ⟨_, rfl, h⟩
def wp_X8_fire (σ : rfS) (x1 : Int32) (Q : Int32 → rfS → Prop) : Prop :=
  wp_X8_within σ x1 0 1 (fun (r2 : Int32) (σ1 : rfS) => ((¬ r2 = 0 → ((¬ (gI σ1 0 0) = 0 → wp_X8_burns σ1 (fun (σ3 : rfS) => ((¬ x1 = 0 → (∃ n9, wl_X8_fire_46 Q n9 ((1 <<< ((gI σ3 0 0) &&& 31)) - 1) 0 σ3)) ∧ (x1 = 0 → vp_in ((1 <<< ((gI σ3 0 0) &&& 31)) - 1) 128 ∧ Q (gF σ3 27 (((1 <<< ((gI σ3 0 0) &&& 31)) - 1).toNatClampNeg)) σ3)))) ∧ ((gI σ1 0 0) = 0 → Q 0 σ1))) ∧ (r2 = 0 → Q (-1) σ1)))
set_option maxRecDepth 20000 in
theorem k_X8_fire {σ : rfS} {x1 : Int32} {Q : Int32 → rfS → Prop} (h : wp_X8_fire σ x1 Q) : RM ΛM 3 yX8_fire cX8_fire 4 (some .int) [.ref 0, .int x1] σ (qi Q) := by
  unfold wp_X8_fire at h
  refine RM.intro (by decide) (Nat.le_of_ble_eq_true rfl) (fun E X => ?_)
  show Rf ΛM 3 E 4 (qi Q) 0 [(0, .ref 0), (1, .int x1)] [] σ
  refine Rf_iload_n X (j := 1) rfl rfl dX8_fire_0 rfl ?_
  refine Rf_iconst X (v := 0) rfl dX8_fire_1 rfl ?_
  refine Rf_iconst X (v := 1) rfl dX8_fire_2 rfl ?_
  refine Rf_cSi (as := [.int x1, .int 0, .int 1]) (st := []) X ms_X8_within lm_X8_98 (k_X8_within h) (Nat.le_of_ble_eq_true rfl) rfl rfl (Nat.le_of_ble_eq_true rfl) dX8_fire_3 rfl (fun r2 σ1 h => ?_)
  refine Rf_if_ne X (tgt := 11) dX8_fire_6 rfl rfl (fun c13 => ?_) (fun c13 => ?_)
  · have h := h.1 c13
    refine Rf_aload_n X (j := 0) rfl rfl dX8_fire_11 rfl ?_
    refine Rf_get X kc8 (Nat.le_of_ble_eq_true rfl) rfl (j := 0) (Nat.le_of_ble_eq_true rfl) lf_X8_94 (v := .int (gI σ1 0 0)) rfl dX8_fire_12 rfl ?_
    refine Rf_if_ne X (tgt := 20) dX8_fire_15 rfl rfl (fun c12 => ?_) (fun c12 => ?_)
    · have h := h.1 c12
      refine Rf_aload_n X (j := 0) rfl rfl dX8_fire_20 rfl ?_
      refine Rf_cVv (as := []) (st := []) X mi_X8_burns lm_X8_278 rfl (Nat.le_of_ble_eq_true rfl) rfl (k_X8_burns h) (Nat.le_of_ble_eq_true rfl) rfl rfl (Nat.le_of_ble_eq_true rfl) dX8_fire_21 rfl (fun σ3 h => ?_)
      refine Rf_iconst X (v := 1) rfl dX8_fire_24 rfl ?_
      refine Rf_aload_n X (j := 0) rfl rfl dX8_fire_25 rfl ?_
      refine Rf_get X kc8 (Nat.le_of_ble_eq_true rfl) rfl (j := 0) (Nat.le_of_ble_eq_true rfl) lf_X8_94 (v := .int (gI σ3 0 0)) rfl dX8_fire_26 rfl ?_
      refine Rf_ishl X dX8_fire_29 rfl ?_
      refine Rf_iconst X (v := 1) rfl dX8_fire_30 rfl ?_
      refine Rf_isub X dX8_fire_31 rfl ?_
      refine Rf_istore_n X rfl (i := 2) (Nat.le_of_ble_eq_true rfl) (ls2 := [(2, .int ((1 <<< ((gI σ3 0 0) &&& 31)) - 1)), (0, .ref 0), (1, .int x1)]) rfl dX8_fire_32 rfl ?_
      refine Rf_iload_n X (j := 2) rfl rfl dX8_fire_33 rfl ?_
      refine Rf_if_ne X (tgt := 44) dX8_fire_34 rfl rfl (fun c11 => ?_) (fun c11 => ?_)
      · have h := h.1 c11
        refine Rf_iconst X (v := 0) rfl dX8_fire_44 rfl ?_
        refine Rf_istore_n X rfl (i := 3) (Nat.le_of_ble_eq_true rfl) (ls2 := [(3, .int 0), (2, .int ((1 <<< ((gI σ3 0 0) &&& 31)) - 1)), (0, .ref 0), (1, .int x1)]) rfl dX8_fire_45 rfl ?_
        obtain ⟨n9, h⟩ := h
        refine Rf_sub [2, 1, 0] rfl ?_
        exact sl_X8_fire_46 X n9 _ _ _ h
      · have h := h.2 c11
        refine Rf_aload_n X (j := 1) rfl rfl dX8_fire_37 rfl ?_
        refine Rf_get X kc8 (Nat.le_of_ble_eq_true rfl) rfl (j := 42) (Nat.le_of_ble_eq_true rfl) lf_X8_91 (v := .ref 27) rfl dX8_fire_38 rfl ?_
        refine Rf_iload_n X (j := 0) rfl rfl dX8_fire_41 rfl ?_
        obtain ⟨s10, h⟩ := h
        refine Rf_iaload X (Nat.le_of_ble_eq_true rfl) rfl rfl s10 dX8_fire_42 rfl (v := gF σ3 27 (((1 <<< ((gI σ3 0 0) &&& 31)) - 1).toNatClampNeg)) rfl ?_
        exact Rf_iret X rfl dX8_fire_43 ⟨_, rfl, h⟩
    · have h := h.2 c12
      refine Rf_iconst X (v := 0) rfl dX8_fire_18 rfl ?_
      exact Rf_iret X rfl dX8_fire_19 ⟨_, rfl, h⟩
  · have h := h.2 c13
    refine Rf_iconst X (v := (-1)) (by decide) dX8_fire_9 rfl ?_
    exact Rf_iret X rfl dX8_fire_10 ⟨_, rfl, h⟩
def wp_X8_noDebts (σ : rfS) (x1 : Int32) (Q : Int32 → rfS → Prop) : Prop :=
  ((x1 < 0 → Q (-1) σ) ∧ (¬ (x1 < 0) → wp_X8_isShelf σ (x1 / 10) (fun (r2 : Int32) (σ1 : rfS) => ((r2 = 0 → Q (-1) σ1) ∧ (¬ r2 = 0 → wp_X8_isShelf σ1 (x1 - x1 / 10 * 10) (fun (r4 : Int32) (σ3 : rfS) => ((¬ r4 = 0 → wp_X8_noBytes σ3 (x1 / 10) (fun (r6 : Int32) (σ5 : rfS) => ((0 ≤ r6 → wp_X8_noBytes σ5 (x1 - x1 / 10 * 10) (fun (r8 : Int32) (σ7 : rfS) => Q r8 σ7)) ∧ (¬ (0 ≤ r6) → Q r6 σ5)))) ∧ (r4 = 0 → Q (-1) σ3))))))))
set_option maxRecDepth 20000 in
theorem k_X8_noDebts {σ : rfS} {x1 : Int32} {Q : Int32 → rfS → Prop} (h : wp_X8_noDebts σ x1 Q) : RM ΛM 2 yX8_noDebts cX8_noDebts 3 (some .int) [.ref 0, .int x1] σ (qi Q) := by
  unfold wp_X8_noDebts at h
  refine RM.intro (by decide) (Nat.le_of_ble_eq_true rfl) (fun E X => ?_)
  show Rf ΛM 2 E 3 (qi Q) 0 [(0, .ref 0), (1, .int x1)] [] σ
  refine Rf_iload_n X (j := 1) rfl rfl dX8_noDebts_0 rfl ?_
  refine Rf_if_lt X (tgt := 24) dX8_noDebts_1 rfl rfl (fun c12 => ?_) (fun c12 => ?_)
  · have h := h.1 c12
    refine Rf_iconst X (v := (-1)) (by decide) dX8_noDebts_24 rfl ?_
    exact Rf_iret X rfl dX8_noDebts_25 ⟨_, rfl, h⟩
  · have h := h.2 c12
    refine Rf_iload_n X (j := 1) rfl rfl dX8_noDebts_4 rfl ?_
    refine Rf_bipush X (v := 10) rfl dX8_noDebts_5 rfl ?_
    refine Rf_idiv X (by decide) dX8_noDebts_7 rfl ?_
    refine Rf_cSi (as := [.int (x1 / 10)]) (st := []) X ms_X8_isShelf lm_X8_106 (k_X8_isShelf h) (Nat.le_of_ble_eq_true rfl) rfl rfl (Nat.le_of_ble_eq_true rfl) dX8_noDebts_8 rfl (fun r2 σ1 h => ?_)
    refine Rf_if_eq X (tgt := 24) dX8_noDebts_11 rfl rfl (fun c11 => ?_) (fun c11 => ?_)
    · have h := h.1 c11
      refine Rf_iconst X (v := (-1)) (by decide) dX8_noDebts_24 rfl ?_
      exact Rf_iret X rfl dX8_noDebts_25 ⟨_, rfl, h⟩
    · have h := h.2 c11
      refine Rf_iload_n X (j := 1) rfl rfl dX8_noDebts_14 rfl ?_
      refine Rf_bipush X (v := 10) rfl dX8_noDebts_15 rfl ?_
      refine Rf_irem X (by decide) dX8_noDebts_17 rfl ?_
      refine Rf_cSi (as := [.int (x1 - x1 / 10 * 10)]) (st := []) X ms_X8_isShelf lm_X8_106 (k_X8_isShelf h) (Nat.le_of_ble_eq_true rfl) rfl rfl (Nat.le_of_ble_eq_true rfl) dX8_noDebts_18 rfl (fun r4 σ3 h => ?_)
      refine Rf_if_ne X (tgt := 26) dX8_noDebts_21 rfl rfl (fun c10 => ?_) (fun c10 => ?_)
      · have h := h.1 c10
        refine Rf_aload_n X (j := 0) rfl rfl dX8_noDebts_26 rfl ?_
        refine Rf_iload_n X (j := 1) rfl rfl dX8_noDebts_27 rfl ?_
        refine Rf_bipush X (v := 10) rfl dX8_noDebts_28 rfl ?_
        refine Rf_idiv X (by decide) dX8_noDebts_30 rfl ?_
        refine Rf_cVi (as := [.int (x1 / 10)]) (st := []) X mi_X8_noBytes lm_X8_237 rfl (Nat.le_of_ble_eq_true rfl) rfl (k_X8_noBytes h) (Nat.le_of_ble_eq_true rfl) rfl rfl (Nat.le_of_ble_eq_true rfl) dX8_noDebts_31 rfl (fun r6 σ5 h => ?_)
        refine Rf_istore_n X rfl (i := 2) (Nat.le_of_ble_eq_true rfl) (ls2 := [(2, .int r6), (0, .ref 0), (1, .int x1)]) rfl dX8_noDebts_34 rfl ?_
        refine Rf_iload_n X (j := 0) rfl rfl dX8_noDebts_35 rfl ?_
        refine Rf_if_ge X (tgt := 43) dX8_noDebts_36 rfl rfl (fun c9 => ?_) (fun c9 => ?_)
        · have h := h.1 c9
          refine Rf_aload_n X (j := 1) rfl rfl dX8_noDebts_43 rfl ?_
          refine Rf_iload_n X (j := 2) rfl rfl dX8_noDebts_44 rfl ?_
          refine Rf_bipush X (v := 10) rfl dX8_noDebts_45 rfl ?_
          refine Rf_irem X (by decide) dX8_noDebts_47 rfl ?_
          refine Rf_cVi (as := [.int (x1 - x1 / 10 * 10)]) (st := []) X mi_X8_noBytes lm_X8_237 rfl (Nat.le_of_ble_eq_true rfl) rfl (k_X8_noBytes h) (Nat.le_of_ble_eq_true rfl) rfl rfl (Nat.le_of_ble_eq_true rfl) dX8_noDebts_48 rfl (fun r8 σ7 h => ?_)
          exact Rf_iret X rfl dX8_noDebts_51 ⟨_, rfl, h⟩
        · have h := h.2 c9
          refine Rf_iload_n X (j := 0) rfl rfl dX8_noDebts_39 rfl ?_
          refine Rf_goto X (tgt := 51) dX8_noDebts_40 rfl ?_
          exact Rf_iret X rfl dX8_noDebts_51 ⟨_, rfl, h⟩
      · have h := h.2 c10
        refine Rf_iconst X (v := (-1)) (by decide) dX8_noDebts_24 rfl ?_
        exact Rf_iret X rfl dX8_noDebts_25 ⟨_, rfl, h⟩
def wj_X8_unlike_78 (Q : Int32 → rfS → Prop) (kb_33 : Int32 → Int32 → Int32 → Int32 → Int32 → Int32 → rfS → Prop) (x2 : Int32) (x3 : Int32) (x4 : Int32) (x5 : Int32) (x6 : Int32) (x7 : Int32) (σ : rfS) : Prop :=
  ((x5 < x7 → kb_33 x2 x3 x4 x5 x7 (x7 + 1) σ) ∧ (¬ (x5 < x7) → vp_in (7 + x2) 42 ∧ wp_X8_toldAt σ x4 x7 (fun (r7 : Int32) (σ6 : rfS) => (((gF σ 1 ((7 + x2).toNatClampNeg)) = r7 → kb_33 x2 x3 x4 x5 x6 (x7 + 1) σ6) ∧ (¬ (gF σ 1 ((7 + x2).toNatClampNeg)) = r7 → kb_33 x2 x3 x4 x5 x7 (x7 + 1) σ6)))))
set_option maxRecDepth 20000 in
theorem sj_X8_unlike_78 {E : rfE} {Q : Int32 → rfS → Prop} (X : rfX ΛM E yX8_unlike cX8_unlike 8 (some .int)) {kb_33 : Int32 → Int32 → Int32 → Int32 → Int32 → Int32 → rfS → Prop} (hkb_33 : ∀ (x2 : Int32) (x3 : Int32) (x4 : Int32) (x5 : Int32) (x6 : Int32) (x7 : Int32) (σ : rfS), kb_33 x2 x3 x4 x5 x6 x7 σ → Rf ΛM 5 E 8 (qi Q) 33 [(0, .ref 0), (2, .int x2), (3, .int x3), (4, .int x4), (5, .int x5), (6, .int x6), (7, .int x7)] [] σ) (x2 : Int32) (x3 : Int32) (x4 : Int32) (x5 : Int32) (x6 : Int32) (x7 : Int32) (σ : rfS) (h : wj_X8_unlike_78 Q kb_33 x2 x3 x4 x5 x6 x7 σ) : Rf ΛM 5 E 8 (qi Q) 78 [(0, .ref 0), (2, .int x2), (3, .int x3), (4, .int x4), (5, .int x5), (6, .int x6), (7, .int x7)] [] σ := by
  unfold wj_X8_unlike_78 at h
  refine Rf_iload X (j := 6) rfl dX8_unlike_78 rfl ?_
  refine Rf_iload X (j := 4) rfl dX8_unlike_80 rfl ?_
  refine Rf_icmp_gt X (tgt := 105) dX8_unlike_82 rfl rfl (fun c9 => ?_) (fun c9 => ?_)
  · have h := h.1 c9
    refine Rf_iload X (j := 6) rfl dX8_unlike_105 rfl ?_
    refine Rf_istore X (i := 6) (Nat.le_of_ble_eq_true rfl) (ls2 := [(6, .int x7), (0, .ref 0), (2, .int x2), (3, .int x3), (4, .int x4), (5, .int x5), (7, .int x7)]) rfl dX8_unlike_107 rfl ?_
    refine Rf_iinc X (i := 7) (j := 6) (v := x7 + 1) rfl rfl (Nat.le_of_ble_eq_true rfl) (ls2 := [(7, .int (x7 + 1)), (6, .int x7), (0, .ref 0), (2, .int x2), (3, .int x3), (4, .int x4), (5, .int x5)]) rfl dX8_unlike_109 rfl ?_
    refine Rf_goto X (tgt := 33) dX8_unlike_112 rfl ?_
    refine Rf_sub [2, 3, 4, 5, 6, 1, 0] rfl ?_
    exact hkb_33 _ _ _ _ _ _ σ h
  · have h := h.2 c9
    refine Rf_aload_n X (j := 0) rfl rfl dX8_unlike_85 rfl ?_
    refine Rf_get X kc8 (Nat.le_of_ble_eq_true rfl) rfl (j := 1) (Nat.le_of_ble_eq_true rfl) lf_X8_9 (v := .ref 1) rfl dX8_unlike_86 rfl ?_
    refine Rf_bipush X (v := 7) rfl dX8_unlike_89 rfl ?_
    refine Rf_iload_n X (j := 1) rfl rfl dX8_unlike_91 rfl ?_
    refine Rf_iadd X dX8_unlike_92 rfl ?_
    obtain ⟨s5, h⟩ := h
    refine Rf_iaload X (Nat.le_of_ble_eq_true rfl) rfl rfl s5 dX8_unlike_93 rfl (v := gF σ 1 ((7 + x2).toNatClampNeg)) rfl ?_
    refine Rf_aload_n X (j := 0) rfl rfl dX8_unlike_94 rfl ?_
    refine Rf_iload X (j := 3) rfl dX8_unlike_95 rfl ?_
    refine Rf_iload X (j := 6) rfl dX8_unlike_97 rfl ?_
    refine Rf_cVi (as := [.int x4, .int x7]) (st := [.int (gF σ 1 ((7 + x2).toNatClampNeg))]) X mi_X8_toldAt lm_X8_112 rfl (Nat.le_of_ble_eq_true rfl) rfl (k_X8_toldAt h) (Nat.le_of_ble_eq_true rfl) rfl rfl (Nat.le_of_ble_eq_true rfl) dX8_unlike_99 rfl (fun r7 σ6 h => ?_)
    refine Rf_icmp_eq X (tgt := 109) dX8_unlike_102 rfl rfl (fun c8 => ?_) (fun c8 => ?_)
    · have h := h.1 c8
      refine Rf_iinc X (i := 7) (j := 6) (v := x7 + 1) rfl rfl (Nat.le_of_ble_eq_true rfl) (ls2 := [(7, .int (x7 + 1)), (0, .ref 0), (2, .int x2), (3, .int x3), (4, .int x4), (5, .int x5), (6, .int x6)]) rfl dX8_unlike_109 rfl ?_
      refine Rf_goto X (tgt := 33) dX8_unlike_112 rfl ?_
      refine Rf_sub [1, 2, 3, 4, 5, 6, 0] rfl ?_
      exact hkb_33 _ _ _ _ _ _ σ6 h
    · have h := h.2 c8
      refine Rf_iload X (j := 6) rfl dX8_unlike_105 rfl ?_
      refine Rf_istore X (i := 6) (Nat.le_of_ble_eq_true rfl) (ls2 := [(6, .int x7), (0, .ref 0), (2, .int x2), (3, .int x3), (4, .int x4), (5, .int x5), (7, .int x7)]) rfl dX8_unlike_107 rfl ?_
      refine Rf_iinc X (i := 7) (j := 6) (v := x7 + 1) rfl rfl (Nat.le_of_ble_eq_true rfl) (ls2 := [(7, .int (x7 + 1)), (6, .int x7), (0, .ref 0), (2, .int x2), (3, .int x3), (4, .int x4), (5, .int x5)]) rfl dX8_unlike_109 rfl ?_
      refine Rf_goto X (tgt := 33) dX8_unlike_112 rfl ?_
      refine Rf_sub [2, 3, 4, 5, 6, 1, 0] rfl ?_
      exact hkb_33 _ _ _ _ _ _ σ6 h
def wl_X8_unlike_33 (Q : Int32 → rfS → Prop) (kx_115 : Int32 → rfS → Prop) : Nat → Int32 → Int32 → Int32 → Int32 → Int32 → Int32 → rfS → Prop
  | 0, _, _, _, _, _, _, _ => False
  | n + 1, x2, x3, x4, x5, x6, x7, σ => vp_in x4 6 ∧ (((gF σ 21 (x4.toNatClampNeg)) ≤ x7 → kx_115 x6 σ) ∧ (¬ ((gF σ 21 (x4.toNatClampNeg)) ≤ x7) → ((¬ x6 = (-2) → kx_115 x6 σ) ∧ (x6 = (-2) → ((x7 ≤ 0 → wj_X8_unlike_78 Q (wl_X8_unlike_33 Q kx_115 n) x2 x3 x4 x5 x6 x7 σ) ∧ (¬ (x7 ≤ 0) → ((x5 < x7 → wj_X8_unlike_78 Q (wl_X8_unlike_33 Q kx_115 n) x2 x3 x4 x5 x6 x7 σ) ∧ (¬ (x5 < x7) → wp_X8_toldAt σ x3 (x7 - 1) (fun (r11 : Int32) (σ10 : rfS) => wp_X8_passes σ10 r11 (fun (r13 : Int32) (σ12 : rfS) => wj_X8_unlike_78 Q (wl_X8_unlike_33 Q kx_115 n) x2 x3 x4 x5 x6 x7 σ12))))))))))
set_option maxRecDepth 20000 in
theorem sl_X8_unlike_33 {E : rfE} {Q : Int32 → rfS → Prop} (X : rfX ΛM E yX8_unlike cX8_unlike 8 (some .int)) {kx_115 : Int32 → rfS → Prop} (hkx_115 : ∀ (x6 : Int32) (σ : rfS), kx_115 x6 σ → Rf ΛM 5 E 8 (qi Q) 115 [(0, .ref 0), (6, .int x6)] [] σ) : ∀ (n : Nat) (x2 : Int32) (x3 : Int32) (x4 : Int32) (x5 : Int32) (x6 : Int32) (x7 : Int32) (σ : rfS), wl_X8_unlike_33 Q kx_115 n x2 x3 x4 x5 x6 x7 σ → Rf ΛM 5 E 8 (qi Q) 33 [(0, .ref 0), (2, .int x2), (3, .int x3), (4, .int x4), (5, .int x5), (6, .int x6), (7, .int x7)] [] σ := by
  intro n
  induction n with
  | zero =>
    intro x2 x3 x4 x5 x6 x7 σ h
    exact False.elim h
  | succ n hkb_33 =>
    intro x2 x3 x4 x5 x6 x7 σ h
    unfold wl_X8_unlike_33 at h
    refine Rf_iload X (j := 6) rfl dX8_unlike_33 rfl ?_
    refine Rf_aload_n X (j := 0) rfl rfl dX8_unlike_35 rfl ?_
    refine Rf_get X kc8 (Nat.le_of_ble_eq_true rfl) rfl (j := 34) (Nat.le_of_ble_eq_true rfl) lf_X8_72 (v := .ref 21) rfl dX8_unlike_36 rfl ?_
    refine Rf_iload X (j := 3) rfl dX8_unlike_39 rfl ?_
    obtain ⟨s4, h⟩ := h
    refine Rf_iaload X (Nat.le_of_ble_eq_true rfl) rfl rfl s4 dX8_unlike_41 rfl (v := gF σ 21 (x4.toNatClampNeg)) rfl ?_
    refine Rf_icmp_ge X (tgt := 115) dX8_unlike_42 rfl rfl (fun c17 => ?_) (fun c17 => ?_)
    · have h := h.1 c17
      refine Rf_sub [0, 5] rfl ?_
      exact hkx_115 _ σ h
    · have h := h.2 c17
      refine Rf_iload X (j := 5) rfl dX8_unlike_45 rfl ?_
      refine Rf_bipush X (v := (-2)) (by decide) dX8_unlike_47 rfl ?_
      refine Rf_icmp_ne X (tgt := 115) dX8_unlike_49 rfl rfl (fun c16 => ?_) (fun c16 => ?_)
      · have h := h.1 c16
        refine Rf_sub [0, 5] rfl ?_
        exact hkx_115 _ σ h
      · have h := h.2 c16
        refine Rf_iload X (j := 6) rfl dX8_unlike_52 rfl ?_
        refine Rf_if_le X (tgt := 78) dX8_unlike_54 rfl rfl (fun c15 => ?_) (fun c15 => ?_)
        · have h := h.1 c15
          exact sj_X8_unlike_78 X hkb_33 _ _ _ _ _ _ _ h
        · have h := h.2 c15
          refine Rf_iload X (j := 6) rfl dX8_unlike_57 rfl ?_
          refine Rf_iload X (j := 4) rfl dX8_unlike_59 rfl ?_
          refine Rf_icmp_gt X (tgt := 78) dX8_unlike_61 rfl rfl (fun c14 => ?_) (fun c14 => ?_)
          · have h := h.1 c14
            exact sj_X8_unlike_78 X hkb_33 _ _ _ _ _ _ _ h
          · have h := h.2 c14
            refine Rf_aload_n X (j := 0) rfl rfl dX8_unlike_64 rfl ?_
            refine Rf_aload_n X (j := 0) rfl rfl dX8_unlike_65 rfl ?_
            refine Rf_iload_n X (j := 2) rfl rfl dX8_unlike_66 rfl ?_
            refine Rf_iload X (j := 6) rfl dX8_unlike_67 rfl ?_
            refine Rf_iconst X (v := 1) rfl dX8_unlike_69 rfl ?_
            refine Rf_isub X dX8_unlike_70 rfl ?_
            refine Rf_cVi (as := [.int x3, .int (x7 - 1)]) (st := [.ref 0]) X mi_X8_toldAt lm_X8_112 rfl (Nat.le_of_ble_eq_true rfl) rfl (k_X8_toldAt h) (Nat.le_of_ble_eq_true rfl) rfl rfl (Nat.le_of_ble_eq_true rfl) dX8_unlike_71 rfl (fun r11 σ10 h => ?_)
            refine Rf_cVi (as := [.int r11]) (st := []) X mi_X8_passes lm_X8_234 rfl (Nat.le_of_ble_eq_true rfl) rfl (k_X8_passes h) (Nat.le_of_ble_eq_true rfl) rfl rfl (Nat.le_of_ble_eq_true rfl) dX8_unlike_74 rfl (fun r13 σ12 h => ?_)
            refine Rf_pop X rfl dX8_unlike_77 rfl ?_
            exact sj_X8_unlike_78 X hkb_33 _ _ _ _ _ _ _ h
def wj_X8_unlike_115 (Q : Int32 → rfS → Prop) (x6 : Int32) (σ : rfS) : Prop :=
  wp_X8_laysBack σ 23 (fun (σ21 : rfS) => Q x6 σ21)
set_option maxRecDepth 20000 in
theorem sj_X8_unlike_115 {E : rfE} {Q : Int32 → rfS → Prop} (X : rfX ΛM E yX8_unlike cX8_unlike 8 (some .int)) (x6 : Int32) (σ : rfS) (h : wj_X8_unlike_115 Q x6 σ) : Rf ΛM 5 E 8 (qi Q) 115 [(0, .ref 0), (6, .int x6)] [] σ := by
  unfold wj_X8_unlike_115 at h
  refine Rf_aload_n X (j := 0) rfl rfl dX8_unlike_115 rfl ?_
  refine Rf_aload_n X (j := 0) rfl rfl dX8_unlike_116 rfl ?_
  refine Rf_get X kc8 (Nat.le_of_ble_eq_true rfl) rfl (j := 36) (Nat.le_of_ble_eq_true rfl) lf_X8_79 (v := .ref 23) rfl dX8_unlike_117 rfl ?_
  refine Rf_cVv (as := [.ref 23]) (st := []) X mi_X8_laysBack lm_X8_250 rfl (Nat.le_of_ble_eq_true rfl) rfl (k_X8_laysBack (by unfold isW; decide) h) (Nat.le_of_ble_eq_true rfl) rfl rfl (Nat.le_of_ble_eq_true rfl) dX8_unlike_120 rfl (fun σ21 h => ?_)
  refine Rf_iload X (j := 1) rfl dX8_unlike_123 rfl ?_
  exact Rf_iret X rfl dX8_unlike_125 ⟨_, rfl, h⟩
def wp_X8_unlike (σ : rfS) (x1 : Int32) (x2 : Int32) (Q : Int32 → rfS → Prop) : Prop :=
  wp_X8_keeps σ 23 (fun (σ1 : rfS) => wp_X8_daysOf σ1 (x1 / 10) (fun (r3 : Int32) (σ2 : rfS) => (∃ n18, wl_X8_unlike_33 Q (fun (x6_19 : Int32) (σ20 : rfS) => wj_X8_unlike_115 Q x6_19 σ20) n18 x2 (x1 / 10) (x1 - x1 / 10 * 10) r3 (-2) 0 σ2)))
set_option maxRecDepth 20000 in
theorem k_X8_unlike {σ : rfS} {x1 : Int32} {x2 : Int32} {Q : Int32 → rfS → Prop} (h : wp_X8_unlike σ x1 x2 Q) : RM ΛM 5 yX8_unlike cX8_unlike 8 (some .int) [.ref 0, .int x1, .int x2] σ (qi Q) := by
  unfold wp_X8_unlike at h
  refine RM.intro (by decide) (Nat.le_of_ble_eq_true rfl) (fun E X => ?_)
  show Rf ΛM 5 E 8 (qi Q) 0 [(0, .ref 0), (1, .int x1), (2, .int x2)] [] σ
  refine Rf_iload_n X (j := 1) rfl rfl dX8_unlike_0 rfl ?_
  refine Rf_bipush X (v := 10) rfl dX8_unlike_1 rfl ?_
  refine Rf_idiv X (by decide) dX8_unlike_3 rfl ?_
  refine Rf_istore_n X rfl (i := 3) (Nat.le_of_ble_eq_true rfl) (ls2 := [(3, .int (x1 / 10)), (0, .ref 0), (1, .int x1), (2, .int x2)]) rfl dX8_unlike_4 rfl ?_
  refine Rf_iload_n X (j := 2) rfl rfl dX8_unlike_5 rfl ?_
  refine Rf_bipush X (v := 10) rfl dX8_unlike_6 rfl ?_
  refine Rf_irem X (by decide) dX8_unlike_8 rfl ?_
  refine Rf_istore X (i := 4) (Nat.le_of_ble_eq_true rfl) (ls2 := [(4, .int (x1 - x1 / 10 * 10)), (3, .int (x1 / 10)), (0, .ref 0), (1, .int x1), (2, .int x2)]) rfl dX8_unlike_9 rfl ?_
  refine Rf_aload_n X (j := 2) rfl rfl dX8_unlike_11 rfl ?_
  refine Rf_aload_n X (j := 2) rfl rfl dX8_unlike_12 rfl ?_
  refine Rf_get X kc8 (Nat.le_of_ble_eq_true rfl) rfl (j := 36) (Nat.le_of_ble_eq_true rfl) lf_X8_79 (v := .ref 23) rfl dX8_unlike_13 rfl ?_
  refine Rf_cVv (as := [.ref 23]) (st := []) X mi_X8_keeps lm_X8_240 rfl (Nat.le_of_ble_eq_true rfl) rfl (k_X8_keeps (by unfold isW; decide) h) (Nat.le_of_ble_eq_true rfl) rfl rfl (Nat.le_of_ble_eq_true rfl) dX8_unlike_16 rfl (fun σ1 h => ?_)
  refine Rf_aload_n X (j := 2) rfl rfl dX8_unlike_19 rfl ?_
  refine Rf_iload_n X (j := 1) rfl rfl dX8_unlike_20 rfl ?_
  refine Rf_cVi (as := [.int (x1 / 10)]) (st := []) X mi_X8_daysOf lm_X8_231 rfl (Nat.le_of_ble_eq_true rfl) rfl (k_X8_daysOf h) (Nat.le_of_ble_eq_true rfl) rfl rfl (Nat.le_of_ble_eq_true rfl) dX8_unlike_21 rfl (fun r3 σ2 h => ?_)
  refine Rf_istore X (i := 5) (Nat.le_of_ble_eq_true rfl) (ls2 := [(5, .int r3), (4, .int (x1 - x1 / 10 * 10)), (3, .int (x1 / 10)), (0, .ref 0), (1, .int x1), (2, .int x2)]) rfl dX8_unlike_24 rfl ?_
  refine Rf_bipush X (v := (-2)) (by decide) dX8_unlike_26 rfl ?_
  refine Rf_istore X (i := 6) (Nat.le_of_ble_eq_true rfl) (ls2 := [(6, .int (-2)), (5, .int r3), (4, .int (x1 - x1 / 10 * 10)), (3, .int (x1 / 10)), (0, .ref 0), (1, .int x1), (2, .int x2)]) rfl dX8_unlike_28 rfl ?_
  refine Rf_iconst X (v := 0) rfl dX8_unlike_30 rfl ?_
  refine Rf_istore X (i := 7) (Nat.le_of_ble_eq_true rfl) (ls2 := [(7, .int 0), (6, .int (-2)), (5, .int r3), (4, .int (x1 - x1 / 10 * 10)), (3, .int (x1 / 10)), (0, .ref 0), (1, .int x1), (2, .int x2)]) rfl dX8_unlike_31 rfl ?_
  obtain ⟨n18, h⟩ := h
  refine Rf_sub [5, 7, 4, 3, 2, 1, 0] rfl ?_
  refine sl_X8_unlike_33 X (fun x6_19 σ20 h => ?_) n18 _ _ _ _ _ _ _ h
  · exact sj_X8_unlike_115 X _ _ h
def wp_X8_judge (σ : rfS) (x1 : Int32) (x2 : Int32) (Q : Int32 → rfS → Prop) : Prop :=
  wp_X8_noDebts σ x1 (fun (r2 : Int32) (σ1 : rfS) => ((r2 = (-1) → Q (-1) σ1) ∧ (¬ r2 = (-1) → wp_X8_isOne σ1 x2 (fun (r4 : Int32) (σ3 : rfS) => ((¬ r4 = 0 → ((0 ≤ r2 → wp_X8_unlike σ3 x1 x2 (fun (r6 : Int32) (σ5 : rfS) => Q r6 σ5)) ∧ (¬ (0 ≤ r2) → Q r2 σ3))) ∧ (r4 = 0 → Q (-1) σ3))))))
set_option maxRecDepth 20000 in
theorem k_X8_judge {σ : rfS} {x1 : Int32} {x2 : Int32} {Q : Int32 → rfS → Prop} (h : wp_X8_judge σ x1 x2 Q) : RM ΛM 6 yX8_judge cX8_judge 4 (some .int) [.ref 0, .int x1, .int x2] σ (qi Q) := by
  unfold wp_X8_judge at h
  refine RM.intro (by decide) (Nat.le_of_ble_eq_true rfl) (fun E X => ?_)
  show Rf ΛM 6 E 4 (qi Q) 0 [(0, .ref 0), (1, .int x1), (2, .int x2)] [] σ
  refine Rf_aload_n X (j := 0) rfl rfl dX8_judge_0 rfl ?_
  refine Rf_iload_n X (j := 1) rfl rfl dX8_judge_1 rfl ?_
  refine Rf_cVi (as := [.int x1]) (st := []) X mi_X8_noDebts lm_X8_281 rfl (Nat.le_of_ble_eq_true rfl) rfl (k_X8_noDebts h) (Nat.le_of_ble_eq_true rfl) rfl rfl (Nat.le_of_ble_eq_true rfl) dX8_judge_2 rfl (fun r2 σ1 h => ?_)
  refine Rf_istore_n X rfl (i := 3) (Nat.le_of_ble_eq_true rfl) (ls2 := [(3, .int r2), (0, .ref 0), (1, .int x1), (2, .int x2)]) rfl dX8_judge_5 rfl ?_
  refine Rf_iload_n X (j := 0) rfl rfl dX8_judge_6 rfl ?_
  refine Rf_iconst X (v := (-1)) (by decide) dX8_judge_7 rfl ?_
  refine Rf_icmp_eq X (tgt := 19) dX8_judge_8 rfl rfl (fun c9 => ?_) (fun c9 => ?_)
  · have h := h.1 c9
    refine Rf_iconst X (v := (-1)) (by decide) dX8_judge_19 rfl ?_
    exact Rf_iret X rfl dX8_judge_20 ⟨_, rfl, h⟩
  · have h := h.2 c9
    refine Rf_aload_n X (j := 1) rfl rfl dX8_judge_11 rfl ?_
    refine Rf_iload_n X (j := 3) rfl rfl dX8_judge_12 rfl ?_
    refine Rf_cVi (as := [.int x2]) (st := []) X mi_X8_isOne lm_X8_116 rfl (Nat.le_of_ble_eq_true rfl) rfl (k_X8_isOne h) (Nat.le_of_ble_eq_true rfl) rfl rfl (Nat.le_of_ble_eq_true rfl) dX8_judge_13 rfl (fun r4 σ3 h => ?_)
    refine Rf_if_ne X (tgt := 21) dX8_judge_16 rfl rfl (fun c8 => ?_) (fun c8 => ?_)
    · have h := h.1 c8
      refine Rf_iload_n X (j := 0) rfl rfl dX8_judge_21 rfl ?_
      refine Rf_if_ge X (tgt := 29) dX8_judge_22 rfl rfl (fun c7 => ?_) (fun c7 => ?_)
      · have h := h.1 c7
        refine Rf_aload_n X (j := 1) rfl rfl dX8_judge_29 rfl ?_
        refine Rf_iload_n X (j := 2) rfl rfl dX8_judge_30 rfl ?_
        refine Rf_iload_n X (j := 3) rfl rfl dX8_judge_31 rfl ?_
        refine Rf_cVi (as := [.int x1, .int x2]) (st := []) X mi_X8_unlike lm_X8_284 rfl (Nat.le_of_ble_eq_true rfl) rfl (k_X8_unlike h) (Nat.le_of_ble_eq_true rfl) rfl rfl (Nat.le_of_ble_eq_true rfl) dX8_judge_32 rfl (fun r6 σ5 h => ?_)
        exact Rf_iret X rfl dX8_judge_35 ⟨_, rfl, h⟩
      · have h := h.2 c7
        refine Rf_iload_n X (j := 0) rfl rfl dX8_judge_25 rfl ?_
        refine Rf_goto X (tgt := 35) dX8_judge_26 rfl ?_
        exact Rf_iret X rfl dX8_judge_35 ⟨_, rfl, h⟩
    · have h := h.2 c8
      refine Rf_iconst X (v := (-1)) (by decide) dX8_judge_19 rfl ?_
      exact Rf_iret X rfl dX8_judge_20 ⟨_, rfl, h⟩
def wl_X8_fits_96 (Q : Int32 → rfS → Prop) (kx_143 : Int32 → Int32 → Int32 → Int32 → Int32 → Int32 → rfS → Prop) : Nat → Int32 → Int32 → Int32 → Int32 → Int32 → Int32 → Int32 → Int32 → rfS → Prop
  | 0, _, _, _, _, _, _, _, _, _ => False
  | n + 1, x1, x2, x3, x5, x6, x7, x8, x9, σ => ((x9 < 0 → kx_143 x2 x3 x5 x6 x7 x8 σ) ∧ (¬ (x9 < 0) → wp_X8_becomes σ (x2 - x2 / 10 * 10) x5 x9 (fun (σ11 : rfS) => wp_X8_unlike σ11 x1 (x2 / 10) (fun (r13 : Int32) (σ12 : rfS) => ((r13 = (-2) → wl_X8_fits_96 Q kx_143 n x1 x2 x3 x5 x6 (x7 + 1) x9 (x9 + (-1)) σ12) ∧ (¬ r13 = (-2) → wl_X8_fits_96 Q kx_143 n x1 x2 x3 x5 x6 x7 x8 (x9 + (-1)) σ12))))))
set_option maxRecDepth 20000 in
theorem sl_X8_fits_96 {E : rfE} {Q : Int32 → rfS → Prop} (X : rfX ΛM E yX8_fits cX8_fits 10 (some .int)) {kx_143 : Int32 → Int32 → Int32 → Int32 → Int32 → Int32 → rfS → Prop} (hkx_143 : ∀ (x2 : Int32) (x3 : Int32) (x5 : Int32) (x6 : Int32) (x7 : Int32) (x8 : Int32) (σ : rfS), kx_143 x2 x3 x5 x6 x7 x8 σ → Rf ΛM 6 E 10 (qi Q) 143 [(0, .ref 0), (2, .int x2), (3, .int x3), (5, .int x5), (6, .int x6), (7, .int x7), (8, .int x8)] [] σ) : ∀ (n : Nat) (x1 : Int32) (x2 : Int32) (x3 : Int32) (x5 : Int32) (x6 : Int32) (x7 : Int32) (x8 : Int32) (x9 : Int32) (σ : rfS), wl_X8_fits_96 Q kx_143 n x1 x2 x3 x5 x6 x7 x8 x9 σ → Rf ΛM 6 E 10 (qi Q) 96 [(0, .ref 0), (1, .int x1), (2, .int x2), (3, .int x3), (5, .int x5), (6, .int x6), (7, .int x7), (8, .int x8), (9, .int x9)] [] σ := by
  intro n
  induction n with
  | zero =>
    intro x1 x2 x3 x5 x6 x7 x8 x9 σ h
    exact False.elim h
  | succ n hkb_96 =>
    intro x1 x2 x3 x5 x6 x7 x8 x9 σ h
    unfold wl_X8_fits_96 at h
    refine Rf_iload X (j := 8) rfl dX8_fits_96 rfl ?_
    refine Rf_if_lt X (tgt := 143) dX8_fits_98 rfl rfl (fun c15 => ?_) (fun c15 => ?_)
    · have h := h.1 c15
      refine Rf_sub [0, 2, 3, 4, 5, 6, 7] rfl ?_
      exact hkx_143 _ _ _ _ _ _ σ h
    · have h := h.2 c15
      refine Rf_aload_n X (j := 0) rfl rfl dX8_fits_101 rfl ?_
      refine Rf_iload_n X (j := 2) rfl rfl dX8_fits_102 rfl ?_
      refine Rf_bipush X (v := 10) rfl dX8_fits_103 rfl ?_
      refine Rf_irem X (by decide) dX8_fits_105 rfl ?_
      refine Rf_iload X (j := 4) rfl dX8_fits_106 rfl ?_
      refine Rf_iload X (j := 8) rfl dX8_fits_108 rfl ?_
      refine Rf_cVv (as := [.int (x2 - x2 / 10 * 10), .int x5, .int x9]) (st := []) X mi_X8_becomes lm_X8_129 rfl (Nat.le_of_ble_eq_true rfl) rfl (k_X8_becomes h) (Nat.le_of_ble_eq_true rfl) rfl rfl (Nat.le_of_ble_eq_true rfl) dX8_fits_110 rfl (fun σ11 h => ?_)
      refine Rf_aload_n X (j := 0) rfl rfl dX8_fits_113 rfl ?_
      refine Rf_iload_n X (j := 1) rfl rfl dX8_fits_114 rfl ?_
      refine Rf_iload_n X (j := 2) rfl rfl dX8_fits_115 rfl ?_
      refine Rf_bipush X (v := 10) rfl dX8_fits_116 rfl ?_
      refine Rf_idiv X (by decide) dX8_fits_118 rfl ?_
      refine Rf_cVi (as := [.int x1, .int (x2 / 10)]) (st := []) X mi_X8_unlike lm_X8_284 rfl (Nat.le_of_ble_eq_true rfl) rfl (k_X8_unlike h) (Nat.le_of_ble_eq_true rfl) rfl rfl (Nat.le_of_ble_eq_true rfl) dX8_fits_119 rfl (fun r13 σ12 h => ?_)
      refine Rf_bipush X (v := (-2)) (by decide) dX8_fits_122 rfl ?_
      refine Rf_icmp_eq X (tgt := 130) dX8_fits_124 rfl rfl (fun c14 => ?_) (fun c14 => ?_)
      · have h := h.1 c14
        refine Rf_iinc X (i := 7) (j := 6) (v := x7 + 1) rfl rfl (Nat.le_of_ble_eq_true rfl) (ls2 := [(7, .int (x7 + 1)), (0, .ref 0), (1, .int x1), (2, .int x2), (3, .int x3), (5, .int x5), (6, .int x6), (8, .int x8), (9, .int x9)]) rfl dX8_fits_130 rfl ?_
        refine Rf_iload X (j := 8) rfl dX8_fits_133 rfl ?_
        refine Rf_istore X (i := 8) (Nat.le_of_ble_eq_true rfl) (ls2 := [(8, .int x9), (7, .int (x7 + 1)), (0, .ref 0), (1, .int x1), (2, .int x2), (3, .int x3), (5, .int x5), (6, .int x6), (9, .int x9)]) rfl dX8_fits_135 rfl ?_
        refine Rf_iinc X (i := 9) (j := 8) (v := x9 + (-1)) rfl (by rw [show Int32.ofInt (-1) = (-1 : Int32) from by decide]) (Nat.le_of_ble_eq_true rfl) (ls2 := [(9, .int (x9 + (-1))), (8, .int x9), (7, .int (x7 + 1)), (0, .ref 0), (1, .int x1), (2, .int x2), (3, .int x3), (5, .int x5), (6, .int x6)]) rfl dX8_fits_137 rfl ?_
        refine Rf_goto X (tgt := 96) dX8_fits_140 rfl ?_
        refine Rf_sub [3, 4, 5, 6, 7, 8, 2, 1, 0] rfl ?_
        exact hkb_96 _ _ _ _ _ _ _ _ σ12 h
      · have h := h.2 c14
        refine Rf_goto X (tgt := 137) dX8_fits_127 rfl ?_
        refine Rf_iinc X (i := 9) (j := 8) (v := x9 + (-1)) rfl (by rw [show Int32.ofInt (-1) = (-1 : Int32) from by decide]) (Nat.le_of_ble_eq_true rfl) (ls2 := [(9, .int (x9 + (-1))), (0, .ref 0), (1, .int x1), (2, .int x2), (3, .int x3), (5, .int x5), (6, .int x6), (7, .int x7), (8, .int x8)]) rfl dX8_fits_137 rfl ?_
        refine Rf_goto X (tgt := 96) dX8_fits_140 rfl ?_
        refine Rf_sub [1, 2, 3, 4, 5, 6, 7, 8, 0] rfl ?_
        exact hkb_96 _ _ _ _ _ _ _ _ σ12 h
def wj_X8_fits_94 (Q : Int32 → rfS → Prop) (x1 : Int32) (x2 : Int32) (x3 : Int32) (x5 : Int32) (x6 : Int32) (x7 : Int32) (x8 : Int32) (xs0 : Int32) (σ : rfS) : Prop :=
  (∃ n16, wl_X8_fits_96 Q (fun (x2_17 : Int32) (x3_18 : Int32) (x5_19 : Int32) (x6_20 : Int32) (x7_21 : Int32) (x8_22 : Int32) (σ23 : rfS) => wp_X8_becomes σ23 (x2_17 - x2_17 / 10 * 10) x5_19 x6_20 (fun (σ24 : rfS) => ((¬ (x3_18 - x3_18 / 2 * 2) = 0 → Q x8_22 σ24) ∧ ((x3_18 - x3_18 / 2 * 2) = 0 → Q x7_21 σ24)))) n16 x1 x2 x3 x5 x6 x7 x8 xs0 σ)
set_option maxRecDepth 20000 in
theorem sj_X8_fits_94 {E : rfE} {Q : Int32 → rfS → Prop} (X : rfX ΛM E yX8_fits cX8_fits 10 (some .int)) (x1 : Int32) (x2 : Int32) (x3 : Int32) (x5 : Int32) (x6 : Int32) (x7 : Int32) (x8 : Int32) (xs0 : Int32) (σ : rfS) (h : wj_X8_fits_94 Q x1 x2 x3 x5 x6 x7 x8 xs0 σ) : Rf ΛM 6 E 10 (qi Q) 94 [(0, .ref 0), (1, .int x1), (2, .int x2), (3, .int x3), (5, .int x5), (6, .int x6), (7, .int x7), (8, .int x8)] [.int xs0] σ := by
  unfold wj_X8_fits_94 at h
  refine Rf_istore X (i := 9) (Nat.le_of_ble_eq_true rfl) (ls2 := [(9, .int xs0), (0, .ref 0), (1, .int x1), (2, .int x2), (3, .int x3), (5, .int x5), (6, .int x6), (7, .int x7), (8, .int x8)]) rfl dX8_fits_94 rfl ?_
  obtain ⟨n16, h⟩ := h
  refine Rf_sub [1, 2, 3, 4, 5, 6, 7, 8, 0] rfl ?_
  refine sl_X8_fits_96 X (fun x2_17 x3_18 x5_19 x6_20 x7_21 x8_22 σ23 h => ?_) n16 _ _ _ _ _ _ _ _ _ h
  · refine Rf_aload_n X (j := 0) rfl rfl dX8_fits_143 rfl ?_
    refine Rf_iload_n X (j := 1) rfl rfl dX8_fits_144 rfl ?_
    refine Rf_bipush X (v := 10) rfl dX8_fits_145 rfl ?_
    refine Rf_irem X (by decide) dX8_fits_147 rfl ?_
    refine Rf_iload X (j := 3) rfl dX8_fits_148 rfl ?_
    refine Rf_iload X (j := 4) rfl dX8_fits_150 rfl ?_
    refine Rf_cVv (as := [.int (x2_17 - x2_17 / 10 * 10), .int x5_19, .int x6_20]) (st := []) X mi_X8_becomes lm_X8_129 rfl (Nat.le_of_ble_eq_true rfl) rfl (k_X8_becomes h) (Nat.le_of_ble_eq_true rfl) rfl rfl (Nat.le_of_ble_eq_true rfl) dX8_fits_152 rfl (fun σ24 h => ?_)
    refine Rf_iload_n X (j := 2) rfl rfl dX8_fits_155 rfl ?_
    refine Rf_iconst X (v := 2) rfl dX8_fits_156 rfl ?_
    refine Rf_irem X (by decide) dX8_fits_157 rfl ?_
    refine Rf_if_ne X (tgt := 166) dX8_fits_158 rfl rfl (fun c25 => ?_) (fun c25 => ?_)
    · have h := h.1 c25
      refine Rf_iload X (j := 6) rfl dX8_fits_166 rfl ?_
      exact Rf_iret X rfl dX8_fits_168 ⟨_, rfl, h⟩
    · have h := h.2 c25
      refine Rf_iload X (j := 5) rfl dX8_fits_161 rfl ?_
      refine Rf_goto X (tgt := 168) dX8_fits_163 rfl ?_
      exact Rf_iret X rfl dX8_fits_168 ⟨_, rfl, h⟩
def wp_X8_fits (σ : rfS) (x1 : Int32) (x2 : Int32) (x3 : Int32) (Q : Int32 → rfS → Prop) : Prop :=
  wp_X8_noDebts σ x1 (fun (r2 : Int32) (σ1 : rfS) => ((r2 = (-1) → Q (-1) σ1) ∧ (¬ r2 = (-1) → ((x2 < 0 → Q (-1) σ1) ∧ (¬ (x2 < 0) → wp_X8_isOne σ1 (x2 / 10) (fun (r4 : Int32) (σ3 : rfS) => ((r4 = 0 → Q (-1) σ3) ∧ (¬ r4 = 0 → wp_X8_isOne σ3 (x2 - x2 / 10 * 10) (fun (r6 : Int32) (σ5 : rfS) => ((r6 = 0 → Q (-1) σ5) ∧ (¬ r6 = 0 → wp_X8_within σ5 x3 0 3 (fun (r8 : Int32) (σ7 : rfS) => ((¬ r8 = 0 → ((0 ≤ r2 → wp_X8_get σ7 (x2 - x2 / 10 * 10) (x3 / 2) (fun (r10 : Int32) (σ9 : rfS) => ((¬ (x3 / 2) = 0 → wj_X8_fits_94 Q x1 x2 x3 (x3 / 2) r10 0 (-2) 99 σ9) ∧ ((x3 / 2) = 0 → wj_X8_fits_94 Q x1 x2 x3 (x3 / 2) r10 0 (-2) 127 σ9)))) ∧ (¬ (0 ≤ r2) → Q r2 σ7))) ∧ (r8 = 0 → Q (-1) σ7))))))))))))))
set_option maxRecDepth 20000 in
theorem k_X8_fits {σ : rfS} {x1 : Int32} {x2 : Int32} {x3 : Int32} {Q : Int32 → rfS → Prop} (h : wp_X8_fits σ x1 x2 x3 Q) : RM ΛM 6 yX8_fits cX8_fits 10 (some .int) [.ref 0, .int x1, .int x2, .int x3] σ (qi Q) := by
  unfold wp_X8_fits at h
  refine RM.intro (by decide) (Nat.le_of_ble_eq_true rfl) (fun E X => ?_)
  show Rf ΛM 6 E 10 (qi Q) 0 [(0, .ref 0), (1, .int x1), (2, .int x2), (3, .int x3)] [] σ
  refine Rf_aload_n X (j := 0) rfl rfl dX8_fits_0 rfl ?_
  refine Rf_iload_n X (j := 1) rfl rfl dX8_fits_1 rfl ?_
  refine Rf_cVi (as := [.int x1]) (st := []) X mi_X8_noDebts lm_X8_281 rfl (Nat.le_of_ble_eq_true rfl) rfl (k_X8_noDebts h) (Nat.le_of_ble_eq_true rfl) rfl rfl (Nat.le_of_ble_eq_true rfl) dX8_fits_2 rfl (fun r2 σ1 h => ?_)
  refine Rf_istore X (i := 4) (Nat.le_of_ble_eq_true rfl) (ls2 := [(4, .int r2), (0, .ref 0), (1, .int x1), (2, .int x2), (3, .int x3)]) rfl dX8_fits_5 rfl ?_
  refine Rf_iload X (j := 0) rfl dX8_fits_7 rfl ?_
  refine Rf_iconst X (v := (-1)) (by decide) dX8_fits_9 rfl ?_
  refine Rf_icmp_eq X (tgt := 48) dX8_fits_10 rfl rfl (fun c32 => ?_) (fun c32 => ?_)
  · have h := h.1 c32
    refine Rf_iconst X (v := (-1)) (by decide) dX8_fits_48 rfl ?_
    exact Rf_iret X rfl dX8_fits_49 ⟨_, rfl, h⟩
  · have h := h.2 c32
    refine Rf_iload_n X (j := 3) rfl rfl dX8_fits_13 rfl ?_
    refine Rf_if_lt X (tgt := 48) dX8_fits_14 rfl rfl (fun c31 => ?_) (fun c31 => ?_)
    · have h := h.1 c31
      refine Rf_iconst X (v := (-1)) (by decide) dX8_fits_48 rfl ?_
      exact Rf_iret X rfl dX8_fits_49 ⟨_, rfl, h⟩
    · have h := h.2 c31
      refine Rf_aload_n X (j := 1) rfl rfl dX8_fits_17 rfl ?_
      refine Rf_iload_n X (j := 3) rfl rfl dX8_fits_18 rfl ?_
      refine Rf_bipush X (v := 10) rfl dX8_fits_19 rfl ?_
      refine Rf_idiv X (by decide) dX8_fits_21 rfl ?_
      refine Rf_cVi (as := [.int (x2 / 10)]) (st := []) X mi_X8_isOne lm_X8_116 rfl (Nat.le_of_ble_eq_true rfl) rfl (k_X8_isOne h) (Nat.le_of_ble_eq_true rfl) rfl rfl (Nat.le_of_ble_eq_true rfl) dX8_fits_22 rfl (fun r4 σ3 h => ?_)
      refine Rf_if_eq X (tgt := 48) dX8_fits_25 rfl rfl (fun c30 => ?_) (fun c30 => ?_)
      · have h := h.1 c30
        refine Rf_iconst X (v := (-1)) (by decide) dX8_fits_48 rfl ?_
        exact Rf_iret X rfl dX8_fits_49 ⟨_, rfl, h⟩
      · have h := h.2 c30
        refine Rf_aload_n X (j := 1) rfl rfl dX8_fits_28 rfl ?_
        refine Rf_iload_n X (j := 3) rfl rfl dX8_fits_29 rfl ?_
        refine Rf_bipush X (v := 10) rfl dX8_fits_30 rfl ?_
        refine Rf_irem X (by decide) dX8_fits_32 rfl ?_
        refine Rf_cVi (as := [.int (x2 - x2 / 10 * 10)]) (st := []) X mi_X8_isOne lm_X8_116 rfl (Nat.le_of_ble_eq_true rfl) rfl (k_X8_isOne h) (Nat.le_of_ble_eq_true rfl) rfl rfl (Nat.le_of_ble_eq_true rfl) dX8_fits_33 rfl (fun r6 σ5 h => ?_)
        refine Rf_if_eq X (tgt := 48) dX8_fits_36 rfl rfl (fun c29 => ?_) (fun c29 => ?_)
        · have h := h.1 c29
          refine Rf_iconst X (v := (-1)) (by decide) dX8_fits_48 rfl ?_
          exact Rf_iret X rfl dX8_fits_49 ⟨_, rfl, h⟩
        · have h := h.2 c29
          refine Rf_iload_n X (j := 4) rfl rfl dX8_fits_39 rfl ?_
          refine Rf_iconst X (v := 0) rfl dX8_fits_40 rfl ?_
          refine Rf_iconst X (v := 3) rfl dX8_fits_41 rfl ?_
          refine Rf_cSi (as := [.int x3, .int 0, .int 3]) (st := []) X ms_X8_within lm_X8_98 (k_X8_within h) (Nat.le_of_ble_eq_true rfl) rfl rfl (Nat.le_of_ble_eq_true rfl) dX8_fits_42 rfl (fun r8 σ7 h => ?_)
          refine Rf_if_ne X (tgt := 50) dX8_fits_45 rfl rfl (fun c28 => ?_) (fun c28 => ?_)
          · have h := h.1 c28
            refine Rf_iload X (j := 0) rfl dX8_fits_50 rfl ?_
            refine Rf_if_ge X (tgt := 58) dX8_fits_52 rfl rfl (fun c27 => ?_) (fun c27 => ?_)
            · have h := h.1 c27
              refine Rf_iload_n X (j := 4) rfl rfl dX8_fits_58 rfl ?_
              refine Rf_iconst X (v := 2) rfl dX8_fits_59 rfl ?_
              refine Rf_idiv X (by decide) dX8_fits_60 rfl ?_
              refine Rf_istore X (i := 5) (Nat.le_of_ble_eq_true rfl) (ls2 := [(5, .int (x3 / 2)), (4, .int r2), (0, .ref 0), (1, .int x1), (2, .int x2), (3, .int x3)]) rfl dX8_fits_61 rfl ?_
              refine Rf_aload_n X (j := 2) rfl rfl dX8_fits_63 rfl ?_
              refine Rf_iload_n X (j := 4) rfl rfl dX8_fits_64 rfl ?_
              refine Rf_bipush X (v := 10) rfl dX8_fits_65 rfl ?_
              refine Rf_irem X (by decide) dX8_fits_67 rfl ?_
              refine Rf_iload X (j := 0) rfl dX8_fits_68 rfl ?_
              refine Rf_cVi (as := [.int (x2 - x2 / 10 * 10), .int (x3 / 2)]) (st := []) X mi_X8_get lm_X8_126 rfl (Nat.le_of_ble_eq_true rfl) rfl (k_X8_get h) (Nat.le_of_ble_eq_true rfl) rfl rfl (Nat.le_of_ble_eq_true rfl) dX8_fits_70 rfl (fun r10 σ9 h => ?_)
              refine Rf_istore X (i := 6) (Nat.le_of_ble_eq_true rfl) (ls2 := [(6, .int r10), (5, .int (x3 / 2)), (4, .int r2), (0, .ref 0), (1, .int x1), (2, .int x2), (3, .int x3)]) rfl dX8_fits_73 rfl ?_
              refine Rf_iconst X (v := 0) rfl dX8_fits_75 rfl ?_
              refine Rf_istore X (i := 7) (Nat.le_of_ble_eq_true rfl) (ls2 := [(7, .int 0), (6, .int r10), (5, .int (x3 / 2)), (4, .int r2), (0, .ref 0), (1, .int x1), (2, .int x2), (3, .int x3)]) rfl dX8_fits_76 rfl ?_
              refine Rf_bipush X (v := (-2)) (by decide) dX8_fits_78 rfl ?_
              refine Rf_istore X (i := 8) (Nat.le_of_ble_eq_true rfl) (ls2 := [(8, .int (-2)), (7, .int 0), (6, .int r10), (5, .int (x3 / 2)), (4, .int r2), (0, .ref 0), (1, .int x1), (2, .int x2), (3, .int x3)]) rfl dX8_fits_80 rfl ?_
              refine Rf_iload X (j := 3) rfl dX8_fits_82 rfl ?_
              refine Rf_if_ne X (tgt := 92) dX8_fits_84 rfl rfl (fun c26 => ?_) (fun c26 => ?_)
              · have h := h.1 c26
                refine Rf_bipush X (v := 99) rfl dX8_fits_92 rfl ?_
                refine Rf_sub [5, 6, 7, 8, 3, 2, 1, 0] rfl ?_
                exact sj_X8_fits_94 X _ _ _ _ _ _ _ _ _ h
              · have h := h.2 c26
                refine Rf_bipush X (v := 127) rfl dX8_fits_87 rfl ?_
                refine Rf_goto X (tgt := 94) dX8_fits_89 rfl ?_
                refine Rf_sub [5, 6, 7, 8, 3, 2, 1, 0] rfl ?_
                exact sj_X8_fits_94 X _ _ _ _ _ _ _ _ _ h
            · have h := h.2 c27
              refine Rf_iload X (j := 0) rfl dX8_fits_55 rfl ?_
              exact Rf_iret X rfl dX8_fits_57 ⟨_, rfl, h⟩
          · have h := h.2 c28
            refine Rf_iconst X (v := (-1)) (by decide) dX8_fits_48 rfl ?_
            exact Rf_iret X rfl dX8_fits_49 ⟨_, rfl, h⟩
def wl_X8_turnBy_25 (κ_X8_turnFrom : rfS → Int32 → Int32 → Int32 → (Int32 → rfS → Prop) → Prop) (Q : Int32 → rfS → Prop) (kx_84 : Int32 → Int32 → Int32 → Int32 → Int32 → Int32 → Int64 → Int64 → rfS → Prop) : Nat → Int32 → Int32 → Int32 → Int32 → Int32 → Int32 → Int64 → Int64 → Int32 → rfS → Prop
  | 0, _, _, _, _, _, _, _, _, _, _ => False
  | n + 1, x1, x2, x3, x4, x5, x6, y7, y9, x11, σ => (((gI σ 0 0) ≤ x11 → kx_84 x1 x2 x3 x4 x5 x6 y7 y9 σ) ∧ (¬ ((gI σ 0 0) ≤ x11) → vp_in (7 + x11) 42 ∧ vp_in (14 + x11) 42 ∧ (wl_X8_turnBy_25 κ_X8_turnFrom Q kx_84 n x1 x2 x3 x4 x5 x6 (y7 ||| (((gF σ 1 ((7 + x11).toNatClampNeg)).toInt64) <<< ((8 * x11).toInt64 &&& 63))) (y9 ||| (((gF σ 1 ((14 + x11).toNatClampNeg)).toInt64) <<< ((8 * x11).toInt64 &&& 63))) (x11 + 1) σ)))
set_option maxRecDepth 20000 in
theorem sl_X8_turnBy_25 {d : Nat} {E : rfE} {Q : Int32 → rfS → Prop} (X : rfX ΛM E yX8_turnBy cX8_turnBy 15 (some .int)) {κ_X8_turnFrom : rfS → Int32 → Int32 → Int32 → (Int32 → rfS → Prop) → Prop} (hκ_X8_turnFrom : ∀ (σ : rfS) (x1 : Int32) (x2 : Int32) (x3 : Int32) (Q : Int32 → rfS → Prop), κ_X8_turnFrom σ x1 x2 x3 Q → RM ΛM d yX8_turnFrom cX8_turnFrom 6 (some .int) [.ref 0, .int x1, .int x2, .int x3] σ (qi Q)) (hB : 4 ≤ d) {kx_84 : Int32 → Int32 → Int32 → Int32 → Int32 → Int32 → Int64 → Int64 → rfS → Prop} (hkx_84 : ∀ (x1 : Int32) (x2 : Int32) (x3 : Int32) (x4 : Int32) (x5 : Int32) (x6 : Int32) (y7 : Int64) (y9 : Int64) (σ : rfS), kx_84 x1 x2 x3 x4 x5 x6 y7 y9 σ → Rf ΛM (d + 1) E 15 (qi Q) 84 [(0, .ref 0), (1, .int x1), (2, .int x2), (3, .int x3), (4, .int x4), (5, .int x5), (6, .int x6), (7, .long y7), (9, .long y9)] [] σ) : ∀ (n : Nat) (x1 : Int32) (x2 : Int32) (x3 : Int32) (x4 : Int32) (x5 : Int32) (x6 : Int32) (y7 : Int64) (y9 : Int64) (x11 : Int32) (σ : rfS), wl_X8_turnBy_25 κ_X8_turnFrom Q kx_84 n x1 x2 x3 x4 x5 x6 y7 y9 x11 σ → Rf ΛM (d + 1) E 15 (qi Q) 25 [(0, .ref 0), (1, .int x1), (2, .int x2), (3, .int x3), (4, .int x4), (5, .int x5), (6, .int x6), (7, .long y7), (9, .long y9), (11, .int x11)] [] σ := by
  intro n
  induction n with
  | zero =>
    intro x1 x2 x3 x4 x5 x6 y7 y9 x11 σ h
    exact False.elim h
  | succ n hkb_25 =>
    intro x1 x2 x3 x4 x5 x6 y7 y9 x11 σ h
    unfold wl_X8_turnBy_25 at h
    refine Rf_iload X (j := 9) rfl dX8_turnBy_25 rfl ?_
    refine Rf_aload_n X (j := 0) rfl rfl dX8_turnBy_27 rfl ?_
    refine Rf_get X kc8 (Nat.le_of_ble_eq_true rfl) rfl (j := 0) (Nat.le_of_ble_eq_true rfl) lf_X8_94 (v := .int (gI σ 0 0)) rfl dX8_turnBy_28 rfl ?_
    refine Rf_icmp_ge X (tgt := 84) dX8_turnBy_31 rfl rfl (fun c3 => ?_) (fun c3 => ?_)
    · have h := h.1 c3
      refine Rf_sub [0, 1, 2, 3, 4, 5, 6, 7, 8] rfl ?_
      exact hkx_84 _ _ _ _ _ _ _ _ σ h
    · have h := h.2 c3
      refine Rf_lload X (j := 7) rfl dX8_turnBy_34 rfl ?_
      refine Rf_aload_n X (j := 0) rfl rfl dX8_turnBy_36 rfl ?_
      refine Rf_get X kc8 (Nat.le_of_ble_eq_true rfl) rfl (j := 1) (Nat.le_of_ble_eq_true rfl) lf_X8_9 (v := .ref 1) rfl dX8_turnBy_37 rfl ?_
      refine Rf_bipush X (v := 7) rfl dX8_turnBy_40 rfl ?_
      refine Rf_iload X (j := 9) rfl dX8_turnBy_42 rfl ?_
      refine Rf_iadd X dX8_turnBy_44 rfl ?_
      obtain ⟨s1, h⟩ := h
      refine Rf_iaload X (Nat.le_of_ble_eq_true rfl) rfl rfl s1 dX8_turnBy_45 rfl (v := gF σ 1 ((7 + x11).toNatClampNeg)) rfl ?_
      refine Rf_i2l X dX8_turnBy_46 rfl ?_
      refine Rf_bipush X (v := 8) rfl dX8_turnBy_47 rfl ?_
      refine Rf_iload X (j := 9) rfl dX8_turnBy_49 rfl ?_
      refine Rf_imul X dX8_turnBy_51 rfl ?_
      refine Rf_lshl X dX8_turnBy_52 rfl ?_
      refine Rf_lor X dX8_turnBy_53 rfl ?_
      refine Rf_lstore X (i := 7) (Nat.le_of_ble_eq_true rfl) (ls2 := [(7, .long (y7 ||| (((gF σ 1 ((7 + x11).toNatClampNeg)).toInt64) <<< ((8 * x11).toInt64 &&& 63)))), (0, .ref 0), (1, .int x1), (2, .int x2), (3, .int x3), (4, .int x4), (5, .int x5), (6, .int x6), (9, .long y9), (11, .int x11)]) rfl dX8_turnBy_54 rfl ?_
      refine Rf_lload X (j := 8) rfl dX8_turnBy_56 rfl ?_
      refine Rf_aload_n X (j := 1) rfl rfl dX8_turnBy_58 rfl ?_
      refine Rf_get X kc8 (Nat.le_of_ble_eq_true rfl) rfl (j := 1) (Nat.le_of_ble_eq_true rfl) lf_X8_9 (v := .ref 1) rfl dX8_turnBy_59 rfl ?_
      refine Rf_bipush X (v := 14) rfl dX8_turnBy_62 rfl ?_
      refine Rf_iload X (j := 9) rfl dX8_turnBy_64 rfl ?_
      refine Rf_iadd X dX8_turnBy_66 rfl ?_
      obtain ⟨s2, h⟩ := h
      refine Rf_iaload X (Nat.le_of_ble_eq_true rfl) rfl rfl s2 dX8_turnBy_67 rfl (v := gF σ 1 ((14 + x11).toNatClampNeg)) rfl ?_
      refine Rf_i2l X dX8_turnBy_68 rfl ?_
      refine Rf_bipush X (v := 8) rfl dX8_turnBy_69 rfl ?_
      refine Rf_iload X (j := 9) rfl dX8_turnBy_71 rfl ?_
      refine Rf_imul X dX8_turnBy_73 rfl ?_
      refine Rf_lshl X dX8_turnBy_74 rfl ?_
      refine Rf_lor X dX8_turnBy_75 rfl ?_
      refine Rf_lstore X (i := 9) (Nat.le_of_ble_eq_true rfl) (ls2 := [(9, .long (y9 ||| (((gF σ 1 ((14 + x11).toNatClampNeg)).toInt64) <<< ((8 * x11).toInt64 &&& 63)))), (7, .long (y7 ||| (((gF σ 1 ((7 + x11).toNatClampNeg)).toInt64) <<< ((8 * x11).toInt64 &&& 63)))), (0, .ref 0), (1, .int x1), (2, .int x2), (3, .int x3), (4, .int x4), (5, .int x5), (6, .int x6), (11, .int x11)]) rfl dX8_turnBy_76 rfl ?_
      refine Rf_iinc X (i := 11) (j := 9) (v := x11 + 1) rfl rfl (Nat.le_of_ble_eq_true rfl) (ls2 := [(11, .int (x11 + 1)), (9, .long (y9 ||| (((gF σ 1 ((14 + x11).toNatClampNeg)).toInt64) <<< ((8 * x11).toInt64 &&& 63)))), (7, .long (y7 ||| (((gF σ 1 ((7 + x11).toNatClampNeg)).toInt64) <<< ((8 * x11).toInt64 &&& 63)))), (0, .ref 0), (1, .int x1), (2, .int x2), (3, .int x3), (4, .int x4), (5, .int x5), (6, .int x6)]) rfl dX8_turnBy_78 rfl ?_
      refine Rf_goto X (tgt := 25) dX8_turnBy_81 rfl ?_
      refine Rf_sub [3, 4, 5, 6, 7, 8, 9, 2, 1, 0] rfl ?_
      exact hkb_25 _ _ _ _ _ _ _ _ _ σ h
def wl_X8_turnBy_166 (κ_X8_turnFrom : rfS → Int32 → Int32 → Int32 → (Int32 → rfS → Prop) → Prop) (Q : Int32 → rfS → Prop) : Nat → Int64 → Int64 → Int32 → Int32 → rfS → Prop
  | 0, _, _, _, _, _ => False
  | n + 1, y7, y9, x13, x14, σ => (((gI σ 0 0) ≤ x14 → Q x13 σ) ∧ (¬ ((gI σ 0 0) ≤ x14) → vp_in (7 + x14) 42 ∧ vp_in (14 + x14) 42 ∧ (wl_X8_turnBy_166 κ_X8_turnFrom Q n y7 y9 x13 (x14 + 1) (sF (sF σ 1 ((7 + x14).toNatClampNeg) (((y7 >>> ((8 * x14).toInt64 &&& 63)) &&& 255).toInt32)) 1 ((14 + x14).toNatClampNeg) (((y9 >>> ((8 * x14).toInt64 &&& 63)) &&& 255).toInt32)))))
set_option maxRecDepth 20000 in
theorem sl_X8_turnBy_166 {d : Nat} {E : rfE} {Q : Int32 → rfS → Prop} (X : rfX ΛM E yX8_turnBy cX8_turnBy 15 (some .int)) {κ_X8_turnFrom : rfS → Int32 → Int32 → Int32 → (Int32 → rfS → Prop) → Prop} (hκ_X8_turnFrom : ∀ (σ : rfS) (x1 : Int32) (x2 : Int32) (x3 : Int32) (Q : Int32 → rfS → Prop), κ_X8_turnFrom σ x1 x2 x3 Q → RM ΛM d yX8_turnFrom cX8_turnFrom 6 (some .int) [.ref 0, .int x1, .int x2, .int x3] σ (qi Q)) (hB : 4 ≤ d) : ∀ (n : Nat) (y7 : Int64) (y9 : Int64) (x13 : Int32) (x14 : Int32) (σ : rfS), wl_X8_turnBy_166 κ_X8_turnFrom Q n y7 y9 x13 x14 σ → Rf ΛM (d + 1) E 15 (qi Q) 166 [(0, .ref 0), (7, .long y7), (9, .long y9), (13, .int x13), (14, .int x14)] [] σ := by
  intro n
  induction n with
  | zero =>
    intro y7 y9 x13 x14 σ h
    exact False.elim h
  | succ n hkb_166 =>
    intro y7 y9 x13 x14 σ h
    unfold wl_X8_turnBy_166 at h
    refine Rf_iload X (j := 4) rfl dX8_turnBy_166 rfl ?_
    refine Rf_aload_n X (j := 0) rfl rfl dX8_turnBy_168 rfl ?_
    refine Rf_get X kc8 (Nat.le_of_ble_eq_true rfl) rfl (j := 0) (Nat.le_of_ble_eq_true rfl) lf_X8_94 (v := .int (gI σ 0 0)) rfl dX8_turnBy_169 rfl ?_
    refine Rf_icmp_ge X (tgt := 227) dX8_turnBy_172 rfl rfl (fun c20 => ?_) (fun c20 => ?_)
    · have h := h.1 c20
      refine Rf_iload X (j := 3) rfl dX8_turnBy_227 rfl ?_
      exact Rf_iret X rfl dX8_turnBy_229 ⟨_, rfl, h⟩
    · have h := h.2 c20
      refine Rf_aload_n X (j := 0) rfl rfl dX8_turnBy_175 rfl ?_
      refine Rf_get X kc8 (Nat.le_of_ble_eq_true rfl) rfl (j := 1) (Nat.le_of_ble_eq_true rfl) lf_X8_9 (v := .ref 1) rfl dX8_turnBy_176 rfl ?_
      refine Rf_bipush X (v := 7) rfl dX8_turnBy_179 rfl ?_
      refine Rf_iload X (j := 4) rfl dX8_turnBy_181 rfl ?_
      refine Rf_iadd X dX8_turnBy_183 rfl ?_
      refine Rf_lload X (j := 1) rfl dX8_turnBy_184 rfl ?_
      refine Rf_bipush X (v := 8) rfl dX8_turnBy_186 rfl ?_
      refine Rf_iload X (j := 4) rfl dX8_turnBy_188 rfl ?_
      refine Rf_imul X dX8_turnBy_190 rfl ?_
      refine Rf_lshr X dX8_turnBy_191 rfl ?_
      refine Rf_ldc2 X lc_X8_294 dX8_turnBy_192 rfl ?_
      refine Rf_land X dX8_turnBy_195 rfl ?_
      refine Rf_l2i X dX8_turnBy_196 rfl ?_
      obtain ⟨s18, h⟩ := h
      refine Rf_iastore X (Nat.le_of_ble_eq_true rfl) rfl rfl s18 dX8_turnBy_197 rfl ?_
      refine Rf_aload_n X (j := 0) rfl rfl dX8_turnBy_198 rfl ?_
      refine Rf_get X kc8 (Nat.le_of_ble_eq_true rfl) rfl (j := 1) (Nat.le_of_ble_eq_true rfl) lf_X8_9 (v := .ref 1) rfl dX8_turnBy_199 rfl ?_
      refine Rf_bipush X (v := 14) rfl dX8_turnBy_202 rfl ?_
      refine Rf_iload X (j := 4) rfl dX8_turnBy_204 rfl ?_
      refine Rf_iadd X dX8_turnBy_206 rfl ?_
      refine Rf_lload X (j := 2) rfl dX8_turnBy_207 rfl ?_
      refine Rf_bipush X (v := 8) rfl dX8_turnBy_209 rfl ?_
      refine Rf_iload X (j := 4) rfl dX8_turnBy_211 rfl ?_
      refine Rf_imul X dX8_turnBy_213 rfl ?_
      refine Rf_lshr X dX8_turnBy_214 rfl ?_
      refine Rf_ldc2 X lc_X8_294 dX8_turnBy_215 rfl ?_
      refine Rf_land X dX8_turnBy_218 rfl ?_
      refine Rf_l2i X dX8_turnBy_219 rfl ?_
      obtain ⟨s19, h⟩ := h
      refine Rf_iastore X (Nat.le_of_ble_eq_true rfl) rfl rfl s19 dX8_turnBy_220 rfl ?_
      refine Rf_iinc X (i := 14) (j := 4) (v := x14 + 1) rfl rfl (Nat.le_of_ble_eq_true rfl) (ls2 := [(14, .int (x14 + 1)), (0, .ref 0), (7, .long y7), (9, .long y9), (13, .int x13)]) rfl dX8_turnBy_221 rfl ?_
      refine Rf_goto X (tgt := 166) dX8_turnBy_224 rfl ?_
      refine Rf_sub [1, 2, 3, 4, 0] rfl ?_
      exact hkb_166 _ _ _ _ (sF (sF σ 1 ((7 + x14).toNatClampNeg) (((y7 >>> ((8 * x14).toInt64 &&& 63)) &&& 255).toInt32)) 1 ((14 + x14).toNatClampNeg) (((y9 >>> ((8 * x14).toInt64 &&& 63)) &&& 255).toInt32)) h
def wj_X8_turnBy_135 (κ_X8_turnFrom : rfS → Int32 → Int32 → Int32 → (Int32 → rfS → Prop) → Prop) (Q : Int32 → rfS → Prop) (x1 : Int32) (x2 : Int32) (x3 : Int32) (x5 : Int32) (x6 : Int32) (y7 : Int64) (y9 : Int64) (xs0 : Int32) (σ : rfS) : Prop :=
  κ_X8_turnFrom σ (x1 + 1) x2 x3 (fun (r17 : Int32) (σ16 : rfS) => (∃ n21, wl_X8_turnBy_166 κ_X8_turnFrom Q n21 y7 y9 (xs0 + r17) 0 (sF (sF σ16 2 0 x5) 2 1 x6)))
set_option maxRecDepth 20000 in
theorem sj_X8_turnBy_135 {d : Nat} {E : rfE} {Q : Int32 → rfS → Prop} (X : rfX ΛM E yX8_turnBy cX8_turnBy 15 (some .int)) {κ_X8_turnFrom : rfS → Int32 → Int32 → Int32 → (Int32 → rfS → Prop) → Prop} (hκ_X8_turnFrom : ∀ (σ : rfS) (x1 : Int32) (x2 : Int32) (x3 : Int32) (Q : Int32 → rfS → Prop), κ_X8_turnFrom σ x1 x2 x3 Q → RM ΛM d yX8_turnFrom cX8_turnFrom 6 (some .int) [.ref 0, .int x1, .int x2, .int x3] σ (qi Q)) (hB : 4 ≤ d) (x1 : Int32) (x2 : Int32) (x3 : Int32) (x5 : Int32) (x6 : Int32) (y7 : Int64) (y9 : Int64) (xs0 : Int32) (σ : rfS) (h : wj_X8_turnBy_135 κ_X8_turnFrom Q x1 x2 x3 x5 x6 y7 y9 xs0 σ) : Rf ΛM (d + 1) E 15 (qi Q) 135 [(0, .ref 0), (1, .int x1), (2, .int x2), (3, .int x3), (5, .int x5), (6, .int x6), (7, .long y7), (9, .long y9)] [.int xs0] σ := by
  unfold wj_X8_turnBy_135 at h
  refine Rf_aload_n X (j := 0) rfl rfl dX8_turnBy_135 rfl ?_
  refine Rf_iload_n X (j := 1) rfl rfl dX8_turnBy_136 rfl ?_
  refine Rf_iconst X (v := 1) rfl dX8_turnBy_137 rfl ?_
  refine Rf_iadd X dX8_turnBy_138 rfl ?_
  refine Rf_iload_n X (j := 2) rfl rfl dX8_turnBy_139 rfl ?_
  refine Rf_iload_n X (j := 3) rfl rfl dX8_turnBy_140 rfl ?_
  refine Rf_cVi (as := [.int (x1 + 1), .int x2, .int x3]) (st := [.int xs0]) X mi_X8_turnFrom lm_X8_291 rfl (Nat.le_of_ble_eq_true rfl) rfl (hκ_X8_turnFrom _ _ _ _ _ h) (Nat.le_refl _) rfl rfl (Nat.le_of_ble_eq_true rfl) dX8_turnBy_141 rfl (fun r17 σ16 h => ?_)
  refine Rf_iadd X dX8_turnBy_144 rfl ?_
  refine Rf_istore X (i := 13) (Nat.le_of_ble_eq_true rfl) (ls2 := [(13, .int (xs0 + r17)), (0, .ref 0), (1, .int x1), (2, .int x2), (3, .int x3), (5, .int x5), (6, .int x6), (7, .long y7), (9, .long y9)]) rfl dX8_turnBy_145 rfl ?_
  refine Rf_aload_n X (j := 1) rfl rfl dX8_turnBy_147 rfl ?_
  refine Rf_get X kc8 (Nat.le_of_ble_eq_true rfl) rfl (j := 2) (Nat.le_of_ble_eq_true rfl) lf_X8_15 (v := .ref 2) rfl dX8_turnBy_148 rfl ?_
  refine Rf_iconst X (v := 0) rfl dX8_turnBy_151 rfl ?_
  refine Rf_iload X (j := 5) rfl dX8_turnBy_152 rfl ?_
  refine Rf_iastore X (Nat.le_of_ble_eq_true rfl) rfl rfl (by unfold vp_in; decide) dX8_turnBy_154 rfl ?_
  refine Rf_aload_n X (j := 1) rfl rfl dX8_turnBy_155 rfl ?_
  refine Rf_get X kc8 (Nat.le_of_ble_eq_true rfl) rfl (j := 2) (Nat.le_of_ble_eq_true rfl) lf_X8_15 (v := .ref 2) rfl dX8_turnBy_156 rfl ?_
  refine Rf_iconst X (v := 1) rfl dX8_turnBy_159 rfl ?_
  refine Rf_iload X (j := 6) rfl dX8_turnBy_160 rfl ?_
  refine Rf_iastore X (Nat.le_of_ble_eq_true rfl) rfl rfl (by unfold vp_in; decide) dX8_turnBy_162 rfl ?_
  refine Rf_iconst X (v := 0) rfl dX8_turnBy_163 rfl ?_
  refine Rf_istore X (i := 14) (Nat.le_of_ble_eq_true rfl) (ls2 := [(14, .int 0), (13, .int (xs0 + r17)), (0, .ref 0), (1, .int x1), (2, .int x2), (3, .int x3), (5, .int x5), (6, .int x6), (7, .long y7), (9, .long y9)]) rfl dX8_turnBy_164 rfl ?_
  obtain ⟨n21, h⟩ := h
  refine Rf_sub [2, 8, 9, 1, 0] rfl ?_
  exact sl_X8_turnBy_166 X hκ_X8_turnFrom hB n21 _ _ _ _ _ h
def wj_X8_turnBy_116 (κ_X8_turnFrom : rfS → Int32 → Int32 → Int32 → (Int32 → rfS → Prop) → Prop) (Q : Int32 → rfS → Prop) (x1 : Int32) (x2 : Int32) (x3 : Int32) (x5 : Int32) (x6 : Int32) (y7 : Int64) (y9 : Int64) (xs0 : Int32) (σ : rfS) : Prop :=
  wp_X8_passes σ xs0 (fun (r15 : Int32) (σ14 : rfS) => ((¬ (x1 - x1 / 2 * 2) = 0 → wj_X8_turnBy_135 κ_X8_turnFrom Q x1 x2 x3 x5 x6 y7 y9 (-r15) σ14) ∧ ((x1 - x1 / 2 * 2) = 0 → wj_X8_turnBy_135 κ_X8_turnFrom Q x1 x2 x3 x5 x6 y7 y9 r15 σ14)))
set_option maxRecDepth 20000 in
theorem sj_X8_turnBy_116 {d : Nat} {E : rfE} {Q : Int32 → rfS → Prop} (X : rfX ΛM E yX8_turnBy cX8_turnBy 15 (some .int)) {κ_X8_turnFrom : rfS → Int32 → Int32 → Int32 → (Int32 → rfS → Prop) → Prop} (hκ_X8_turnFrom : ∀ (σ : rfS) (x1 : Int32) (x2 : Int32) (x3 : Int32) (Q : Int32 → rfS → Prop), κ_X8_turnFrom σ x1 x2 x3 Q → RM ΛM d yX8_turnFrom cX8_turnFrom 6 (some .int) [.ref 0, .int x1, .int x2, .int x3] σ (qi Q)) (hB : 4 ≤ d) (x1 : Int32) (x2 : Int32) (x3 : Int32) (x5 : Int32) (x6 : Int32) (y7 : Int64) (y9 : Int64) (xs0 : Int32) (σ : rfS) (h : wj_X8_turnBy_116 κ_X8_turnFrom Q x1 x2 x3 x5 x6 y7 y9 xs0 σ) : Rf ΛM (d + 1) E 15 (qi Q) 116 [(0, .ref 0), (1, .int x1), (2, .int x2), (3, .int x3), (5, .int x5), (6, .int x6), (7, .long y7), (9, .long y9)] [.int xs0, .ref 0] σ := by
  unfold wj_X8_turnBy_116 at h
  refine Rf_cVi (as := [.int xs0]) (st := []) X mi_X8_passes lm_X8_234 rfl (Nat.le_of_ble_eq_true rfl) rfl (k_X8_passes h) (by omega) rfl rfl (Nat.le_of_ble_eq_true rfl) dX8_turnBy_116 rfl (fun r15 σ14 h => ?_)
  refine Rf_istore X (i := 12) (Nat.le_of_ble_eq_true rfl) (ls2 := [(12, .int r15), (0, .ref 0), (1, .int x1), (2, .int x2), (3, .int x3), (5, .int x5), (6, .int x6), (7, .long y7), (9, .long y9)]) rfl dX8_turnBy_119 rfl ?_
  refine Rf_iload_n X (j := 2) rfl rfl dX8_turnBy_121 rfl ?_
  refine Rf_iconst X (v := 2) rfl dX8_turnBy_122 rfl ?_
  refine Rf_irem X (by decide) dX8_turnBy_123 rfl ?_
  refine Rf_if_ne X (tgt := 132) dX8_turnBy_124 rfl rfl (fun c22 => ?_) (fun c22 => ?_)
  · have h := h.1 c22
    refine Rf_iload X (j := 0) rfl dX8_turnBy_132 rfl ?_
    refine Rf_ineg X dX8_turnBy_134 rfl ?_
    refine Rf_sub [1, 2, 3, 4, 5, 6, 7, 8] rfl ?_
    exact sj_X8_turnBy_135 X hκ_X8_turnFrom hB _ _ _ _ _ _ _ _ _ h
  · have h := h.2 c22
    refine Rf_iload X (j := 0) rfl dX8_turnBy_127 rfl ?_
    refine Rf_goto X (tgt := 135) dX8_turnBy_129 rfl ?_
    refine Rf_sub [1, 2, 3, 4, 5, 6, 7, 8] rfl ?_
    exact sj_X8_turnBy_135 X hκ_X8_turnFrom hB _ _ _ _ _ _ _ _ _ h
def wj_X8_turnBy_101 (κ_X8_turnFrom : rfS → Int32 → Int32 → Int32 → (Int32 → rfS → Prop) → Prop) (Q : Int32 → rfS → Prop) (x1 : Int32) (x2 : Int32) (x3 : Int32) (x4 : Int32) (x5 : Int32) (x6 : Int32) (y7 : Int64) (y9 : Int64) (xs0 : Int32) (σ : rfS) : Prop :=
  ((x4 = 0 → wj_X8_turnBy_116 κ_X8_turnFrom Q x1 x2 x3 x5 x6 y7 y9 7 σ) ∧ (¬ x4 = 0 → wj_X8_turnBy_116 κ_X8_turnFrom Q x1 x2 x3 x5 x6 y7 y9 xs0 σ))
set_option maxRecDepth 20000 in
theorem sj_X8_turnBy_101 {d : Nat} {E : rfE} {Q : Int32 → rfS → Prop} (X : rfX ΛM E yX8_turnBy cX8_turnBy 15 (some .int)) {κ_X8_turnFrom : rfS → Int32 → Int32 → Int32 → (Int32 → rfS → Prop) → Prop} (hκ_X8_turnFrom : ∀ (σ : rfS) (x1 : Int32) (x2 : Int32) (x3 : Int32) (Q : Int32 → rfS → Prop), κ_X8_turnFrom σ x1 x2 x3 Q → RM ΛM d yX8_turnFrom cX8_turnFrom 6 (some .int) [.ref 0, .int x1, .int x2, .int x3] σ (qi Q)) (hB : 4 ≤ d) (x1 : Int32) (x2 : Int32) (x3 : Int32) (x4 : Int32) (x5 : Int32) (x6 : Int32) (y7 : Int64) (y9 : Int64) (xs0 : Int32) (σ : rfS) (h : wj_X8_turnBy_101 κ_X8_turnFrom Q x1 x2 x3 x4 x5 x6 y7 y9 xs0 σ) : Rf ΛM (d + 1) E 15 (qi Q) 101 [(0, .ref 0), (1, .int x1), (2, .int x2), (3, .int x3), (4, .int x4), (5, .int x5), (6, .int x6), (7, .long y7), (9, .long y9)] [.int xs0] σ := by
  unfold wj_X8_turnBy_101 at h
  refine Rf_istore X (i := 11) (Nat.le_of_ble_eq_true rfl) (ls2 := [(11, .int xs0), (0, .ref 0), (1, .int x1), (2, .int x2), (3, .int x3), (4, .int x4), (5, .int x5), (6, .int x6), (7, .long y7), (9, .long y9)]) rfl dX8_turnBy_101 rfl ?_
  refine Rf_aload_n X (j := 1) rfl rfl dX8_turnBy_103 rfl ?_
  refine Rf_iload X (j := 5) rfl dX8_turnBy_104 rfl ?_
  refine Rf_if_eq X (tgt := 114) dX8_turnBy_106 rfl rfl (fun c23 => ?_) (fun c23 => ?_)
  · have h := h.1 c23
    refine Rf_bipush X (v := 7) rfl dX8_turnBy_114 rfl ?_
    refine Rf_sub [1, 2, 3, 4, 6, 7, 8, 9] rfl ?_
    exact sj_X8_turnBy_116 X hκ_X8_turnFrom hB _ _ _ _ _ _ _ _ _ h
  · have h := h.2 c23
    refine Rf_iload X (j := 0) rfl dX8_turnBy_109 rfl ?_
    refine Rf_goto X (tgt := 116) dX8_turnBy_111 rfl ?_
    refine Rf_sub [1, 2, 3, 4, 6, 7, 8, 9] rfl ?_
    exact sj_X8_turnBy_116 X hκ_X8_turnFrom hB _ _ _ _ _ _ _ _ _ h
def wp_X8_turnBy (κ_X8_turnFrom : rfS → Int32 → Int32 → Int32 → (Int32 → rfS → Prop) → Prop) (σ : rfS) (x1 : Int32) (x2 : Int32) (x3 : Int32) (x4 : Int32) (Q : Int32 → rfS → Prop) : Prop :=
  (∃ n4, wl_X8_turnBy_25 κ_X8_turnFrom Q (fun (x1_5 : Int32) (x2_6 : Int32) (x3_7 : Int32) (x4_8 : Int32) (x5_9 : Int32) (x6_10 : Int32) (y7_11 : Int64) (y9_12 : Int64) (σ13 : rfS) => ((¬ (x1_5 - x1_5 / 2 * 2) = 0 → wj_X8_turnBy_101 κ_X8_turnFrom Q x1_5 x2_6 x3_7 x4_8 x5_9 x6_10 y7_11 y9_12 (x3_7 - x3_7 / 10 * 10) σ13) ∧ ((x1_5 - x1_5 / 2 * 2) = 0 → wj_X8_turnBy_101 κ_X8_turnFrom Q x1_5 x2_6 x3_7 x4_8 x5_9 x6_10 y7_11 y9_12 (x3_7 / 10) σ13))) n4 x1 x2 x3 x4 (gF σ 2 0) (gF σ 2 1) 0 0 0 σ)
set_option maxRecDepth 20000 in
theorem k_X8_turnBy {d : Nat} {κ_X8_turnFrom : rfS → Int32 → Int32 → Int32 → (Int32 → rfS → Prop) → Prop} (hκ_X8_turnFrom : ∀ (σ : rfS) (x1 : Int32) (x2 : Int32) (x3 : Int32) (Q : Int32 → rfS → Prop), κ_X8_turnFrom σ x1 x2 x3 Q → RM ΛM d yX8_turnFrom cX8_turnFrom 6 (some .int) [.ref 0, .int x1, .int x2, .int x3] σ (qi Q)) (hB : 4 ≤ d) {σ : rfS} {x1 : Int32} {x2 : Int32} {x3 : Int32} {x4 : Int32} {Q : Int32 → rfS → Prop} (h : wp_X8_turnBy κ_X8_turnFrom σ x1 x2 x3 x4 Q) : RM ΛM (d + 1) yX8_turnBy cX8_turnBy 15 (some .int) [.ref 0, .int x1, .int x2, .int x3, .int x4] σ (qi Q) := by
  unfold wp_X8_turnBy at h
  refine RM.intro (by decide) (Nat.le_of_ble_eq_true rfl) (fun E X => ?_)
  show Rf ΛM (d + 1) E 15 (qi Q) 0 [(0, .ref 0), (1, .int x1), (2, .int x2), (3, .int x3), (4, .int x4)] [] σ
  refine Rf_aload_n X (j := 0) rfl rfl dX8_turnBy_0 rfl ?_
  refine Rf_get X kc8 (Nat.le_of_ble_eq_true rfl) rfl (j := 2) (Nat.le_of_ble_eq_true rfl) lf_X8_15 (v := .ref 2) rfl dX8_turnBy_1 rfl ?_
  refine Rf_iconst X (v := 0) rfl dX8_turnBy_4 rfl ?_
  refine Rf_iaload X (Nat.le_of_ble_eq_true rfl) rfl rfl (by unfold vp_in; decide) dX8_turnBy_5 rfl (v := gF σ 2 0) rfl ?_
  refine Rf_istore X (i := 5) (Nat.le_of_ble_eq_true rfl) (ls2 := [(5, .int (gF σ 2 0)), (0, .ref 0), (1, .int x1), (2, .int x2), (3, .int x3), (4, .int x4)]) rfl dX8_turnBy_6 rfl ?_
  refine Rf_aload_n X (j := 1) rfl rfl dX8_turnBy_8 rfl ?_
  refine Rf_get X kc8 (Nat.le_of_ble_eq_true rfl) rfl (j := 2) (Nat.le_of_ble_eq_true rfl) lf_X8_15 (v := .ref 2) rfl dX8_turnBy_9 rfl ?_
  refine Rf_iconst X (v := 1) rfl dX8_turnBy_12 rfl ?_
  refine Rf_iaload X (Nat.le_of_ble_eq_true rfl) rfl rfl (by unfold vp_in; decide) dX8_turnBy_13 rfl (v := gF σ 2 1) rfl ?_
  refine Rf_istore X (i := 6) (Nat.le_of_ble_eq_true rfl) (ls2 := [(6, .int (gF σ 2 1)), (5, .int (gF σ 2 0)), (0, .ref 0), (1, .int x1), (2, .int x2), (3, .int x3), (4, .int x4)]) rfl dX8_turnBy_14 rfl ?_
  refine Rf_lconst X (v := 0) rfl dX8_turnBy_16 rfl ?_
  refine Rf_lstore X (i := 7) (Nat.le_of_ble_eq_true rfl) (ls2 := [(7, .long 0), (6, .int (gF σ 2 1)), (5, .int (gF σ 2 0)), (0, .ref 0), (1, .int x1), (2, .int x2), (3, .int x3), (4, .int x4)]) rfl dX8_turnBy_17 rfl ?_
  refine Rf_lconst X (v := 0) rfl dX8_turnBy_19 rfl ?_
  refine Rf_lstore X (i := 9) (Nat.le_of_ble_eq_true rfl) (ls2 := [(9, .long 0), (7, .long 0), (6, .int (gF σ 2 1)), (5, .int (gF σ 2 0)), (0, .ref 0), (1, .int x1), (2, .int x2), (3, .int x3), (4, .int x4)]) rfl dX8_turnBy_20 rfl ?_
  refine Rf_iconst X (v := 0) rfl dX8_turnBy_22 rfl ?_
  refine Rf_istore X (i := 11) (Nat.le_of_ble_eq_true rfl) (ls2 := [(11, .int 0), (9, .long 0), (7, .long 0), (6, .int (gF σ 2 1)), (5, .int (gF σ 2 0)), (0, .ref 0), (1, .int x1), (2, .int x2), (3, .int x3), (4, .int x4)]) rfl dX8_turnBy_23 rfl ?_
  obtain ⟨n4, h⟩ := h
  refine Rf_sub [5, 6, 7, 8, 9, 4, 3, 2, 1, 0] rfl ?_
  refine sl_X8_turnBy_25 X hκ_X8_turnFrom hB (fun x1_5 x2_6 x3_7 x4_8 x5_9 x6_10 y7_11 y9_12 σ13 h => ?_) n4 _ _ _ _ _ _ _ _ _ _ h
  · refine Rf_iload_n X (j := 1) rfl rfl dX8_turnBy_84 rfl ?_
    refine Rf_iconst X (v := 2) rfl dX8_turnBy_85 rfl ?_
    refine Rf_irem X (by decide) dX8_turnBy_86 rfl ?_
    refine Rf_if_ne X (tgt := 97) dX8_turnBy_87 rfl rfl (fun c24 => ?_) (fun c24 => ?_)
    · have h := h.1 c24
      refine Rf_iload_n X (j := 3) rfl rfl dX8_turnBy_97 rfl ?_
      refine Rf_bipush X (v := 10) rfl dX8_turnBy_98 rfl ?_
      refine Rf_irem X (by decide) dX8_turnBy_100 rfl ?_
      exact sj_X8_turnBy_101 X hκ_X8_turnFrom hB _ _ _ _ _ _ _ _ _ _ h
    · have h := h.2 c24
      refine Rf_iload_n X (j := 3) rfl rfl dX8_turnBy_90 rfl ?_
      refine Rf_bipush X (v := 10) rfl dX8_turnBy_91 rfl ?_
      refine Rf_idiv X (by decide) dX8_turnBy_93 rfl ?_
      refine Rf_goto X (tgt := 101) dX8_turnBy_94 rfl ?_
      exact sj_X8_turnBy_101 X hκ_X8_turnFrom hB _ _ _ _ _ _ _ _ _ _ h
def wp_X8_turnFrom (κ_X8_turnBy : rfS → Int32 → Int32 → Int32 → Int32 → (Int32 → rfS → Prop) → Prop) (σ : rfS) (x1 : Int32) (x2 : Int32) (x3 : Int32) (Q : Int32 → rfS → Prop) : Prop :=
  ((¬ x1 = x2 → κ_X8_turnBy σ x1 x2 x3 0 (fun (r2 : Int32) (σ1 : rfS) => κ_X8_turnBy σ1 x1 x2 x3 1 (fun (r4 : Int32) (σ3 : rfS) => ((¬ (x1 - x1 / 2 * 2) = 0 → Q (if r4 < r2 then r4 else r2) σ3) ∧ ((x1 - x1 / 2 * 2) = 0 → Q (if r2 < r4 then r4 else r2) σ3))))) ∧ (x1 = x2 → Q 0 σ))
set_option maxRecDepth 20000 in
theorem k_X8_turnFrom {d : Nat} {κ_X8_turnBy : rfS → Int32 → Int32 → Int32 → Int32 → (Int32 → rfS → Prop) → Prop} (hκ_X8_turnBy : ∀ (σ : rfS) (x1 : Int32) (x2 : Int32) (x3 : Int32) (x4 : Int32) (Q : Int32 → rfS → Prop), κ_X8_turnBy σ x1 x2 x3 x4 Q → RM ΛM d yX8_turnBy cX8_turnBy 15 (some .int) [.ref 0, .int x1, .int x2, .int x3, .int x4] σ (qi Q)) (hB : 0 ≤ d) {σ : rfS} {x1 : Int32} {x2 : Int32} {x3 : Int32} {Q : Int32 → rfS → Prop} (h : wp_X8_turnFrom κ_X8_turnBy σ x1 x2 x3 Q) : RM ΛM (d + 1) yX8_turnFrom cX8_turnFrom 6 (some .int) [.ref 0, .int x1, .int x2, .int x3] σ (qi Q) := by
  unfold wp_X8_turnFrom at h
  refine RM.intro (by decide) (Nat.le_of_ble_eq_true rfl) (fun E X => ?_)
  show Rf ΛM (d + 1) E 6 (qi Q) 0 [(0, .ref 0), (1, .int x1), (2, .int x2), (3, .int x3)] [] σ
  refine Rf_iload_n X (j := 1) rfl rfl dX8_turnFrom_0 rfl ?_
  refine Rf_iload_n X (j := 2) rfl rfl dX8_turnFrom_1 rfl ?_
  refine Rf_icmp_ne X (tgt := 7) dX8_turnFrom_2 rfl rfl (fun c6 => ?_) (fun c6 => ?_)
  · have h := h.1 c6
    refine Rf_aload_n X (j := 0) rfl rfl dX8_turnFrom_7 rfl ?_
    refine Rf_iload_n X (j := 1) rfl rfl dX8_turnFrom_8 rfl ?_
    refine Rf_iload_n X (j := 2) rfl rfl dX8_turnFrom_9 rfl ?_
    refine Rf_iload_n X (j := 3) rfl rfl dX8_turnFrom_10 rfl ?_
    refine Rf_iconst X (v := 0) rfl dX8_turnFrom_11 rfl ?_
    refine Rf_cVi (as := [.int x1, .int x2, .int x3, .int 0]) (st := []) X mi_X8_turnBy lm_X8_287 rfl (Nat.le_of_ble_eq_true rfl) rfl (hκ_X8_turnBy _ _ _ _ _ _ h) (Nat.le_refl _) rfl rfl (Nat.le_of_ble_eq_true rfl) dX8_turnFrom_12 rfl (fun r2 σ1 h => ?_)
    refine Rf_istore X (i := 4) (Nat.le_of_ble_eq_true rfl) (ls2 := [(4, .int r2), (0, .ref 0), (1, .int x1), (2, .int x2), (3, .int x3)]) rfl dX8_turnFrom_15 rfl ?_
    refine Rf_aload_n X (j := 1) rfl rfl dX8_turnFrom_17 rfl ?_
    refine Rf_iload_n X (j := 2) rfl rfl dX8_turnFrom_18 rfl ?_
    refine Rf_iload_n X (j := 3) rfl rfl dX8_turnFrom_19 rfl ?_
    refine Rf_iload_n X (j := 4) rfl rfl dX8_turnFrom_20 rfl ?_
    refine Rf_iconst X (v := 1) rfl dX8_turnFrom_21 rfl ?_
    refine Rf_cVi (as := [.int x1, .int x2, .int x3, .int 1]) (st := []) X mi_X8_turnBy lm_X8_287 rfl (Nat.le_of_ble_eq_true rfl) rfl (hκ_X8_turnBy _ _ _ _ _ _ h) (Nat.le_refl _) rfl rfl (Nat.le_of_ble_eq_true rfl) dX8_turnFrom_22 rfl (fun r4 σ3 h => ?_)
    refine Rf_istore X (i := 5) (Nat.le_of_ble_eq_true rfl) (ls2 := [(5, .int r4), (4, .int r2), (0, .ref 0), (1, .int x1), (2, .int x2), (3, .int x3)]) rfl dX8_turnFrom_25 rfl ?_
    refine Rf_iload_n X (j := 3) rfl rfl dX8_turnFrom_27 rfl ?_
    refine Rf_iconst X (v := 2) rfl dX8_turnFrom_28 rfl ?_
    refine Rf_irem X (by decide) dX8_turnFrom_29 rfl ?_
    refine Rf_if_ne X (tgt := 43) dX8_turnFrom_30 rfl rfl (fun c5 => ?_) (fun c5 => ?_)
    · have h := h.1 c5
      refine Rf_iload X (j := 1) rfl dX8_turnFrom_43 rfl ?_
      refine Rf_iload X (j := 0) rfl dX8_turnFrom_45 rfl ?_
      refine Rf_min X lm_X8_220 mm_min.1 mm_min.2.1 mm_min.2.2 (Nat.le_add_left 1 d) (Nat.le_of_ble_eq_true rfl) dX8_turnFrom_47 rfl ?_
      exact Rf_iret X rfl dX8_turnFrom_50 ⟨_, rfl, h⟩
    · have h := h.2 c5
      refine Rf_iload X (j := 1) rfl dX8_turnFrom_33 rfl ?_
      refine Rf_iload X (j := 0) rfl dX8_turnFrom_35 rfl ?_
      refine Rf_max X lm_X8_225 mm_max.1 mm_max.2.1 mm_max.2.2 (Nat.le_add_left 1 d) (Nat.le_of_ble_eq_true rfl) dX8_turnFrom_37 rfl ?_
      refine Rf_goto X (tgt := 50) dX8_turnFrom_40 rfl ?_
      exact Rf_iret X rfl dX8_turnFrom_50 ⟨_, rfl, h⟩
  · have h := h.2 c6
    refine Rf_iconst X (v := 0) rfl dX8_turnFrom_5 rfl ?_
    exact Rf_iret X rfl dX8_turnFrom_6 ⟨_, rfl, h⟩
def wp_X8_byTurns (κ_X8_turnBy : rfS → Int32 → Int32 → Int32 → Int32 → (Int32 → rfS → Prop) → Prop) (σ : rfS) (x1 : Int32) (x2 : Int32) (x3 : Int32) (Q : Int32 → rfS → Prop) : Prop :=
  ((x1 < 0 → Q (-2000000000) σ) ∧ (¬ (x1 < 0) → wp_X8_isOne σ (x1 / 10) (fun (r2 : Int32) (σ1 : rfS) => ((r2 = 0 → Q (-2000000000) σ1) ∧ (¬ r2 = 0 → wp_X8_isOne σ1 (x1 - x1 / 10 * 10) (fun (r4 : Int32) (σ3 : rfS) => ((r4 = 0 → Q (-2000000000) σ3) ∧ (¬ r4 = 0 → (((x1 / 10) = (x1 - x1 / 10 * 10) → Q (-2000000000) σ3) ∧ (¬ (x1 / 10) = (x1 - x1 / 10 * 10) → wp_X8_within σ3 x2 1 5 (fun (r6 : Int32) (σ5 : rfS) => ((r6 = 0 → Q (-2000000000) σ5) ∧ (¬ r6 = 0 → wp_X8_within σ5 x3 0 1 (fun (r8 : Int32) (σ7 : rfS) => ((¬ r8 = 0 → κ_X8_turnBy σ7 0 x2 x1 0 (fun (r10 : Int32) (σ9 : rfS) => κ_X8_turnBy σ9 0 x2 x1 1 (fun (r12 : Int32) (σ11 : rfS) => ((¬ x3 = 0 → ((r12 ≤ r10 → Q 0 σ11) ∧ (¬ (r12 ≤ r10) → Q 1 σ11))) ∧ (x3 = 0 → Q (if r10 < r12 then r12 else r10) σ11))))) ∧ (r8 = 0 → Q (-2000000000) σ7))))))))))))))))
set_option maxRecDepth 20000 in
theorem k_X8_byTurns {d : Nat} {κ_X8_turnBy : rfS → Int32 → Int32 → Int32 → Int32 → (Int32 → rfS → Prop) → Prop} (hκ_X8_turnBy : ∀ (σ : rfS) (x1 : Int32) (x2 : Int32) (x3 : Int32) (x4 : Int32) (Q : Int32 → rfS → Prop), κ_X8_turnBy σ x1 x2 x3 x4 Q → RM ΛM d yX8_turnBy cX8_turnBy 15 (some .int) [.ref 0, .int x1, .int x2, .int x3, .int x4] σ (qi Q)) (hB : 1 ≤ d) {σ : rfS} {x1 : Int32} {x2 : Int32} {x3 : Int32} {Q : Int32 → rfS → Prop} (h : wp_X8_byTurns κ_X8_turnBy σ x1 x2 x3 Q) : RM ΛM (d + 1) yX8_byTurns cX8_byTurns 6 (some .int) [.ref 0, .int x1, .int x2, .int x3] σ (qi Q) := by
  unfold wp_X8_byTurns at h
  refine RM.intro (by decide) (Nat.le_of_ble_eq_true rfl) (fun E X => ?_)
  show Rf ΛM (d + 1) E 6 (qi Q) 0 [(0, .ref 0), (1, .int x1), (2, .int x2), (3, .int x3)] [] σ
  refine Rf_iload_n X (j := 1) rfl rfl dX8_byTurns_0 rfl ?_
  refine Rf_if_lt X (tgt := 55) dX8_byTurns_1 rfl rfl (fun c20 => ?_) (fun c20 => ?_)
  · have h := h.1 c20
    refine Rf_ldcw X lc_X8_296 dX8_byTurns_55 rfl ?_
    exact Rf_iret X rfl dX8_byTurns_58 ⟨_, rfl, h⟩
  · have h := h.2 c20
    refine Rf_aload_n X (j := 0) rfl rfl dX8_byTurns_4 rfl ?_
    refine Rf_iload_n X (j := 1) rfl rfl dX8_byTurns_5 rfl ?_
    refine Rf_bipush X (v := 10) rfl dX8_byTurns_6 rfl ?_
    refine Rf_idiv X (by decide) dX8_byTurns_8 rfl ?_
    refine Rf_cVi (as := [.int (x1 / 10)]) (st := []) X mi_X8_isOne lm_X8_116 rfl (Nat.le_of_ble_eq_true rfl) rfl (k_X8_isOne h) (by omega) rfl rfl (Nat.le_of_ble_eq_true rfl) dX8_byTurns_9 rfl (fun r2 σ1 h => ?_)
    refine Rf_if_eq X (tgt := 55) dX8_byTurns_12 rfl rfl (fun c19 => ?_) (fun c19 => ?_)
    · have h := h.1 c19
      refine Rf_ldcw X lc_X8_296 dX8_byTurns_55 rfl ?_
      exact Rf_iret X rfl dX8_byTurns_58 ⟨_, rfl, h⟩
    · have h := h.2 c19
      refine Rf_aload_n X (j := 0) rfl rfl dX8_byTurns_15 rfl ?_
      refine Rf_iload_n X (j := 1) rfl rfl dX8_byTurns_16 rfl ?_
      refine Rf_bipush X (v := 10) rfl dX8_byTurns_17 rfl ?_
      refine Rf_irem X (by decide) dX8_byTurns_19 rfl ?_
      refine Rf_cVi (as := [.int (x1 - x1 / 10 * 10)]) (st := []) X mi_X8_isOne lm_X8_116 rfl (Nat.le_of_ble_eq_true rfl) rfl (k_X8_isOne h) (by omega) rfl rfl (Nat.le_of_ble_eq_true rfl) dX8_byTurns_20 rfl (fun r4 σ3 h => ?_)
      refine Rf_if_eq X (tgt := 55) dX8_byTurns_23 rfl rfl (fun c18 => ?_) (fun c18 => ?_)
      · have h := h.1 c18
        refine Rf_ldcw X lc_X8_296 dX8_byTurns_55 rfl ?_
        exact Rf_iret X rfl dX8_byTurns_58 ⟨_, rfl, h⟩
      · have h := h.2 c18
        refine Rf_iload_n X (j := 1) rfl rfl dX8_byTurns_26 rfl ?_
        refine Rf_bipush X (v := 10) rfl dX8_byTurns_27 rfl ?_
        refine Rf_idiv X (by decide) dX8_byTurns_29 rfl ?_
        refine Rf_iload_n X (j := 1) rfl rfl dX8_byTurns_30 rfl ?_
        refine Rf_bipush X (v := 10) rfl dX8_byTurns_31 rfl ?_
        refine Rf_irem X (by decide) dX8_byTurns_33 rfl ?_
        refine Rf_icmp_eq X (tgt := 55) dX8_byTurns_34 rfl rfl (fun c17 => ?_) (fun c17 => ?_)
        · have h := h.1 c17
          refine Rf_ldcw X lc_X8_296 dX8_byTurns_55 rfl ?_
          exact Rf_iret X rfl dX8_byTurns_58 ⟨_, rfl, h⟩
        · have h := h.2 c17
          refine Rf_iload_n X (j := 2) rfl rfl dX8_byTurns_37 rfl ?_
          refine Rf_iconst X (v := 1) rfl dX8_byTurns_38 rfl ?_
          refine Rf_iconst X (v := 5) rfl dX8_byTurns_39 rfl ?_
          refine Rf_cSi (as := [.int x2, .int 1, .int 5]) (st := []) X ms_X8_within lm_X8_98 (k_X8_within h) (by omega) rfl rfl (Nat.le_of_ble_eq_true rfl) dX8_byTurns_40 rfl (fun r6 σ5 h => ?_)
          refine Rf_if_eq X (tgt := 55) dX8_byTurns_43 rfl rfl (fun c16 => ?_) (fun c16 => ?_)
          · have h := h.1 c16
            refine Rf_ldcw X lc_X8_296 dX8_byTurns_55 rfl ?_
            exact Rf_iret X rfl dX8_byTurns_58 ⟨_, rfl, h⟩
          · have h := h.2 c16
            refine Rf_iload_n X (j := 3) rfl rfl dX8_byTurns_46 rfl ?_
            refine Rf_iconst X (v := 0) rfl dX8_byTurns_47 rfl ?_
            refine Rf_iconst X (v := 1) rfl dX8_byTurns_48 rfl ?_
            refine Rf_cSi (as := [.int x3, .int 0, .int 1]) (st := []) X ms_X8_within lm_X8_98 (k_X8_within h) (by omega) rfl rfl (Nat.le_of_ble_eq_true rfl) dX8_byTurns_49 rfl (fun r8 σ7 h => ?_)
            refine Rf_if_ne X (tgt := 59) dX8_byTurns_52 rfl rfl (fun c15 => ?_) (fun c15 => ?_)
            · have h := h.1 c15
              refine Rf_aload_n X (j := 0) rfl rfl dX8_byTurns_59 rfl ?_
              refine Rf_iconst X (v := 0) rfl dX8_byTurns_60 rfl ?_
              refine Rf_iload_n X (j := 2) rfl rfl dX8_byTurns_61 rfl ?_
              refine Rf_iload_n X (j := 1) rfl rfl dX8_byTurns_62 rfl ?_
              refine Rf_iconst X (v := 0) rfl dX8_byTurns_63 rfl ?_
              refine Rf_cVi (as := [.int 0, .int x2, .int x1, .int 0]) (st := []) X mi_X8_turnBy lm_X8_287 rfl (Nat.le_of_ble_eq_true rfl) rfl (hκ_X8_turnBy _ _ _ _ _ _ h) (Nat.le_refl _) rfl rfl (Nat.le_of_ble_eq_true rfl) dX8_byTurns_64 rfl (fun r10 σ9 h => ?_)
              refine Rf_istore X (i := 4) (Nat.le_of_ble_eq_true rfl) (ls2 := [(4, .int r10), (0, .ref 0), (1, .int x1), (2, .int x2), (3, .int x3)]) rfl dX8_byTurns_67 rfl ?_
              refine Rf_aload_n X (j := 1) rfl rfl dX8_byTurns_69 rfl ?_
              refine Rf_iconst X (v := 0) rfl dX8_byTurns_70 rfl ?_
              refine Rf_iload_n X (j := 3) rfl rfl dX8_byTurns_71 rfl ?_
              refine Rf_iload_n X (j := 2) rfl rfl dX8_byTurns_72 rfl ?_
              refine Rf_iconst X (v := 1) rfl dX8_byTurns_73 rfl ?_
              refine Rf_cVi (as := [.int 0, .int x2, .int x1, .int 1]) (st := []) X mi_X8_turnBy lm_X8_287 rfl (Nat.le_of_ble_eq_true rfl) rfl (hκ_X8_turnBy _ _ _ _ _ _ h) (Nat.le_refl _) rfl rfl (Nat.le_of_ble_eq_true rfl) dX8_byTurns_74 rfl (fun r12 σ11 h => ?_)
              refine Rf_istore X (i := 5) (Nat.le_of_ble_eq_true rfl) (ls2 := [(5, .int r12), (4, .int r10), (0, .ref 0), (1, .int x1), (2, .int x2), (3, .int x3)]) rfl dX8_byTurns_77 rfl ?_
              refine Rf_iload_n X (j := 5) rfl rfl dX8_byTurns_79 rfl ?_
              refine Rf_if_ne X (tgt := 93) dX8_byTurns_80 rfl rfl (fun c14 => ?_) (fun c14 => ?_)
              · have h := h.1 c14
                refine Rf_iload X (j := 0) rfl dX8_byTurns_93 rfl ?_
                refine Rf_iload X (j := 1) rfl dX8_byTurns_95 rfl ?_
                refine Rf_icmp_le X (tgt := 104) dX8_byTurns_97 rfl rfl (fun c13 => ?_) (fun c13 => ?_)
                · have h := h.1 c13
                  refine Rf_iconst X (v := 0) rfl dX8_byTurns_104 rfl ?_
                  exact Rf_iret X rfl dX8_byTurns_105 ⟨_, rfl, h⟩
                · have h := h.2 c13
                  refine Rf_iconst X (v := 1) rfl dX8_byTurns_100 rfl ?_
                  refine Rf_goto X (tgt := 105) dX8_byTurns_101 rfl ?_
                  exact Rf_iret X rfl dX8_byTurns_105 ⟨_, rfl, h⟩
              · have h := h.2 c14
                refine Rf_iload X (j := 1) rfl dX8_byTurns_83 rfl ?_
                refine Rf_iload X (j := 0) rfl dX8_byTurns_85 rfl ?_
                refine Rf_max X lm_X8_225 mm_max.1 mm_max.2.1 mm_max.2.2 (Nat.le_add_left 1 d) (Nat.le_of_ble_eq_true rfl) dX8_byTurns_87 rfl ?_
                refine Rf_goto X (tgt := 105) dX8_byTurns_90 rfl ?_
                exact Rf_iret X rfl dX8_byTurns_105 ⟨_, rfl, h⟩
            · have h := h.2 c15
              refine Rf_ldcw X lc_X8_296 dX8_byTurns_55 rfl ?_
              exact Rf_iret X rfl dX8_byTurns_58 ⟨_, rfl, h⟩
def wj_X8_drawn_149 (Q : Int32 → rfS → Prop) (kb_88 : Int32 → Int32 → Int32 → Int32 → Int32 → Int32 → rfS → Prop) (x2 : Int32) (x3 : Int32) (x4 : Int32) (x5 : Int32) (x6 : Int32) (x7 : Int32) (xs0 : Int32) (σ : rfS) : Prop :=
  wp_X8_passes σ xs0 (fun (r7 : Int32) (σ6 : rfS) => ((¬ x3 = (-1) → ((¬ xs0 = x3 → kb_88 x2 x3 x4 x5 x6 (x7 + 1) σ6) ∧ (xs0 = x3 → kb_88 x2 x3 x4 (x5 + 1) x6 (x7 + 1) σ6))) ∧ (x3 = (-1) → kb_88 x2 x3 x4 (x5 + r7) x6 (x7 + 1) σ6)))
set_option maxRecDepth 20000 in
theorem sj_X8_drawn_149 {E : rfE} {Q : Int32 → rfS → Prop} (X : rfX ΛM E yX8_drawn cX8_drawn 10 (some .int)) {kb_88 : Int32 → Int32 → Int32 → Int32 → Int32 → Int32 → rfS → Prop} (hkb_88 : ∀ (x2 : Int32) (x3 : Int32) (x4 : Int32) (x5 : Int32) (x6 : Int32) (x7 : Int32) (σ : rfS), kb_88 x2 x3 x4 x5 x6 x7 σ → Rf ΛM 5 E 10 (qi Q) 88 [(0, .ref 0), (2, .int x2), (3, .int x3), (4, .int x4), (5, .int x5), (6, .int x6), (7, .int x7)] [] σ) (x2 : Int32) (x3 : Int32) (x4 : Int32) (x5 : Int32) (x6 : Int32) (x7 : Int32) (xs0 : Int32) (σ : rfS) (h : wj_X8_drawn_149 Q kb_88 x2 x3 x4 x5 x6 x7 xs0 σ) : Rf ΛM 5 E 10 (qi Q) 149 [(0, .ref 0), (2, .int x2), (3, .int x3), (4, .int x4), (5, .int x5), (6, .int x6), (7, .int x7)] [.int xs0] σ := by
  unfold wj_X8_drawn_149 at h
  refine Rf_istore X (i := 8) (Nat.le_of_ble_eq_true rfl) (ls2 := [(8, .int xs0), (0, .ref 0), (2, .int x2), (3, .int x3), (4, .int x4), (5, .int x5), (6, .int x6), (7, .int x7)]) rfl dX8_drawn_149 rfl ?_
  refine Rf_aload_n X (j := 1) rfl rfl dX8_drawn_151 rfl ?_
  refine Rf_iload X (j := 0) rfl dX8_drawn_152 rfl ?_
  refine Rf_cVi (as := [.int xs0]) (st := []) X mi_X8_passes lm_X8_234 rfl (Nat.le_of_ble_eq_true rfl) rfl (k_X8_passes h) (Nat.le_of_ble_eq_true rfl) rfl rfl (Nat.le_of_ble_eq_true rfl) dX8_drawn_154 rfl (fun r7 σ6 h => ?_)
  refine Rf_istore X (i := 9) (Nat.le_of_ble_eq_true rfl) (ls2 := [(9, .int r7), (8, .int xs0), (0, .ref 0), (2, .int x2), (3, .int x3), (4, .int x4), (5, .int x5), (6, .int x6), (7, .int x7)]) rfl dX8_drawn_157 rfl ?_
  refine Rf_iload_n X (j := 4) rfl rfl dX8_drawn_159 rfl ?_
  refine Rf_iconst X (v := (-1)) (by decide) dX8_drawn_160 rfl ?_
  refine Rf_icmp_ne X (tgt := 174) dX8_drawn_161 rfl rfl (fun c9 => ?_) (fun c9 => ?_)
  · have h := h.1 c9
    refine Rf_iload X (j := 1) rfl dX8_drawn_174 rfl ?_
    refine Rf_iload_n X (j := 4) rfl rfl dX8_drawn_176 rfl ?_
    refine Rf_icmp_ne X (tgt := 183) dX8_drawn_177 rfl rfl (fun c8 => ?_) (fun c8 => ?_)
    · have h := h.1 c8
      refine Rf_iinc X (i := 7) (j := 8) (v := x7 + 1) rfl rfl (Nat.le_of_ble_eq_true rfl) (ls2 := [(7, .int (x7 + 1)), (9, .int r7), (8, .int xs0), (0, .ref 0), (2, .int x2), (3, .int x3), (4, .int x4), (5, .int x5), (6, .int x6)]) rfl dX8_drawn_183 rfl ?_
      refine Rf_goto X (tgt := 88) dX8_drawn_186 rfl ?_
      refine Rf_sub [3, 4, 5, 6, 7, 8, 0] rfl ?_
      exact hkb_88 _ _ _ _ _ _ σ6 h
    · have h := h.2 c8
      refine Rf_iinc X (i := 5) (j := 6) (v := x5 + 1) rfl rfl (Nat.le_of_ble_eq_true rfl) (ls2 := [(5, .int (x5 + 1)), (9, .int r7), (8, .int xs0), (0, .ref 0), (2, .int x2), (3, .int x3), (4, .int x4), (6, .int x6), (7, .int x7)]) rfl dX8_drawn_180 rfl ?_
      refine Rf_iinc X (i := 7) (j := 8) (v := x7 + 1) rfl rfl (Nat.le_of_ble_eq_true rfl) (ls2 := [(7, .int (x7 + 1)), (5, .int (x5 + 1)), (9, .int r7), (8, .int xs0), (0, .ref 0), (2, .int x2), (3, .int x3), (4, .int x4), (6, .int x6)]) rfl dX8_drawn_183 rfl ?_
      refine Rf_goto X (tgt := 88) dX8_drawn_186 rfl ?_
      refine Rf_sub [4, 5, 6, 7, 1, 8, 0] rfl ?_
      exact hkb_88 _ _ _ _ _ _ σ6 h
  · have h := h.2 c9
    refine Rf_iload X (j := 6) rfl dX8_drawn_164 rfl ?_
    refine Rf_iload X (j := 0) rfl dX8_drawn_166 rfl ?_
    refine Rf_iadd X dX8_drawn_168 rfl ?_
    refine Rf_istore X (i := 5) (Nat.le_of_ble_eq_true rfl) (ls2 := [(5, .int (x5 + r7)), (9, .int r7), (8, .int xs0), (0, .ref 0), (2, .int x2), (3, .int x3), (4, .int x4), (6, .int x6), (7, .int x7)]) rfl dX8_drawn_169 rfl ?_
    refine Rf_goto X (tgt := 183) dX8_drawn_171 rfl ?_
    refine Rf_iinc X (i := 7) (j := 8) (v := x7 + 1) rfl rfl (Nat.le_of_ble_eq_true rfl) (ls2 := [(7, .int (x7 + 1)), (5, .int (x5 + r7)), (9, .int r7), (8, .int xs0), (0, .ref 0), (2, .int x2), (3, .int x3), (4, .int x4), (6, .int x6)]) rfl dX8_drawn_183 rfl ?_
    refine Rf_goto X (tgt := 88) dX8_drawn_186 rfl ?_
    refine Rf_sub [4, 5, 6, 7, 1, 8, 0] rfl ?_
    exact hkb_88 _ _ _ _ _ _ σ6 h
def wj_X8_drawn_134 (Q : Int32 → rfS → Prop) (kb_88 : Int32 → Int32 → Int32 → Int32 → Int32 → Int32 → rfS → Prop) (x2 : Int32) (x3 : Int32) (x4 : Int32) (x5 : Int32) (x6 : Int32) (x7 : Int32) (σ : rfS) : Prop :=
  wj_X8_drawn_149 Q kb_88 x2 x3 x4 x5 x6 x7 7 σ
set_option maxRecDepth 20000 in
theorem sj_X8_drawn_134 {E : rfE} {Q : Int32 → rfS → Prop} (X : rfX ΛM E yX8_drawn cX8_drawn 10 (some .int)) {kb_88 : Int32 → Int32 → Int32 → Int32 → Int32 → Int32 → rfS → Prop} (hkb_88 : ∀ (x2 : Int32) (x3 : Int32) (x4 : Int32) (x5 : Int32) (x6 : Int32) (x7 : Int32) (σ : rfS), kb_88 x2 x3 x4 x5 x6 x7 σ → Rf ΛM 5 E 10 (qi Q) 88 [(0, .ref 0), (2, .int x2), (3, .int x3), (4, .int x4), (5, .int x5), (6, .int x6), (7, .int x7)] [] σ) (x2 : Int32) (x3 : Int32) (x4 : Int32) (x5 : Int32) (x6 : Int32) (x7 : Int32) (σ : rfS) (h : wj_X8_drawn_134 Q kb_88 x2 x3 x4 x5 x6 x7 σ) : Rf ΛM 5 E 10 (qi Q) 134 [(0, .ref 0), (2, .int x2), (3, .int x3), (4, .int x4), (5, .int x5), (6, .int x6), (7, .int x7)] [] σ := by
  unfold wj_X8_drawn_134 at h
  refine Rf_bipush X (v := 7) rfl dX8_drawn_134 rfl ?_
  refine Rf_goto X (tgt := 149) dX8_drawn_136 rfl ?_
  exact sj_X8_drawn_149 X hkb_88 _ _ _ _ _ _ _ _ h
def wl_X8_drawn_88 (Q : Int32 → rfS → Prop) (kx_189 : Int32 → Int32 → Int32 → Int32 → Int32 → rfS → Prop) : Nat → Int32 → Int32 → Int32 → Int32 → Int32 → Int32 → rfS → Prop
  | 0, _, _, _, _, _, _, _ => False
  | n + 1, x2, x3, x4, x5, x6, x7, σ => ((((x2 / 100) - (x2 / 100) / 100 * 100) ≤ x7 → kx_189 x2 x3 x4 x5 x6 σ) ∧ (¬ (((x2 / 100) - (x2 / 100) / 100 * 100) ≤ x7) → (((gI σ 0 0) = 0 → wj_X8_drawn_134 Q (wl_X8_drawn_88 Q kx_189 n) x2 x3 ((x4 * 1103515245) + 12345) x5 x6 x7 σ) ∧ (¬ (gI σ 0 0) = 0 → (((x2 - x2 / 100 * 100) ≤ (((((x4 * 1103515245) + 12345).toUInt32 >>> ((16 : Int32).toUInt32 &&& Int32.toUInt32 31)).toInt32) - ((((x4 * 1103515245) + 12345).toUInt32 >>> ((16 : Int32).toUInt32 &&& Int32.toUInt32 31)).toInt32) / 12 * 12) → (¬ (gI σ 0 0) = 0) ∧ (wj_X8_drawn_149 Q (wl_X8_drawn_88 Q kx_189 n) x2 x3 ((x4 * 1103515245) + 12345) x5 x6 x7 (((((x4 * 1103515245) + 12345).toUInt32 >>> ((8 : Int32).toUInt32 &&& Int32.toUInt32 31)).toInt32) - ((((x4 * 1103515245) + 12345).toUInt32 >>> ((8 : Int32).toUInt32 &&& Int32.toUInt32 31)).toInt32) / (gI σ 0 0) * (gI σ 0 0)) σ)) ∧ (¬ ((x2 - x2 / 100 * 100) ≤ (((((x4 * 1103515245) + 12345).toUInt32 >>> ((16 : Int32).toUInt32 &&& Int32.toUInt32 31)).toInt32) - ((((x4 * 1103515245) + 12345).toUInt32 >>> ((16 : Int32).toUInt32 &&& Int32.toUInt32 31)).toInt32) / 12 * 12)) → wj_X8_drawn_134 Q (wl_X8_drawn_88 Q kx_189 n) x2 x3 ((x4 * 1103515245) + 12345) x5 x6 x7 σ))))))
set_option maxRecDepth 20000 in
theorem sl_X8_drawn_88 {E : rfE} {Q : Int32 → rfS → Prop} (X : rfX ΛM E yX8_drawn cX8_drawn 10 (some .int)) {kx_189 : Int32 → Int32 → Int32 → Int32 → Int32 → rfS → Prop} (hkx_189 : ∀ (x2 : Int32) (x3 : Int32) (x4 : Int32) (x5 : Int32) (x6 : Int32) (σ : rfS), kx_189 x2 x3 x4 x5 x6 σ → Rf ΛM 5 E 10 (qi Q) 189 [(0, .ref 0), (2, .int x2), (3, .int x3), (4, .int x4), (5, .int x5), (6, .int x6)] [] σ) : ∀ (n : Nat) (x2 : Int32) (x3 : Int32) (x4 : Int32) (x5 : Int32) (x6 : Int32) (x7 : Int32) (σ : rfS), wl_X8_drawn_88 Q kx_189 n x2 x3 x4 x5 x6 x7 σ → Rf ΛM 5 E 10 (qi Q) 88 [(0, .ref 0), (2, .int x2), (3, .int x3), (4, .int x4), (5, .int x5), (6, .int x6), (7, .int x7)] [] σ := by
  intro n
  induction n with
  | zero =>
    intro x2 x3 x4 x5 x6 x7 σ h
    exact False.elim h
  | succ n hkb_88 =>
    intro x2 x3 x4 x5 x6 x7 σ h
    unfold wl_X8_drawn_88 at h
    refine Rf_iload X (j := 6) rfl dX8_drawn_88 rfl ?_
    refine Rf_iload_n X (j := 1) rfl rfl dX8_drawn_90 rfl ?_
    refine Rf_bipush X (v := 100) rfl dX8_drawn_91 rfl ?_
    refine Rf_idiv X (by decide) dX8_drawn_93 rfl ?_
    refine Rf_bipush X (v := 100) rfl dX8_drawn_94 rfl ?_
    refine Rf_irem X (by decide) dX8_drawn_96 rfl ?_
    refine Rf_icmp_ge X (tgt := 189) dX8_drawn_97 rfl rfl (fun c13 => ?_) (fun c13 => ?_)
    · have h := h.1 c13
      refine Rf_sub [0, 1, 2, 3, 4, 5] rfl ?_
      exact hkx_189 _ _ _ _ _ σ h
    · have h := h.2 c13
      refine Rf_iload X (j := 3) rfl dX8_drawn_100 rfl ?_
      refine Rf_ldcw X lc_X8_297 dX8_drawn_102 rfl ?_
      refine Rf_imul X dX8_drawn_105 rfl ?_
      refine Rf_sipush X (v := 12345) rfl dX8_drawn_106 rfl ?_
      refine Rf_iadd X dX8_drawn_109 rfl ?_
      refine Rf_istore X (i := 4) (Nat.le_of_ble_eq_true rfl) (ls2 := [(4, .int ((x4 * 1103515245) + 12345)), (0, .ref 0), (2, .int x2), (3, .int x3), (5, .int x5), (6, .int x6), (7, .int x7)]) rfl dX8_drawn_110 rfl ?_
      refine Rf_aload_n X (j := 1) rfl rfl dX8_drawn_112 rfl ?_
      refine Rf_get X kc8 (Nat.le_of_ble_eq_true rfl) rfl (j := 0) (Nat.le_of_ble_eq_true rfl) lf_X8_94 (v := .int (gI σ 0 0)) rfl dX8_drawn_113 rfl ?_
      refine Rf_if_eq X (tgt := 134) dX8_drawn_116 rfl rfl (fun c12 => ?_) (fun c12 => ?_)
      · have h := h.1 c12
        refine Rf_sub [1, 2, 3, 0, 4, 5, 6] rfl ?_
        exact sj_X8_drawn_134 X hkb_88 _ _ _ _ _ _ _ h
      · have h := h.2 c12
        refine Rf_iload X (j := 0) rfl dX8_drawn_119 rfl ?_
        refine Rf_bipush X (v := 16) rfl dX8_drawn_121 rfl ?_
        refine Rf_iushr X dX8_drawn_123 rfl ?_
        refine Rf_bipush X (v := 12) rfl dX8_drawn_124 rfl ?_
        refine Rf_irem X (by decide) dX8_drawn_126 rfl ?_
        refine Rf_iload_n X (j := 2) rfl rfl dX8_drawn_127 rfl ?_
        refine Rf_bipush X (v := 100) rfl dX8_drawn_128 rfl ?_
        refine Rf_irem X (by decide) dX8_drawn_130 rfl ?_
        refine Rf_icmp_ge X (tgt := 139) dX8_drawn_131 rfl rfl (fun c11 => ?_) (fun c11 => ?_)
        · have h := h.1 c11
          refine Rf_iload X (j := 0) rfl dX8_drawn_139 rfl ?_
          refine Rf_bipush X (v := 8) rfl dX8_drawn_141 rfl ?_
          refine Rf_iushr X dX8_drawn_143 rfl ?_
          refine Rf_aload_n X (j := 1) rfl rfl dX8_drawn_144 rfl ?_
          refine Rf_get X kc8 (Nat.le_of_ble_eq_true rfl) rfl (j := 0) (Nat.le_of_ble_eq_true rfl) lf_X8_94 (v := .int (gI σ 0 0)) rfl dX8_drawn_145 rfl ?_
          obtain ⟨s10, h⟩ := h
          refine Rf_irem X s10 dX8_drawn_148 rfl ?_
          refine Rf_sub [1, 2, 3, 0, 4, 5, 6] rfl ?_
          exact sj_X8_drawn_149 X hkb_88 _ _ _ _ _ _ _ _ h
        · have h := h.2 c11
          refine Rf_sub [1, 2, 3, 0, 4, 5, 6] rfl ?_
          exact sj_X8_drawn_134 X hkb_88 _ _ _ _ _ _ _ h
def wl_X8_drawn_75 (Q : Int32 → rfS → Prop) : Nat → Int32 → Int32 → Int32 → Int32 → Int32 → rfS → Prop
  | 0, _, _, _, _, _, _ => False
  | n + 1, x2, x3, x4, x5, x6, σ => (((x2 / 10000) ≤ x6 → Q x5 σ) ∧ (¬ ((x2 / 10000) ≤ x6) → (∃ n14, wl_X8_drawn_88 Q (fun (x2_15 : Int32) (x3_16 : Int32) (x4_17 : Int32) (x5_18 : Int32) (x6_19 : Int32) (σ20 : rfS) => wp_X8_laysBack σ20 24 (fun (σ21 : rfS) => wl_X8_drawn_75 Q n x2_15 x3_16 x4_17 x5_18 (x6_19 + 1) σ21)) n14 x2 x3 x4 x5 x6 0 σ)))
set_option maxRecDepth 20000 in
theorem sl_X8_drawn_75 {E : rfE} {Q : Int32 → rfS → Prop} (X : rfX ΛM E yX8_drawn cX8_drawn 10 (some .int)) : ∀ (n : Nat) (x2 : Int32) (x3 : Int32) (x4 : Int32) (x5 : Int32) (x6 : Int32) (σ : rfS), wl_X8_drawn_75 Q n x2 x3 x4 x5 x6 σ → Rf ΛM 5 E 10 (qi Q) 75 [(0, .ref 0), (2, .int x2), (3, .int x3), (4, .int x4), (5, .int x5), (6, .int x6)] [] σ := by
  intro n
  induction n with
  | zero =>
    intro x2 x3 x4 x5 x6 σ h
    exact False.elim h
  | succ n hkb_75 =>
    intro x2 x3 x4 x5 x6 σ h
    unfold wl_X8_drawn_75 at h
    refine Rf_iload X (j := 5) rfl dX8_drawn_75 rfl ?_
    refine Rf_iload_n X (j := 1) rfl rfl dX8_drawn_77 rfl ?_
    refine Rf_sipush X (v := 10000) rfl dX8_drawn_78 rfl ?_
    refine Rf_idiv X (by decide) dX8_drawn_81 rfl ?_
    refine Rf_icmp_ge X (tgt := 203) dX8_drawn_82 rfl rfl (fun c22 => ?_) (fun c22 => ?_)
    · have h := h.1 c22
      refine Rf_iload X (j := 4) rfl dX8_drawn_203 rfl ?_
      exact Rf_iret X rfl dX8_drawn_205 ⟨_, rfl, h⟩
    · have h := h.2 c22
      refine Rf_iconst X (v := 0) rfl dX8_drawn_85 rfl ?_
      refine Rf_istore X (i := 7) (Nat.le_of_ble_eq_true rfl) (ls2 := [(7, .int 0), (0, .ref 0), (2, .int x2), (3, .int x3), (4, .int x4), (5, .int x5), (6, .int x6)]) rfl dX8_drawn_86 rfl ?_
      obtain ⟨n14, h⟩ := h
      refine Rf_sub [1, 2, 3, 4, 5, 6, 0] rfl ?_
      refine sl_X8_drawn_88 X (fun x2_15 x3_16 x4_17 x5_18 x6_19 σ20 h => ?_) n14 _ _ _ _ _ _ _ h
      · refine Rf_aload_n X (j := 0) rfl rfl dX8_drawn_189 rfl ?_
        refine Rf_aload_n X (j := 0) rfl rfl dX8_drawn_190 rfl ?_
        refine Rf_get X kc8 (Nat.le_of_ble_eq_true rfl) rfl (j := 37) (Nat.le_of_ble_eq_true rfl) lf_X8_82 (v := .ref 24) rfl dX8_drawn_191 rfl ?_
        refine Rf_cVv (as := [.ref 24]) (st := []) X mi_X8_laysBack lm_X8_250 rfl (Nat.le_of_ble_eq_true rfl) rfl (k_X8_laysBack (by unfold isW; decide) h) (Nat.le_of_ble_eq_true rfl) rfl rfl (Nat.le_of_ble_eq_true rfl) dX8_drawn_194 rfl (fun σ21 h => ?_)
        refine Rf_iinc X (i := 6) (j := 5) (v := x6_19 + 1) rfl rfl (Nat.le_of_ble_eq_true rfl) (ls2 := [(6, .int (x6_19 + 1)), (0, .ref 0), (2, .int x2_15), (3, .int x3_16), (4, .int x4_17), (5, .int x5_18)]) rfl dX8_drawn_197 rfl ?_
        refine Rf_goto X (tgt := 75) dX8_drawn_200 rfl ?_
        refine Rf_sub [1, 2, 3, 4, 5, 0] rfl ?_
        exact hkb_75 _ _ _ _ _ σ21 h
def wj_X8_drawn_58 (Q : Int32 → rfS → Prop) (x1 : Int32) (x2 : Int32) (x3 : Int32) (σ : rfS) : Prop :=
  wp_X8_keeps σ 24 (fun (σ5 : rfS) => (∃ n23, wl_X8_drawn_75 Q n23 x2 x3 x1 0 0 σ5))
set_option maxRecDepth 20000 in
theorem sj_X8_drawn_58 {E : rfE} {Q : Int32 → rfS → Prop} (X : rfX ΛM E yX8_drawn cX8_drawn 10 (some .int)) (x1 : Int32) (x2 : Int32) (x3 : Int32) (σ : rfS) (h : wj_X8_drawn_58 Q x1 x2 x3 σ) : Rf ΛM 5 E 10 (qi Q) 58 [(0, .ref 0), (1, .int x1), (2, .int x2), (3, .int x3)] [] σ := by
  unfold wj_X8_drawn_58 at h
  refine Rf_aload_n X (j := 0) rfl rfl dX8_drawn_58 rfl ?_
  refine Rf_aload_n X (j := 0) rfl rfl dX8_drawn_59 rfl ?_
  refine Rf_get X kc8 (Nat.le_of_ble_eq_true rfl) rfl (j := 37) (Nat.le_of_ble_eq_true rfl) lf_X8_82 (v := .ref 24) rfl dX8_drawn_60 rfl ?_
  refine Rf_cVv (as := [.ref 24]) (st := []) X mi_X8_keeps lm_X8_240 rfl (Nat.le_of_ble_eq_true rfl) rfl (k_X8_keeps (by unfold isW; decide) h) (Nat.le_of_ble_eq_true rfl) rfl rfl (Nat.le_of_ble_eq_true rfl) dX8_drawn_63 rfl (fun σ5 h => ?_)
  refine Rf_iload_n X (j := 1) rfl rfl dX8_drawn_66 rfl ?_
  refine Rf_istore X (i := 4) (Nat.le_of_ble_eq_true rfl) (ls2 := [(4, .int x1), (0, .ref 0), (1, .int x1), (2, .int x2), (3, .int x3)]) rfl dX8_drawn_67 rfl ?_
  refine Rf_iconst X (v := 0) rfl dX8_drawn_69 rfl ?_
  refine Rf_istore X (i := 5) (Nat.le_of_ble_eq_true rfl) (ls2 := [(5, .int 0), (4, .int x1), (0, .ref 0), (1, .int x1), (2, .int x2), (3, .int x3)]) rfl dX8_drawn_70 rfl ?_
  refine Rf_iconst X (v := 0) rfl dX8_drawn_72 rfl ?_
  refine Rf_istore X (i := 6) (Nat.le_of_ble_eq_true rfl) (ls2 := [(6, .int 0), (5, .int 0), (4, .int x1), (0, .ref 0), (1, .int x1), (2, .int x2), (3, .int x3)]) rfl dX8_drawn_73 rfl ?_
  obtain ⟨n23, h⟩ := h
  refine Rf_sub [3, 5, 6, 2, 1, 0] rfl ?_
  exact sl_X8_drawn_75 X n23 _ _ _ _ _ _ h
def wp_X8_drawn (σ : rfS) (x1 : Int32) (x2 : Int32) (x3 : Int32) (Q : Int32 → rfS → Prop) : Prop :=
  ((x2 < 0 → Q (-1) σ) ∧ (¬ (x2 < 0) → wp_X8_within σ (x2 / 10000) 1 30 (fun (r2 : Int32) (σ1 : rfS) => ((r2 = 0 → Q (-1) σ1) ∧ (¬ r2 = 0 → wp_X8_within σ1 ((x2 / 100) - (x2 / 100) / 100 * 100) 1 28 (fun (r4 : Int32) (σ3 : rfS) => ((r4 = 0 → Q (-1) σ3) ∧ (¬ r4 = 0 → ((12 < (x2 - x2 / 100 * 100) → Q (-1) σ3) ∧ (¬ (12 < (x2 - x2 / 100 * 100)) → ((x3 = (-1) → wj_X8_drawn_58 Q x1 x2 x3 σ3) ∧ (¬ x3 = (-1) → wp_X8_isOne σ3 x3 (fun (r25 : Int32) (σ24 : rfS) => ((¬ r25 = 0 → wj_X8_drawn_58 Q x1 x2 x3 σ24) ∧ (r25 = 0 → Q (-1) σ24)))))))))))))))
set_option maxRecDepth 20000 in
theorem k_X8_drawn {σ : rfS} {x1 : Int32} {x2 : Int32} {x3 : Int32} {Q : Int32 → rfS → Prop} (h : wp_X8_drawn σ x1 x2 x3 Q) : RM ΛM 5 yX8_drawn cX8_drawn 10 (some .int) [.ref 0, .int x1, .int x2, .int x3] σ (qi Q) := by
  unfold wp_X8_drawn at h
  refine RM.intro (by decide) (Nat.le_of_ble_eq_true rfl) (fun E X => ?_)
  show Rf ΛM 5 E 10 (qi Q) 0 [(0, .ref 0), (1, .int x1), (2, .int x2), (3, .int x3)] [] σ
  refine Rf_iload_n X (j := 2) rfl rfl dX8_drawn_0 rfl ?_
  refine Rf_if_lt X (tgt := 56) dX8_drawn_1 rfl rfl (fun c31 => ?_) (fun c31 => ?_)
  · have h := h.1 c31
    refine Rf_iconst X (v := (-1)) (by decide) dX8_drawn_56 rfl ?_
    exact Rf_iret X rfl dX8_drawn_57 ⟨_, rfl, h⟩
  · have h := h.2 c31
    refine Rf_iload_n X (j := 2) rfl rfl dX8_drawn_4 rfl ?_
    refine Rf_sipush X (v := 10000) rfl dX8_drawn_5 rfl ?_
    refine Rf_idiv X (by decide) dX8_drawn_8 rfl ?_
    refine Rf_iconst X (v := 1) rfl dX8_drawn_9 rfl ?_
    refine Rf_bipush X (v := 30) rfl dX8_drawn_10 rfl ?_
    refine Rf_cSi (as := [.int (x2 / 10000), .int 1, .int 30]) (st := []) X ms_X8_within lm_X8_98 (k_X8_within h) (Nat.le_of_ble_eq_true rfl) rfl rfl (Nat.le_of_ble_eq_true rfl) dX8_drawn_12 rfl (fun r2 σ1 h => ?_)
    refine Rf_if_eq X (tgt := 56) dX8_drawn_15 rfl rfl (fun c30 => ?_) (fun c30 => ?_)
    · have h := h.1 c30
      refine Rf_iconst X (v := (-1)) (by decide) dX8_drawn_56 rfl ?_
      exact Rf_iret X rfl dX8_drawn_57 ⟨_, rfl, h⟩
    · have h := h.2 c30
      refine Rf_iload_n X (j := 2) rfl rfl dX8_drawn_18 rfl ?_
      refine Rf_bipush X (v := 100) rfl dX8_drawn_19 rfl ?_
      refine Rf_idiv X (by decide) dX8_drawn_21 rfl ?_
      refine Rf_bipush X (v := 100) rfl dX8_drawn_22 rfl ?_
      refine Rf_irem X (by decide) dX8_drawn_24 rfl ?_
      refine Rf_iconst X (v := 1) rfl dX8_drawn_25 rfl ?_
      refine Rf_bipush X (v := 28) rfl dX8_drawn_26 rfl ?_
      refine Rf_cSi (as := [.int ((x2 / 100) - (x2 / 100) / 100 * 100), .int 1, .int 28]) (st := []) X ms_X8_within lm_X8_98 (k_X8_within h) (Nat.le_of_ble_eq_true rfl) rfl rfl (Nat.le_of_ble_eq_true rfl) dX8_drawn_28 rfl (fun r4 σ3 h => ?_)
      refine Rf_if_eq X (tgt := 56) dX8_drawn_31 rfl rfl (fun c29 => ?_) (fun c29 => ?_)
      · have h := h.1 c29
        refine Rf_iconst X (v := (-1)) (by decide) dX8_drawn_56 rfl ?_
        exact Rf_iret X rfl dX8_drawn_57 ⟨_, rfl, h⟩
      · have h := h.2 c29
        refine Rf_iload_n X (j := 2) rfl rfl dX8_drawn_34 rfl ?_
        refine Rf_bipush X (v := 100) rfl dX8_drawn_35 rfl ?_
        refine Rf_irem X (by decide) dX8_drawn_37 rfl ?_
        refine Rf_bipush X (v := 12) rfl dX8_drawn_38 rfl ?_
        refine Rf_icmp_gt X (tgt := 56) dX8_drawn_40 rfl rfl (fun c28 => ?_) (fun c28 => ?_)
        · have h := h.1 c28
          refine Rf_iconst X (v := (-1)) (by decide) dX8_drawn_56 rfl ?_
          exact Rf_iret X rfl dX8_drawn_57 ⟨_, rfl, h⟩
        · have h := h.2 c28
          refine Rf_iload_n X (j := 3) rfl rfl dX8_drawn_43 rfl ?_
          refine Rf_iconst X (v := (-1)) (by decide) dX8_drawn_44 rfl ?_
          refine Rf_icmp_eq X (tgt := 58) dX8_drawn_45 rfl rfl (fun c27 => ?_) (fun c27 => ?_)
          · have h := h.1 c27
            exact sj_X8_drawn_58 X _ _ _ _ h
          · have h := h.2 c27
            refine Rf_aload_n X (j := 0) rfl rfl dX8_drawn_48 rfl ?_
            refine Rf_iload_n X (j := 3) rfl rfl dX8_drawn_49 rfl ?_
            refine Rf_cVi (as := [.int x3]) (st := []) X mi_X8_isOne lm_X8_116 rfl (Nat.le_of_ble_eq_true rfl) rfl (k_X8_isOne h) (Nat.le_of_ble_eq_true rfl) rfl rfl (Nat.le_of_ble_eq_true rfl) dX8_drawn_50 rfl (fun r25 σ24 h => ?_)
            refine Rf_if_ne X (tgt := 58) dX8_drawn_53 rfl rfl (fun c26 => ?_) (fun c26 => ?_)
            · have h := h.1 c26
              exact sj_X8_drawn_58 X _ _ _ _ h
            · have h := h.2 c26
              refine Rf_iconst X (v := (-1)) (by decide) dX8_drawn_56 rfl ?_
              exact Rf_iret X rfl dX8_drawn_57 ⟨_, rfl, h⟩
def wj_X8_day_16 (Q : Int32 → rfS → Prop) (x1 : Int32) (σ : rfS) : Prop :=
  wp_X8_passes σ x1 (fun (r4 : Int32) (σ3 : rfS) => Q r4 (sF (sF σ3 14 0 ((gF σ3 14 0) + 1)) 14 1 ((gF σ3 14 1) + r4)))
set_option maxRecDepth 20000 in
theorem sj_X8_day_16 {E : rfE} {Q : Int32 → rfS → Prop} (X : rfX ΛM E yX8_day cX8_day 3 (some .int)) (x1 : Int32) (σ : rfS) (h : wj_X8_day_16 Q x1 σ) : Rf ΛM 5 E 3 (qi Q) 16 [(0, .ref 0), (1, .int x1)] [] σ := by
  unfold wj_X8_day_16 at h
  refine Rf_aload_n X (j := 0) rfl rfl dX8_day_16 rfl ?_
  refine Rf_iload_n X (j := 1) rfl rfl dX8_day_17 rfl ?_
  refine Rf_cVi (as := [.int x1]) (st := []) X mi_X8_passes lm_X8_234 rfl (Nat.le_of_ble_eq_true rfl) rfl (k_X8_passes h) (Nat.le_of_ble_eq_true rfl) rfl rfl (Nat.le_of_ble_eq_true rfl) dX8_day_18 rfl (fun r4 σ3 h => ?_)
  refine Rf_istore_n X rfl (i := 2) (Nat.le_of_ble_eq_true rfl) (ls2 := [(2, .int r4), (0, .ref 0), (1, .int x1)]) rfl dX8_day_21 rfl ?_
  refine Rf_aload_n X (j := 1) rfl rfl dX8_day_22 rfl ?_
  refine Rf_get X kc8 (Nat.le_of_ble_eq_true rfl) rfl (j := 21) (Nat.le_of_ble_eq_true rfl) lf_X8_51 (v := .ref 14) rfl dX8_day_23 rfl ?_
  refine Rf_iconst X (v := 0) rfl dX8_day_26 rfl ?_
  refine Rf_dup2 X rfl rfl dX8_day_27 rfl ?_
  refine Rf_iaload X (Nat.le_of_ble_eq_true rfl) rfl rfl (by unfold vp_in; decide) dX8_day_28 rfl (v := gF σ3 14 0) rfl ?_
  refine Rf_iconst X (v := 1) rfl dX8_day_29 rfl ?_
  refine Rf_iadd X dX8_day_30 rfl ?_
  refine Rf_iastore X (Nat.le_of_ble_eq_true rfl) rfl rfl (by unfold vp_in; decide) dX8_day_31 rfl ?_
  refine Rf_aload_n X (j := 1) rfl rfl dX8_day_32 rfl ?_
  refine Rf_get X kc8 (Nat.le_of_ble_eq_true rfl) rfl (j := 21) (Nat.le_of_ble_eq_true rfl) lf_X8_51 (v := .ref 14) rfl dX8_day_33 rfl ?_
  refine Rf_iconst X (v := 1) rfl dX8_day_36 rfl ?_
  refine Rf_dup2 X rfl rfl dX8_day_37 rfl ?_
  refine Rf_iaload X (Nat.le_of_ble_eq_true rfl) rfl rfl (by unfold vp_in; decide) dX8_day_38 rfl (v := gF σ3 14 1) (show gF (sF σ3 14 0 ((gF σ3 14 0) + 1)) 14 1 = gF σ3 14 1 from gF_sFi (by decide)) ?_
  refine Rf_iload_n X (j := 0) rfl rfl dX8_day_39 rfl ?_
  refine Rf_iadd X dX8_day_40 rfl ?_
  refine Rf_iastore X (Nat.le_of_ble_eq_true rfl) rfl rfl (by unfold vp_in; decide) dX8_day_41 rfl ?_
  refine Rf_iload_n X (j := 0) rfl rfl dX8_day_42 rfl ?_
  exact Rf_iret X rfl dX8_day_43 ⟨_, rfl, h⟩
def wp_X8_day (σ : rfS) (x1 : Int32) (Q : Int32 → rfS → Prop) : Prop :=
  wp_X8_isOne σ x1 (fun (r2 : Int32) (σ1 : rfS) => ((¬ r2 = 0 → wj_X8_day_16 Q x1 σ1) ∧ (r2 = 0 → ((x1 = 7 → wj_X8_day_16 Q x1 σ1) ∧ (¬ x1 = 7 → Q (-1) σ1)))))
set_option maxRecDepth 20000 in
theorem k_X8_day {σ : rfS} {x1 : Int32} {Q : Int32 → rfS → Prop} (h : wp_X8_day σ x1 Q) : RM ΛM 5 yX8_day cX8_day 3 (some .int) [.ref 0, .int x1] σ (qi Q) := by
  unfold wp_X8_day at h
  refine RM.intro (by decide) (Nat.le_of_ble_eq_true rfl) (fun E X => ?_)
  show Rf ΛM 5 E 3 (qi Q) 0 [(0, .ref 0), (1, .int x1)] [] σ
  refine Rf_aload_n X (j := 0) rfl rfl dX8_day_0 rfl ?_
  refine Rf_iload_n X (j := 1) rfl rfl dX8_day_1 rfl ?_
  refine Rf_cVi (as := [.int x1]) (st := []) X mi_X8_isOne lm_X8_116 rfl (Nat.le_of_ble_eq_true rfl) rfl (k_X8_isOne h) (Nat.le_of_ble_eq_true rfl) rfl rfl (Nat.le_of_ble_eq_true rfl) dX8_day_2 rfl (fun r2 σ1 h => ?_)
  refine Rf_if_ne X (tgt := 16) dX8_day_5 rfl rfl (fun c6 => ?_) (fun c6 => ?_)
  · have h := h.1 c6
    exact sj_X8_day_16 X _ _ h
  · have h := h.2 c6
    refine Rf_iload_n X (j := 1) rfl rfl dX8_day_8 rfl ?_
    refine Rf_bipush X (v := 7) rfl dX8_day_9 rfl ?_
    refine Rf_icmp_eq X (tgt := 16) dX8_day_11 rfl rfl (fun c5 => ?_) (fun c5 => ?_)
    · have h := h.1 c5
      exact sj_X8_day_16 X _ _ h
    · have h := h.2 c5
      refine Rf_iconst X (v := (-1)) (by decide) dX8_day_14 rfl ?_
      exact Rf_iret X rfl dX8_day_15 ⟨_, rfl, h⟩
def wp_X8_tells (σ : rfS) (x1 : Int32) (x2 : Int32) (Q : Int32 → rfS → Prop) : Prop :=
  wp_X8_isOne σ x1 (fun (r2 : Int32) (σ1 : rfS) => ((r2 = 0 → Q (-1) σ1) ∧ (¬ r2 = 0 → wp_X8_isOne σ1 x2 (fun (r4 : Int32) (σ3 : rfS) => ((r4 = 0 → Q (-1) σ3) ∧ (¬ r4 = 0 → ((¬ x1 = x2 → vp_in (14 + x2) 42 ∧ vp_in (14 + x2) 42 ∧ vp_in (14 + x1) 42 ∧ vp_in (14 + x2) 42 ∧ vp_in (14 + x2) 42 ∧ wp_J6_bitCount_0f7a4 (sF (sF σ3 1 ((14 + x2).toNatClampNeg) ((gF σ3 1 ((14 + x2).toNatClampNeg)) ||| (gF σ3 1 ((14 + x1).toNatClampNeg)))) 14 2 ((gF σ3 14 2) + 1)) ((gF (sF σ3 1 ((14 + x2).toNatClampNeg) ((gF σ3 1 ((14 + x2).toNatClampNeg)) ||| (gF σ3 1 ((14 + x1).toNatClampNeg)))) 1 ((14 + x2).toNatClampNeg)) &&& ((gF σ3 1 ((14 + x2).toNatClampNeg)) ^^^ (-1))) (fun (r11 : Int32) (σ10 : rfS) => Q r11 σ10)) ∧ (x1 = x2 → Q (-1) σ3))))))))
set_option maxRecDepth 20000 in
theorem k_X8_tells {σ : rfS} {x1 : Int32} {x2 : Int32} {Q : Int32 → rfS → Prop} (h : wp_X8_tells σ x1 x2 Q) : RM ΛM 2 yX8_tells cX8_tells 4 (some .int) [.ref 0, .int x1, .int x2] σ (qi Q) := by
  unfold wp_X8_tells at h
  refine RM.intro (by decide) (Nat.le_of_ble_eq_true rfl) (fun E X => ?_)
  show Rf ΛM 2 E 4 (qi Q) 0 [(0, .ref 0), (1, .int x1), (2, .int x2)] [] σ
  refine Rf_aload_n X (j := 0) rfl rfl dX8_tells_0 rfl ?_
  refine Rf_iload_n X (j := 1) rfl rfl dX8_tells_1 rfl ?_
  refine Rf_cVi (as := [.int x1]) (st := []) X mi_X8_isOne lm_X8_116 rfl (Nat.le_of_ble_eq_true rfl) rfl (k_X8_isOne h) (Nat.le_of_ble_eq_true rfl) rfl rfl (Nat.le_of_ble_eq_true rfl) dX8_tells_2 rfl (fun r2 σ1 h => ?_)
  refine Rf_if_eq X (tgt := 21) dX8_tells_5 rfl rfl (fun c14 => ?_) (fun c14 => ?_)
  · have h := h.1 c14
    refine Rf_iconst X (v := (-1)) (by decide) dX8_tells_21 rfl ?_
    exact Rf_iret X rfl dX8_tells_22 ⟨_, rfl, h⟩
  · have h := h.2 c14
    refine Rf_aload_n X (j := 0) rfl rfl dX8_tells_8 rfl ?_
    refine Rf_iload_n X (j := 2) rfl rfl dX8_tells_9 rfl ?_
    refine Rf_cVi (as := [.int x2]) (st := []) X mi_X8_isOne lm_X8_116 rfl (Nat.le_of_ble_eq_true rfl) rfl (k_X8_isOne h) (Nat.le_of_ble_eq_true rfl) rfl rfl (Nat.le_of_ble_eq_true rfl) dX8_tells_10 rfl (fun r4 σ3 h => ?_)
    refine Rf_if_eq X (tgt := 21) dX8_tells_13 rfl rfl (fun c13 => ?_) (fun c13 => ?_)
    · have h := h.1 c13
      refine Rf_iconst X (v := (-1)) (by decide) dX8_tells_21 rfl ?_
      exact Rf_iret X rfl dX8_tells_22 ⟨_, rfl, h⟩
    · have h := h.2 c13
      refine Rf_iload_n X (j := 1) rfl rfl dX8_tells_16 rfl ?_
      refine Rf_iload_n X (j := 2) rfl rfl dX8_tells_17 rfl ?_
      refine Rf_icmp_ne X (tgt := 23) dX8_tells_18 rfl rfl (fun c12 => ?_) (fun c12 => ?_)
      · have h := h.1 c12
        refine Rf_aload_n X (j := 0) rfl rfl dX8_tells_23 rfl ?_
        refine Rf_get X kc8 (Nat.le_of_ble_eq_true rfl) rfl (j := 1) (Nat.le_of_ble_eq_true rfl) lf_X8_9 (v := .ref 1) rfl dX8_tells_24 rfl ?_
        refine Rf_bipush X (v := 14) rfl dX8_tells_27 rfl ?_
        refine Rf_iload_n X (j := 2) rfl rfl dX8_tells_29 rfl ?_
        refine Rf_iadd X dX8_tells_30 rfl ?_
        obtain ⟨s5, h⟩ := h
        refine Rf_iaload X (Nat.le_of_ble_eq_true rfl) rfl rfl s5 dX8_tells_31 rfl (v := gF σ3 1 ((14 + x2).toNatClampNeg)) rfl ?_
        refine Rf_istore_n X rfl (i := 3) (Nat.le_of_ble_eq_true rfl) (ls2 := [(3, .int (gF σ3 1 ((14 + x2).toNatClampNeg))), (0, .ref 0), (1, .int x1), (2, .int x2)]) rfl dX8_tells_32 rfl ?_
        refine Rf_aload_n X (j := 1) rfl rfl dX8_tells_33 rfl ?_
        refine Rf_get X kc8 (Nat.le_of_ble_eq_true rfl) rfl (j := 1) (Nat.le_of_ble_eq_true rfl) lf_X8_9 (v := .ref 1) rfl dX8_tells_34 rfl ?_
        refine Rf_bipush X (v := 14) rfl dX8_tells_37 rfl ?_
        refine Rf_iload_n X (j := 3) rfl rfl dX8_tells_39 rfl ?_
        refine Rf_iadd X dX8_tells_40 rfl ?_
        refine Rf_dup2 X rfl rfl dX8_tells_41 rfl ?_
        obtain ⟨s6, h⟩ := h
        refine Rf_iaload X (Nat.le_of_ble_eq_true rfl) rfl rfl s6 dX8_tells_42 rfl (v := gF σ3 1 ((14 + x2).toNatClampNeg)) rfl ?_
        refine Rf_aload_n X (j := 1) rfl rfl dX8_tells_43 rfl ?_
        refine Rf_get X kc8 (Nat.le_of_ble_eq_true rfl) rfl (j := 1) (Nat.le_of_ble_eq_true rfl) lf_X8_9 (v := .ref 1) rfl dX8_tells_44 rfl ?_
        refine Rf_bipush X (v := 14) rfl dX8_tells_47 rfl ?_
        refine Rf_iload_n X (j := 2) rfl rfl dX8_tells_49 rfl ?_
        refine Rf_iadd X dX8_tells_50 rfl ?_
        obtain ⟨s7, h⟩ := h
        refine Rf_iaload X (Nat.le_of_ble_eq_true rfl) rfl rfl s7 dX8_tells_51 rfl (v := gF σ3 1 ((14 + x1).toNatClampNeg)) rfl ?_
        refine Rf_ior X dX8_tells_52 rfl ?_
        obtain ⟨s8, h⟩ := h
        refine Rf_iastore X (Nat.le_of_ble_eq_true rfl) rfl rfl s8 dX8_tells_53 rfl ?_
        refine Rf_aload_n X (j := 1) rfl rfl dX8_tells_54 rfl ?_
        refine Rf_get X kc8 (Nat.le_of_ble_eq_true rfl) rfl (j := 21) (Nat.le_of_ble_eq_true rfl) lf_X8_51 (v := .ref 14) rfl dX8_tells_55 rfl ?_
        refine Rf_iconst X (v := 2) rfl dX8_tells_58 rfl ?_
        refine Rf_dup2 X rfl rfl dX8_tells_59 rfl ?_
        refine Rf_iaload X (Nat.le_of_ble_eq_true rfl) rfl rfl (by unfold vp_in; decide) dX8_tells_60 rfl (v := gF σ3 14 2) (show gF (sF σ3 1 ((14 + x2).toNatClampNeg) ((gF σ3 1 ((14 + x2).toNatClampNeg)) ||| (gF σ3 1 ((14 + x1).toNatClampNeg)))) 14 2 = gF σ3 14 2 from gF_sFn (by decide)) ?_
        refine Rf_iconst X (v := 1) rfl dX8_tells_61 rfl ?_
        refine Rf_iadd X dX8_tells_62 rfl ?_
        refine Rf_iastore X (Nat.le_of_ble_eq_true rfl) rfl rfl (by unfold vp_in; decide) dX8_tells_63 rfl ?_
        refine Rf_aload_n X (j := 1) rfl rfl dX8_tells_64 rfl ?_
        refine Rf_get X kc8 (Nat.le_of_ble_eq_true rfl) rfl (j := 1) (Nat.le_of_ble_eq_true rfl) lf_X8_9 (v := .ref 1) rfl dX8_tells_65 rfl ?_
        refine Rf_bipush X (v := 14) rfl dX8_tells_68 rfl ?_
        refine Rf_iload_n X (j := 3) rfl rfl dX8_tells_70 rfl ?_
        refine Rf_iadd X dX8_tells_71 rfl ?_
        obtain ⟨s9, h⟩ := h
        refine Rf_iaload X (Nat.le_of_ble_eq_true rfl) rfl rfl s9 dX8_tells_72 rfl (v := gF (sF σ3 1 ((14 + x2).toNatClampNeg) ((gF σ3 1 ((14 + x2).toNatClampNeg)) ||| (gF σ3 1 ((14 + x1).toNatClampNeg)))) 1 ((14 + x2).toNatClampNeg)) (show gF (sF (sF σ3 1 ((14 + x2).toNatClampNeg) ((gF σ3 1 ((14 + x2).toNatClampNeg)) ||| (gF σ3 1 ((14 + x1).toNatClampNeg)))) 14 2 ((gF σ3 14 2) + 1)) 1 ((14 + x2).toNatClampNeg) = gF (sF σ3 1 ((14 + x2).toNatClampNeg) ((gF σ3 1 ((14 + x2).toNatClampNeg)) ||| (gF σ3 1 ((14 + x1).toNatClampNeg)))) 1 ((14 + x2).toNatClampNeg) from gF_sFn (by decide)) ?_
        refine Rf_iload_n X (j := 0) rfl rfl dX8_tells_73 rfl ?_
        refine Rf_iconst X (v := (-1)) (by decide) dX8_tells_74 rfl ?_
        refine Rf_ixor X dX8_tells_75 rfl ?_
        refine Rf_iand X dX8_tells_76 rfl ?_
        refine Rf_cSi (as := [.int ((gF (sF σ3 1 ((14 + x2).toNatClampNeg) ((gF σ3 1 ((14 + x2).toNatClampNeg)) ||| (gF σ3 1 ((14 + x1).toNatClampNeg)))) 1 ((14 + x2).toNatClampNeg)) &&& ((gF σ3 1 ((14 + x2).toNatClampNeg)) ^^^ (-1)))]) (st := []) X ms_J6_bitCount_0f7a4 lm_X8_209 (k_J6_bitCount_0f7a4 h) (Nat.le_of_ble_eq_true rfl) rfl rfl (Nat.le_of_ble_eq_true rfl) dX8_tells_77 rfl (fun r11 σ10 h => ?_)
        exact Rf_iret X rfl dX8_tells_80 ⟨_, rfl, h⟩
      · have h := h.2 c12
        refine Rf_iconst X (v := (-1)) (by decide) dX8_tells_21 rfl ?_
        exact Rf_iret X rfl dX8_tells_22 ⟨_, rfl, h⟩
def wp_X8_pays (σ : rfS) (x1 : Int32) (x2 : Int32) (x3 : Int32) (Q : Int32 → rfS → Prop) : Prop :=
  wp_X8_isOne σ x1 (fun (r2 : Int32) (σ1 : rfS) => ((r2 = 0 → Q (-1) σ1) ∧ (¬ r2 = 0 → wp_X8_isOne σ1 x2 (fun (r4 : Int32) (σ3 : rfS) => ((r4 = 0 → Q (-1) σ3) ∧ (¬ r4 = 0 → ((x1 = x2 → Q (-1) σ3) ∧ (¬ x1 = x2 → wp_X8_within σ3 x3 1 99 (fun (r6 : Int32) (σ5 : rfS) => ((¬ r6 = 0 → vp_in (7 + x1) 42 ∧ (((gF σ5 1 ((7 + x1).toNatClampNeg)) < x3 → Q (-5) σ5) ∧ (¬ ((gF σ5 1 ((7 + x1).toNatClampNeg)) < x3) → vp_in (7 + x2) 42 ∧ ((x3 ≤ (gF σ5 1 ((7 + x2).toNatClampNeg)) → vp_in (7 + x1) 42 ∧ vp_in (7 + x1) 42 ∧ vp_in (7 + x2) 42 ∧ vp_in (7 + x2) 42 ∧ vp_in (7 + x1) 42 ∧ Q (gF (sF (sF σ5 1 ((7 + x1).toNatClampNeg) ((gF σ5 1 ((7 + x1).toNatClampNeg)) - x3)) 1 ((7 + x2).toNatClampNeg) ((gF (sF σ5 1 ((7 + x1).toNatClampNeg) ((gF σ5 1 ((7 + x1).toNatClampNeg)) - x3)) 1 ((7 + x2).toNatClampNeg)) - x3)) 1 ((7 + x1).toNatClampNeg)) (sF (sF (sF σ5 1 ((7 + x1).toNatClampNeg) ((gF σ5 1 ((7 + x1).toNatClampNeg)) - x3)) 1 ((7 + x2).toNatClampNeg) ((gF (sF σ5 1 ((7 + x1).toNatClampNeg) ((gF σ5 1 ((7 + x1).toNatClampNeg)) - x3)) 1 ((7 + x2).toNatClampNeg)) - x3)) 14 3 ((gF σ5 14 3) + x3))) ∧ (¬ (x3 ≤ (gF σ5 1 ((7 + x2).toNatClampNeg))) → Q (-5) σ5))))) ∧ (r6 = 0 → Q (-1) σ5)))))))))))
set_option maxRecDepth 20000 in
theorem k_X8_pays {σ : rfS} {x1 : Int32} {x2 : Int32} {x3 : Int32} {Q : Int32 → rfS → Prop} (h : wp_X8_pays σ x1 x2 x3 Q) : RM ΛM 2 yX8_pays cX8_pays 4 (some .int) [.ref 0, .int x1, .int x2, .int x3] σ (qi Q) := by
  unfold wp_X8_pays at h
  refine RM.intro (by decide) (Nat.le_of_ble_eq_true rfl) (fun E X => ?_)
  show Rf ΛM 2 E 4 (qi Q) 0 [(0, .ref 0), (1, .int x1), (2, .int x2), (3, .int x3)] [] σ
  refine Rf_aload_n X (j := 0) rfl rfl dX8_pays_0 rfl ?_
  refine Rf_iload_n X (j := 1) rfl rfl dX8_pays_1 rfl ?_
  refine Rf_cVi (as := [.int x1]) (st := []) X mi_X8_isOne lm_X8_116 rfl (Nat.le_of_ble_eq_true rfl) rfl (k_X8_isOne h) (Nat.le_of_ble_eq_true rfl) rfl rfl (Nat.le_of_ble_eq_true rfl) dX8_pays_2 rfl (fun r2 σ1 h => ?_)
  refine Rf_if_eq X (tgt := 31) dX8_pays_5 rfl rfl (fun c19 => ?_) (fun c19 => ?_)
  · have h := h.1 c19
    refine Rf_iconst X (v := (-1)) (by decide) dX8_pays_31 rfl ?_
    exact Rf_iret X rfl dX8_pays_32 ⟨_, rfl, h⟩
  · have h := h.2 c19
    refine Rf_aload_n X (j := 0) rfl rfl dX8_pays_8 rfl ?_
    refine Rf_iload_n X (j := 2) rfl rfl dX8_pays_9 rfl ?_
    refine Rf_cVi (as := [.int x2]) (st := []) X mi_X8_isOne lm_X8_116 rfl (Nat.le_of_ble_eq_true rfl) rfl (k_X8_isOne h) (Nat.le_of_ble_eq_true rfl) rfl rfl (Nat.le_of_ble_eq_true rfl) dX8_pays_10 rfl (fun r4 σ3 h => ?_)
    refine Rf_if_eq X (tgt := 31) dX8_pays_13 rfl rfl (fun c18 => ?_) (fun c18 => ?_)
    · have h := h.1 c18
      refine Rf_iconst X (v := (-1)) (by decide) dX8_pays_31 rfl ?_
      exact Rf_iret X rfl dX8_pays_32 ⟨_, rfl, h⟩
    · have h := h.2 c18
      refine Rf_iload_n X (j := 1) rfl rfl dX8_pays_16 rfl ?_
      refine Rf_iload_n X (j := 2) rfl rfl dX8_pays_17 rfl ?_
      refine Rf_icmp_eq X (tgt := 31) dX8_pays_18 rfl rfl (fun c17 => ?_) (fun c17 => ?_)
      · have h := h.1 c17
        refine Rf_iconst X (v := (-1)) (by decide) dX8_pays_31 rfl ?_
        exact Rf_iret X rfl dX8_pays_32 ⟨_, rfl, h⟩
      · have h := h.2 c17
        refine Rf_iload_n X (j := 3) rfl rfl dX8_pays_21 rfl ?_
        refine Rf_iconst X (v := 1) rfl dX8_pays_22 rfl ?_
        refine Rf_bipush X (v := 99) rfl dX8_pays_23 rfl ?_
        refine Rf_cSi (as := [.int x3, .int 1, .int 99]) (st := []) X ms_X8_within lm_X8_98 (k_X8_within h) (Nat.le_of_ble_eq_true rfl) rfl rfl (Nat.le_of_ble_eq_true rfl) dX8_pays_25 rfl (fun r6 σ5 h => ?_)
        refine Rf_if_ne X (tgt := 33) dX8_pays_28 rfl rfl (fun c16 => ?_) (fun c16 => ?_)
        · have h := h.1 c16
          refine Rf_aload_n X (j := 0) rfl rfl dX8_pays_33 rfl ?_
          refine Rf_get X kc8 (Nat.le_of_ble_eq_true rfl) rfl (j := 1) (Nat.le_of_ble_eq_true rfl) lf_X8_9 (v := .ref 1) rfl dX8_pays_34 rfl ?_
          refine Rf_bipush X (v := 7) rfl dX8_pays_37 rfl ?_
          refine Rf_iload_n X (j := 1) rfl rfl dX8_pays_39 rfl ?_
          refine Rf_iadd X dX8_pays_40 rfl ?_
          obtain ⟨s7, h⟩ := h
          refine Rf_iaload X (Nat.le_of_ble_eq_true rfl) rfl rfl s7 dX8_pays_41 rfl (v := gF σ5 1 ((7 + x1).toNatClampNeg)) rfl ?_
          refine Rf_iload_n X (j := 3) rfl rfl dX8_pays_42 rfl ?_
          refine Rf_icmp_lt X (tgt := 59) dX8_pays_43 rfl rfl (fun c15 => ?_) (fun c15 => ?_)
          · have h := h.1 c15
            refine Rf_bipush X (v := (-5)) (by decide) dX8_pays_59 rfl ?_
            exact Rf_iret X rfl dX8_pays_61 ⟨_, rfl, h⟩
          · have h := h.2 c15
            refine Rf_aload_n X (j := 0) rfl rfl dX8_pays_46 rfl ?_
            refine Rf_get X kc8 (Nat.le_of_ble_eq_true rfl) rfl (j := 1) (Nat.le_of_ble_eq_true rfl) lf_X8_9 (v := .ref 1) rfl dX8_pays_47 rfl ?_
            refine Rf_bipush X (v := 7) rfl dX8_pays_50 rfl ?_
            refine Rf_iload_n X (j := 2) rfl rfl dX8_pays_52 rfl ?_
            refine Rf_iadd X dX8_pays_53 rfl ?_
            obtain ⟨s8, h⟩ := h
            refine Rf_iaload X (Nat.le_of_ble_eq_true rfl) rfl rfl s8 dX8_pays_54 rfl (v := gF σ5 1 ((7 + x2).toNatClampNeg)) rfl ?_
            refine Rf_iload_n X (j := 3) rfl rfl dX8_pays_55 rfl ?_
            refine Rf_icmp_ge X (tgt := 62) dX8_pays_56 rfl rfl (fun c14 => ?_) (fun c14 => ?_)
            · have h := h.1 c14
              refine Rf_aload_n X (j := 0) rfl rfl dX8_pays_62 rfl ?_
              refine Rf_get X kc8 (Nat.le_of_ble_eq_true rfl) rfl (j := 1) (Nat.le_of_ble_eq_true rfl) lf_X8_9 (v := .ref 1) rfl dX8_pays_63 rfl ?_
              refine Rf_bipush X (v := 7) rfl dX8_pays_66 rfl ?_
              refine Rf_iload_n X (j := 1) rfl rfl dX8_pays_68 rfl ?_
              refine Rf_iadd X dX8_pays_69 rfl ?_
              refine Rf_dup2 X rfl rfl dX8_pays_70 rfl ?_
              obtain ⟨s9, h⟩ := h
              refine Rf_iaload X (Nat.le_of_ble_eq_true rfl) rfl rfl s9 dX8_pays_71 rfl (v := gF σ5 1 ((7 + x1).toNatClampNeg)) rfl ?_
              refine Rf_iload_n X (j := 3) rfl rfl dX8_pays_72 rfl ?_
              refine Rf_isub X dX8_pays_73 rfl ?_
              obtain ⟨s10, h⟩ := h
              refine Rf_iastore X (Nat.le_of_ble_eq_true rfl) rfl rfl s10 dX8_pays_74 rfl ?_
              refine Rf_aload_n X (j := 0) rfl rfl dX8_pays_75 rfl ?_
              refine Rf_get X kc8 (Nat.le_of_ble_eq_true rfl) rfl (j := 1) (Nat.le_of_ble_eq_true rfl) lf_X8_9 (v := .ref 1) rfl dX8_pays_76 rfl ?_
              refine Rf_bipush X (v := 7) rfl dX8_pays_79 rfl ?_
              refine Rf_iload_n X (j := 2) rfl rfl dX8_pays_81 rfl ?_
              refine Rf_iadd X dX8_pays_82 rfl ?_
              refine Rf_dup2 X rfl rfl dX8_pays_83 rfl ?_
              obtain ⟨s11, h⟩ := h
              refine Rf_iaload X (Nat.le_of_ble_eq_true rfl) rfl rfl s11 dX8_pays_84 rfl (v := gF (sF σ5 1 ((7 + x1).toNatClampNeg) ((gF σ5 1 ((7 + x1).toNatClampNeg)) - x3)) 1 ((7 + x2).toNatClampNeg)) rfl ?_
              refine Rf_iload_n X (j := 3) rfl rfl dX8_pays_85 rfl ?_
              refine Rf_isub X dX8_pays_86 rfl ?_
              obtain ⟨s12, h⟩ := h
              refine Rf_iastore X (Nat.le_of_ble_eq_true rfl) rfl rfl s12 dX8_pays_87 rfl ?_
              refine Rf_aload_n X (j := 0) rfl rfl dX8_pays_88 rfl ?_
              refine Rf_get X kc8 (Nat.le_of_ble_eq_true rfl) rfl (j := 21) (Nat.le_of_ble_eq_true rfl) lf_X8_51 (v := .ref 14) rfl dX8_pays_89 rfl ?_
              refine Rf_iconst X (v := 3) rfl dX8_pays_92 rfl ?_
              refine Rf_dup2 X rfl rfl dX8_pays_93 rfl ?_
              refine Rf_iaload X (Nat.le_of_ble_eq_true rfl) rfl rfl (by unfold vp_in; decide) dX8_pays_94 rfl (v := gF σ5 14 3) (show gF (sF (sF σ5 1 ((7 + x1).toNatClampNeg) ((gF σ5 1 ((7 + x1).toNatClampNeg)) - x3)) 1 ((7 + x2).toNatClampNeg) ((gF (sF σ5 1 ((7 + x1).toNatClampNeg) ((gF σ5 1 ((7 + x1).toNatClampNeg)) - x3)) 1 ((7 + x2).toNatClampNeg)) - x3)) 14 3 = gF σ5 14 3 from (gF_sFn (by decide)).trans (gF_sFn (by decide))) ?_
              refine Rf_iload_n X (j := 3) rfl rfl dX8_pays_95 rfl ?_
              refine Rf_iadd X dX8_pays_96 rfl ?_
              refine Rf_iastore X (Nat.le_of_ble_eq_true rfl) rfl rfl (by unfold vp_in; decide) dX8_pays_97 rfl ?_
              refine Rf_aload_n X (j := 0) rfl rfl dX8_pays_98 rfl ?_
              refine Rf_get X kc8 (Nat.le_of_ble_eq_true rfl) rfl (j := 1) (Nat.le_of_ble_eq_true rfl) lf_X8_9 (v := .ref 1) rfl dX8_pays_99 rfl ?_
              refine Rf_bipush X (v := 7) rfl dX8_pays_102 rfl ?_
              refine Rf_iload_n X (j := 1) rfl rfl dX8_pays_104 rfl ?_
              refine Rf_iadd X dX8_pays_105 rfl ?_
              obtain ⟨s13, h⟩ := h
              refine Rf_iaload X (Nat.le_of_ble_eq_true rfl) rfl rfl s13 dX8_pays_106 rfl (v := gF (sF (sF σ5 1 ((7 + x1).toNatClampNeg) ((gF σ5 1 ((7 + x1).toNatClampNeg)) - x3)) 1 ((7 + x2).toNatClampNeg) ((gF (sF σ5 1 ((7 + x1).toNatClampNeg) ((gF σ5 1 ((7 + x1).toNatClampNeg)) - x3)) 1 ((7 + x2).toNatClampNeg)) - x3)) 1 ((7 + x1).toNatClampNeg)) (show gF (sF (sF (sF σ5 1 ((7 + x1).toNatClampNeg) ((gF σ5 1 ((7 + x1).toNatClampNeg)) - x3)) 1 ((7 + x2).toNatClampNeg) ((gF (sF σ5 1 ((7 + x1).toNatClampNeg) ((gF σ5 1 ((7 + x1).toNatClampNeg)) - x3)) 1 ((7 + x2).toNatClampNeg)) - x3)) 14 3 ((gF σ5 14 3) + x3)) 1 ((7 + x1).toNatClampNeg) = gF (sF (sF σ5 1 ((7 + x1).toNatClampNeg) ((gF σ5 1 ((7 + x1).toNatClampNeg)) - x3)) 1 ((7 + x2).toNatClampNeg) ((gF (sF σ5 1 ((7 + x1).toNatClampNeg) ((gF σ5 1 ((7 + x1).toNatClampNeg)) - x3)) 1 ((7 + x2).toNatClampNeg)) - x3)) 1 ((7 + x1).toNatClampNeg) from gF_sFn (by decide)) ?_
              exact Rf_iret X rfl dX8_pays_107 ⟨_, rfl, h⟩
            · have h := h.2 c14
              refine Rf_bipush X (v := (-5)) (by decide) dX8_pays_59 rfl ?_
              exact Rf_iret X rfl dX8_pays_61 ⟨_, rfl, h⟩
        · have h := h.2 c16
          refine Rf_iconst X (v := (-1)) (by decide) dX8_pays_31 rfl ?_
          exact Rf_iret X rfl dX8_pays_32 ⟨_, rfl, h⟩
def wp_X8_cobble (σ : rfS) (Q : Int32 → rfS → Prop) : Prop :=
  Q (gF σ 2 0) (sF (sF σ 2 0 0) 14 4 ((gF σ 14 4) + 1))
set_option maxRecDepth 20000 in
theorem k_X8_cobble {σ : rfS} {Q : Int32 → rfS → Prop} (h : wp_X8_cobble σ Q) : RM ΛM 0 yX8_cobble cX8_cobble 2 (some .int) [.ref 0] σ (qi Q) := by
  unfold wp_X8_cobble at h
  refine RM.intro (by decide) (Nat.le_of_ble_eq_true rfl) (fun E X => ?_)
  show Rf ΛM 0 E 2 (qi Q) 0 [(0, .ref 0)] [] σ
  refine Rf_aload_n X (j := 0) rfl rfl dX8_cobble_0 rfl ?_
  refine Rf_get X kc8 (Nat.le_of_ble_eq_true rfl) rfl (j := 2) (Nat.le_of_ble_eq_true rfl) lf_X8_15 (v := .ref 2) rfl dX8_cobble_1 rfl ?_
  refine Rf_iconst X (v := 0) rfl dX8_cobble_4 rfl ?_
  refine Rf_iaload X (Nat.le_of_ble_eq_true rfl) rfl rfl (by unfold vp_in; decide) dX8_cobble_5 rfl (v := gF σ 2 0) rfl ?_
  refine Rf_istore_n X rfl (i := 1) (Nat.le_of_ble_eq_true rfl) (ls2 := [(1, .int (gF σ 2 0)), (0, .ref 0)]) rfl dX8_cobble_6 rfl ?_
  refine Rf_aload_n X (j := 1) rfl rfl dX8_cobble_7 rfl ?_
  refine Rf_get X kc8 (Nat.le_of_ble_eq_true rfl) rfl (j := 2) (Nat.le_of_ble_eq_true rfl) lf_X8_15 (v := .ref 2) rfl dX8_cobble_8 rfl ?_
  refine Rf_iconst X (v := 0) rfl dX8_cobble_11 rfl ?_
  refine Rf_iconst X (v := 0) rfl dX8_cobble_12 rfl ?_
  refine Rf_iastore X (Nat.le_of_ble_eq_true rfl) rfl rfl (by unfold vp_in; decide) dX8_cobble_13 rfl ?_
  refine Rf_aload_n X (j := 1) rfl rfl dX8_cobble_14 rfl ?_
  refine Rf_get X kc8 (Nat.le_of_ble_eq_true rfl) rfl (j := 21) (Nat.le_of_ble_eq_true rfl) lf_X8_51 (v := .ref 14) rfl dX8_cobble_15 rfl ?_
  refine Rf_iconst X (v := 4) rfl dX8_cobble_18 rfl ?_
  refine Rf_dup2 X rfl rfl dX8_cobble_19 rfl ?_
  refine Rf_iaload X (Nat.le_of_ble_eq_true rfl) rfl rfl (by unfold vp_in; decide) dX8_cobble_20 rfl (v := gF σ 14 4) (show gF (sF σ 2 0 0) 14 4 = gF σ 14 4 from gF_sFn (by decide)) ?_
  refine Rf_iconst X (v := 1) rfl dX8_cobble_21 rfl ?_
  refine Rf_iadd X dX8_cobble_22 rfl ?_
  refine Rf_iastore X (Nat.le_of_ble_eq_true rfl) rfl rfl (by unfold vp_in; decide) dX8_cobble_23 rfl ?_
  refine Rf_iload_n X (j := 0) rfl rfl dX8_cobble_24 rfl ?_
  exact Rf_iret X rfl dX8_cobble_25 ⟨_, rfl, h⟩
def wp_X8_led (σ : rfS) (x1 : Int32) (Q : Int32 → rfS → Prop) : Prop :=
  wp_X8_within σ x1 0 4 (fun (r2 : Int32) (σ1 : rfS) => ((r2 = 0 → Q (-1) σ1) ∧ (¬ r2 = 0 → vp_in x1 5 ∧ (Q (gF σ1 14 (x1.toNatClampNeg)) σ1))))
set_option maxRecDepth 20000 in
theorem k_X8_led {σ : rfS} {x1 : Int32} {Q : Int32 → rfS → Prop} (h : wp_X8_led σ x1 Q) : RM ΛM 1 yX8_led cX8_led 2 (some .int) [.ref 0, .int x1] σ (qi Q) := by
  unfold wp_X8_led at h
  refine RM.intro (by decide) (Nat.le_of_ble_eq_true rfl) (fun E X => ?_)
  show Rf ΛM 1 E 2 (qi Q) 0 [(0, .ref 0), (1, .int x1)] [] σ
  refine Rf_iload_n X (j := 1) rfl rfl dX8_led_0 rfl ?_
  refine Rf_iconst X (v := 0) rfl dX8_led_1 rfl ?_
  refine Rf_iconst X (v := 4) rfl dX8_led_2 rfl ?_
  refine Rf_cSi (as := [.int x1, .int 0, .int 4]) (st := []) X ms_X8_within lm_X8_98 (k_X8_within h) (Nat.le_of_ble_eq_true rfl) rfl rfl (Nat.le_of_ble_eq_true rfl) dX8_led_3 rfl (fun r2 σ1 h => ?_)
  refine Rf_if_eq X (tgt := 18) dX8_led_6 rfl rfl (fun c4 => ?_) (fun c4 => ?_)
  · have h := h.1 c4
    refine Rf_iconst X (v := (-1)) (by decide) dX8_led_18 rfl ?_
    exact Rf_iret X rfl dX8_led_19 ⟨_, rfl, h⟩
  · have h := h.2 c4
    refine Rf_aload_n X (j := 0) rfl rfl dX8_led_9 rfl ?_
    refine Rf_get X kc8 (Nat.le_of_ble_eq_true rfl) rfl (j := 21) (Nat.le_of_ble_eq_true rfl) lf_X8_51 (v := .ref 14) rfl dX8_led_10 rfl ?_
    refine Rf_iload_n X (j := 1) rfl rfl dX8_led_13 rfl ?_
    obtain ⟨s3, h⟩ := h
    refine Rf_iaload X (Nat.le_of_ble_eq_true rfl) rfl rfl s3 dX8_led_14 rfl (v := gF σ1 14 (x1.toNatClampNeg)) rfl ?_
    refine Rf_goto X (tgt := 19) dX8_led_15 rfl ?_
    exact Rf_iret X rfl dX8_led_19 ⟨_, rfl, h⟩
def wl_X8_image_23 (Q : Int32 → rfS → Prop) : Nat → Int32 → rfS → Prop
  | 0, _, _ => False
  | n + 1, x1, σ => ((5 ≤ x1 → Q (gF σ 14 0) σ) ∧ (¬ (5 ≤ x1) → vp_in x1 5 ∧ vp_in x1 5 ∧ (wl_X8_image_23 Q n (x1 + 1) (sF σ 16 (x1.toNatClampNeg) (gF σ 14 (x1.toNatClampNeg))))))
set_option maxRecDepth 20000 in
theorem sl_X8_image_23 {E : rfE} {Q : Int32 → rfS → Prop} (X : rfX ΛM E yX8_image cX8_image 2 (some .int)) : ∀ (n : Nat) (x1 : Int32) (σ : rfS), wl_X8_image_23 Q n x1 σ → Rf ΛM 1 E 2 (qi Q) 23 [(0, .ref 0), (1, .int x1)] [] σ := by
  intro n
  induction n with
  | zero =>
    intro x1 σ h
    exact False.elim h
  | succ n hkb_23 =>
    intro x1 σ h
    unfold wl_X8_image_23 at h
    refine Rf_iload_n X (j := 1) rfl rfl dX8_image_23 rfl ?_
    refine Rf_iconst X (v := 5) rfl dX8_image_24 rfl ?_
    refine Rf_icmp_ge X (tgt := 46) dX8_image_25 rfl rfl (fun c4 => ?_) (fun c4 => ?_)
    · have h := h.1 c4
      refine Rf_aload_n X (j := 0) rfl rfl dX8_image_46 rfl ?_
      refine Rf_get X kc8 (Nat.le_of_ble_eq_true rfl) rfl (j := 21) (Nat.le_of_ble_eq_true rfl) lf_X8_51 (v := .ref 14) rfl dX8_image_47 rfl ?_
      refine Rf_iconst X (v := 0) rfl dX8_image_50 rfl ?_
      refine Rf_iaload X (Nat.le_of_ble_eq_true rfl) rfl rfl (by unfold vp_in; decide) dX8_image_51 rfl (v := gF σ 14 0) rfl ?_
      exact Rf_iret X rfl dX8_image_52 ⟨_, rfl, h⟩
    · have h := h.2 c4
      refine Rf_aload_n X (j := 0) rfl rfl dX8_image_28 rfl ?_
      refine Rf_get X kc8 (Nat.le_of_ble_eq_true rfl) rfl (j := 25) (Nat.le_of_ble_eq_true rfl) lf_X8_57 (v := .ref 16) rfl dX8_image_29 rfl ?_
      refine Rf_iload_n X (j := 1) rfl rfl dX8_image_32 rfl ?_
      refine Rf_aload_n X (j := 0) rfl rfl dX8_image_33 rfl ?_
      refine Rf_get X kc8 (Nat.le_of_ble_eq_true rfl) rfl (j := 21) (Nat.le_of_ble_eq_true rfl) lf_X8_51 (v := .ref 14) rfl dX8_image_34 rfl ?_
      refine Rf_iload_n X (j := 1) rfl rfl dX8_image_37 rfl ?_
      obtain ⟨s2, h⟩ := h
      refine Rf_iaload X (Nat.le_of_ble_eq_true rfl) rfl rfl s2 dX8_image_38 rfl (v := gF σ 14 (x1.toNatClampNeg)) rfl ?_
      obtain ⟨s3, h⟩ := h
      refine Rf_iastore X (Nat.le_of_ble_eq_true rfl) rfl rfl s3 dX8_image_39 rfl ?_
      refine Rf_iinc X (i := 1) (j := 1) (v := x1 + 1) rfl rfl (Nat.le_of_ble_eq_true rfl) (ls2 := [(1, .int (x1 + 1)), (0, .ref 0)]) rfl dX8_image_40 rfl ?_
      refine Rf_goto X (tgt := 23) dX8_image_43 rfl ?_
      refine Rf_sub [1, 0] rfl ?_
      exact hkb_23 _ (sF σ 16 (x1.toNatClampNeg) (gF σ 14 (x1.toNatClampNeg))) h
def wp_X8_image (σ : rfS) (Q : Int32 → rfS → Prop) : Prop :=
  wp_X8_keeps (sI (sI σ 0 22 1) 0 23 (gI σ 0 0)) 15 (fun (σ1 : rfS) => (∃ n5, wl_X8_image_23 Q n5 0 σ1))
set_option maxRecDepth 20000 in
theorem k_X8_image {σ : rfS} {Q : Int32 → rfS → Prop} (h : wp_X8_image σ Q) : RM ΛM 1 yX8_image cX8_image 2 (some .int) [.ref 0] σ (qi Q) := by
  unfold wp_X8_image at h
  refine RM.intro (by decide) (Nat.le_of_ble_eq_true rfl) (fun E X => ?_)
  show Rf ΛM 1 E 2 (qi Q) 0 [(0, .ref 0)] [] σ
  refine Rf_aload_n X (j := 0) rfl rfl dX8_image_0 rfl ?_
  refine Rf_iconst X (v := 1) rfl dX8_image_1 rfl ?_
  refine Rf_put X kc8 (Nat.le_of_ble_eq_true rfl) rfl (j := 22) (Nat.le_of_ble_eq_true rfl) rfl lf_X8_298 rfl rfl rfl dX8_image_2 rfl ?_
  refine Rf_aload_n X (j := 0) rfl rfl dX8_image_5 rfl ?_
  refine Rf_aload_n X (j := 0) rfl rfl dX8_image_6 rfl ?_
  refine Rf_get X kc8 (Nat.le_of_ble_eq_true rfl) rfl (j := 0) (Nat.le_of_ble_eq_true rfl) lf_X8_94 (v := .int (gI σ 0 0)) (congrArg Value.int (show gI (sI σ 0 22 1) 0 0 = gI σ 0 0 from gI_sIj (by decide))) dX8_image_7 rfl ?_
  refine Rf_put X kc8 (Nat.le_of_ble_eq_true rfl) rfl (j := 23) (Nat.le_of_ble_eq_true rfl) rfl lf_X8_301 rfl rfl rfl dX8_image_10 rfl ?_
  refine Rf_aload_n X (j := 0) rfl rfl dX8_image_13 rfl ?_
  refine Rf_aload_n X (j := 0) rfl rfl dX8_image_14 rfl ?_
  refine Rf_get X kc8 (Nat.le_of_ble_eq_true rfl) rfl (j := 24) (Nat.le_of_ble_eq_true rfl) lf_X8_54 (v := .ref 15) rfl dX8_image_15 rfl ?_
  refine Rf_cVv (as := [.ref 15]) (st := []) X mi_X8_keeps lm_X8_240 rfl (Nat.le_of_ble_eq_true rfl) rfl (k_X8_keeps (by unfold isW; decide) h) (Nat.le_of_ble_eq_true rfl) rfl rfl (Nat.le_of_ble_eq_true rfl) dX8_image_18 rfl (fun σ1 h => ?_)
  refine Rf_iconst X (v := 0) rfl dX8_image_21 rfl ?_
  refine Rf_istore_n X rfl (i := 1) (Nat.le_of_ble_eq_true rfl) (ls2 := [(1, .int 0), (0, .ref 0)]) rfl dX8_image_22 rfl ?_
  obtain ⟨n5, h⟩ := h
  refine Rf_sub [1, 0] rfl ?_
  exact sl_X8_image_23 X n5 _ _ h
def wl_X8_back_12 (Q : Int32 → rfS → Prop) (kx_59 : rfS → Prop) : Nat → Int32 → rfS → Prop
  | 0, _, _ => False
  | n + 1, x1, σ => (((gI σ 0 23) ≤ x1 → kx_59 σ) ∧ (¬ ((gI σ 0 23) ≤ x1) → vp_in x1 16 ∧ vp_in (7 + x1) 42 ∧ vp_in (7 + x1) 16 ∧ vp_in (14 + x1) 42 ∧ (wl_X8_back_12 Q kx_59 n (x1 + 1) (sF (sF σ 1 ((7 + x1).toNatClampNeg) (gF σ 15 (x1.toNatClampNeg))) 1 ((14 + x1).toNatClampNeg) (gF σ 15 ((7 + x1).toNatClampNeg))))))
set_option maxRecDepth 20000 in
theorem sl_X8_back_12 {E : rfE} {Q : Int32 → rfS → Prop} (X : rfX ΛM E yX8_back cX8_back 2 (some .int)) {kx_59 : rfS → Prop} (hkx_59 : ∀ (σ : rfS), kx_59 σ → Rf ΛM 0 E 2 (qi Q) 59 [(0, .ref 0)] [] σ) : ∀ (n : Nat) (x1 : Int32) (σ : rfS), wl_X8_back_12 Q kx_59 n x1 σ → Rf ΛM 0 E 2 (qi Q) 12 [(0, .ref 0), (1, .int x1)] [] σ := by
  intro n
  induction n with
  | zero =>
    intro x1 σ h
    exact False.elim h
  | succ n hkb_12 =>
    intro x1 σ h
    unfold wl_X8_back_12 at h
    refine Rf_iload_n X (j := 1) rfl rfl dX8_back_12 rfl ?_
    refine Rf_aload_n X (j := 0) rfl rfl dX8_back_13 rfl ?_
    refine Rf_get X kc8 (Nat.le_of_ble_eq_true rfl) rfl (j := 23) (Nat.le_of_ble_eq_true rfl) lf_X8_301 (v := .int (gI σ 0 23)) rfl dX8_back_14 rfl ?_
    refine Rf_icmp_ge X (tgt := 59) dX8_back_17 rfl rfl (fun c5 => ?_) (fun c5 => ?_)
    · have h := h.1 c5
      refine Rf_sub [0] rfl ?_
      exact hkx_59 σ h
    · have h := h.2 c5
      refine Rf_aload_n X (j := 0) rfl rfl dX8_back_20 rfl ?_
      refine Rf_get X kc8 (Nat.le_of_ble_eq_true rfl) rfl (j := 1) (Nat.le_of_ble_eq_true rfl) lf_X8_9 (v := .ref 1) rfl dX8_back_21 rfl ?_
      refine Rf_bipush X (v := 7) rfl dX8_back_24 rfl ?_
      refine Rf_iload_n X (j := 1) rfl rfl dX8_back_26 rfl ?_
      refine Rf_iadd X dX8_back_27 rfl ?_
      refine Rf_aload_n X (j := 0) rfl rfl dX8_back_28 rfl ?_
      refine Rf_get X kc8 (Nat.le_of_ble_eq_true rfl) rfl (j := 24) (Nat.le_of_ble_eq_true rfl) lf_X8_54 (v := .ref 15) rfl dX8_back_29 rfl ?_
      refine Rf_iload_n X (j := 1) rfl rfl dX8_back_32 rfl ?_
      obtain ⟨s1, h⟩ := h
      refine Rf_iaload X (Nat.le_of_ble_eq_true rfl) rfl rfl s1 dX8_back_33 rfl (v := gF σ 15 (x1.toNatClampNeg)) rfl ?_
      obtain ⟨s2, h⟩ := h
      refine Rf_iastore X (Nat.le_of_ble_eq_true rfl) rfl rfl s2 dX8_back_34 rfl ?_
      refine Rf_aload_n X (j := 0) rfl rfl dX8_back_35 rfl ?_
      refine Rf_get X kc8 (Nat.le_of_ble_eq_true rfl) rfl (j := 1) (Nat.le_of_ble_eq_true rfl) lf_X8_9 (v := .ref 1) rfl dX8_back_36 rfl ?_
      refine Rf_bipush X (v := 14) rfl dX8_back_39 rfl ?_
      refine Rf_iload_n X (j := 1) rfl rfl dX8_back_41 rfl ?_
      refine Rf_iadd X dX8_back_42 rfl ?_
      refine Rf_aload_n X (j := 0) rfl rfl dX8_back_43 rfl ?_
      refine Rf_get X kc8 (Nat.le_of_ble_eq_true rfl) rfl (j := 24) (Nat.le_of_ble_eq_true rfl) lf_X8_54 (v := .ref 15) rfl dX8_back_44 rfl ?_
      refine Rf_bipush X (v := 7) rfl dX8_back_47 rfl ?_
      refine Rf_iload_n X (j := 1) rfl rfl dX8_back_49 rfl ?_
      refine Rf_iadd X dX8_back_50 rfl ?_
      obtain ⟨s3, h⟩ := h
      refine Rf_iaload X (Nat.le_of_ble_eq_true rfl) rfl rfl s3 dX8_back_51 rfl (v := gF σ 15 ((7 + x1).toNatClampNeg)) (show gF (sF σ 1 ((7 + x1).toNatClampNeg) (gF σ 15 (x1.toNatClampNeg))) 15 ((7 + x1).toNatClampNeg) = gF σ 15 ((7 + x1).toNatClampNeg) from gF_sFn (by decide)) ?_
      obtain ⟨s4, h⟩ := h
      refine Rf_iastore X (Nat.le_of_ble_eq_true rfl) rfl rfl s4 dX8_back_52 rfl ?_
      refine Rf_iinc X (i := 1) (j := 1) (v := x1 + 1) rfl rfl (Nat.le_of_ble_eq_true rfl) (ls2 := [(1, .int (x1 + 1)), (0, .ref 0)]) rfl dX8_back_53 rfl ?_
      refine Rf_goto X (tgt := 12) dX8_back_56 rfl ?_
      refine Rf_sub [1, 0] rfl ?_
      exact hkb_12 _ (sF (sF σ 1 ((7 + x1).toNatClampNeg) (gF σ 15 (x1.toNatClampNeg))) 1 ((14 + x1).toNatClampNeg) (gF σ 15 ((7 + x1).toNatClampNeg))) h
def wl_X8_back_87 (Q : Int32 → rfS → Prop) : Nat → Int32 → rfS → Prop
  | 0, _, _ => False
  | n + 1, x1, σ => ((5 ≤ x1 → Q (gF σ 14 0) σ) ∧ (¬ (5 ≤ x1) → vp_in x1 5 ∧ vp_in x1 5 ∧ (wl_X8_back_87 Q n (x1 + 1) (sF σ 14 (x1.toNatClampNeg) (gF σ 16 (x1.toNatClampNeg))))))
set_option maxRecDepth 20000 in
theorem sl_X8_back_87 {E : rfE} {Q : Int32 → rfS → Prop} (X : rfX ΛM E yX8_back cX8_back 2 (some .int)) : ∀ (n : Nat) (x1 : Int32) (σ : rfS), wl_X8_back_87 Q n x1 σ → Rf ΛM 0 E 2 (qi Q) 87 [(0, .ref 0), (1, .int x1)] [] σ := by
  intro n
  induction n with
  | zero =>
    intro x1 σ h
    exact False.elim h
  | succ n hkb_87 =>
    intro x1 σ h
    unfold wl_X8_back_87 at h
    refine Rf_iload_n X (j := 1) rfl rfl dX8_back_87 rfl ?_
    refine Rf_iconst X (v := 5) rfl dX8_back_88 rfl ?_
    refine Rf_icmp_ge X (tgt := 110) dX8_back_89 rfl rfl (fun c10 => ?_) (fun c10 => ?_)
    · have h := h.1 c10
      refine Rf_aload_n X (j := 0) rfl rfl dX8_back_110 rfl ?_
      refine Rf_get X kc8 (Nat.le_of_ble_eq_true rfl) rfl (j := 21) (Nat.le_of_ble_eq_true rfl) lf_X8_51 (v := .ref 14) rfl dX8_back_111 rfl ?_
      refine Rf_iconst X (v := 0) rfl dX8_back_114 rfl ?_
      refine Rf_iaload X (Nat.le_of_ble_eq_true rfl) rfl rfl (by unfold vp_in; decide) dX8_back_115 rfl (v := gF σ 14 0) rfl ?_
      exact Rf_iret X rfl dX8_back_116 ⟨_, rfl, h⟩
    · have h := h.2 c10
      refine Rf_aload_n X (j := 0) rfl rfl dX8_back_92 rfl ?_
      refine Rf_get X kc8 (Nat.le_of_ble_eq_true rfl) rfl (j := 21) (Nat.le_of_ble_eq_true rfl) lf_X8_51 (v := .ref 14) rfl dX8_back_93 rfl ?_
      refine Rf_iload_n X (j := 1) rfl rfl dX8_back_96 rfl ?_
      refine Rf_aload_n X (j := 0) rfl rfl dX8_back_97 rfl ?_
      refine Rf_get X kc8 (Nat.le_of_ble_eq_true rfl) rfl (j := 25) (Nat.le_of_ble_eq_true rfl) lf_X8_57 (v := .ref 16) rfl dX8_back_98 rfl ?_
      refine Rf_iload_n X (j := 1) rfl rfl dX8_back_101 rfl ?_
      obtain ⟨s8, h⟩ := h
      refine Rf_iaload X (Nat.le_of_ble_eq_true rfl) rfl rfl s8 dX8_back_102 rfl (v := gF σ 16 (x1.toNatClampNeg)) rfl ?_
      obtain ⟨s9, h⟩ := h
      refine Rf_iastore X (Nat.le_of_ble_eq_true rfl) rfl rfl s9 dX8_back_103 rfl ?_
      refine Rf_iinc X (i := 1) (j := 1) (v := x1 + 1) rfl rfl (Nat.le_of_ble_eq_true rfl) (ls2 := [(1, .int (x1 + 1)), (0, .ref 0)]) rfl dX8_back_104 rfl ?_
      refine Rf_goto X (tgt := 87) dX8_back_107 rfl ?_
      refine Rf_sub [1, 0] rfl ?_
      exact hkb_87 _ (sF σ 14 (x1.toNatClampNeg) (gF σ 16 (x1.toNatClampNeg))) h
def wp_X8_back (σ : rfS) (Q : Int32 → rfS → Prop) : Prop :=
  ((¬ (gI σ 0 22) = 0 → (∃ n6, wl_X8_back_12 Q (fun (σ7 : rfS) => (∃ n11, wl_X8_back_87 Q n11 0 (sF (sF σ7 2 0 (gF σ7 15 14)) 2 1 (gF σ7 15 15)))) n6 0 σ)) ∧ ((gI σ 0 22) = 0 → Q (-5) σ))
set_option maxRecDepth 20000 in
theorem k_X8_back {σ : rfS} {Q : Int32 → rfS → Prop} (h : wp_X8_back σ Q) : RM ΛM 0 yX8_back cX8_back 2 (some .int) [.ref 0] σ (qi Q) := by
  unfold wp_X8_back at h
  refine RM.intro (by decide) (Nat.le_of_ble_eq_true rfl) (fun E X => ?_)
  show Rf ΛM 0 E 2 (qi Q) 0 [(0, .ref 0)] [] σ
  refine Rf_aload_n X (j := 0) rfl rfl dX8_back_0 rfl ?_
  refine Rf_get X kc8 (Nat.le_of_ble_eq_true rfl) rfl (j := 22) (Nat.le_of_ble_eq_true rfl) lf_X8_298 (v := .int (gI σ 0 22)) rfl dX8_back_1 rfl ?_
  refine Rf_if_ne X (tgt := 10) dX8_back_4 rfl rfl (fun c12 => ?_) (fun c12 => ?_)
  · have h := h.1 c12
    refine Rf_iconst X (v := 0) rfl dX8_back_10 rfl ?_
    refine Rf_istore_n X rfl (i := 1) (Nat.le_of_ble_eq_true rfl) (ls2 := [(1, .int 0), (0, .ref 0)]) rfl dX8_back_11 rfl ?_
    obtain ⟨n6, h⟩ := h
    refine Rf_sub [1, 0] rfl ?_
    refine sl_X8_back_12 X (fun σ7 h => ?_) n6 _ _ h
    · refine Rf_aload_n X (j := 0) rfl rfl dX8_back_59 rfl ?_
      refine Rf_get X kc8 (Nat.le_of_ble_eq_true rfl) rfl (j := 2) (Nat.le_of_ble_eq_true rfl) lf_X8_15 (v := .ref 2) rfl dX8_back_60 rfl ?_
      refine Rf_iconst X (v := 0) rfl dX8_back_63 rfl ?_
      refine Rf_aload_n X (j := 0) rfl rfl dX8_back_64 rfl ?_
      refine Rf_get X kc8 (Nat.le_of_ble_eq_true rfl) rfl (j := 24) (Nat.le_of_ble_eq_true rfl) lf_X8_54 (v := .ref 15) rfl dX8_back_65 rfl ?_
      refine Rf_bipush X (v := 14) rfl dX8_back_68 rfl ?_
      refine Rf_iaload X (Nat.le_of_ble_eq_true rfl) rfl rfl (by unfold vp_in; decide) dX8_back_70 rfl (v := gF σ7 15 14) rfl ?_
      refine Rf_iastore X (Nat.le_of_ble_eq_true rfl) rfl rfl (by unfold vp_in; decide) dX8_back_71 rfl ?_
      refine Rf_aload_n X (j := 0) rfl rfl dX8_back_72 rfl ?_
      refine Rf_get X kc8 (Nat.le_of_ble_eq_true rfl) rfl (j := 2) (Nat.le_of_ble_eq_true rfl) lf_X8_15 (v := .ref 2) rfl dX8_back_73 rfl ?_
      refine Rf_iconst X (v := 1) rfl dX8_back_76 rfl ?_
      refine Rf_aload_n X (j := 0) rfl rfl dX8_back_77 rfl ?_
      refine Rf_get X kc8 (Nat.le_of_ble_eq_true rfl) rfl (j := 24) (Nat.le_of_ble_eq_true rfl) lf_X8_54 (v := .ref 15) rfl dX8_back_78 rfl ?_
      refine Rf_bipush X (v := 15) rfl dX8_back_81 rfl ?_
      refine Rf_iaload X (Nat.le_of_ble_eq_true rfl) rfl rfl (by unfold vp_in; decide) dX8_back_83 rfl (v := gF σ7 15 15) (show gF (sF σ7 2 0 (gF σ7 15 14)) 15 15 = gF σ7 15 15 from gF_sFn (by decide)) ?_
      refine Rf_iastore X (Nat.le_of_ble_eq_true rfl) rfl rfl (by unfold vp_in; decide) dX8_back_84 rfl ?_
      refine Rf_iconst X (v := 0) rfl dX8_back_85 rfl ?_
      refine Rf_istore_n X rfl (i := 1) (Nat.le_of_ble_eq_true rfl) (ls2 := [(1, .int 0), (0, .ref 0)]) rfl dX8_back_86 rfl ?_
      obtain ⟨n11, h⟩ := h
      refine Rf_sub [1, 0] rfl ?_
      exact sl_X8_back_87 X n11 _ _ h
  · have h := h.2 c12
    refine Rf_bipush X (v := (-5)) (by decide) dX8_back_7 rfl ?_
    exact Rf_iret X rfl dX8_back_9 ⟨_, rfl, h⟩
def wp_X8_above (σ : rfS) (x0 : Int32) (Q : Int32 → rfS → Prop) : Prop :=
  ((x0 = 3 → Q 2 σ) ∧ (¬ x0 = 3 → ((x0 = 4 → Q 1 σ) ∧ (¬ x0 = 4 → ((x0 = 5 → Q 3 σ) ∧ (¬ x0 = 5 → ((x0 = 7 → Q 4 σ) ∧ (¬ x0 = 7 → Q 0 σ))))))))
set_option maxRecDepth 20000 in
theorem k_X8_above {σ : rfS} {x0 : Int32} {Q : Int32 → rfS → Prop} (h : wp_X8_above σ x0 Q) : RM ΛM 0 yX8_above cX8_above 1 (some .int) [.int x0] σ (qi Q) := by
  unfold wp_X8_above at h
  refine RM.intro (by decide) (Nat.le_of_ble_eq_true rfl) (fun E X => ?_)
  show Rf ΛM 0 E 1 (qi Q) 0 [(0, .int x0)] [] σ
  refine Rf_iload_n X (j := 0) rfl rfl dX8_above_0 rfl ?_
  refine Rf_tsw X (dt := 44) [(3, 36), (4, 38), (5, 40), (7, 42)] dX8_above_1 rfl (by decide +kernel) (by decide +kernel) (by decide +kernel) ?_
  refine And.intro (fun c1 => ?_) (fun c1 => ?_)
  · have h := h.1 c1
    refine Rf_iconst X (v := 2) rfl dX8_above_36 rfl ?_
    exact Rf_iret X rfl dX8_above_37 ⟨_, rfl, h⟩
  · have h := h.2 c1
    refine And.intro (fun c2 => ?_) (fun c2 => ?_)
    · have h := h.1 c2
      refine Rf_iconst X (v := 1) rfl dX8_above_38 rfl ?_
      exact Rf_iret X rfl dX8_above_39 ⟨_, rfl, h⟩
    · have h := h.2 c2
      refine And.intro (fun c3 => ?_) (fun c3 => ?_)
      · have h := h.1 c3
        refine Rf_iconst X (v := 3) rfl dX8_above_40 rfl ?_
        exact Rf_iret X rfl dX8_above_41 ⟨_, rfl, h⟩
      · have h := h.2 c3
        refine And.intro (fun c4 => ?_) (fun c4 => ?_)
        · have h := h.1 c4
          refine Rf_iconst X (v := 4) rfl dX8_above_42 rfl ?_
          exact Rf_iret X rfl dX8_above_43 ⟨_, rfl, h⟩
        · have h := h.2 c4
          show Rf ΛM 0 E 1 (qi Q) 44 [(0, .int x0)] [] σ
          refine Rf_iconst X (v := 0) rfl dX8_above_44 rfl ?_
          exact Rf_iret X rfl dX8_above_45 ⟨_, rfl, h⟩
def wj_X8_ran_19 (Q : rfS → Prop) (σ : rfS) : Prop :=
  Q (sI σ 0 31 ((gI σ 0 31) + 1))
set_option maxRecDepth 20000 in
theorem sj_X8_ran_19 {E : rfE} {Q : rfS → Prop} (X : rfX ΛM E yX8_ran cX8_ran 2 none) (σ : rfS) (h : wj_X8_ran_19 Q σ) : Rf ΛM 0 E 2 (qv Q) 19 [(0, .ref 0)] [] σ := by
  unfold wj_X8_ran_19 at h
  refine Rf_aload_n X (j := 0) rfl rfl dX8_ran_19 rfl ?_
  refine Rf_dup X rfl dX8_ran_20 rfl ?_
  refine Rf_get X kc8 (Nat.le_of_ble_eq_true rfl) rfl (j := 31) (Nat.le_of_ble_eq_true rfl) lf_X8_304 (v := .int (gI σ 0 31)) rfl dX8_ran_21 rfl ?_
  refine Rf_iconst X (v := 1) rfl dX8_ran_24 rfl ?_
  refine Rf_iadd X dX8_ran_25 rfl ?_
  refine Rf_put X kc8 (Nat.le_of_ble_eq_true rfl) rfl (j := 31) (Nat.le_of_ble_eq_true rfl) rfl lf_X8_304 rfl rfl rfl dX8_ran_26 rfl ?_
  exact Rf_vret X dX8_ran_29 ⟨rfl, h⟩
def wp_X8_ran (σ : rfS) (x1 : Int32) (Q : rfS → Prop) : Prop :=
  ((24 ≤ (gI σ 0 31) → wj_X8_ran_19 Q σ) ∧ (¬ (24 ≤ (gI σ 0 31)) → vp_in (gI σ 0 31) 24 ∧ (wj_X8_ran_19 Q (sF σ 19 ((gI σ 0 31).toNatClampNeg) x1))))
set_option maxRecDepth 20000 in
theorem k_X8_ran {σ : rfS} {x1 : Int32} {Q : rfS → Prop} (h : wp_X8_ran σ x1 Q) : RM ΛM 0 yX8_ran cX8_ran 2 none [.ref 0, .int x1] σ (qv Q) := by
  unfold wp_X8_ran at h
  refine RM.intro (by decide) (Nat.le_of_ble_eq_true rfl) (fun E X => ?_)
  show Rf ΛM 0 E 2 (qv Q) 0 [(0, .ref 0), (1, .int x1)] [] σ
  refine Rf_aload_n X (j := 0) rfl rfl dX8_ran_0 rfl ?_
  refine Rf_get X kc8 (Nat.le_of_ble_eq_true rfl) rfl (j := 31) (Nat.le_of_ble_eq_true rfl) lf_X8_304 (v := .int (gI σ 0 31)) rfl dX8_ran_1 rfl ?_
  refine Rf_bipush X (v := 24) rfl dX8_ran_4 rfl ?_
  refine Rf_icmp_ge X (tgt := 19) dX8_ran_6 rfl rfl (fun c2 => ?_) (fun c2 => ?_)
  · have h := h.1 c2
    refine Rf_sub [0] rfl ?_
    exact sj_X8_ran_19 X  _ h
  · have h := h.2 c2
    refine Rf_aload_n X (j := 0) rfl rfl dX8_ran_9 rfl ?_
    refine Rf_get X kc8 (Nat.le_of_ble_eq_true rfl) rfl (j := 32) (Nat.le_of_ble_eq_true rfl) lf_X8_66 (v := .ref 19) rfl dX8_ran_10 rfl ?_
    refine Rf_aload_n X (j := 0) rfl rfl dX8_ran_13 rfl ?_
    refine Rf_get X kc8 (Nat.le_of_ble_eq_true rfl) rfl (j := 31) (Nat.le_of_ble_eq_true rfl) lf_X8_304 (v := .int (gI σ 0 31)) rfl dX8_ran_14 rfl ?_
    refine Rf_iload_n X (j := 1) rfl rfl dX8_ran_17 rfl ?_
    obtain ⟨s1, h⟩ := h
    refine Rf_iastore X (Nat.le_of_ble_eq_true rfl) rfl rfl s1 dX8_ran_18 rfl ?_
    refine Rf_sub [0] rfl ?_
    exact sj_X8_ran_19 X  _ h
def wp_X8_walksBy (κ_X8_walksBy : rfS → Int32 → Int32 → Int32 → (Int32 → rfS → Prop) → Prop) (σ : rfS) (x1 : Int32) (x2 : Int32) (x3 : Int32) (Q : Int32 → rfS → Prop) : Prop :=
  ((x2 = 0 → wp_X8_ran σ 1 (fun (σ2 : rfS) => Q (x3 + x1) σ2)) ∧ (¬ x2 = 0 → ((x2 = 1 → wp_X8_ran σ 20 (fun (σ4 : rfS) => κ_X8_walksBy σ4 x1 0 x3 (fun (r6 : Int32) (σ5 : rfS) => Q (r6 + 3) σ5))) ∧ (¬ x2 = 1 → ((x2 = 6 → wp_X8_ran σ 70 (fun (σ8 : rfS) => κ_X8_walksBy σ8 x1 0 x3 (fun (r10 : Int32) (σ9 : rfS) => Q (r10 * 2) σ9))) ∧ (¬ x2 = 6 → wp_X8_above σ x2 (fun (r12 : Int32) (σ11 : rfS) => κ_X8_walksBy σ11 x1 r12 x3 (fun (r14 : Int32) (σ13 : rfS) => Q r14 σ13))))))))
set_option maxRecDepth 20000 in
theorem k_X8_walksBy {d : Nat} {κ_X8_walksBy : rfS → Int32 → Int32 → Int32 → (Int32 → rfS → Prop) → Prop} (hκ_X8_walksBy : ∀ (σ : rfS) (x1 : Int32) (x2 : Int32) (x3 : Int32) (Q : Int32 → rfS → Prop), κ_X8_walksBy σ x1 x2 x3 Q → RM ΛM d yX8_walksBy cX8_walksBy 4 (some .int) [.ref 0, .int x1, .int x2, .int x3] σ (qi Q)) (hB : 0 ≤ d) {σ : rfS} {x1 : Int32} {x2 : Int32} {x3 : Int32} {Q : Int32 → rfS → Prop} (h : wp_X8_walksBy κ_X8_walksBy σ x1 x2 x3 Q) : RM ΛM (d + 1) yX8_walksBy cX8_walksBy 4 (some .int) [.ref 0, .int x1, .int x2, .int x3] σ (qi Q) := by
  unfold wp_X8_walksBy at h
  refine RM.intro (by decide) (Nat.le_of_ble_eq_true rfl) (fun E X => ?_)
  show Rf ΛM (d + 1) E 4 (qi Q) 0 [(0, .ref 0), (1, .int x1), (2, .int x2), (3, .int x3)] [] σ
  refine Rf_iload_n X (j := 2) rfl rfl dX8_walksBy_0 rfl ?_
  refine Rf_lsw X (dt := 77) [(0, 36), (1, 45), (6, 61)] dX8_walksBy_1 (by decide +kernel) rfl (by decide +kernel) ?_
  refine And.intro (fun c1 => ?_) (fun c1 => ?_)
  · have h := h.1 c1
    refine Rf_aload_n X (j := 0) rfl rfl dX8_walksBy_36 rfl ?_
    refine Rf_iconst X (v := 1) rfl dX8_walksBy_37 rfl ?_
    refine Rf_cVv (as := [.int 1]) (st := []) X mi_X8_ran lm_X8_307 rfl (Nat.le_of_ble_eq_true rfl) rfl (k_X8_ran h) (by omega) rfl rfl (Nat.le_of_ble_eq_true rfl) dX8_walksBy_38 rfl (fun σ2 h => ?_)
    refine Rf_iload_n X (j := 3) rfl rfl dX8_walksBy_41 rfl ?_
    refine Rf_iload_n X (j := 1) rfl rfl dX8_walksBy_42 rfl ?_
    refine Rf_iadd X dX8_walksBy_43 rfl ?_
    exact Rf_iret X rfl dX8_walksBy_44 ⟨_, rfl, h⟩
  · have h := h.2 c1
    refine And.intro (fun c3 => ?_) (fun c3 => ?_)
    · have h := h.1 c3
      refine Rf_aload_n X (j := 0) rfl rfl dX8_walksBy_45 rfl ?_
      refine Rf_bipush X (v := 20) rfl dX8_walksBy_46 rfl ?_
      refine Rf_cVv (as := [.int 20]) (st := []) X mi_X8_ran lm_X8_307 rfl (Nat.le_of_ble_eq_true rfl) rfl (k_X8_ran h) (by omega) rfl rfl (Nat.le_of_ble_eq_true rfl) dX8_walksBy_48 rfl (fun σ4 h => ?_)
      refine Rf_aload_n X (j := 0) rfl rfl dX8_walksBy_51 rfl ?_
      refine Rf_iload_n X (j := 1) rfl rfl dX8_walksBy_52 rfl ?_
      refine Rf_iconst X (v := 0) rfl dX8_walksBy_53 rfl ?_
      refine Rf_iload_n X (j := 3) rfl rfl dX8_walksBy_54 rfl ?_
      refine Rf_cVi (as := [.int x1, .int 0, .int x3]) (st := []) X mi_X8_walksBy lm_X8_311 rfl (Nat.le_of_ble_eq_true rfl) rfl (hκ_X8_walksBy _ _ _ _ _ h) (Nat.le_refl _) rfl rfl (Nat.le_of_ble_eq_true rfl) dX8_walksBy_55 rfl (fun r6 σ5 h => ?_)
      refine Rf_iconst X (v := 3) rfl dX8_walksBy_58 rfl ?_
      refine Rf_iadd X dX8_walksBy_59 rfl ?_
      exact Rf_iret X rfl dX8_walksBy_60 ⟨_, rfl, h⟩
    · have h := h.2 c3
      refine And.intro (fun c7 => ?_) (fun c7 => ?_)
      · have h := h.1 c7
        refine Rf_aload_n X (j := 0) rfl rfl dX8_walksBy_61 rfl ?_
        refine Rf_bipush X (v := 70) rfl dX8_walksBy_62 rfl ?_
        refine Rf_cVv (as := [.int 70]) (st := []) X mi_X8_ran lm_X8_307 rfl (Nat.le_of_ble_eq_true rfl) rfl (k_X8_ran h) (by omega) rfl rfl (Nat.le_of_ble_eq_true rfl) dX8_walksBy_64 rfl (fun σ8 h => ?_)
        refine Rf_aload_n X (j := 0) rfl rfl dX8_walksBy_67 rfl ?_
        refine Rf_iload_n X (j := 1) rfl rfl dX8_walksBy_68 rfl ?_
        refine Rf_iconst X (v := 0) rfl dX8_walksBy_69 rfl ?_
        refine Rf_iload_n X (j := 3) rfl rfl dX8_walksBy_70 rfl ?_
        refine Rf_cVi (as := [.int x1, .int 0, .int x3]) (st := []) X mi_X8_walksBy lm_X8_311 rfl (Nat.le_of_ble_eq_true rfl) rfl (hκ_X8_walksBy _ _ _ _ _ h) (Nat.le_refl _) rfl rfl (Nat.le_of_ble_eq_true rfl) dX8_walksBy_71 rfl (fun r10 σ9 h => ?_)
        refine Rf_iconst X (v := 2) rfl dX8_walksBy_74 rfl ?_
        refine Rf_imul X dX8_walksBy_75 rfl ?_
        exact Rf_iret X rfl dX8_walksBy_76 ⟨_, rfl, h⟩
      · have h := h.2 c7
        show Rf ΛM (d + 1) E 4 (qi Q) 77 [(0, .ref 0), (1, .int x1), (2, .int x2), (3, .int x3)] [] σ
        refine Rf_aload_n X (j := 0) rfl rfl dX8_walksBy_77 rfl ?_
        refine Rf_iload_n X (j := 1) rfl rfl dX8_walksBy_78 rfl ?_
        refine Rf_iload_n X (j := 2) rfl rfl dX8_walksBy_79 rfl ?_
        refine Rf_cSi (as := [.int x2]) (st := [.int x1, .ref 0]) X ms_X8_above lm_X8_314 (k_X8_above h) (by omega) rfl rfl (Nat.le_of_ble_eq_true rfl) dX8_walksBy_80 rfl (fun r12 σ11 h => ?_)
        refine Rf_iload_n X (j := 3) rfl rfl dX8_walksBy_83 rfl ?_
        refine Rf_cVi (as := [.int x1, .int r12, .int x3]) (st := []) X mi_X8_walksBy lm_X8_311 rfl (Nat.le_of_ble_eq_true rfl) rfl (hκ_X8_walksBy _ _ _ _ _ h) (Nat.le_refl _) rfl rfl (Nat.le_of_ble_eq_true rfl) dX8_walksBy_84 rfl (fun r14 σ13 h => ?_)
        exact Rf_iret X rfl dX8_walksBy_87 ⟨_, rfl, h⟩
def wp_X8_owesBy (κ_X8_owesBy : rfS → Int32 → Int32 → Int32 → (Int32 → rfS → Prop) → Prop) (κ_X8_walksBy : rfS → Int32 → Int32 → Int32 → (Int32 → rfS → Prop) → Prop) (σ : rfS) (x1 : Int32) (x2 : Int32) (x3 : Int32) (Q : Int32 → rfS → Prop) : Prop :=
  ((x2 = 0 → wp_X8_ran σ 11 (fun (σ2 : rfS) => Q (x3 ^^^ x1) σ2)) ∧ (¬ x2 = 0 → ((x2 = 3 → wp_X8_ran σ 40 (fun (σ4 : rfS) => κ_X8_owesBy σ4 x1 2 x3 (fun (r6 : Int32) (σ5 : rfS) => Q (r6 * 3) σ5))) ∧ (¬ x2 = 3 → ((x2 = 4 → wp_X8_ran σ 50 (fun (σ8 : rfS) => κ_X8_owesBy σ8 x1 1 x3 (fun (r10 : Int32) (σ9 : rfS) => vp_in x1 50 ∧ κ_X8_walksBy σ9 x1 (gF σ9 18 (x1.toNatClampNeg)) 2 (fun (r13 : Int32) (σ12 : rfS) => Q (r10 - r13) σ12)))) ∧ (¬ x2 = 4 → wp_X8_above σ x2 (fun (r15 : Int32) (σ14 : rfS) => κ_X8_owesBy σ14 x1 r15 x3 (fun (r17 : Int32) (σ16 : rfS) => Q r17 σ16))))))))
set_option maxRecDepth 20000 in
theorem k_X8_owesBy {d : Nat} {κ_X8_owesBy : rfS → Int32 → Int32 → Int32 → (Int32 → rfS → Prop) → Prop} {κ_X8_walksBy : rfS → Int32 → Int32 → Int32 → (Int32 → rfS → Prop) → Prop} (hκ_X8_owesBy : ∀ (σ : rfS) (x1 : Int32) (x2 : Int32) (x3 : Int32) (Q : Int32 → rfS → Prop), κ_X8_owesBy σ x1 x2 x3 Q → RM ΛM d yX8_owesBy cX8_owesBy 5 (some .int) [.ref 0, .int x1, .int x2, .int x3] σ (qi Q)) (hκ_X8_walksBy : ∀ (σ : rfS) (x1 : Int32) (x2 : Int32) (x3 : Int32) (Q : Int32 → rfS → Prop), κ_X8_walksBy σ x1 x2 x3 Q → RM ΛM d yX8_walksBy cX8_walksBy 4 (some .int) [.ref 0, .int x1, .int x2, .int x3] σ (qi Q)) (hB : 0 ≤ d) {σ : rfS} {x1 : Int32} {x2 : Int32} {x3 : Int32} {Q : Int32 → rfS → Prop} (h : wp_X8_owesBy κ_X8_owesBy κ_X8_walksBy σ x1 x2 x3 Q) : RM ΛM (d + 1) yX8_owesBy cX8_owesBy 5 (some .int) [.ref 0, .int x1, .int x2, .int x3] σ (qi Q) := by
  unfold wp_X8_owesBy at h
  refine RM.intro (by decide) (Nat.le_of_ble_eq_true rfl) (fun E X => ?_)
  show Rf ΛM (d + 1) E 5 (qi Q) 0 [(0, .ref 0), (1, .int x1), (2, .int x2), (3, .int x3)] [] σ
  refine Rf_iload_n X (j := 2) rfl rfl dX8_owesBy_0 rfl ?_
  refine Rf_tsw X (dt := 93) [(0, 36), (3, 46), (4, 62)] dX8_owesBy_1 rfl (by decide +kernel) (by decide +kernel) (by decide +kernel) ?_
  refine And.intro (fun c1 => ?_) (fun c1 => ?_)
  · have h := h.1 c1
    refine Rf_aload_n X (j := 0) rfl rfl dX8_owesBy_36 rfl ?_
    refine Rf_bipush X (v := 11) rfl dX8_owesBy_37 rfl ?_
    refine Rf_cVv (as := [.int 11]) (st := []) X mi_X8_ran lm_X8_307 rfl (Nat.le_of_ble_eq_true rfl) rfl (k_X8_ran h) (by omega) rfl rfl (Nat.le_of_ble_eq_true rfl) dX8_owesBy_39 rfl (fun σ2 h => ?_)
    refine Rf_iload_n X (j := 3) rfl rfl dX8_owesBy_42 rfl ?_
    refine Rf_iload_n X (j := 1) rfl rfl dX8_owesBy_43 rfl ?_
    refine Rf_ixor X dX8_owesBy_44 rfl ?_
    exact Rf_iret X rfl dX8_owesBy_45 ⟨_, rfl, h⟩
  · have h := h.2 c1
    refine And.intro (fun c3 => ?_) (fun c3 => ?_)
    · have h := h.1 c3
      refine Rf_aload_n X (j := 0) rfl rfl dX8_owesBy_46 rfl ?_
      refine Rf_bipush X (v := 40) rfl dX8_owesBy_47 rfl ?_
      refine Rf_cVv (as := [.int 40]) (st := []) X mi_X8_ran lm_X8_307 rfl (Nat.le_of_ble_eq_true rfl) rfl (k_X8_ran h) (by omega) rfl rfl (Nat.le_of_ble_eq_true rfl) dX8_owesBy_49 rfl (fun σ4 h => ?_)
      refine Rf_aload_n X (j := 0) rfl rfl dX8_owesBy_52 rfl ?_
      refine Rf_iload_n X (j := 1) rfl rfl dX8_owesBy_53 rfl ?_
      refine Rf_iconst X (v := 2) rfl dX8_owesBy_54 rfl ?_
      refine Rf_iload_n X (j := 3) rfl rfl dX8_owesBy_55 rfl ?_
      refine Rf_cVi (as := [.int x1, .int 2, .int x3]) (st := []) X mi_X8_owesBy lm_X8_320 rfl (Nat.le_of_ble_eq_true rfl) rfl (hκ_X8_owesBy _ _ _ _ _ h) (Nat.le_refl _) rfl rfl (Nat.le_of_ble_eq_true rfl) dX8_owesBy_56 rfl (fun r6 σ5 h => ?_)
      refine Rf_iconst X (v := 3) rfl dX8_owesBy_59 rfl ?_
      refine Rf_imul X dX8_owesBy_60 rfl ?_
      exact Rf_iret X rfl dX8_owesBy_61 ⟨_, rfl, h⟩
    · have h := h.2 c3
      refine And.intro (fun c7 => ?_) (fun c7 => ?_)
      · have h := h.1 c7
        refine Rf_aload_n X (j := 0) rfl rfl dX8_owesBy_62 rfl ?_
        refine Rf_bipush X (v := 50) rfl dX8_owesBy_63 rfl ?_
        refine Rf_cVv (as := [.int 50]) (st := []) X mi_X8_ran lm_X8_307 rfl (Nat.le_of_ble_eq_true rfl) rfl (k_X8_ran h) (by omega) rfl rfl (Nat.le_of_ble_eq_true rfl) dX8_owesBy_65 rfl (fun σ8 h => ?_)
        refine Rf_aload_n X (j := 0) rfl rfl dX8_owesBy_68 rfl ?_
        refine Rf_iload_n X (j := 1) rfl rfl dX8_owesBy_69 rfl ?_
        refine Rf_iconst X (v := 1) rfl dX8_owesBy_70 rfl ?_
        refine Rf_iload_n X (j := 3) rfl rfl dX8_owesBy_71 rfl ?_
        refine Rf_cVi (as := [.int x1, .int 1, .int x3]) (st := []) X mi_X8_owesBy lm_X8_320 rfl (Nat.le_of_ble_eq_true rfl) rfl (hκ_X8_owesBy _ _ _ _ _ h) (Nat.le_refl _) rfl rfl (Nat.le_of_ble_eq_true rfl) dX8_owesBy_72 rfl (fun r10 σ9 h => ?_)
        refine Rf_istore X (i := 4) (Nat.le_of_ble_eq_true rfl) (ls2 := [(4, .int r10), (0, .ref 0), (1, .int x1), (2, .int x2), (3, .int x3)]) rfl dX8_owesBy_75 rfl ?_
        refine Rf_iload X (j := 0) rfl dX8_owesBy_77 rfl ?_
        refine Rf_aload_n X (j := 1) rfl rfl dX8_owesBy_79 rfl ?_
        refine Rf_iload_n X (j := 2) rfl rfl dX8_owesBy_80 rfl ?_
        refine Rf_aload_n X (j := 1) rfl rfl dX8_owesBy_81 rfl ?_
        refine Rf_get X kc8 (Nat.le_of_ble_eq_true rfl) rfl (j := 30) (Nat.le_of_ble_eq_true rfl) lf_X8_63 (v := .ref 18) rfl dX8_owesBy_82 rfl ?_
        refine Rf_iload_n X (j := 2) rfl rfl dX8_owesBy_85 rfl ?_
        obtain ⟨s11, h⟩ := h
        refine Rf_iaload X (Nat.le_of_ble_eq_true rfl) rfl rfl s11 dX8_owesBy_86 rfl (v := gF σ9 18 (x1.toNatClampNeg)) rfl ?_
        refine Rf_iconst X (v := 2) rfl dX8_owesBy_87 rfl ?_
        refine Rf_cVi (as := [.int x1, .int (gF σ9 18 (x1.toNatClampNeg)), .int 2]) (st := [.int r10]) X mi_X8_walksBy lm_X8_311 rfl (Nat.le_of_ble_eq_true rfl) rfl (hκ_X8_walksBy _ _ _ _ _ h) (Nat.le_refl _) rfl rfl (Nat.le_of_ble_eq_true rfl) dX8_owesBy_88 rfl (fun r13 σ12 h => ?_)
        refine Rf_isub X dX8_owesBy_91 rfl ?_
        exact Rf_iret X rfl dX8_owesBy_92 ⟨_, rfl, h⟩
      · have h := h.2 c7
        show Rf ΛM (d + 1) E 5 (qi Q) 93 [(0, .ref 0), (1, .int x1), (2, .int x2), (3, .int x3)] [] σ
        refine Rf_aload_n X (j := 0) rfl rfl dX8_owesBy_93 rfl ?_
        refine Rf_iload_n X (j := 1) rfl rfl dX8_owesBy_94 rfl ?_
        refine Rf_iload_n X (j := 2) rfl rfl dX8_owesBy_95 rfl ?_
        refine Rf_cSi (as := [.int x2]) (st := [.int x1, .ref 0]) X ms_X8_above lm_X8_314 (k_X8_above h) (by omega) rfl rfl (Nat.le_of_ble_eq_true rfl) dX8_owesBy_96 rfl (fun r15 σ14 h => ?_)
        refine Rf_iload_n X (j := 3) rfl rfl dX8_owesBy_99 rfl ?_
        refine Rf_cVi (as := [.int x1, .int r15, .int x3]) (st := []) X mi_X8_owesBy lm_X8_320 rfl (Nat.le_of_ble_eq_true rfl) rfl (hκ_X8_owesBy _ _ _ _ _ h) (Nat.le_refl _) rfl rfl (Nat.le_of_ble_eq_true rfl) dX8_owesBy_100 rfl (fun r17 σ16 h => ?_)
        exact Rf_iret X rfl dX8_owesBy_103 ⟨_, rfl, h⟩
def wp_X8_leansBy (κ_X8_leansBy : rfS → Int32 → Int32 → Int32 → (Int32 → rfS → Prop) → Prop) (κ_X8_owesBy : rfS → Int32 → Int32 → Int32 → (Int32 → rfS → Prop) → Prop) (κ_X8_walksBy : rfS → Int32 → Int32 → Int32 → (Int32 → rfS → Prop) → Prop) (σ : rfS) (x1 : Int32) (x2 : Int32) (x3 : Int32) (Q : Int32 → rfS → Prop) : Prop :=
  ((x2 = 0 → wp_X8_ran σ 10 (fun (σ2 : rfS) => vp_in x1 50 ∧ κ_X8_walksBy σ2 x1 (gF σ2 18 (x1.toNatClampNeg)) x3 (fun (r5 : Int32) (σ4 : rfS) => Q (r5 * 2) σ4))) ∧ (¬ x2 = 0 → ((x2 = 2 → wp_X8_ran σ 30 (fun (σ7 : rfS) => κ_X8_leansBy σ7 x1 0 x3 (fun (r9 : Int32) (σ8 : rfS) => Q (-r9) σ8))) ∧ (¬ x2 = 2 → ((x2 = 3 → wp_X8_ran σ 41 (fun (σ11 : rfS) => κ_X8_leansBy σ11 x1 2 (x3 + 1) (fun (r13 : Int32) (σ12 : rfS) => Q r13 σ12))) ∧ (¬ x2 = 3 → ((x2 = 7 → wp_X8_ran σ 80 (fun (σ15 : rfS) => κ_X8_leansBy σ15 x1 4 x3 (fun (r17 : Int32) (σ16 : rfS) => vp_in x1 50 ∧ κ_X8_owesBy σ16 x1 (gF σ16 18 (x1.toNatClampNeg)) 2 (fun (r20 : Int32) (σ19 : rfS) => Q (r17 + r20) σ19)))) ∧ (¬ x2 = 7 → wp_X8_above σ x2 (fun (r22 : Int32) (σ21 : rfS) => κ_X8_leansBy σ21 x1 r22 x3 (fun (r24 : Int32) (σ23 : rfS) => Q r24 σ23))))))))))
set_option maxRecDepth 20000 in
theorem k_X8_leansBy {d : Nat} {κ_X8_leansBy : rfS → Int32 → Int32 → Int32 → (Int32 → rfS → Prop) → Prop} {κ_X8_owesBy : rfS → Int32 → Int32 → Int32 → (Int32 → rfS → Prop) → Prop} {κ_X8_walksBy : rfS → Int32 → Int32 → Int32 → (Int32 → rfS → Prop) → Prop} (hκ_X8_leansBy : ∀ (σ : rfS) (x1 : Int32) (x2 : Int32) (x3 : Int32) (Q : Int32 → rfS → Prop), κ_X8_leansBy σ x1 x2 x3 Q → RM ΛM d yX8_leansBy cX8_leansBy 5 (some .int) [.ref 0, .int x1, .int x2, .int x3] σ (qi Q)) (hκ_X8_owesBy : ∀ (σ : rfS) (x1 : Int32) (x2 : Int32) (x3 : Int32) (Q : Int32 → rfS → Prop), κ_X8_owesBy σ x1 x2 x3 Q → RM ΛM d yX8_owesBy cX8_owesBy 5 (some .int) [.ref 0, .int x1, .int x2, .int x3] σ (qi Q)) (hκ_X8_walksBy : ∀ (σ : rfS) (x1 : Int32) (x2 : Int32) (x3 : Int32) (Q : Int32 → rfS → Prop), κ_X8_walksBy σ x1 x2 x3 Q → RM ΛM d yX8_walksBy cX8_walksBy 4 (some .int) [.ref 0, .int x1, .int x2, .int x3] σ (qi Q)) (hB : 0 ≤ d) {σ : rfS} {x1 : Int32} {x2 : Int32} {x3 : Int32} {Q : Int32 → rfS → Prop} (h : wp_X8_leansBy κ_X8_leansBy κ_X8_owesBy κ_X8_walksBy σ x1 x2 x3 Q) : RM ΛM (d + 1) yX8_leansBy cX8_leansBy 5 (some .int) [.ref 0, .int x1, .int x2, .int x3] σ (qi Q) := by
  unfold wp_X8_leansBy at h
  refine RM.intro (by decide) (Nat.le_of_ble_eq_true rfl) (fun E X => ?_)
  show Rf ΛM (d + 1) E 5 (qi Q) 0 [(0, .ref 0), (1, .int x1), (2, .int x2), (3, .int x3)] [] σ
  refine Rf_iload_n X (j := 2) rfl rfl dX8_leansBy_0 rfl ?_
  refine Rf_tsw X (dt := 131) [(0, 48), (2, 69), (3, 84), (7, 100)] dX8_leansBy_1 rfl (by decide +kernel) (by decide +kernel) (by decide +kernel) ?_
  refine And.intro (fun c1 => ?_) (fun c1 => ?_)
  · have h := h.1 c1
    refine Rf_aload_n X (j := 0) rfl rfl dX8_leansBy_48 rfl ?_
    refine Rf_bipush X (v := 10) rfl dX8_leansBy_49 rfl ?_
    refine Rf_cVv (as := [.int 10]) (st := []) X mi_X8_ran lm_X8_307 rfl (Nat.le_of_ble_eq_true rfl) rfl (k_X8_ran h) (by omega) rfl rfl (Nat.le_of_ble_eq_true rfl) dX8_leansBy_51 rfl (fun σ2 h => ?_)
    refine Rf_aload_n X (j := 0) rfl rfl dX8_leansBy_54 rfl ?_
    refine Rf_iload_n X (j := 1) rfl rfl dX8_leansBy_55 rfl ?_
    refine Rf_aload_n X (j := 0) rfl rfl dX8_leansBy_56 rfl ?_
    refine Rf_get X kc8 (Nat.le_of_ble_eq_true rfl) rfl (j := 30) (Nat.le_of_ble_eq_true rfl) lf_X8_63 (v := .ref 18) rfl dX8_leansBy_57 rfl ?_
    refine Rf_iload_n X (j := 1) rfl rfl dX8_leansBy_60 rfl ?_
    obtain ⟨s3, h⟩ := h
    refine Rf_iaload X (Nat.le_of_ble_eq_true rfl) rfl rfl s3 dX8_leansBy_61 rfl (v := gF σ2 18 (x1.toNatClampNeg)) rfl ?_
    refine Rf_iload_n X (j := 3) rfl rfl dX8_leansBy_62 rfl ?_
    refine Rf_cVi (as := [.int x1, .int (gF σ2 18 (x1.toNatClampNeg)), .int x3]) (st := []) X mi_X8_walksBy lm_X8_311 rfl (Nat.le_of_ble_eq_true rfl) rfl (hκ_X8_walksBy _ _ _ _ _ h) (Nat.le_refl _) rfl rfl (Nat.le_of_ble_eq_true rfl) dX8_leansBy_63 rfl (fun r5 σ4 h => ?_)
    refine Rf_iconst X (v := 2) rfl dX8_leansBy_66 rfl ?_
    refine Rf_imul X dX8_leansBy_67 rfl ?_
    exact Rf_iret X rfl dX8_leansBy_68 ⟨_, rfl, h⟩
  · have h := h.2 c1
    refine And.intro (fun c6 => ?_) (fun c6 => ?_)
    · have h := h.1 c6
      refine Rf_aload_n X (j := 0) rfl rfl dX8_leansBy_69 rfl ?_
      refine Rf_bipush X (v := 30) rfl dX8_leansBy_70 rfl ?_
      refine Rf_cVv (as := [.int 30]) (st := []) X mi_X8_ran lm_X8_307 rfl (Nat.le_of_ble_eq_true rfl) rfl (k_X8_ran h) (by omega) rfl rfl (Nat.le_of_ble_eq_true rfl) dX8_leansBy_72 rfl (fun σ7 h => ?_)
      refine Rf_aload_n X (j := 0) rfl rfl dX8_leansBy_75 rfl ?_
      refine Rf_iload_n X (j := 1) rfl rfl dX8_leansBy_76 rfl ?_
      refine Rf_iconst X (v := 0) rfl dX8_leansBy_77 rfl ?_
      refine Rf_iload_n X (j := 3) rfl rfl dX8_leansBy_78 rfl ?_
      refine Rf_cVi (as := [.int x1, .int 0, .int x3]) (st := []) X mi_X8_leansBy lm_X8_317 rfl (Nat.le_of_ble_eq_true rfl) rfl (hκ_X8_leansBy _ _ _ _ _ h) (Nat.le_refl _) rfl rfl (Nat.le_of_ble_eq_true rfl) dX8_leansBy_79 rfl (fun r9 σ8 h => ?_)
      refine Rf_ineg X dX8_leansBy_82 rfl ?_
      exact Rf_iret X rfl dX8_leansBy_83 ⟨_, rfl, h⟩
    · have h := h.2 c6
      refine And.intro (fun c10 => ?_) (fun c10 => ?_)
      · have h := h.1 c10
        refine Rf_aload_n X (j := 0) rfl rfl dX8_leansBy_84 rfl ?_
        refine Rf_bipush X (v := 41) rfl dX8_leansBy_85 rfl ?_
        refine Rf_cVv (as := [.int 41]) (st := []) X mi_X8_ran lm_X8_307 rfl (Nat.le_of_ble_eq_true rfl) rfl (k_X8_ran h) (by omega) rfl rfl (Nat.le_of_ble_eq_true rfl) dX8_leansBy_87 rfl (fun σ11 h => ?_)
        refine Rf_aload_n X (j := 0) rfl rfl dX8_leansBy_90 rfl ?_
        refine Rf_iload_n X (j := 1) rfl rfl dX8_leansBy_91 rfl ?_
        refine Rf_iconst X (v := 2) rfl dX8_leansBy_92 rfl ?_
        refine Rf_iload_n X (j := 3) rfl rfl dX8_leansBy_93 rfl ?_
        refine Rf_iconst X (v := 1) rfl dX8_leansBy_94 rfl ?_
        refine Rf_iadd X dX8_leansBy_95 rfl ?_
        refine Rf_cVi (as := [.int x1, .int 2, .int (x3 + 1)]) (st := []) X mi_X8_leansBy lm_X8_317 rfl (Nat.le_of_ble_eq_true rfl) rfl (hκ_X8_leansBy _ _ _ _ _ h) (Nat.le_refl _) rfl rfl (Nat.le_of_ble_eq_true rfl) dX8_leansBy_96 rfl (fun r13 σ12 h => ?_)
        exact Rf_iret X rfl dX8_leansBy_99 ⟨_, rfl, h⟩
      · have h := h.2 c10
        refine And.intro (fun c14 => ?_) (fun c14 => ?_)
        · have h := h.1 c14
          refine Rf_aload_n X (j := 0) rfl rfl dX8_leansBy_100 rfl ?_
          refine Rf_bipush X (v := 80) rfl dX8_leansBy_101 rfl ?_
          refine Rf_cVv (as := [.int 80]) (st := []) X mi_X8_ran lm_X8_307 rfl (Nat.le_of_ble_eq_true rfl) rfl (k_X8_ran h) (by omega) rfl rfl (Nat.le_of_ble_eq_true rfl) dX8_leansBy_103 rfl (fun σ15 h => ?_)
          refine Rf_aload_n X (j := 0) rfl rfl dX8_leansBy_106 rfl ?_
          refine Rf_iload_n X (j := 1) rfl rfl dX8_leansBy_107 rfl ?_
          refine Rf_iconst X (v := 4) rfl dX8_leansBy_108 rfl ?_
          refine Rf_iload_n X (j := 3) rfl rfl dX8_leansBy_109 rfl ?_
          refine Rf_cVi (as := [.int x1, .int 4, .int x3]) (st := []) X mi_X8_leansBy lm_X8_317 rfl (Nat.le_of_ble_eq_true rfl) rfl (hκ_X8_leansBy _ _ _ _ _ h) (Nat.le_refl _) rfl rfl (Nat.le_of_ble_eq_true rfl) dX8_leansBy_110 rfl (fun r17 σ16 h => ?_)
          refine Rf_istore X (i := 4) (Nat.le_of_ble_eq_true rfl) (ls2 := [(4, .int r17), (0, .ref 0), (1, .int x1), (2, .int x2), (3, .int x3)]) rfl dX8_leansBy_113 rfl ?_
          refine Rf_iload X (j := 0) rfl dX8_leansBy_115 rfl ?_
          refine Rf_aload_n X (j := 1) rfl rfl dX8_leansBy_117 rfl ?_
          refine Rf_iload_n X (j := 2) rfl rfl dX8_leansBy_118 rfl ?_
          refine Rf_aload_n X (j := 1) rfl rfl dX8_leansBy_119 rfl ?_
          refine Rf_get X kc8 (Nat.le_of_ble_eq_true rfl) rfl (j := 30) (Nat.le_of_ble_eq_true rfl) lf_X8_63 (v := .ref 18) rfl dX8_leansBy_120 rfl ?_
          refine Rf_iload_n X (j := 2) rfl rfl dX8_leansBy_123 rfl ?_
          obtain ⟨s18, h⟩ := h
          refine Rf_iaload X (Nat.le_of_ble_eq_true rfl) rfl rfl s18 dX8_leansBy_124 rfl (v := gF σ16 18 (x1.toNatClampNeg)) rfl ?_
          refine Rf_iconst X (v := 2) rfl dX8_leansBy_125 rfl ?_
          refine Rf_cVi (as := [.int x1, .int (gF σ16 18 (x1.toNatClampNeg)), .int 2]) (st := [.int r17]) X mi_X8_owesBy lm_X8_320 rfl (Nat.le_of_ble_eq_true rfl) rfl (hκ_X8_owesBy _ _ _ _ _ h) (Nat.le_refl _) rfl rfl (Nat.le_of_ble_eq_true rfl) dX8_leansBy_126 rfl (fun r20 σ19 h => ?_)
          refine Rf_iadd X dX8_leansBy_129 rfl ?_
          exact Rf_iret X rfl dX8_leansBy_130 ⟨_, rfl, h⟩
        · have h := h.2 c14
          show Rf ΛM (d + 1) E 5 (qi Q) 131 [(0, .ref 0), (1, .int x1), (2, .int x2), (3, .int x3)] [] σ
          refine Rf_aload_n X (j := 0) rfl rfl dX8_leansBy_131 rfl ?_
          refine Rf_iload_n X (j := 1) rfl rfl dX8_leansBy_132 rfl ?_
          refine Rf_iload_n X (j := 2) rfl rfl dX8_leansBy_133 rfl ?_
          refine Rf_cSi (as := [.int x2]) (st := [.int x1, .ref 0]) X ms_X8_above lm_X8_314 (k_X8_above h) (by omega) rfl rfl (Nat.le_of_ble_eq_true rfl) dX8_leansBy_134 rfl (fun r22 σ21 h => ?_)
          refine Rf_iload_n X (j := 3) rfl rfl dX8_leansBy_137 rfl ?_
          refine Rf_cVi (as := [.int x1, .int r22, .int x3]) (st := []) X mi_X8_leansBy lm_X8_317 rfl (Nat.le_of_ble_eq_true rfl) rfl (hκ_X8_leansBy _ _ _ _ _ h) (Nat.le_refl _) rfl rfl (Nat.le_of_ble_eq_true rfl) dX8_leansBy_138 rfl (fun r24 σ23 h => ?_)
          exact Rf_iret X rfl dX8_leansBy_141 ⟨_, rfl, h⟩
def wp_X8_tells_ (κ_X8_leansBy : rfS → Int32 → Int32 → Int32 → (Int32 → rfS → Prop) → Prop) (κ_X8_owesBy : rfS → Int32 → Int32 → Int32 → (Int32 → rfS → Prop) → Prop) (κ_X8_tells_ : rfS → Int32 → Int32 → Int32 → (Int32 → rfS → Prop) → Prop) (σ : rfS) (x1 : Int32) (x2 : Int32) (x3 : Int32) (Q : Int32 → rfS → Prop) : Prop :=
  ((x2 = 0 → wp_X8_ran σ 2 (fun (σ2 : rfS) => vp_in x1 50 ∧ κ_X8_leansBy σ2 x1 (gF σ2 18 (x1.toNatClampNeg)) x3 (fun (r5 : Int32) (σ4 : rfS) => vp_in x1 50 ∧ κ_X8_owesBy σ4 x1 (gF σ4 18 (x1.toNatClampNeg)) 1 (fun (r8 : Int32) (σ7 : rfS) => Q (r5 - r8) σ7)))) ∧ (¬ x2 = 0 → ((x2 = 5 → wp_X8_ran σ 60 (fun (σ10 : rfS) => κ_X8_tells_ σ10 x1 3 x3 (fun (r12 : Int32) (σ11 : rfS) => Q (r12 ^^^ 5) σ11))) ∧ (¬ x2 = 5 → ((x2 = 7 → wp_X8_ran σ 81 (fun (σ14 : rfS) => κ_X8_tells_ σ14 x1 4 x3 (fun (r16 : Int32) (σ15 : rfS) => Q (r16 - 1) σ15))) ∧ (¬ x2 = 7 → wp_X8_above σ x2 (fun (r18 : Int32) (σ17 : rfS) => κ_X8_tells_ σ17 x1 r18 x3 (fun (r20 : Int32) (σ19 : rfS) => Q r20 σ19))))))))
set_option maxRecDepth 20000 in
theorem k_X8_tells_ {d : Nat} {κ_X8_leansBy : rfS → Int32 → Int32 → Int32 → (Int32 → rfS → Prop) → Prop} {κ_X8_owesBy : rfS → Int32 → Int32 → Int32 → (Int32 → rfS → Prop) → Prop} {κ_X8_tells_ : rfS → Int32 → Int32 → Int32 → (Int32 → rfS → Prop) → Prop} (hκ_X8_leansBy : ∀ (σ : rfS) (x1 : Int32) (x2 : Int32) (x3 : Int32) (Q : Int32 → rfS → Prop), κ_X8_leansBy σ x1 x2 x3 Q → RM ΛM d yX8_leansBy cX8_leansBy 5 (some .int) [.ref 0, .int x1, .int x2, .int x3] σ (qi Q)) (hκ_X8_owesBy : ∀ (σ : rfS) (x1 : Int32) (x2 : Int32) (x3 : Int32) (Q : Int32 → rfS → Prop), κ_X8_owesBy σ x1 x2 x3 Q → RM ΛM d yX8_owesBy cX8_owesBy 5 (some .int) [.ref 0, .int x1, .int x2, .int x3] σ (qi Q)) (hκ_X8_tells_ : ∀ (σ : rfS) (x1 : Int32) (x2 : Int32) (x3 : Int32) (Q : Int32 → rfS → Prop), κ_X8_tells_ σ x1 x2 x3 Q → RM ΛM d yX8_tells_ cX8_tells_ 5 (some .int) [.ref 0, .int x1, .int x2, .int x3] σ (qi Q)) (hB : 0 ≤ d) {σ : rfS} {x1 : Int32} {x2 : Int32} {x3 : Int32} {Q : Int32 → rfS → Prop} (h : wp_X8_tells_ κ_X8_leansBy κ_X8_owesBy κ_X8_tells_ σ x1 x2 x3 Q) : RM ΛM (d + 1) yX8_tells_ cX8_tells_ 5 (some .int) [.ref 0, .int x1, .int x2, .int x3] σ (qi Q) := by
  unfold wp_X8_tells_ at h
  refine RM.intro (by decide) (Nat.le_of_ble_eq_true rfl) (fun E X => ?_)
  show Rf ΛM (d + 1) E 5 (qi Q) 0 [(0, .ref 0), (1, .int x1), (2, .int x2), (3, .int x3)] [] σ
  refine Rf_iload_n X (j := 2) rfl rfl dX8_tells__0 rfl ?_
  refine Rf_lsw X (dt := 103) [(0, 36), (5, 71), (7, 87)] dX8_tells__1 (by decide +kernel) rfl (by decide +kernel) ?_
  refine And.intro (fun c1 => ?_) (fun c1 => ?_)
  · have h := h.1 c1
    refine Rf_aload_n X (j := 0) rfl rfl dX8_tells__36 rfl ?_
    refine Rf_iconst X (v := 2) rfl dX8_tells__37 rfl ?_
    refine Rf_cVv (as := [.int 2]) (st := []) X mi_X8_ran lm_X8_307 rfl (Nat.le_of_ble_eq_true rfl) rfl (k_X8_ran h) (by omega) rfl rfl (Nat.le_of_ble_eq_true rfl) dX8_tells__38 rfl (fun σ2 h => ?_)
    refine Rf_aload_n X (j := 0) rfl rfl dX8_tells__41 rfl ?_
    refine Rf_iload_n X (j := 1) rfl rfl dX8_tells__42 rfl ?_
    refine Rf_aload_n X (j := 0) rfl rfl dX8_tells__43 rfl ?_
    refine Rf_get X kc8 (Nat.le_of_ble_eq_true rfl) rfl (j := 30) (Nat.le_of_ble_eq_true rfl) lf_X8_63 (v := .ref 18) rfl dX8_tells__44 rfl ?_
    refine Rf_iload_n X (j := 1) rfl rfl dX8_tells__47 rfl ?_
    obtain ⟨s3, h⟩ := h
    refine Rf_iaload X (Nat.le_of_ble_eq_true rfl) rfl rfl s3 dX8_tells__48 rfl (v := gF σ2 18 (x1.toNatClampNeg)) rfl ?_
    refine Rf_iload_n X (j := 3) rfl rfl dX8_tells__49 rfl ?_
    refine Rf_cVi (as := [.int x1, .int (gF σ2 18 (x1.toNatClampNeg)), .int x3]) (st := []) X mi_X8_leansBy lm_X8_317 rfl (Nat.le_of_ble_eq_true rfl) rfl (hκ_X8_leansBy _ _ _ _ _ h) (Nat.le_refl _) rfl rfl (Nat.le_of_ble_eq_true rfl) dX8_tells__50 rfl (fun r5 σ4 h => ?_)
    refine Rf_istore X (i := 4) (Nat.le_of_ble_eq_true rfl) (ls2 := [(4, .int r5), (0, .ref 0), (1, .int x1), (2, .int x2), (3, .int x3)]) rfl dX8_tells__53 rfl ?_
    refine Rf_iload X (j := 0) rfl dX8_tells__55 rfl ?_
    refine Rf_aload_n X (j := 1) rfl rfl dX8_tells__57 rfl ?_
    refine Rf_iload_n X (j := 2) rfl rfl dX8_tells__58 rfl ?_
    refine Rf_aload_n X (j := 1) rfl rfl dX8_tells__59 rfl ?_
    refine Rf_get X kc8 (Nat.le_of_ble_eq_true rfl) rfl (j := 30) (Nat.le_of_ble_eq_true rfl) lf_X8_63 (v := .ref 18) rfl dX8_tells__60 rfl ?_
    refine Rf_iload_n X (j := 2) rfl rfl dX8_tells__63 rfl ?_
    obtain ⟨s6, h⟩ := h
    refine Rf_iaload X (Nat.le_of_ble_eq_true rfl) rfl rfl s6 dX8_tells__64 rfl (v := gF σ4 18 (x1.toNatClampNeg)) rfl ?_
    refine Rf_iconst X (v := 1) rfl dX8_tells__65 rfl ?_
    refine Rf_cVi (as := [.int x1, .int (gF σ4 18 (x1.toNatClampNeg)), .int 1]) (st := [.int r5]) X mi_X8_owesBy lm_X8_320 rfl (Nat.le_of_ble_eq_true rfl) rfl (hκ_X8_owesBy _ _ _ _ _ h) (Nat.le_refl _) rfl rfl (Nat.le_of_ble_eq_true rfl) dX8_tells__66 rfl (fun r8 σ7 h => ?_)
    refine Rf_isub X dX8_tells__69 rfl ?_
    exact Rf_iret X rfl dX8_tells__70 ⟨_, rfl, h⟩
  · have h := h.2 c1
    refine And.intro (fun c9 => ?_) (fun c9 => ?_)
    · have h := h.1 c9
      refine Rf_aload_n X (j := 0) rfl rfl dX8_tells__71 rfl ?_
      refine Rf_bipush X (v := 60) rfl dX8_tells__72 rfl ?_
      refine Rf_cVv (as := [.int 60]) (st := []) X mi_X8_ran lm_X8_307 rfl (Nat.le_of_ble_eq_true rfl) rfl (k_X8_ran h) (by omega) rfl rfl (Nat.le_of_ble_eq_true rfl) dX8_tells__74 rfl (fun σ10 h => ?_)
      refine Rf_aload_n X (j := 0) rfl rfl dX8_tells__77 rfl ?_
      refine Rf_iload_n X (j := 1) rfl rfl dX8_tells__78 rfl ?_
      refine Rf_iconst X (v := 3) rfl dX8_tells__79 rfl ?_
      refine Rf_iload_n X (j := 3) rfl rfl dX8_tells__80 rfl ?_
      refine Rf_cVi (as := [.int x1, .int 3, .int x3]) (st := []) X mi_X8_tells_ lm_X8_323 rfl (Nat.le_of_ble_eq_true rfl) rfl (hκ_X8_tells_ _ _ _ _ _ h) (Nat.le_refl _) rfl rfl (Nat.le_of_ble_eq_true rfl) dX8_tells__81 rfl (fun r12 σ11 h => ?_)
      refine Rf_iconst X (v := 5) rfl dX8_tells__84 rfl ?_
      refine Rf_ixor X dX8_tells__85 rfl ?_
      exact Rf_iret X rfl dX8_tells__86 ⟨_, rfl, h⟩
    · have h := h.2 c9
      refine And.intro (fun c13 => ?_) (fun c13 => ?_)
      · have h := h.1 c13
        refine Rf_aload_n X (j := 0) rfl rfl dX8_tells__87 rfl ?_
        refine Rf_bipush X (v := 81) rfl dX8_tells__88 rfl ?_
        refine Rf_cVv (as := [.int 81]) (st := []) X mi_X8_ran lm_X8_307 rfl (Nat.le_of_ble_eq_true rfl) rfl (k_X8_ran h) (by omega) rfl rfl (Nat.le_of_ble_eq_true rfl) dX8_tells__90 rfl (fun σ14 h => ?_)
        refine Rf_aload_n X (j := 0) rfl rfl dX8_tells__93 rfl ?_
        refine Rf_iload_n X (j := 1) rfl rfl dX8_tells__94 rfl ?_
        refine Rf_iconst X (v := 4) rfl dX8_tells__95 rfl ?_
        refine Rf_iload_n X (j := 3) rfl rfl dX8_tells__96 rfl ?_
        refine Rf_cVi (as := [.int x1, .int 4, .int x3]) (st := []) X mi_X8_tells_ lm_X8_323 rfl (Nat.le_of_ble_eq_true rfl) rfl (hκ_X8_tells_ _ _ _ _ _ h) (Nat.le_refl _) rfl rfl (Nat.le_of_ble_eq_true rfl) dX8_tells__97 rfl (fun r16 σ15 h => ?_)
        refine Rf_iconst X (v := 1) rfl dX8_tells__100 rfl ?_
        refine Rf_isub X dX8_tells__101 rfl ?_
        exact Rf_iret X rfl dX8_tells__102 ⟨_, rfl, h⟩
      · have h := h.2 c13
        show Rf ΛM (d + 1) E 5 (qi Q) 103 [(0, .ref 0), (1, .int x1), (2, .int x2), (3, .int x3)] [] σ
        refine Rf_aload_n X (j := 0) rfl rfl dX8_tells__103 rfl ?_
        refine Rf_iload_n X (j := 1) rfl rfl dX8_tells__104 rfl ?_
        refine Rf_iload_n X (j := 2) rfl rfl dX8_tells__105 rfl ?_
        refine Rf_cSi (as := [.int x2]) (st := [.int x1, .ref 0]) X ms_X8_above lm_X8_314 (k_X8_above h) (by omega) rfl rfl (Nat.le_of_ble_eq_true rfl) dX8_tells__106 rfl (fun r18 σ17 h => ?_)
        refine Rf_iload_n X (j := 3) rfl rfl dX8_tells__109 rfl ?_
        refine Rf_cVi (as := [.int x1, .int r18, .int x3]) (st := []) X mi_X8_tells_ lm_X8_323 rfl (Nat.le_of_ble_eq_true rfl) rfl (hκ_X8_tells_ _ _ _ _ _ h) (Nat.le_refl _) rfl rfl (Nat.le_of_ble_eq_true rfl) dX8_tells__110 rfl (fun r20 σ19 h => ?_)
        exact Rf_iret X rfl dX8_tells__113 ⟨_, rfl, h⟩
def wp_X8_body (σ : rfS) (x1 : Int32) (Q : Int32 → rfS → Prop) : Prop :=
  wp_X8_within σ x1 0 7 (fun (r2 : Int32) (σ1 : rfS) => ((¬ r2 = 0 → ((¬ (gI σ1 0 29) = 50 → vp_in (gI σ1 0 29) 50 ∧ Q (gI σ1 0 29) (sI (sF σ1 18 ((gI σ1 0 29).toNatClampNeg) x1) 0 29 ((gI σ1 0 29) + 1))) ∧ ((gI σ1 0 29) = 50 → Q (-3) σ1))) ∧ (r2 = 0 → Q (-1) σ1)))
set_option maxRecDepth 20000 in
theorem k_X8_body {σ : rfS} {x1 : Int32} {Q : Int32 → rfS → Prop} (h : wp_X8_body σ x1 Q) : RM ΛM 1 yX8_body cX8_body 2 (some .int) [.ref 0, .int x1] σ (qi Q) := by
  unfold wp_X8_body at h
  refine RM.intro (by decide) (Nat.le_of_ble_eq_true rfl) (fun E X => ?_)
  show Rf ΛM 1 E 2 (qi Q) 0 [(0, .ref 0), (1, .int x1)] [] σ
  refine Rf_iload_n X (j := 1) rfl rfl dX8_body_0 rfl ?_
  refine Rf_iconst X (v := 0) rfl dX8_body_1 rfl ?_
  refine Rf_bipush X (v := 7) rfl dX8_body_2 rfl ?_
  refine Rf_cSi (as := [.int x1, .int 0, .int 7]) (st := []) X ms_X8_within lm_X8_98 (k_X8_within h) (Nat.le_of_ble_eq_true rfl) rfl rfl (Nat.le_of_ble_eq_true rfl) dX8_body_4 rfl (fun r2 σ1 h => ?_)
  refine Rf_if_ne X (tgt := 12) dX8_body_7 rfl rfl (fun c5 => ?_) (fun c5 => ?_)
  · have h := h.1 c5
    refine Rf_aload_n X (j := 0) rfl rfl dX8_body_12 rfl ?_
    refine Rf_get X kc8 (Nat.le_of_ble_eq_true rfl) rfl (j := 29) (Nat.le_of_ble_eq_true rfl) lf_X8_326 (v := .int (gI σ1 0 29)) rfl dX8_body_13 rfl ?_
    refine Rf_bipush X (v := 50) rfl dX8_body_16 rfl ?_
    refine Rf_icmp_ne X (tgt := 24) dX8_body_18 rfl rfl (fun c4 => ?_) (fun c4 => ?_)
    · have h := h.1 c4
      refine Rf_aload_n X (j := 0) rfl rfl dX8_body_24 rfl ?_
      refine Rf_get X kc8 (Nat.le_of_ble_eq_true rfl) rfl (j := 30) (Nat.le_of_ble_eq_true rfl) lf_X8_63 (v := .ref 18) rfl dX8_body_25 rfl ?_
      refine Rf_aload_n X (j := 0) rfl rfl dX8_body_28 rfl ?_
      refine Rf_get X kc8 (Nat.le_of_ble_eq_true rfl) rfl (j := 29) (Nat.le_of_ble_eq_true rfl) lf_X8_326 (v := .int (gI σ1 0 29)) rfl dX8_body_29 rfl ?_
      refine Rf_iload_n X (j := 1) rfl rfl dX8_body_32 rfl ?_
      obtain ⟨s3, h⟩ := h
      refine Rf_iastore X (Nat.le_of_ble_eq_true rfl) rfl rfl s3 dX8_body_33 rfl ?_
      refine Rf_aload_n X (j := 0) rfl rfl dX8_body_34 rfl ?_
      refine Rf_dup X rfl dX8_body_35 rfl ?_
      refine Rf_get X kc8 (Nat.le_of_ble_eq_true rfl) rfl (j := 29) (Nat.le_of_ble_eq_true rfl) lf_X8_326 (v := .int (gI σ1 0 29)) (congrArg Value.int (show gI (sF σ1 18 ((gI σ1 0 29).toNatClampNeg) x1) 0 29 = gI σ1 0 29 from gI_sF _ _ _ _ _ _)) dX8_body_36 rfl ?_
      refine Rf_dup_x1 X rfl rfl dX8_body_39 rfl ?_
      refine Rf_iconst X (v := 1) rfl dX8_body_40 rfl ?_
      refine Rf_iadd X dX8_body_41 rfl ?_
      refine Rf_put X kc8 (Nat.le_of_ble_eq_true rfl) rfl (j := 29) (Nat.le_of_ble_eq_true rfl) rfl lf_X8_326 rfl rfl rfl dX8_body_42 rfl ?_
      exact Rf_iret X rfl dX8_body_45 ⟨_, rfl, h⟩
    · have h := h.2 c4
      refine Rf_bipush X (v := (-3)) (by decide) dX8_body_21 rfl ?_
      exact Rf_iret X rfl dX8_body_23 ⟨_, rfl, h⟩
  · have h := h.2 c5
    refine Rf_iconst X (v := (-1)) (by decide) dX8_body_10 rfl ?_
    exact Rf_iret X rfl dX8_body_11 ⟨_, rfl, h⟩
def wp_X8_act (κ_X8_leansBy : rfS → Int32 → Int32 → Int32 → (Int32 → rfS → Prop) → Prop) (κ_X8_owesBy : rfS → Int32 → Int32 → Int32 → (Int32 → rfS → Prop) → Prop) (κ_X8_tells_ : rfS → Int32 → Int32 → Int32 → (Int32 → rfS → Prop) → Prop) (κ_X8_walksBy : rfS → Int32 → Int32 → Int32 → (Int32 → rfS → Prop) → Prop) (σ : rfS) (x1 : Int32) (x2 : Int32) (x3 : Int32) (Q : Int32 → rfS → Prop) : Prop :=
  wp_X8_within (sI σ 0 31 0) x1 0 ((gI σ 0 29) - 1) (fun (r2 : Int32) (σ1 : rfS) => ((r2 = 0 → Q 0 σ1) ∧ (¬ r2 = 0 → wp_X8_within σ1 x2 0 3 (fun (r4 : Int32) (σ3 : rfS) => ((¬ r4 = 0 → vp_in x1 50 ∧ ((¬ x2 = 0 → ((¬ x2 = 1 → ((¬ x2 = 2 → κ_X8_tells_ σ3 x1 (gF σ3 18 (x1.toNatClampNeg)) x3 (fun (r7 : Int32) (σ6 : rfS) => Q r7 σ6)) ∧ (x2 = 2 → κ_X8_owesBy σ3 x1 (gF σ3 18 (x1.toNatClampNeg)) x3 (fun (r9 : Int32) (σ8 : rfS) => Q r9 σ8)))) ∧ (x2 = 1 → κ_X8_leansBy σ3 x1 (gF σ3 18 (x1.toNatClampNeg)) x3 (fun (r12 : Int32) (σ11 : rfS) => Q r12 σ11)))) ∧ (x2 = 0 → κ_X8_walksBy σ3 x1 (gF σ3 18 (x1.toNatClampNeg)) x3 (fun (r15 : Int32) (σ14 : rfS) => Q r15 σ14)))) ∧ (r4 = 0 → Q 0 σ3))))))
set_option maxRecDepth 20000 in
theorem k_X8_act {d : Nat} {κ_X8_leansBy : rfS → Int32 → Int32 → Int32 → (Int32 → rfS → Prop) → Prop} {κ_X8_owesBy : rfS → Int32 → Int32 → Int32 → (Int32 → rfS → Prop) → Prop} {κ_X8_tells_ : rfS → Int32 → Int32 → Int32 → (Int32 → rfS → Prop) → Prop} {κ_X8_walksBy : rfS → Int32 → Int32 → Int32 → (Int32 → rfS → Prop) → Prop} (hκ_X8_leansBy : ∀ (σ : rfS) (x1 : Int32) (x2 : Int32) (x3 : Int32) (Q : Int32 → rfS → Prop), κ_X8_leansBy σ x1 x2 x3 Q → RM ΛM d yX8_leansBy cX8_leansBy 5 (some .int) [.ref 0, .int x1, .int x2, .int x3] σ (qi Q)) (hκ_X8_owesBy : ∀ (σ : rfS) (x1 : Int32) (x2 : Int32) (x3 : Int32) (Q : Int32 → rfS → Prop), κ_X8_owesBy σ x1 x2 x3 Q → RM ΛM d yX8_owesBy cX8_owesBy 5 (some .int) [.ref 0, .int x1, .int x2, .int x3] σ (qi Q)) (hκ_X8_tells_ : ∀ (σ : rfS) (x1 : Int32) (x2 : Int32) (x3 : Int32) (Q : Int32 → rfS → Prop), κ_X8_tells_ σ x1 x2 x3 Q → RM ΛM d yX8_tells_ cX8_tells_ 5 (some .int) [.ref 0, .int x1, .int x2, .int x3] σ (qi Q)) (hκ_X8_walksBy : ∀ (σ : rfS) (x1 : Int32) (x2 : Int32) (x3 : Int32) (Q : Int32 → rfS → Prop), κ_X8_walksBy σ x1 x2 x3 Q → RM ΛM d yX8_walksBy cX8_walksBy 4 (some .int) [.ref 0, .int x1, .int x2, .int x3] σ (qi Q)) (hB : 0 ≤ d) {σ : rfS} {x1 : Int32} {x2 : Int32} {x3 : Int32} {Q : Int32 → rfS → Prop} (h : wp_X8_act κ_X8_leansBy κ_X8_owesBy κ_X8_tells_ κ_X8_walksBy σ x1 x2 x3 Q) : RM ΛM (d + 1) yX8_act cX8_act 5 (some .int) [.ref 0, .int x1, .int x2, .int x3] σ (qi Q) := by
  unfold wp_X8_act at h
  refine RM.intro (by decide) (Nat.le_of_ble_eq_true rfl) (fun E X => ?_)
  show Rf ΛM (d + 1) E 5 (qi Q) 0 [(0, .ref 0), (1, .int x1), (2, .int x2), (3, .int x3)] [] σ
  refine Rf_aload_n X (j := 0) rfl rfl dX8_act_0 rfl ?_
  refine Rf_iconst X (v := 0) rfl dX8_act_1 rfl ?_
  refine Rf_put X kc8 (Nat.le_of_ble_eq_true rfl) rfl (j := 31) (Nat.le_of_ble_eq_true rfl) rfl lf_X8_304 rfl rfl rfl dX8_act_2 rfl ?_
  refine Rf_iload_n X (j := 1) rfl rfl dX8_act_5 rfl ?_
  refine Rf_iconst X (v := 0) rfl dX8_act_6 rfl ?_
  refine Rf_aload_n X (j := 0) rfl rfl dX8_act_7 rfl ?_
  refine Rf_get X kc8 (Nat.le_of_ble_eq_true rfl) rfl (j := 29) (Nat.le_of_ble_eq_true rfl) lf_X8_326 (v := .int (gI σ 0 29)) (congrArg Value.int (show gI (sI σ 0 31 0) 0 29 = gI σ 0 29 from gI_sIj (by decide))) dX8_act_8 rfl ?_
  refine Rf_iconst X (v := 1) rfl dX8_act_11 rfl ?_
  refine Rf_isub X dX8_act_12 rfl ?_
  refine Rf_cSi (as := [.int x1, .int 0, .int ((gI σ 0 29) - 1)]) (st := []) X ms_X8_within lm_X8_98 (k_X8_within h) (by omega) rfl rfl (Nat.le_of_ble_eq_true rfl) dX8_act_13 rfl (fun r2 σ1 h => ?_)
  refine Rf_if_eq X (tgt := 28) dX8_act_16 rfl rfl (fun c18 => ?_) (fun c18 => ?_)
  · have h := h.1 c18
    refine Rf_iconst X (v := 0) rfl dX8_act_28 rfl ?_
    exact Rf_iret X rfl dX8_act_29 ⟨_, rfl, h⟩
  · have h := h.2 c18
    refine Rf_iload_n X (j := 2) rfl rfl dX8_act_19 rfl ?_
    refine Rf_iconst X (v := 0) rfl dX8_act_20 rfl ?_
    refine Rf_iconst X (v := 3) rfl dX8_act_21 rfl ?_
    refine Rf_cSi (as := [.int x2, .int 0, .int 3]) (st := []) X ms_X8_within lm_X8_98 (k_X8_within h) (by omega) rfl rfl (Nat.le_of_ble_eq_true rfl) dX8_act_22 rfl (fun r4 σ3 h => ?_)
    refine Rf_if_ne X (tgt := 30) dX8_act_25 rfl rfl (fun c17 => ?_) (fun c17 => ?_)
    · have h := h.1 c17
      refine Rf_aload_n X (j := 0) rfl rfl dX8_act_30 rfl ?_
      refine Rf_get X kc8 (Nat.le_of_ble_eq_true rfl) rfl (j := 30) (Nat.le_of_ble_eq_true rfl) lf_X8_63 (v := .ref 18) rfl dX8_act_31 rfl ?_
      refine Rf_iload_n X (j := 1) rfl rfl dX8_act_34 rfl ?_
      obtain ⟨s5, h⟩ := h
      refine Rf_iaload X (Nat.le_of_ble_eq_true rfl) rfl rfl s5 dX8_act_35 rfl (v := gF σ3 18 (x1.toNatClampNeg)) rfl ?_
      refine Rf_istore X (i := 4) (Nat.le_of_ble_eq_true rfl) (ls2 := [(4, .int (gF σ3 18 (x1.toNatClampNeg))), (0, .ref 0), (1, .int x1), (2, .int x2), (3, .int x3)]) rfl dX8_act_36 rfl ?_
      refine Rf_iload_n X (j := 3) rfl rfl dX8_act_38 rfl ?_
      refine Rf_if_ne X (tgt := 53) dX8_act_39 rfl rfl (fun c16 => ?_) (fun c16 => ?_)
      · have h := h.1 c16
        refine Rf_iload_n X (j := 3) rfl rfl dX8_act_53 rfl ?_
        refine Rf_iconst X (v := 1) rfl dX8_act_54 rfl ?_
        refine Rf_icmp_ne X (tgt := 69) dX8_act_55 rfl rfl (fun c13 => ?_) (fun c13 => ?_)
        · have h := h.1 c13
          refine Rf_iload_n X (j := 3) rfl rfl dX8_act_69 rfl ?_
          refine Rf_iconst X (v := 2) rfl dX8_act_70 rfl ?_
          refine Rf_icmp_ne X (tgt := 85) dX8_act_71 rfl rfl (fun c10 => ?_) (fun c10 => ?_)
          · have h := h.1 c10
            refine Rf_aload_n X (j := 1) rfl rfl dX8_act_85 rfl ?_
            refine Rf_iload_n X (j := 2) rfl rfl dX8_act_86 rfl ?_
            refine Rf_iload X (j := 0) rfl dX8_act_87 rfl ?_
            refine Rf_iload_n X (j := 4) rfl rfl dX8_act_89 rfl ?_
            refine Rf_cVi (as := [.int x1, .int (gF σ3 18 (x1.toNatClampNeg)), .int x3]) (st := []) X mi_X8_tells_ lm_X8_323 rfl (Nat.le_of_ble_eq_true rfl) rfl (hκ_X8_tells_ _ _ _ _ _ h) (Nat.le_refl _) rfl rfl (Nat.le_of_ble_eq_true rfl) dX8_act_90 rfl (fun r7 σ6 h => ?_)
            exact Rf_iret X rfl dX8_act_93 ⟨_, rfl, h⟩
          · have h := h.2 c10
            refine Rf_aload_n X (j := 1) rfl rfl dX8_act_74 rfl ?_
            refine Rf_iload_n X (j := 2) rfl rfl dX8_act_75 rfl ?_
            refine Rf_iload X (j := 0) rfl dX8_act_76 rfl ?_
            refine Rf_iload_n X (j := 4) rfl rfl dX8_act_78 rfl ?_
            refine Rf_cVi (as := [.int x1, .int (gF σ3 18 (x1.toNatClampNeg)), .int x3]) (st := []) X mi_X8_owesBy lm_X8_320 rfl (Nat.le_of_ble_eq_true rfl) rfl (hκ_X8_owesBy _ _ _ _ _ h) (Nat.le_refl _) rfl rfl (Nat.le_of_ble_eq_true rfl) dX8_act_79 rfl (fun r9 σ8 h => ?_)
            refine Rf_goto X (tgt := 93) dX8_act_82 rfl ?_
            exact Rf_iret X rfl dX8_act_93 ⟨_, rfl, h⟩
        · have h := h.2 c13
          refine Rf_aload_n X (j := 1) rfl rfl dX8_act_58 rfl ?_
          refine Rf_iload_n X (j := 2) rfl rfl dX8_act_59 rfl ?_
          refine Rf_iload X (j := 0) rfl dX8_act_60 rfl ?_
          refine Rf_iload_n X (j := 4) rfl rfl dX8_act_62 rfl ?_
          refine Rf_cVi (as := [.int x1, .int (gF σ3 18 (x1.toNatClampNeg)), .int x3]) (st := []) X mi_X8_leansBy lm_X8_317 rfl (Nat.le_of_ble_eq_true rfl) rfl (hκ_X8_leansBy _ _ _ _ _ h) (Nat.le_refl _) rfl rfl (Nat.le_of_ble_eq_true rfl) dX8_act_63 rfl (fun r12 σ11 h => ?_)
          refine Rf_goto X (tgt := 93) dX8_act_66 rfl ?_
          exact Rf_iret X rfl dX8_act_93 ⟨_, rfl, h⟩
      · have h := h.2 c16
        refine Rf_aload_n X (j := 1) rfl rfl dX8_act_42 rfl ?_
        refine Rf_iload_n X (j := 2) rfl rfl dX8_act_43 rfl ?_
        refine Rf_iload X (j := 0) rfl dX8_act_44 rfl ?_
        refine Rf_iload_n X (j := 4) rfl rfl dX8_act_46 rfl ?_
        refine Rf_cVi (as := [.int x1, .int (gF σ3 18 (x1.toNatClampNeg)), .int x3]) (st := []) X mi_X8_walksBy lm_X8_311 rfl (Nat.le_of_ble_eq_true rfl) rfl (hκ_X8_walksBy _ _ _ _ _ h) (Nat.le_refl _) rfl rfl (Nat.le_of_ble_eq_true rfl) dX8_act_47 rfl (fun r15 σ14 h => ?_)
        refine Rf_goto X (tgt := 93) dX8_act_50 rfl ?_
        exact Rf_iret X rfl dX8_act_93 ⟨_, rfl, h⟩
    · have h := h.2 c17
      refine Rf_iconst X (v := 0) rfl dX8_act_28 rfl ?_
      exact Rf_iret X rfl dX8_act_29 ⟨_, rfl, h⟩
def wp_X8_trace (σ : rfS) (x1 : Int32) (Q : Int32 → rfS → Prop) : Prop :=
  wp_X8_within σ x1 0 ((if (gI σ 0 31) < 24 then (gI σ 0 31) else 24) - 1) (fun (r2 : Int32) (σ1 : rfS) => ((r2 = 0 → Q (-1) σ1) ∧ (¬ r2 = 0 → vp_in x1 24 ∧ (Q (gF σ1 19 (x1.toNatClampNeg)) σ1))))
set_option maxRecDepth 20000 in
theorem k_X8_trace {σ : rfS} {x1 : Int32} {Q : Int32 → rfS → Prop} (h : wp_X8_trace σ x1 Q) : RM ΛM 1 yX8_trace cX8_trace 2 (some .int) [.ref 0, .int x1] σ (qi Q) := by
  unfold wp_X8_trace at h
  refine RM.intro (by decide) (Nat.le_of_ble_eq_true rfl) (fun E X => ?_)
  show Rf ΛM 1 E 2 (qi Q) 0 [(0, .ref 0), (1, .int x1)] [] σ
  refine Rf_iload_n X (j := 1) rfl rfl dX8_trace_0 rfl ?_
  refine Rf_iconst X (v := 0) rfl dX8_trace_1 rfl ?_
  refine Rf_bipush X (v := 24) rfl dX8_trace_2 rfl ?_
  refine Rf_aload_n X (j := 0) rfl rfl dX8_trace_4 rfl ?_
  refine Rf_get X kc8 (Nat.le_of_ble_eq_true rfl) rfl (j := 31) (Nat.le_of_ble_eq_true rfl) lf_X8_304 (v := .int (gI σ 0 31)) rfl dX8_trace_5 rfl ?_
  refine Rf_min X lm_X8_220 mm_min.1 mm_min.2.1 mm_min.2.2 (Nat.le_of_ble_eq_true rfl) (Nat.le_of_ble_eq_true rfl) dX8_trace_8 rfl ?_
  refine Rf_iconst X (v := 1) rfl dX8_trace_11 rfl ?_
  refine Rf_isub X dX8_trace_12 rfl ?_
  refine Rf_cSi (as := [.int x1, .int 0, .int ((if (gI σ 0 31) < 24 then (gI σ 0 31) else 24) - 1)]) (st := []) X ms_X8_within lm_X8_98 (k_X8_within h) (Nat.le_of_ble_eq_true rfl) rfl rfl (Nat.le_of_ble_eq_true rfl) dX8_trace_13 rfl (fun r2 σ1 h => ?_)
  refine Rf_if_eq X (tgt := 28) dX8_trace_16 rfl rfl (fun c4 => ?_) (fun c4 => ?_)
  · have h := h.1 c4
    refine Rf_iconst X (v := (-1)) (by decide) dX8_trace_28 rfl ?_
    exact Rf_iret X rfl dX8_trace_29 ⟨_, rfl, h⟩
  · have h := h.2 c4
    refine Rf_aload_n X (j := 0) rfl rfl dX8_trace_19 rfl ?_
    refine Rf_get X kc8 (Nat.le_of_ble_eq_true rfl) rfl (j := 32) (Nat.le_of_ble_eq_true rfl) lf_X8_66 (v := .ref 19) rfl dX8_trace_20 rfl ?_
    refine Rf_iload_n X (j := 1) rfl rfl dX8_trace_23 rfl ?_
    obtain ⟨s3, h⟩ := h
    refine Rf_iaload X (Nat.le_of_ble_eq_true rfl) rfl rfl s3 dX8_trace_24 rfl (v := gF σ1 19 (x1.toNatClampNeg)) rfl ?_
    refine Rf_goto X (tgt := 29) dX8_trace_25 rfl ?_
    exact Rf_iret X rfl dX8_trace_29 ⟨_, rfl, h⟩
def wj_X8_keep_40 (Q : Int32 → rfS → Prop) (x1 : Int32) (xs0 : Int32) (xs1 : Int32) (σ : rfS) : Prop :=
  vp_in xs1 6 ∧ vp_in x1 6 ∧ Q 1 (sF (sF σ 20 (xs1.toNatClampNeg) xs0) 21 (x1.toNatClampNeg) 0)
set_option maxRecDepth 20000 in
theorem sj_X8_keep_40 {E : rfE} {Q : Int32 → rfS → Prop} (X : rfX ΛM E yX8_keep cX8_keep 3 (some .int)) (x1 : Int32) (xs0 : Int32) (xs1 : Int32) (σ : rfS) (h : wj_X8_keep_40 Q x1 xs0 xs1 σ) : Rf ΛM 2 E 3 (qi Q) 40 [(0, .ref 0), (1, .int x1)] [.int xs0, .int xs1, .ref 20] σ := by
  unfold wj_X8_keep_40 at h
  obtain ⟨s5, h⟩ := h
  refine Rf_iastore X (Nat.le_of_ble_eq_true rfl) rfl rfl s5 dX8_keep_40 rfl ?_
  refine Rf_aload_n X (j := 0) rfl rfl dX8_keep_41 rfl ?_
  refine Rf_get X kc8 (Nat.le_of_ble_eq_true rfl) rfl (j := 34) (Nat.le_of_ble_eq_true rfl) lf_X8_72 (v := .ref 21) rfl dX8_keep_42 rfl ?_
  refine Rf_iload_n X (j := 1) rfl rfl dX8_keep_45 rfl ?_
  refine Rf_iconst X (v := 0) rfl dX8_keep_46 rfl ?_
  obtain ⟨s6, h⟩ := h
  refine Rf_iastore X (Nat.le_of_ble_eq_true rfl) rfl rfl s6 dX8_keep_47 rfl ?_
  refine Rf_iconst X (v := 1) rfl dX8_keep_48 rfl ?_
  exact Rf_iret X rfl dX8_keep_49 ⟨_, rfl, h⟩
def wp_X8_keep (σ : rfS) (x1 : Int32) (x2 : Int32) (Q : Int32 → rfS → Prop) : Prop :=
  wp_X8_isShelf σ x1 (fun (r2 : Int32) (σ1 : rfS) => ((r2 = 0 → Q (-1) σ1) ∧ (¬ r2 = 0 → wp_X8_within σ1 x2 (-1) ((gI σ1 0 29) - 1) (fun (r4 : Int32) (σ3 : rfS) => ((¬ r4 = 0 → ((0 ≤ x2 → wj_X8_keep_40 Q x1 (10 + x2) x1 σ3) ∧ (¬ (0 ≤ x2) → wj_X8_keep_40 Q x1 (-1) x1 σ3))) ∧ (r4 = 0 → Q (-1) σ3))))))
set_option maxRecDepth 20000 in
theorem k_X8_keep {σ : rfS} {x1 : Int32} {x2 : Int32} {Q : Int32 → rfS → Prop} (h : wp_X8_keep σ x1 x2 Q) : RM ΛM 2 yX8_keep cX8_keep 3 (some .int) [.ref 0, .int x1, .int x2] σ (qi Q) := by
  unfold wp_X8_keep at h
  refine RM.intro (by decide) (Nat.le_of_ble_eq_true rfl) (fun E X => ?_)
  show Rf ΛM 2 E 3 (qi Q) 0 [(0, .ref 0), (1, .int x1), (2, .int x2)] [] σ
  refine Rf_iload_n X (j := 1) rfl rfl dX8_keep_0 rfl ?_
  refine Rf_cSi (as := [.int x1]) (st := []) X ms_X8_isShelf lm_X8_106 (k_X8_isShelf h) (Nat.le_of_ble_eq_true rfl) rfl rfl (Nat.le_of_ble_eq_true rfl) dX8_keep_1 rfl (fun r2 σ1 h => ?_)
  refine Rf_if_eq X (tgt := 21) dX8_keep_4 rfl rfl (fun c9 => ?_) (fun c9 => ?_)
  · have h := h.1 c9
    refine Rf_iconst X (v := (-1)) (by decide) dX8_keep_21 rfl ?_
    exact Rf_iret X rfl dX8_keep_22 ⟨_, rfl, h⟩
  · have h := h.2 c9
    refine Rf_iload_n X (j := 2) rfl rfl dX8_keep_7 rfl ?_
    refine Rf_iconst X (v := (-1)) (by decide) dX8_keep_8 rfl ?_
    refine Rf_aload_n X (j := 0) rfl rfl dX8_keep_9 rfl ?_
    refine Rf_get X kc8 (Nat.le_of_ble_eq_true rfl) rfl (j := 29) (Nat.le_of_ble_eq_true rfl) lf_X8_326 (v := .int (gI σ1 0 29)) rfl dX8_keep_10 rfl ?_
    refine Rf_iconst X (v := 1) rfl dX8_keep_13 rfl ?_
    refine Rf_isub X dX8_keep_14 rfl ?_
    refine Rf_cSi (as := [.int x2, .int (-1), .int ((gI σ1 0 29) - 1)]) (st := []) X ms_X8_within lm_X8_98 (k_X8_within h) (Nat.le_of_ble_eq_true rfl) rfl rfl (Nat.le_of_ble_eq_true rfl) dX8_keep_15 rfl (fun r4 σ3 h => ?_)
    refine Rf_if_ne X (tgt := 23) dX8_keep_18 rfl rfl (fun c8 => ?_) (fun c8 => ?_)
    · have h := h.1 c8
      refine Rf_aload_n X (j := 0) rfl rfl dX8_keep_23 rfl ?_
      refine Rf_get X kc8 (Nat.le_of_ble_eq_true rfl) rfl (j := 33) (Nat.le_of_ble_eq_true rfl) lf_X8_69 (v := .ref 20) rfl dX8_keep_24 rfl ?_
      refine Rf_iload_n X (j := 1) rfl rfl dX8_keep_27 rfl ?_
      refine Rf_iload_n X (j := 2) rfl rfl dX8_keep_28 rfl ?_
      refine Rf_if_ge X (tgt := 36) dX8_keep_29 rfl rfl (fun c7 => ?_) (fun c7 => ?_)
      · have h := h.1 c7
        refine Rf_bipush X (v := 10) rfl dX8_keep_36 rfl ?_
        refine Rf_iload_n X (j := 2) rfl rfl dX8_keep_38 rfl ?_
        refine Rf_iadd X dX8_keep_39 rfl ?_
        refine Rf_sub [0, 1] rfl ?_
        exact sj_X8_keep_40 X _ _ _ _ h
      · have h := h.2 c7
        refine Rf_iconst X (v := (-1)) (by decide) dX8_keep_32 rfl ?_
        refine Rf_goto X (tgt := 40) dX8_keep_33 rfl ?_
        refine Rf_sub [0, 1] rfl ?_
        exact sj_X8_keep_40 X _ _ _ _ h
    · have h := h.2 c8
      refine Rf_iconst X (v := (-1)) (by decide) dX8_keep_21 rfl ?_
      exact Rf_iret X rfl dX8_keep_22 ⟨_, rfl, h⟩
def wl_X8_row_48 (Q : Int32 → rfS → Prop) : Nat → Int32 → Int32 → rfS → Prop
  | 0, _, _, _ => False
  | n + 1, x1, x4, σ => ((60 ≤ x4 → Q 1 σ) ∧ (¬ (60 ≤ x4) → vp_in ((60 * x1) + x4) 360 ∧ (wl_X8_row_48 Q n x1 (x4 + 1) (sL σ 22 (((60 * x1) + x4).toNatClampNeg) 0))))
set_option maxRecDepth 20000 in
theorem sl_X8_row_48 {E : rfE} {Q : Int32 → rfS → Prop} (X : rfX ΛM E yX8_row cX8_row 5 (some .int)) : ∀ (n : Nat) (x1 : Int32) (x4 : Int32) (σ : rfS), wl_X8_row_48 Q n x1 x4 σ → Rf ΛM 2 E 5 (qi Q) 48 [(0, .ref 0), (1, .int x1), (4, .int x4)] [] σ := by
  intro n
  induction n with
  | zero =>
    intro x1 x4 σ h
    exact False.elim h
  | succ n hkb_48 =>
    intro x1 x4 σ h
    unfold wl_X8_row_48 at h
    refine Rf_iload X (j := 2) rfl dX8_row_48 rfl ?_
    refine Rf_bipush X (v := 60) rfl dX8_row_50 rfl ?_
    refine Rf_icmp_ge X (tgt := 74) dX8_row_52 rfl rfl (fun c8 => ?_) (fun c8 => ?_)
    · have h := h.1 c8
      refine Rf_iconst X (v := 1) rfl dX8_row_74 rfl ?_
      exact Rf_iret X rfl dX8_row_75 ⟨_, rfl, h⟩
    · have h := h.2 c8
      refine Rf_aload_n X (j := 0) rfl rfl dX8_row_55 rfl ?_
      refine Rf_get X kc8 (Nat.le_of_ble_eq_true rfl) rfl (j := 35) (Nat.le_of_ble_eq_true rfl) lf_X8_75 (v := .ref 22) rfl dX8_row_56 rfl ?_
      refine Rf_bipush X (v := 60) rfl dX8_row_59 rfl ?_
      refine Rf_iload_n X (j := 1) rfl rfl dX8_row_61 rfl ?_
      refine Rf_imul X dX8_row_62 rfl ?_
      refine Rf_iload X (j := 2) rfl dX8_row_63 rfl ?_
      refine Rf_iadd X dX8_row_65 rfl ?_
      refine Rf_lconst X (v := 0) rfl dX8_row_66 rfl ?_
      obtain ⟨s7, h⟩ := h
      refine Rf_lastore X (Nat.le_of_ble_eq_true rfl) rfl rfl s7 dX8_row_67 rfl ?_
      refine Rf_iinc X (i := 4) (j := 2) (v := x4 + 1) rfl rfl (Nat.le_of_ble_eq_true rfl) (ls2 := [(4, .int (x4 + 1)), (0, .ref 0), (1, .int x1)]) rfl dX8_row_68 rfl ?_
      refine Rf_goto X (tgt := 48) dX8_row_71 rfl ?_
      refine Rf_sub [1, 2, 0] rfl ?_
      exact hkb_48 _ _ (sL σ 22 (((60 * x1) + x4).toNatClampNeg) 0) h
def wp_X8_row (σ : rfS) (x1 : Int32) (x2 : Int32) (x3 : Int32) (Q : Int32 → rfS → Prop) : Prop :=
  wp_X8_isShelf σ x1 (fun (r2 : Int32) (σ1 : rfS) => ((r2 = 0 → Q (-1) σ1) ∧ (¬ r2 = 0 → wp_X8_within σ1 x2 0 4 (fun (r4 : Int32) (σ3 : rfS) => ((r4 = 0 → Q (-1) σ3) ∧ (¬ r4 = 0 → ((x3 ≤ 60 → ((0 ≤ x3 → vp_in x1 6 ∧ vp_in x1 6 ∧ ((∃ n9, wl_X8_row_48 Q n9 x1 0 (sF (sF σ3 20 (x1.toNatClampNeg) x2) 21 (x1.toNatClampNeg) x3)))) ∧ (¬ (0 ≤ x3) → Q (-14) σ3))) ∧ (¬ (x3 ≤ 60) → Q (-1) σ3))))))))
set_option maxRecDepth 20000 in
theorem k_X8_row {σ : rfS} {x1 : Int32} {x2 : Int32} {x3 : Int32} {Q : Int32 → rfS → Prop} (h : wp_X8_row σ x1 x2 x3 Q) : RM ΛM 2 yX8_row cX8_row 5 (some .int) [.ref 0, .int x1, .int x2, .int x3] σ (qi Q) := by
  unfold wp_X8_row at h
  refine RM.intro (by decide) (Nat.le_of_ble_eq_true rfl) (fun E X => ?_)
  show Rf ΛM 2 E 5 (qi Q) 0 [(0, .ref 0), (1, .int x1), (2, .int x2), (3, .int x3)] [] σ
  refine Rf_iload_n X (j := 1) rfl rfl dX8_row_0 rfl ?_
  refine Rf_cSi (as := [.int x1]) (st := []) X ms_X8_isShelf lm_X8_106 (k_X8_isShelf h) (Nat.le_of_ble_eq_true rfl) rfl rfl (Nat.le_of_ble_eq_true rfl) dX8_row_1 rfl (fun r2 σ1 h => ?_)
  refine Rf_if_eq X (tgt := 22) dX8_row_4 rfl rfl (fun c13 => ?_) (fun c13 => ?_)
  · have h := h.1 c13
    refine Rf_iconst X (v := (-1)) (by decide) dX8_row_22 rfl ?_
    exact Rf_iret X rfl dX8_row_23 ⟨_, rfl, h⟩
  · have h := h.2 c13
    refine Rf_iload_n X (j := 2) rfl rfl dX8_row_7 rfl ?_
    refine Rf_iconst X (v := 0) rfl dX8_row_8 rfl ?_
    refine Rf_iconst X (v := 4) rfl dX8_row_9 rfl ?_
    refine Rf_cSi (as := [.int x2, .int 0, .int 4]) (st := []) X ms_X8_within lm_X8_98 (k_X8_within h) (Nat.le_of_ble_eq_true rfl) rfl rfl (Nat.le_of_ble_eq_true rfl) dX8_row_10 rfl (fun r4 σ3 h => ?_)
    refine Rf_if_eq X (tgt := 22) dX8_row_13 rfl rfl (fun c12 => ?_) (fun c12 => ?_)
    · have h := h.1 c12
      refine Rf_iconst X (v := (-1)) (by decide) dX8_row_22 rfl ?_
      exact Rf_iret X rfl dX8_row_23 ⟨_, rfl, h⟩
    · have h := h.2 c12
      refine Rf_iload_n X (j := 3) rfl rfl dX8_row_16 rfl ?_
      refine Rf_bipush X (v := 60) rfl dX8_row_17 rfl ?_
      refine Rf_icmp_le X (tgt := 24) dX8_row_19 rfl rfl (fun c11 => ?_) (fun c11 => ?_)
      · have h := h.1 c11
        refine Rf_iload_n X (j := 3) rfl rfl dX8_row_24 rfl ?_
        refine Rf_if_ge X (tgt := 31) dX8_row_25 rfl rfl (fun c10 => ?_) (fun c10 => ?_)
        · have h := h.1 c10
          refine Rf_aload_n X (j := 0) rfl rfl dX8_row_31 rfl ?_
          refine Rf_get X kc8 (Nat.le_of_ble_eq_true rfl) rfl (j := 33) (Nat.le_of_ble_eq_true rfl) lf_X8_69 (v := .ref 20) rfl dX8_row_32 rfl ?_
          refine Rf_iload_n X (j := 1) rfl rfl dX8_row_35 rfl ?_
          refine Rf_iload_n X (j := 2) rfl rfl dX8_row_36 rfl ?_
          obtain ⟨s5, h⟩ := h
          refine Rf_iastore X (Nat.le_of_ble_eq_true rfl) rfl rfl s5 dX8_row_37 rfl ?_
          refine Rf_aload_n X (j := 0) rfl rfl dX8_row_38 rfl ?_
          refine Rf_get X kc8 (Nat.le_of_ble_eq_true rfl) rfl (j := 34) (Nat.le_of_ble_eq_true rfl) lf_X8_72 (v := .ref 21) rfl dX8_row_39 rfl ?_
          refine Rf_iload_n X (j := 1) rfl rfl dX8_row_42 rfl ?_
          refine Rf_iload_n X (j := 3) rfl rfl dX8_row_43 rfl ?_
          obtain ⟨s6, h⟩ := h
          refine Rf_iastore X (Nat.le_of_ble_eq_true rfl) rfl rfl s6 dX8_row_44 rfl ?_
          refine Rf_iconst X (v := 0) rfl dX8_row_45 rfl ?_
          refine Rf_istore X (i := 4) (Nat.le_of_ble_eq_true rfl) (ls2 := [(4, .int 0), (0, .ref 0), (1, .int x1), (2, .int x2), (3, .int x3)]) rfl dX8_row_46 rfl ?_
          obtain ⟨n9, h⟩ := h
          refine Rf_sub [1, 2, 0] rfl ?_
          exact sl_X8_row_48 X n9 _ _ _ h
        · have h := h.2 c10
          refine Rf_bipush X (v := (-14)) (by decide) dX8_row_28 rfl ?_
          exact Rf_iret X rfl dX8_row_30 ⟨_, rfl, h⟩
      · have h := h.2 c11
        refine Rf_iconst X (v := (-1)) (by decide) dX8_row_22 rfl ?_
        exact Rf_iret X rfl dX8_row_23 ⟨_, rfl, h⟩
def wp_X8_isRow (σ : rfS) (x1 : Int32) (Q : Int32 → rfS → Prop) : Prop :=
  vp_in x1 6 ∧ wp_X8_within σ (gF σ 20 (x1.toNatClampNeg)) 0 4 (fun (r3 : Int32) (σ2 : rfS) => (rfZ r3) ∧ Q r3 σ2)
set_option maxRecDepth 20000 in
theorem k_X8_isRow {σ : rfS} {x1 : Int32} {Q : Int32 → rfS → Prop} (h : wp_X8_isRow σ x1 Q) : RM ΛM 1 yX8_isRow cX8_isRow 2 (some .boolean) [.ref 0, .int x1] σ (qi Q) := by
  unfold wp_X8_isRow at h
  refine RM.intro (by decide) (Nat.le_of_ble_eq_true rfl) (fun E X => ?_)
  show Rf ΛM 1 E 2 (qi Q) 0 [(0, .ref 0), (1, .int x1)] [] σ
  refine Rf_aload_n X (j := 0) rfl rfl dX8_isRow_0 rfl ?_
  refine Rf_get X kc8 (Nat.le_of_ble_eq_true rfl) rfl (j := 33) (Nat.le_of_ble_eq_true rfl) lf_X8_69 (v := .ref 20) rfl dX8_isRow_1 rfl ?_
  refine Rf_iload_n X (j := 1) rfl rfl dX8_isRow_4 rfl ?_
  obtain ⟨s1, h⟩ := h
  refine Rf_iaload X (Nat.le_of_ble_eq_true rfl) rfl rfl s1 dX8_isRow_5 rfl (v := gF σ 20 (x1.toNatClampNeg)) rfl ?_
  refine Rf_iconst X (v := 0) rfl dX8_isRow_6 rfl ?_
  refine Rf_iconst X (v := 4) rfl dX8_isRow_7 rfl ?_
  refine Rf_cSi (as := [.int (gF σ 20 (x1.toNatClampNeg)), .int 0, .int 4]) (st := []) X ms_X8_within lm_X8_98 (k_X8_within h) (Nat.le_of_ble_eq_true rfl) rfl rfl (Nat.le_of_ble_eq_true rfl) dX8_isRow_8 rfl (fun r3 σ2 h => ?_)
  obtain ⟨s4, h⟩ := h
  exact Rf_iret X (rfZ_n s4) dX8_isRow_11 ⟨_, rfl, h⟩
def wp_X8_kept (σ : rfS) (x0 : Int32) (y1 : Int64) (Q : Int64 → rfS → Prop) : Prop :=
  ((x0 = 0 → Q (((y1.toInt32).toInt8.toInt32).toInt64) σ) ∧ (¬ x0 = 0 → ((x0 = 1 → Q (((y1.toInt32).toInt16.toInt32).toInt64) σ) ∧ (¬ x0 = 1 → ((x0 = 2 → Q ((y1.toInt32).toInt64) σ) ∧ (¬ x0 = 2 → ((x0 = 3 → Q y1 σ) ∧ (¬ x0 = 3 → (((lg_cmp y1 0) = 0 → Q 0 σ) ∧ (¬ (lg_cmp y1 0) = 0 → Q 1 σ))))))))))
set_option maxRecDepth 20000 in
theorem k_X8_kept {σ : rfS} {x0 : Int32} {y1 : Int64} {Q : Int64 → rfS → Prop} (h : wp_X8_kept σ x0 y1 Q) : RM ΛM 0 yX8_kept cX8_kept 3 (some .long) [.int x0, .long y1] σ (ql Q) := by
  unfold wp_X8_kept at h
  refine RM.intro (by decide) (Nat.le_of_ble_eq_true rfl) (fun E X => ?_)
  show Rf ΛM 0 E 3 (ql Q) 0 [(0, .int x0), (1, .long y1)] [] σ
  refine Rf_iload_n X (j := 0) rfl rfl dX8_kept_0 rfl ?_
  refine Rf_tsw X (dt := 48) [(0, 32), (1, 37), (2, 42), (3, 46)] dX8_kept_1 rfl (by decide +kernel) (by decide +kernel) (by decide +kernel) ?_
  refine And.intro (fun c1 => ?_) (fun c1 => ?_)
  · have h := h.1 c1
    refine Rf_lload_n X (j := 1) rfl rfl dX8_kept_32 rfl ?_
    refine Rf_l2i X dX8_kept_33 rfl ?_
    refine Rf_i2b X dX8_kept_34 rfl ?_
    refine Rf_i2l X dX8_kept_35 rfl ?_
    exact Rf_lret X dX8_kept_36 ⟨_, rfl, h⟩
  · have h := h.2 c1
    refine And.intro (fun c2 => ?_) (fun c2 => ?_)
    · have h := h.1 c2
      refine Rf_lload_n X (j := 1) rfl rfl dX8_kept_37 rfl ?_
      refine Rf_l2i X dX8_kept_38 rfl ?_
      refine Rf_i2s X dX8_kept_39 rfl ?_
      refine Rf_i2l X dX8_kept_40 rfl ?_
      exact Rf_lret X dX8_kept_41 ⟨_, rfl, h⟩
    · have h := h.2 c2
      refine And.intro (fun c3 => ?_) (fun c3 => ?_)
      · have h := h.1 c3
        refine Rf_lload_n X (j := 1) rfl rfl dX8_kept_42 rfl ?_
        refine Rf_l2i X dX8_kept_43 rfl ?_
        refine Rf_i2l X dX8_kept_44 rfl ?_
        exact Rf_lret X dX8_kept_45 ⟨_, rfl, h⟩
      · have h := h.2 c3
        refine And.intro (fun c4 => ?_) (fun c4 => ?_)
        · have h := h.1 c4
          refine Rf_lload_n X (j := 1) rfl rfl dX8_kept_46 rfl ?_
          exact Rf_lret X dX8_kept_47 ⟨_, rfl, h⟩
        · have h := h.2 c4
          show Rf ΛM 0 E 3 (ql Q) 48 [(0, .int x0), (1, .long y1)] [] σ
          refine Rf_lload_n X (j := 1) rfl rfl dX8_kept_48 rfl ?_
          refine Rf_lconst X (v := 0) rfl dX8_kept_49 rfl ?_
          refine Rf_lcmp X dX8_kept_50 rfl ?_
          refine Rf_if_eq X (tgt := 58) dX8_kept_51 rfl rfl (fun c5 => ?_) (fun c5 => ?_)
          · have h := h.1 c5
            refine Rf_lconst X (v := 0) rfl dX8_kept_58 rfl ?_
            exact Rf_lret X dX8_kept_59 ⟨_, rfl, h⟩
          · have h := h.2 c5
            refine Rf_lconst X (v := 1) rfl dX8_kept_54 rfl ?_
            refine Rf_goto X (tgt := 59) dX8_kept_55 rfl ?_
            exact Rf_lret X dX8_kept_59 ⟨_, rfl, h⟩
def wp_X8_put (σ : rfS) (x1 : Int32) (x2 : Int32) (y3 : Int64) (Q : Int32 → rfS → Prop) : Prop :=
  wp_X8_isShelf σ x1 (fun (r2 : Int32) (σ1 : rfS) => ((¬ r2 = 0 → vp_in x1 6 ∧ ((¬ (gF σ1 20 (x1.toNatClampNeg)) = (-1) → wp_X8_isRow σ1 x1 (fun (r5 : Int32) (σ4 : rfS) => ((¬ r5 = 0 → vp_in x1 6 ∧ wp_X8_within σ4 x2 0 ((gF σ4 21 (x1.toNatClampNeg)) - 1) (fun (r8 : Int32) (σ7 : rfS) => ((¬ r8 = 0 → vp_in x1 6 ∧ wp_X8_kept σ7 (gF σ7 20 (x1.toNatClampNeg)) y3 (fun (r11 : Int64) (σ10 : rfS) => vp_in ((60 * x1) + x2) 360 ∧ Q 1 (sL σ10 22 (((60 * x1) + x2).toNatClampNeg) r11))) ∧ (r8 = 0 → Q (-13) σ7)))) ∧ (r5 = 0 → Q (-12) σ4)))) ∧ ((gF σ1 20 (x1.toNatClampNeg)) = (-1) → Q (-11) σ1))) ∧ (r2 = 0 → Q (-1) σ1)))
set_option maxRecDepth 20000 in
theorem k_X8_put {σ : rfS} {x1 : Int32} {x2 : Int32} {y3 : Int64} {Q : Int32 → rfS → Prop} (h : wp_X8_put σ x1 x2 y3 Q) : RM ΛM 2 yX8_put cX8_put 5 (some .int) [.ref 0, .int x1, .int x2, .long y3] σ (qi Q) := by
  unfold wp_X8_put at h
  refine RM.intro (by decide) (Nat.le_of_ble_eq_true rfl) (fun E X => ?_)
  show Rf ΛM 2 E 5 (qi Q) 0 [(0, .ref 0), (1, .int x1), (2, .int x2), (3, .long y3)] [] σ
  refine Rf_iload_n X (j := 1) rfl rfl dX8_put_0 rfl ?_
  refine Rf_cSi (as := [.int x1]) (st := []) X ms_X8_isShelf lm_X8_106 (k_X8_isShelf h) (Nat.le_of_ble_eq_true rfl) rfl rfl (Nat.le_of_ble_eq_true rfl) dX8_put_1 rfl (fun r2 σ1 h => ?_)
  refine Rf_if_ne X (tgt := 9) dX8_put_4 rfl rfl (fun c16 => ?_) (fun c16 => ?_)
  · have h := h.1 c16
    refine Rf_aload_n X (j := 0) rfl rfl dX8_put_9 rfl ?_
    refine Rf_get X kc8 (Nat.le_of_ble_eq_true rfl) rfl (j := 33) (Nat.le_of_ble_eq_true rfl) lf_X8_69 (v := .ref 20) rfl dX8_put_10 rfl ?_
    refine Rf_iload_n X (j := 1) rfl rfl dX8_put_13 rfl ?_
    obtain ⟨s3, h⟩ := h
    refine Rf_iaload X (Nat.le_of_ble_eq_true rfl) rfl rfl s3 dX8_put_14 rfl (v := gF σ1 20 (x1.toNatClampNeg)) rfl ?_
    refine Rf_iconst X (v := (-1)) (by decide) dX8_put_15 rfl ?_
    refine Rf_icmp_ne X (tgt := 22) dX8_put_16 rfl rfl (fun c15 => ?_) (fun c15 => ?_)
    · have h := h.1 c15
      refine Rf_aload_n X (j := 0) rfl rfl dX8_put_22 rfl ?_
      refine Rf_iload_n X (j := 1) rfl rfl dX8_put_23 rfl ?_
      refine Rf_cVi (as := [.int x1]) (st := []) X mi_X8_isRow lm_X8_329 rfl (Nat.le_of_ble_eq_true rfl) rfl (k_X8_isRow h) (Nat.le_of_ble_eq_true rfl) rfl rfl (Nat.le_of_ble_eq_true rfl) dX8_put_24 rfl (fun r5 σ4 h => ?_)
      refine Rf_if_ne X (tgt := 33) dX8_put_27 rfl rfl (fun c14 => ?_) (fun c14 => ?_)
      · have h := h.1 c14
        refine Rf_iload_n X (j := 2) rfl rfl dX8_put_33 rfl ?_
        refine Rf_iconst X (v := 0) rfl dX8_put_34 rfl ?_
        refine Rf_aload_n X (j := 0) rfl rfl dX8_put_35 rfl ?_
        refine Rf_get X kc8 (Nat.le_of_ble_eq_true rfl) rfl (j := 34) (Nat.le_of_ble_eq_true rfl) lf_X8_72 (v := .ref 21) rfl dX8_put_36 rfl ?_
        refine Rf_iload_n X (j := 1) rfl rfl dX8_put_39 rfl ?_
        obtain ⟨s6, h⟩ := h
        refine Rf_iaload X (Nat.le_of_ble_eq_true rfl) rfl rfl s6 dX8_put_40 rfl (v := gF σ4 21 (x1.toNatClampNeg)) rfl ?_
        refine Rf_iconst X (v := 1) rfl dX8_put_41 rfl ?_
        refine Rf_isub X dX8_put_42 rfl ?_
        refine Rf_cSi (as := [.int x2, .int 0, .int ((gF σ4 21 (x1.toNatClampNeg)) - 1)]) (st := []) X ms_X8_within lm_X8_98 (k_X8_within h) (Nat.le_of_ble_eq_true rfl) rfl rfl (Nat.le_of_ble_eq_true rfl) dX8_put_43 rfl (fun r8 σ7 h => ?_)
        refine Rf_if_ne X (tgt := 52) dX8_put_46 rfl rfl (fun c13 => ?_) (fun c13 => ?_)
        · have h := h.1 c13
          refine Rf_aload_n X (j := 0) rfl rfl dX8_put_52 rfl ?_
          refine Rf_get X kc8 (Nat.le_of_ble_eq_true rfl) rfl (j := 35) (Nat.le_of_ble_eq_true rfl) lf_X8_75 (v := .ref 22) rfl dX8_put_53 rfl ?_
          refine Rf_bipush X (v := 60) rfl dX8_put_56 rfl ?_
          refine Rf_iload_n X (j := 1) rfl rfl dX8_put_58 rfl ?_
          refine Rf_imul X dX8_put_59 rfl ?_
          refine Rf_iload_n X (j := 2) rfl rfl dX8_put_60 rfl ?_
          refine Rf_iadd X dX8_put_61 rfl ?_
          refine Rf_aload_n X (j := 0) rfl rfl dX8_put_62 rfl ?_
          refine Rf_get X kc8 (Nat.le_of_ble_eq_true rfl) rfl (j := 33) (Nat.le_of_ble_eq_true rfl) lf_X8_69 (v := .ref 20) rfl dX8_put_63 rfl ?_
          refine Rf_iload_n X (j := 1) rfl rfl dX8_put_66 rfl ?_
          obtain ⟨s9, h⟩ := h
          refine Rf_iaload X (Nat.le_of_ble_eq_true rfl) rfl rfl s9 dX8_put_67 rfl (v := gF σ7 20 (x1.toNatClampNeg)) rfl ?_
          refine Rf_lload_n X (j := 3) rfl rfl dX8_put_68 rfl ?_
          refine Rf_cSl (as := [.int (gF σ7 20 (x1.toNatClampNeg)), .long y3]) (st := [.int ((60 * x1) + x2), .ref 22]) X ms_X8_kept lm_X8_332 (k_X8_kept h) (Nat.le_of_ble_eq_true rfl) rfl rfl (Nat.le_of_ble_eq_true rfl) dX8_put_69 rfl (fun r11 σ10 h => ?_)
          obtain ⟨s12, h⟩ := h
          refine Rf_lastore X (Nat.le_of_ble_eq_true rfl) rfl rfl s12 dX8_put_72 rfl ?_
          refine Rf_iconst X (v := 1) rfl dX8_put_73 rfl ?_
          exact Rf_iret X rfl dX8_put_74 ⟨_, rfl, h⟩
        · have h := h.2 c13
          refine Rf_bipush X (v := (-13)) (by decide) dX8_put_49 rfl ?_
          exact Rf_iret X rfl dX8_put_51 ⟨_, rfl, h⟩
      · have h := h.2 c14
        refine Rf_bipush X (v := (-12)) (by decide) dX8_put_30 rfl ?_
        exact Rf_iret X rfl dX8_put_32 ⟨_, rfl, h⟩
    · have h := h.2 c15
      refine Rf_bipush X (v := (-11)) (by decide) dX8_put_19 rfl ?_
      exact Rf_iret X rfl dX8_put_21 ⟨_, rfl, h⟩
  · have h := h.2 c16
    refine Rf_iconst X (v := (-1)) (by decide) dX8_put_7 rfl ?_
    exact Rf_iret X rfl dX8_put_8 ⟨_, rfl, h⟩
def wp_X8_element (σ : rfS) (x1 : Int32) (x2 : Int32) (Q : Int64 → rfS → Prop) : Prop :=
  wp_X8_isShelf σ x1 (fun (r2 : Int32) (σ1 : rfS) => ((r2 = 0 → Q (-9223372036854775808) σ1) ∧ (¬ r2 = 0 → wp_X8_isRow σ1 x1 (fun (r4 : Int32) (σ3 : rfS) => ((r4 = 0 → Q (-9223372036854775808) σ3) ∧ (¬ r4 = 0 → vp_in x1 6 ∧ wp_X8_within σ3 x2 0 ((gF σ3 21 (x1.toNatClampNeg)) - 1) (fun (r7 : Int32) (σ6 : rfS) => ((r7 = 0 → Q (-9223372036854775808) σ6) ∧ (¬ r7 = 0 → vp_in ((60 * x1) + x2) 360 ∧ (Q (gL σ6 22 (((60 * x1) + x2).toNatClampNeg)) σ6))))))))))
set_option maxRecDepth 20000 in
theorem k_X8_element {σ : rfS} {x1 : Int32} {x2 : Int32} {Q : Int64 → rfS → Prop} (h : wp_X8_element σ x1 x2 Q) : RM ΛM 2 yX8_element cX8_element 3 (some .long) [.ref 0, .int x1, .int x2] σ (ql Q) := by
  unfold wp_X8_element at h
  refine RM.intro (by decide) (Nat.le_of_ble_eq_true rfl) (fun E X => ?_)
  show Rf ΛM 2 E 3 (ql Q) 0 [(0, .ref 0), (1, .int x1), (2, .int x2)] [] σ
  refine Rf_iload_n X (j := 1) rfl rfl dX8_element_0 rfl ?_
  refine Rf_cSi (as := [.int x1]) (st := []) X ms_X8_isShelf lm_X8_106 (k_X8_isShelf h) (Nat.le_of_ble_eq_true rfl) rfl rfl (Nat.le_of_ble_eq_true rfl) dX8_element_1 rfl (fun r2 σ1 h => ?_)
  refine Rf_if_eq X (tgt := 45) dX8_element_4 rfl rfl (fun c11 => ?_) (fun c11 => ?_)
  · have h := h.1 c11
    refine Rf_ldc2 X lc_X8_336 dX8_element_45 rfl ?_
    exact Rf_lret X dX8_element_48 ⟨_, rfl, h⟩
  · have h := h.2 c11
    refine Rf_aload_n X (j := 0) rfl rfl dX8_element_7 rfl ?_
    refine Rf_iload_n X (j := 1) rfl rfl dX8_element_8 rfl ?_
    refine Rf_cVi (as := [.int x1]) (st := []) X mi_X8_isRow lm_X8_329 rfl (Nat.le_of_ble_eq_true rfl) rfl (k_X8_isRow h) (Nat.le_of_ble_eq_true rfl) rfl rfl (Nat.le_of_ble_eq_true rfl) dX8_element_9 rfl (fun r4 σ3 h => ?_)
    refine Rf_if_eq X (tgt := 45) dX8_element_12 rfl rfl (fun c10 => ?_) (fun c10 => ?_)
    · have h := h.1 c10
      refine Rf_ldc2 X lc_X8_336 dX8_element_45 rfl ?_
      exact Rf_lret X dX8_element_48 ⟨_, rfl, h⟩
    · have h := h.2 c10
      refine Rf_iload_n X (j := 2) rfl rfl dX8_element_15 rfl ?_
      refine Rf_iconst X (v := 0) rfl dX8_element_16 rfl ?_
      refine Rf_aload_n X (j := 0) rfl rfl dX8_element_17 rfl ?_
      refine Rf_get X kc8 (Nat.le_of_ble_eq_true rfl) rfl (j := 34) (Nat.le_of_ble_eq_true rfl) lf_X8_72 (v := .ref 21) rfl dX8_element_18 rfl ?_
      refine Rf_iload_n X (j := 1) rfl rfl dX8_element_21 rfl ?_
      obtain ⟨s5, h⟩ := h
      refine Rf_iaload X (Nat.le_of_ble_eq_true rfl) rfl rfl s5 dX8_element_22 rfl (v := gF σ3 21 (x1.toNatClampNeg)) rfl ?_
      refine Rf_iconst X (v := 1) rfl dX8_element_23 rfl ?_
      refine Rf_isub X dX8_element_24 rfl ?_
      refine Rf_cSi (as := [.int x2, .int 0, .int ((gF σ3 21 (x1.toNatClampNeg)) - 1)]) (st := []) X ms_X8_within lm_X8_98 (k_X8_within h) (Nat.le_of_ble_eq_true rfl) rfl rfl (Nat.le_of_ble_eq_true rfl) dX8_element_25 rfl (fun r7 σ6 h => ?_)
      refine Rf_if_eq X (tgt := 45) dX8_element_28 rfl rfl (fun c9 => ?_) (fun c9 => ?_)
      · have h := h.1 c9
        refine Rf_ldc2 X lc_X8_336 dX8_element_45 rfl ?_
        exact Rf_lret X dX8_element_48 ⟨_, rfl, h⟩
      · have h := h.2 c9
        refine Rf_aload_n X (j := 0) rfl rfl dX8_element_31 rfl ?_
        refine Rf_get X kc8 (Nat.le_of_ble_eq_true rfl) rfl (j := 35) (Nat.le_of_ble_eq_true rfl) lf_X8_75 (v := .ref 22) rfl dX8_element_32 rfl ?_
        refine Rf_bipush X (v := 60) rfl dX8_element_35 rfl ?_
        refine Rf_iload_n X (j := 1) rfl rfl dX8_element_37 rfl ?_
        refine Rf_imul X dX8_element_38 rfl ?_
        refine Rf_iload_n X (j := 2) rfl rfl dX8_element_39 rfl ?_
        refine Rf_iadd X dX8_element_40 rfl ?_
        obtain ⟨s8, h⟩ := h
        refine Rf_laload X (Nat.le_of_ble_eq_true rfl) rfl rfl s8 dX8_element_41 rfl (v := gL σ6 22 (((60 * x1) + x2).toNatClampNeg)) rfl ?_
        refine Rf_goto X (tgt := 48) dX8_element_42 rfl ?_
        exact Rf_lret X dX8_element_48 ⟨_, rfl, h⟩
def wl_X8_shift_188 (Q : Int32 → rfS → Prop) : Nat → Int32 → Int32 → Int32 → Int32 → Int32 → Int32 → rfS → Prop
  | 0, _, _, _, _, _, _, _ => False
  | n + 1, x1, x2, x3, x4, x5, x6, σ => ((x5 ≤ x6 → Q x5 σ) ∧ (¬ (x5 ≤ x6) → vp_in (((60 * x1) + x2) + x6) 360 ∧ vp_in (((60 * x3) + x4) + x6) 360 ∧ (wl_X8_shift_188 Q n x1 x2 x3 x4 x5 (x6 + 1) (sL σ 22 ((((60 * x3) + x4) + x6).toNatClampNeg) (gL σ 22 ((((60 * x1) + x2) + x6).toNatClampNeg))))))
set_option maxRecDepth 20000 in
theorem sl_X8_shift_188 {E : rfE} {Q : Int32 → rfS → Prop} (X : rfX ΛM E yX8_shift cX8_shift 7 (some .int)) : ∀ (n : Nat) (x1 : Int32) (x2 : Int32) (x3 : Int32) (x4 : Int32) (x5 : Int32) (x6 : Int32) (σ : rfS), wl_X8_shift_188 Q n x1 x2 x3 x4 x5 x6 σ → Rf ΛM 2 E 7 (qi Q) 188 [(0, .ref 0), (1, .int x1), (2, .int x2), (3, .int x3), (4, .int x4), (5, .int x5), (6, .int x6)] [] σ := by
  intro n
  induction n with
  | zero =>
    intro x1 x2 x3 x4 x5 x6 σ h
    exact False.elim h
  | succ n hkb_188 =>
    intro x1 x2 x3 x4 x5 x6 σ h
    unfold wl_X8_shift_188 at h
    refine Rf_iload X (j := 6) rfl dX8_shift_188 rfl ?_
    refine Rf_iload X (j := 5) rfl dX8_shift_190 rfl ?_
    refine Rf_icmp_ge X (tgt := 230) dX8_shift_192 rfl rfl (fun c17 => ?_) (fun c17 => ?_)
    · have h := h.1 c17
      refine Rf_iload X (j := 5) rfl dX8_shift_230 rfl ?_
      exact Rf_iret X rfl dX8_shift_232 ⟨_, rfl, h⟩
    · have h := h.2 c17
      refine Rf_aload_n X (j := 0) rfl rfl dX8_shift_195 rfl ?_
      refine Rf_get X kc8 (Nat.le_of_ble_eq_true rfl) rfl (j := 35) (Nat.le_of_ble_eq_true rfl) lf_X8_75 (v := .ref 22) rfl dX8_shift_196 rfl ?_
      refine Rf_bipush X (v := 60) rfl dX8_shift_199 rfl ?_
      refine Rf_iload_n X (j := 3) rfl rfl dX8_shift_201 rfl ?_
      refine Rf_imul X dX8_shift_202 rfl ?_
      refine Rf_iload X (j := 4) rfl dX8_shift_203 rfl ?_
      refine Rf_iadd X dX8_shift_205 rfl ?_
      refine Rf_iload X (j := 6) rfl dX8_shift_206 rfl ?_
      refine Rf_iadd X dX8_shift_208 rfl ?_
      refine Rf_aload_n X (j := 0) rfl rfl dX8_shift_209 rfl ?_
      refine Rf_get X kc8 (Nat.le_of_ble_eq_true rfl) rfl (j := 35) (Nat.le_of_ble_eq_true rfl) lf_X8_75 (v := .ref 22) rfl dX8_shift_210 rfl ?_
      refine Rf_bipush X (v := 60) rfl dX8_shift_213 rfl ?_
      refine Rf_iload_n X (j := 1) rfl rfl dX8_shift_215 rfl ?_
      refine Rf_imul X dX8_shift_216 rfl ?_
      refine Rf_iload_n X (j := 2) rfl rfl dX8_shift_217 rfl ?_
      refine Rf_iadd X dX8_shift_218 rfl ?_
      refine Rf_iload X (j := 6) rfl dX8_shift_219 rfl ?_
      refine Rf_iadd X dX8_shift_221 rfl ?_
      obtain ⟨s15, h⟩ := h
      refine Rf_laload X (Nat.le_of_ble_eq_true rfl) rfl rfl s15 dX8_shift_222 rfl (v := gL σ 22 ((((60 * x1) + x2) + x6).toNatClampNeg)) rfl ?_
      obtain ⟨s16, h⟩ := h
      refine Rf_lastore X (Nat.le_of_ble_eq_true rfl) rfl rfl s16 dX8_shift_223 rfl ?_
      refine Rf_iinc X (i := 6) (j := 6) (v := x6 + 1) rfl rfl (Nat.le_of_ble_eq_true rfl) (ls2 := [(6, .int (x6 + 1)), (0, .ref 0), (1, .int x1), (2, .int x2), (3, .int x3), (4, .int x4), (5, .int x5)]) rfl dX8_shift_224 rfl ?_
      refine Rf_goto X (tgt := 188) dX8_shift_227 rfl ?_
      refine Rf_sub [1, 2, 3, 4, 5, 6, 0] rfl ?_
      exact hkb_188 _ _ _ _ _ _ (sL σ 22 ((((60 * x3) + x4) + x6).toNatClampNeg) (gL σ 22 ((((60 * x1) + x2) + x6).toNatClampNeg))) h
def wj_X8_shift_185 (Q : Int32 → rfS → Prop) (x1 : Int32) (x2 : Int32) (x3 : Int32) (x4 : Int32) (x5 : Int32) (σ : rfS) : Prop :=
  (∃ n18, wl_X8_shift_188 Q n18 x1 x2 x3 x4 x5 0 σ)
set_option maxRecDepth 20000 in
theorem sj_X8_shift_185 {E : rfE} {Q : Int32 → rfS → Prop} (X : rfX ΛM E yX8_shift cX8_shift 7 (some .int)) (x1 : Int32) (x2 : Int32) (x3 : Int32) (x4 : Int32) (x5 : Int32) (σ : rfS) (h : wj_X8_shift_185 Q x1 x2 x3 x4 x5 σ) : Rf ΛM 2 E 7 (qi Q) 185 [(0, .ref 0), (1, .int x1), (2, .int x2), (3, .int x3), (4, .int x4), (5, .int x5)] [] σ := by
  unfold wj_X8_shift_185 at h
  refine Rf_iconst X (v := 0) rfl dX8_shift_185 rfl ?_
  refine Rf_istore X (i := 6) (Nat.le_of_ble_eq_true rfl) (ls2 := [(6, .int 0), (0, .ref 0), (1, .int x1), (2, .int x2), (3, .int x3), (4, .int x4), (5, .int x5)]) rfl dX8_shift_186 rfl ?_
  obtain ⟨n18, h⟩ := h
  refine Rf_sub [1, 2, 3, 4, 5, 6, 0] rfl ?_
  exact sl_X8_shift_188 X n18 _ _ _ _ _ _ _ h
def wl_X8_shift_142 (Q : Int32 → rfS → Prop) : Nat → Int32 → Int32 → Int32 → Int32 → Int32 → Int32 → rfS → Prop
  | 0, _, _, _, _, _, _, _ => False
  | n + 1, x1, x2, x3, x4, x5, x6, σ => ((x6 < 0 → Q x5 σ) ∧ (¬ (x6 < 0) → vp_in (((60 * x1) + x2) + x6) 360 ∧ vp_in (((60 * x3) + x4) + x6) 360 ∧ (wl_X8_shift_142 Q n x1 x2 x3 x4 x5 (x6 + (-1)) (sL σ 22 ((((60 * x3) + x4) + x6).toNatClampNeg) (gL σ 22 ((((60 * x1) + x2) + x6).toNatClampNeg))))))
set_option maxRecDepth 20000 in
theorem sl_X8_shift_142 {E : rfE} {Q : Int32 → rfS → Prop} (X : rfX ΛM E yX8_shift cX8_shift 7 (some .int)) : ∀ (n : Nat) (x1 : Int32) (x2 : Int32) (x3 : Int32) (x4 : Int32) (x5 : Int32) (x6 : Int32) (σ : rfS), wl_X8_shift_142 Q n x1 x2 x3 x4 x5 x6 σ → Rf ΛM 2 E 7 (qi Q) 142 [(0, .ref 0), (1, .int x1), (2, .int x2), (3, .int x3), (4, .int x4), (5, .int x5), (6, .int x6)] [] σ := by
  intro n
  induction n with
  | zero =>
    intro x1 x2 x3 x4 x5 x6 σ h
    exact False.elim h
  | succ n hkb_142 =>
    intro x1 x2 x3 x4 x5 x6 σ h
    unfold wl_X8_shift_142 at h
    refine Rf_iload X (j := 6) rfl dX8_shift_142 rfl ?_
    refine Rf_if_lt X (tgt := 182) dX8_shift_144 rfl rfl (fun c21 => ?_) (fun c21 => ?_)
    · have h := h.1 c21
      refine Rf_goto X (tgt := 230) dX8_shift_182 rfl ?_
      refine Rf_iload X (j := 5) rfl dX8_shift_230 rfl ?_
      exact Rf_iret X rfl dX8_shift_232 ⟨_, rfl, h⟩
    · have h := h.2 c21
      refine Rf_aload_n X (j := 0) rfl rfl dX8_shift_147 rfl ?_
      refine Rf_get X kc8 (Nat.le_of_ble_eq_true rfl) rfl (j := 35) (Nat.le_of_ble_eq_true rfl) lf_X8_75 (v := .ref 22) rfl dX8_shift_148 rfl ?_
      refine Rf_bipush X (v := 60) rfl dX8_shift_151 rfl ?_
      refine Rf_iload_n X (j := 3) rfl rfl dX8_shift_153 rfl ?_
      refine Rf_imul X dX8_shift_154 rfl ?_
      refine Rf_iload X (j := 4) rfl dX8_shift_155 rfl ?_
      refine Rf_iadd X dX8_shift_157 rfl ?_
      refine Rf_iload X (j := 6) rfl dX8_shift_158 rfl ?_
      refine Rf_iadd X dX8_shift_160 rfl ?_
      refine Rf_aload_n X (j := 0) rfl rfl dX8_shift_161 rfl ?_
      refine Rf_get X kc8 (Nat.le_of_ble_eq_true rfl) rfl (j := 35) (Nat.le_of_ble_eq_true rfl) lf_X8_75 (v := .ref 22) rfl dX8_shift_162 rfl ?_
      refine Rf_bipush X (v := 60) rfl dX8_shift_165 rfl ?_
      refine Rf_iload_n X (j := 1) rfl rfl dX8_shift_167 rfl ?_
      refine Rf_imul X dX8_shift_168 rfl ?_
      refine Rf_iload_n X (j := 2) rfl rfl dX8_shift_169 rfl ?_
      refine Rf_iadd X dX8_shift_170 rfl ?_
      refine Rf_iload X (j := 6) rfl dX8_shift_171 rfl ?_
      refine Rf_iadd X dX8_shift_173 rfl ?_
      obtain ⟨s19, h⟩ := h
      refine Rf_laload X (Nat.le_of_ble_eq_true rfl) rfl rfl s19 dX8_shift_174 rfl (v := gL σ 22 ((((60 * x1) + x2) + x6).toNatClampNeg)) rfl ?_
      obtain ⟨s20, h⟩ := h
      refine Rf_lastore X (Nat.le_of_ble_eq_true rfl) rfl rfl s20 dX8_shift_175 rfl ?_
      refine Rf_iinc X (i := 6) (j := 6) (v := x6 + (-1)) rfl (by rw [show Int32.ofInt (-1) = (-1 : Int32) from by decide]) (Nat.le_of_ble_eq_true rfl) (ls2 := [(6, .int (x6 + (-1))), (0, .ref 0), (1, .int x1), (2, .int x2), (3, .int x3), (4, .int x4), (5, .int x5)]) rfl dX8_shift_176 rfl ?_
      refine Rf_goto X (tgt := 142) dX8_shift_179 rfl ?_
      refine Rf_sub [1, 2, 3, 4, 5, 6, 0] rfl ?_
      exact hkb_142 _ _ _ _ _ _ (sL σ 22 ((((60 * x3) + x4) + x6).toNatClampNeg) (gL σ 22 ((((60 * x1) + x2) + x6).toNatClampNeg))) h
def wp_X8_shift (σ : rfS) (x1 : Int32) (x2 : Int32) (x3 : Int32) (x4 : Int32) (x5 : Int32) (Q : Int32 → rfS → Prop) : Prop :=
  wp_X8_isShelf σ x1 (fun (r2 : Int32) (σ1 : rfS) => ((r2 = 0 → Q (-1) σ1) ∧ (¬ r2 = 0 → wp_X8_isShelf σ1 x3 (fun (r4 : Int32) (σ3 : rfS) => ((¬ r4 = 0 → vp_in x1 6 ∧ (((gF σ3 20 (x1.toNatClampNeg)) = (-1) → Q (-11) σ3) ∧ (¬ (gF σ3 20 (x1.toNatClampNeg)) = (-1) → vp_in x3 6 ∧ ((¬ (gF σ3 20 (x3.toNatClampNeg)) = (-1) → wp_X8_isRow σ3 x1 (fun (r8 : Int32) (σ7 : rfS) => ((r8 = 0 → Q (-12) σ7) ∧ (¬ r8 = 0 → wp_X8_isRow σ7 x3 (fun (r10 : Int32) (σ9 : rfS) => ((r10 = 0 → Q (-12) σ9) ∧ (¬ r10 = 0 → vp_in x1 6 ∧ vp_in x3 6 ∧ (((gF σ9 20 (x1.toNatClampNeg)) = (gF σ9 20 (x3.toNatClampNeg)) → ((x5 < 0 → Q (-13) σ9) ∧ (¬ (x5 < 0) → ((x2 < 0 → Q (-13) σ9) ∧ (¬ (x2 < 0) → ((x4 < 0 → Q (-13) σ9) ∧ (¬ (x4 < 0) → vp_in x1 6 ∧ ((0 < (lg_cmp ((x2.toInt64) + (x5.toInt64)) ((gF σ9 21 (x1.toNatClampNeg)).toInt64)) → Q (-13) σ9) ∧ (¬ (0 < (lg_cmp ((x2.toInt64) + (x5.toInt64)) ((gF σ9 21 (x1.toNatClampNeg)).toInt64))) → vp_in x3 6 ∧ (((lg_cmp ((x4.toInt64) + (x5.toInt64)) ((gF σ9 21 (x3.toNatClampNeg)).toInt64)) ≤ 0 → ((¬ x1 = x3 → wj_X8_shift_185 Q x1 x2 x3 x4 x5 σ9) ∧ (x1 = x3 → ((x4 ≤ x2 → wj_X8_shift_185 Q x1 x2 x3 x4 x5 σ9) ∧ (¬ (x4 ≤ x2) → (∃ n22, wl_X8_shift_142 Q n22 x1 x2 x3 x4 x5 (x5 - 1) σ9)))))) ∧ (¬ ((lg_cmp ((x4.toInt64) + (x5.toInt64)) ((gF σ9 21 (x3.toNatClampNeg)).toInt64)) ≤ 0) → Q (-13) σ9))))))))))) ∧ (¬ (gF σ9 20 (x1.toNatClampNeg)) = (gF σ9 20 (x3.toNatClampNeg)) → Q (-12) σ9))))))))) ∧ ((gF σ3 20 (x3.toNatClampNeg)) = (-1) → Q (-11) σ3))))) ∧ (r4 = 0 → Q (-1) σ3))))))
set_option maxRecDepth 20000 in
theorem k_X8_shift {σ : rfS} {x1 : Int32} {x2 : Int32} {x3 : Int32} {x4 : Int32} {x5 : Int32} {Q : Int32 → rfS → Prop} (h : wp_X8_shift σ x1 x2 x3 x4 x5 Q) : RM ΛM 2 yX8_shift cX8_shift 7 (some .int) [.ref 0, .int x1, .int x2, .int x3, .int x4, .int x5] σ (qi Q) := by
  unfold wp_X8_shift at h
  refine RM.intro (by decide) (Nat.le_of_ble_eq_true rfl) (fun E X => ?_)
  show Rf ΛM 2 E 7 (qi Q) 0 [(0, .ref 0), (1, .int x1), (2, .int x2), (3, .int x3), (4, .int x4), (5, .int x5)] [] σ
  refine Rf_iload_n X (j := 1) rfl rfl dX8_shift_0 rfl ?_
  refine Rf_cSi (as := [.int x1]) (st := []) X ms_X8_isShelf lm_X8_106 (k_X8_isShelf h) (Nat.le_of_ble_eq_true rfl) rfl rfl (Nat.le_of_ble_eq_true rfl) dX8_shift_1 rfl (fun r2 σ1 h => ?_)
  refine Rf_if_eq X (tgt := 14) dX8_shift_4 rfl rfl (fun c36 => ?_) (fun c36 => ?_)
  · have h := h.1 c36
    refine Rf_iconst X (v := (-1)) (by decide) dX8_shift_14 rfl ?_
    exact Rf_iret X rfl dX8_shift_15 ⟨_, rfl, h⟩
  · have h := h.2 c36
    refine Rf_iload_n X (j := 3) rfl rfl dX8_shift_7 rfl ?_
    refine Rf_cSi (as := [.int x3]) (st := []) X ms_X8_isShelf lm_X8_106 (k_X8_isShelf h) (Nat.le_of_ble_eq_true rfl) rfl rfl (Nat.le_of_ble_eq_true rfl) dX8_shift_8 rfl (fun r4 σ3 h => ?_)
    refine Rf_if_ne X (tgt := 16) dX8_shift_11 rfl rfl (fun c35 => ?_) (fun c35 => ?_)
    · have h := h.1 c35
      refine Rf_aload_n X (j := 0) rfl rfl dX8_shift_16 rfl ?_
      refine Rf_get X kc8 (Nat.le_of_ble_eq_true rfl) rfl (j := 33) (Nat.le_of_ble_eq_true rfl) lf_X8_69 (v := .ref 20) rfl dX8_shift_17 rfl ?_
      refine Rf_iload_n X (j := 1) rfl rfl dX8_shift_20 rfl ?_
      obtain ⟨s5, h⟩ := h
      refine Rf_iaload X (Nat.le_of_ble_eq_true rfl) rfl rfl s5 dX8_shift_21 rfl (v := gF σ3 20 (x1.toNatClampNeg)) rfl ?_
      refine Rf_iconst X (v := (-1)) (by decide) dX8_shift_22 rfl ?_
      refine Rf_icmp_eq X (tgt := 36) dX8_shift_23 rfl rfl (fun c34 => ?_) (fun c34 => ?_)
      · have h := h.1 c34
        refine Rf_bipush X (v := (-11)) (by decide) dX8_shift_36 rfl ?_
        exact Rf_iret X rfl dX8_shift_38 ⟨_, rfl, h⟩
      · have h := h.2 c34
        refine Rf_aload_n X (j := 0) rfl rfl dX8_shift_26 rfl ?_
        refine Rf_get X kc8 (Nat.le_of_ble_eq_true rfl) rfl (j := 33) (Nat.le_of_ble_eq_true rfl) lf_X8_69 (v := .ref 20) rfl dX8_shift_27 rfl ?_
        refine Rf_iload_n X (j := 3) rfl rfl dX8_shift_30 rfl ?_
        obtain ⟨s6, h⟩ := h
        refine Rf_iaload X (Nat.le_of_ble_eq_true rfl) rfl rfl s6 dX8_shift_31 rfl (v := gF σ3 20 (x3.toNatClampNeg)) rfl ?_
        refine Rf_iconst X (v := (-1)) (by decide) dX8_shift_32 rfl ?_
        refine Rf_icmp_ne X (tgt := 39) dX8_shift_33 rfl rfl (fun c33 => ?_) (fun c33 => ?_)
        · have h := h.1 c33
          refine Rf_aload_n X (j := 0) rfl rfl dX8_shift_39 rfl ?_
          refine Rf_iload_n X (j := 1) rfl rfl dX8_shift_40 rfl ?_
          refine Rf_cVi (as := [.int x1]) (st := []) X mi_X8_isRow lm_X8_329 rfl (Nat.le_of_ble_eq_true rfl) rfl (k_X8_isRow h) (Nat.le_of_ble_eq_true rfl) rfl rfl (Nat.le_of_ble_eq_true rfl) dX8_shift_41 rfl (fun r8 σ7 h => ?_)
          refine Rf_if_eq X (tgt := 70) dX8_shift_44 rfl rfl (fun c32 => ?_) (fun c32 => ?_)
          · have h := h.1 c32
            refine Rf_bipush X (v := (-12)) (by decide) dX8_shift_70 rfl ?_
            exact Rf_iret X rfl dX8_shift_72 ⟨_, rfl, h⟩
          · have h := h.2 c32
            refine Rf_aload_n X (j := 0) rfl rfl dX8_shift_47 rfl ?_
            refine Rf_iload_n X (j := 3) rfl rfl dX8_shift_48 rfl ?_
            refine Rf_cVi (as := [.int x3]) (st := []) X mi_X8_isRow lm_X8_329 rfl (Nat.le_of_ble_eq_true rfl) rfl (k_X8_isRow h) (Nat.le_of_ble_eq_true rfl) rfl rfl (Nat.le_of_ble_eq_true rfl) dX8_shift_49 rfl (fun r10 σ9 h => ?_)
            refine Rf_if_eq X (tgt := 70) dX8_shift_52 rfl rfl (fun c31 => ?_) (fun c31 => ?_)
            · have h := h.1 c31
              refine Rf_bipush X (v := (-12)) (by decide) dX8_shift_70 rfl ?_
              exact Rf_iret X rfl dX8_shift_72 ⟨_, rfl, h⟩
            · have h := h.2 c31
              refine Rf_aload_n X (j := 0) rfl rfl dX8_shift_55 rfl ?_
              refine Rf_get X kc8 (Nat.le_of_ble_eq_true rfl) rfl (j := 33) (Nat.le_of_ble_eq_true rfl) lf_X8_69 (v := .ref 20) rfl dX8_shift_56 rfl ?_
              refine Rf_iload_n X (j := 1) rfl rfl dX8_shift_59 rfl ?_
              obtain ⟨s11, h⟩ := h
              refine Rf_iaload X (Nat.le_of_ble_eq_true rfl) rfl rfl s11 dX8_shift_60 rfl (v := gF σ9 20 (x1.toNatClampNeg)) rfl ?_
              refine Rf_aload_n X (j := 0) rfl rfl dX8_shift_61 rfl ?_
              refine Rf_get X kc8 (Nat.le_of_ble_eq_true rfl) rfl (j := 33) (Nat.le_of_ble_eq_true rfl) lf_X8_69 (v := .ref 20) rfl dX8_shift_62 rfl ?_
              refine Rf_iload_n X (j := 3) rfl rfl dX8_shift_65 rfl ?_
              obtain ⟨s12, h⟩ := h
              refine Rf_iaload X (Nat.le_of_ble_eq_true rfl) rfl rfl s12 dX8_shift_66 rfl (v := gF σ9 20 (x3.toNatClampNeg)) rfl ?_
              refine Rf_icmp_eq X (tgt := 73) dX8_shift_67 rfl rfl (fun c30 => ?_) (fun c30 => ?_)
              · have h := h.1 c30
                refine Rf_iload X (j := 5) rfl dX8_shift_73 rfl ?_
                refine Rf_if_lt X (tgt := 122) dX8_shift_75 rfl rfl (fun c29 => ?_) (fun c29 => ?_)
                · have h := h.1 c29
                  refine Rf_bipush X (v := (-13)) (by decide) dX8_shift_122 rfl ?_
                  exact Rf_iret X rfl dX8_shift_124 ⟨_, rfl, h⟩
                · have h := h.2 c29
                  refine Rf_iload_n X (j := 2) rfl rfl dX8_shift_78 rfl ?_
                  refine Rf_if_lt X (tgt := 122) dX8_shift_79 rfl rfl (fun c28 => ?_) (fun c28 => ?_)
                  · have h := h.1 c28
                    refine Rf_bipush X (v := (-13)) (by decide) dX8_shift_122 rfl ?_
                    exact Rf_iret X rfl dX8_shift_124 ⟨_, rfl, h⟩
                  · have h := h.2 c28
                    refine Rf_iload X (j := 4) rfl dX8_shift_82 rfl ?_
                    refine Rf_if_lt X (tgt := 122) dX8_shift_84 rfl rfl (fun c27 => ?_) (fun c27 => ?_)
                    · have h := h.1 c27
                      refine Rf_bipush X (v := (-13)) (by decide) dX8_shift_122 rfl ?_
                      exact Rf_iret X rfl dX8_shift_124 ⟨_, rfl, h⟩
                    · have h := h.2 c27
                      refine Rf_iload_n X (j := 2) rfl rfl dX8_shift_87 rfl ?_
                      refine Rf_i2l X dX8_shift_88 rfl ?_
                      refine Rf_iload X (j := 5) rfl dX8_shift_89 rfl ?_
                      refine Rf_i2l X dX8_shift_91 rfl ?_
                      refine Rf_ladd X dX8_shift_92 rfl ?_
                      refine Rf_aload_n X (j := 0) rfl rfl dX8_shift_93 rfl ?_
                      refine Rf_get X kc8 (Nat.le_of_ble_eq_true rfl) rfl (j := 34) (Nat.le_of_ble_eq_true rfl) lf_X8_72 (v := .ref 21) rfl dX8_shift_94 rfl ?_
                      refine Rf_iload_n X (j := 1) rfl rfl dX8_shift_97 rfl ?_
                      obtain ⟨s13, h⟩ := h
                      refine Rf_iaload X (Nat.le_of_ble_eq_true rfl) rfl rfl s13 dX8_shift_98 rfl (v := gF σ9 21 (x1.toNatClampNeg)) rfl ?_
                      refine Rf_i2l X dX8_shift_99 rfl ?_
                      refine Rf_lcmp X dX8_shift_100 rfl ?_
                      refine Rf_if_gt X (tgt := 122) dX8_shift_101 rfl rfl (fun c26 => ?_) (fun c26 => ?_)
                      · have h := h.1 c26
                        refine Rf_bipush X (v := (-13)) (by decide) dX8_shift_122 rfl ?_
                        exact Rf_iret X rfl dX8_shift_124 ⟨_, rfl, h⟩
                      · have h := h.2 c26
                        refine Rf_iload X (j := 4) rfl dX8_shift_104 rfl ?_
                        refine Rf_i2l X dX8_shift_106 rfl ?_
                        refine Rf_iload X (j := 5) rfl dX8_shift_107 rfl ?_
                        refine Rf_i2l X dX8_shift_109 rfl ?_
                        refine Rf_ladd X dX8_shift_110 rfl ?_
                        refine Rf_aload_n X (j := 0) rfl rfl dX8_shift_111 rfl ?_
                        refine Rf_get X kc8 (Nat.le_of_ble_eq_true rfl) rfl (j := 34) (Nat.le_of_ble_eq_true rfl) lf_X8_72 (v := .ref 21) rfl dX8_shift_112 rfl ?_
                        refine Rf_iload_n X (j := 3) rfl rfl dX8_shift_115 rfl ?_
                        obtain ⟨s14, h⟩ := h
                        refine Rf_iaload X (Nat.le_of_ble_eq_true rfl) rfl rfl s14 dX8_shift_116 rfl (v := gF σ9 21 (x3.toNatClampNeg)) rfl ?_
                        refine Rf_i2l X dX8_shift_117 rfl ?_
                        refine Rf_lcmp X dX8_shift_118 rfl ?_
                        refine Rf_if_le X (tgt := 125) dX8_shift_119 rfl rfl (fun c25 => ?_) (fun c25 => ?_)
                        · have h := h.1 c25
                          refine Rf_iload_n X (j := 1) rfl rfl dX8_shift_125 rfl ?_
                          refine Rf_iload_n X (j := 3) rfl rfl dX8_shift_126 rfl ?_
                          refine Rf_icmp_ne X (tgt := 185) dX8_shift_127 rfl rfl (fun c24 => ?_) (fun c24 => ?_)
                          · have h := h.1 c24
                            exact sj_X8_shift_185 X _ _ _ _ _ _ h
                          · have h := h.2 c24
                            refine Rf_iload_n X (j := 2) rfl rfl dX8_shift_130 rfl ?_
                            refine Rf_iload X (j := 4) rfl dX8_shift_131 rfl ?_
                            refine Rf_icmp_ge X (tgt := 185) dX8_shift_133 rfl rfl (fun c23 => ?_) (fun c23 => ?_)
                            · have h := h.1 c23
                              exact sj_X8_shift_185 X _ _ _ _ _ _ h
                            · have h := h.2 c23
                              refine Rf_iload X (j := 5) rfl dX8_shift_136 rfl ?_
                              refine Rf_iconst X (v := 1) rfl dX8_shift_138 rfl ?_
                              refine Rf_isub X dX8_shift_139 rfl ?_
                              refine Rf_istore X (i := 6) (Nat.le_of_ble_eq_true rfl) (ls2 := [(6, .int (x5 - 1)), (0, .ref 0), (1, .int x1), (2, .int x2), (3, .int x3), (4, .int x4), (5, .int x5)]) rfl dX8_shift_140 rfl ?_
                              obtain ⟨n22, h⟩ := h
                              refine Rf_sub [1, 2, 3, 4, 5, 6, 0] rfl ?_
                              exact sl_X8_shift_142 X n22 _ _ _ _ _ _ _ h
                        · have h := h.2 c25
                          refine Rf_bipush X (v := (-13)) (by decide) dX8_shift_122 rfl ?_
                          exact Rf_iret X rfl dX8_shift_124 ⟨_, rfl, h⟩
              · have h := h.2 c30
                refine Rf_bipush X (v := (-12)) (by decide) dX8_shift_70 rfl ?_
                exact Rf_iret X rfl dX8_shift_72 ⟨_, rfl, h⟩
        · have h := h.2 c33
          refine Rf_bipush X (v := (-11)) (by decide) dX8_shift_36 rfl ?_
          exact Rf_iret X rfl dX8_shift_38 ⟨_, rfl, h⟩
    · have h := h.2 c35
      refine Rf_iconst X (v := (-1)) (by decide) dX8_shift_14 rfl ?_
      exact Rf_iret X rfl dX8_shift_15 ⟨_, rfl, h⟩
def wl_X8_taken_61 (Q : Int32 → rfS → Prop) (kx_82 : Int32 → Int32 → Int32 → rfS → Prop) : Nat → Int32 → Int32 → Int32 → rfS → Prop
  | 0, _, _, _, _ => False
  | n + 1, x2, x3, x4, σ => ((x4 = x2 → kx_82 x2 x3 x4 σ) ∧ (¬ x4 = x2 → ((x4 ≤ 0 → kx_82 x2 x3 x4 σ) ∧ (¬ (x4 ≤ 0) → wp_X8_above σ x4 (fun (r11 : Int32) (σ10 : rfS) => wl_X8_taken_61 Q kx_82 n x2 x3 r11 σ10)))))
set_option maxRecDepth 20000 in
theorem sl_X8_taken_61 {E : rfE} {Q : Int32 → rfS → Prop} (X : rfX ΛM E yX8_taken cX8_taken 5 (some .int)) {kx_82 : Int32 → Int32 → Int32 → rfS → Prop} (hkx_82 : ∀ (x2 : Int32) (x3 : Int32) (x4 : Int32) (σ : rfS), kx_82 x2 x3 x4 σ → Rf ΛM 2 E 5 (qi Q) 82 [(2, .int x2), (3, .int x3), (4, .int x4)] [] σ) : ∀ (n : Nat) (x2 : Int32) (x3 : Int32) (x4 : Int32) (σ : rfS), wl_X8_taken_61 Q kx_82 n x2 x3 x4 σ → Rf ΛM 2 E 5 (qi Q) 61 [(2, .int x2), (3, .int x3), (4, .int x4)] [] σ := by
  intro n
  induction n with
  | zero =>
    intro x2 x3 x4 σ h
    exact False.elim h
  | succ n hkb_61 =>
    intro x2 x3 x4 σ h
    unfold wl_X8_taken_61 at h
    refine Rf_iload X (j := 2) rfl dX8_taken_61 rfl ?_
    refine Rf_iload_n X (j := 0) rfl rfl dX8_taken_63 rfl ?_
    refine Rf_icmp_eq X (tgt := 82) dX8_taken_64 rfl rfl (fun c13 => ?_) (fun c13 => ?_)
    · have h := h.1 c13
      exact hkx_82 _ _ _ σ h
    · have h := h.2 c13
      refine Rf_iload X (j := 2) rfl dX8_taken_67 rfl ?_
      refine Rf_if_le X (tgt := 82) dX8_taken_69 rfl rfl (fun c12 => ?_) (fun c12 => ?_)
      · have h := h.1 c12
        exact hkx_82 _ _ _ σ h
      · have h := h.2 c12
        refine Rf_iload X (j := 2) rfl dX8_taken_72 rfl ?_
        refine Rf_cSi (as := [.int x4]) (st := []) X ms_X8_above lm_X8_314 (k_X8_above h) (Nat.le_of_ble_eq_true rfl) rfl rfl (Nat.le_of_ble_eq_true rfl) dX8_taken_74 rfl (fun r11 σ10 h => ?_)
        refine Rf_istore X (i := 4) (Nat.le_of_ble_eq_true rfl) (ls2 := [(4, .int r11), (2, .int x2), (3, .int x3)]) rfl dX8_taken_77 rfl ?_
        refine Rf_goto X (tgt := 61) dX8_taken_79 rfl ?_
        refine Rf_sub [1, 2, 0] rfl ?_
        exact hkb_61 _ _ _ σ10 h
def wj_X8_taken_82 (Q : Int32 → rfS → Prop) (x2 : Int32) (x3 : Int32) (x4 : Int32) (σ : rfS) : Prop :=
  ((¬ x4 = x2 → Q (-12) σ) ∧ (x4 = x2 → Q x3 σ))
set_option maxRecDepth 20000 in
theorem sj_X8_taken_82 {E : rfE} {Q : Int32 → rfS → Prop} (X : rfX ΛM E yX8_taken cX8_taken 5 (some .int)) (x2 : Int32) (x3 : Int32) (x4 : Int32) (σ : rfS) (h : wj_X8_taken_82 Q x2 x3 x4 σ) : Rf ΛM 2 E 5 (qi Q) 82 [(2, .int x2), (3, .int x3), (4, .int x4)] [] σ := by
  unfold wj_X8_taken_82 at h
  refine Rf_iload X (j := 2) rfl dX8_taken_82 rfl ?_
  refine Rf_iload_n X (j := 0) rfl rfl dX8_taken_84 rfl ?_
  refine Rf_icmp_ne X (tgt := 92) dX8_taken_85 rfl rfl (fun c19 => ?_) (fun c19 => ?_)
  · have h := h.1 c19
    refine Rf_bipush X (v := (-12)) (by decide) dX8_taken_92 rfl ?_
    exact Rf_iret X rfl dX8_taken_94 ⟨_, rfl, h⟩
  · have h := h.2 c19
    refine Rf_iload_n X (j := 1) rfl rfl dX8_taken_88 rfl ?_
    refine Rf_goto X (tgt := 94) dX8_taken_89 rfl ?_
    exact Rf_iret X rfl dX8_taken_94 ⟨_, rfl, h⟩
def wp_X8_taken (σ : rfS) (x1 : Int32) (x2 : Int32) (Q : Int32 → rfS → Prop) : Prop :=
  wp_X8_isShelf σ x1 (fun (r2 : Int32) (σ1 : rfS) => ((r2 = 0 → Q (-1) σ1) ∧ (¬ r2 = 0 → wp_X8_within σ1 x2 0 7 (fun (r4 : Int32) (σ3 : rfS) => ((¬ r4 = 0 → vp_in x1 6 ∧ ((¬ (gF σ3 20 (x1.toNatClampNeg)) = (-1) → wp_X8_isRow σ3 x1 (fun (r7 : Int32) (σ6 : rfS) => ((r7 = 0 → vp_in x1 6 ∧ vp_in ((gF σ6 20 (x1.toNatClampNeg)) - 10) 50 ∧ ((∃ n14, wl_X8_taken_61 Q (fun (x2_15 : Int32) (x3_16 : Int32) (x4_17 : Int32) (σ18 : rfS) => wj_X8_taken_82 Q x2_15 x3_16 x4_17 σ18) n14 x2 (gF σ6 18 (((gF σ6 20 (x1.toNatClampNeg)) - 10).toNatClampNeg)) (gF σ6 18 (((gF σ6 20 (x1.toNatClampNeg)) - 10).toNatClampNeg)) σ6))) ∧ (¬ r7 = 0 → Q (-12) σ6)))) ∧ ((gF σ3 20 (x1.toNatClampNeg)) = (-1) → Q (-11) σ3))) ∧ (r4 = 0 → Q (-1) σ3))))))
set_option maxRecDepth 20000 in
theorem k_X8_taken {σ : rfS} {x1 : Int32} {x2 : Int32} {Q : Int32 → rfS → Prop} (h : wp_X8_taken σ x1 x2 Q) : RM ΛM 2 yX8_taken cX8_taken 5 (some .int) [.ref 0, .int x1, .int x2] σ (qi Q) := by
  unfold wp_X8_taken at h
  refine RM.intro (by decide) (Nat.le_of_ble_eq_true rfl) (fun E X => ?_)
  show Rf ΛM 2 E 5 (qi Q) 0 [(0, .ref 0), (1, .int x1), (2, .int x2)] [] σ
  refine Rf_iload_n X (j := 1) rfl rfl dX8_taken_0 rfl ?_
  refine Rf_cSi (as := [.int x1]) (st := []) X ms_X8_isShelf lm_X8_106 (k_X8_isShelf h) (Nat.le_of_ble_eq_true rfl) rfl rfl (Nat.le_of_ble_eq_true rfl) dX8_taken_1 rfl (fun r2 σ1 h => ?_)
  refine Rf_if_eq X (tgt := 17) dX8_taken_4 rfl rfl (fun c23 => ?_) (fun c23 => ?_)
  · have h := h.1 c23
    refine Rf_iconst X (v := (-1)) (by decide) dX8_taken_17 rfl ?_
    exact Rf_iret X rfl dX8_taken_18 ⟨_, rfl, h⟩
  · have h := h.2 c23
    refine Rf_iload_n X (j := 2) rfl rfl dX8_taken_7 rfl ?_
    refine Rf_iconst X (v := 0) rfl dX8_taken_8 rfl ?_
    refine Rf_bipush X (v := 7) rfl dX8_taken_9 rfl ?_
    refine Rf_cSi (as := [.int x2, .int 0, .int 7]) (st := []) X ms_X8_within lm_X8_98 (k_X8_within h) (Nat.le_of_ble_eq_true rfl) rfl rfl (Nat.le_of_ble_eq_true rfl) dX8_taken_11 rfl (fun r4 σ3 h => ?_)
    refine Rf_if_ne X (tgt := 19) dX8_taken_14 rfl rfl (fun c22 => ?_) (fun c22 => ?_)
    · have h := h.1 c22
      refine Rf_aload_n X (j := 0) rfl rfl dX8_taken_19 rfl ?_
      refine Rf_get X kc8 (Nat.le_of_ble_eq_true rfl) rfl (j := 33) (Nat.le_of_ble_eq_true rfl) lf_X8_69 (v := .ref 20) rfl dX8_taken_20 rfl ?_
      refine Rf_iload_n X (j := 1) rfl rfl dX8_taken_23 rfl ?_
      obtain ⟨s5, h⟩ := h
      refine Rf_iaload X (Nat.le_of_ble_eq_true rfl) rfl rfl s5 dX8_taken_24 rfl (v := gF σ3 20 (x1.toNatClampNeg)) rfl ?_
      refine Rf_iconst X (v := (-1)) (by decide) dX8_taken_25 rfl ?_
      refine Rf_icmp_ne X (tgt := 32) dX8_taken_26 rfl rfl (fun c21 => ?_) (fun c21 => ?_)
      · have h := h.1 c21
        refine Rf_aload_n X (j := 0) rfl rfl dX8_taken_32 rfl ?_
        refine Rf_iload_n X (j := 1) rfl rfl dX8_taken_33 rfl ?_
        refine Rf_cVi (as := [.int x1]) (st := []) X mi_X8_isRow lm_X8_329 rfl (Nat.le_of_ble_eq_true rfl) rfl (k_X8_isRow h) (Nat.le_of_ble_eq_true rfl) rfl rfl (Nat.le_of_ble_eq_true rfl) dX8_taken_34 rfl (fun r7 σ6 h => ?_)
        refine Rf_if_eq X (tgt := 43) dX8_taken_37 rfl rfl (fun c20 => ?_) (fun c20 => ?_)
        · have h := h.1 c20
          refine Rf_aload_n X (j := 0) rfl rfl dX8_taken_43 rfl ?_
          refine Rf_get X kc8 (Nat.le_of_ble_eq_true rfl) rfl (j := 30) (Nat.le_of_ble_eq_true rfl) lf_X8_63 (v := .ref 18) rfl dX8_taken_44 rfl ?_
          refine Rf_aload_n X (j := 0) rfl rfl dX8_taken_47 rfl ?_
          refine Rf_get X kc8 (Nat.le_of_ble_eq_true rfl) rfl (j := 33) (Nat.le_of_ble_eq_true rfl) lf_X8_69 (v := .ref 20) rfl dX8_taken_48 rfl ?_
          refine Rf_iload_n X (j := 1) rfl rfl dX8_taken_51 rfl ?_
          obtain ⟨s8, h⟩ := h
          refine Rf_iaload X (Nat.le_of_ble_eq_true rfl) rfl rfl s8 dX8_taken_52 rfl (v := gF σ6 20 (x1.toNatClampNeg)) rfl ?_
          refine Rf_bipush X (v := 10) rfl dX8_taken_53 rfl ?_
          refine Rf_isub X dX8_taken_55 rfl ?_
          obtain ⟨s9, h⟩ := h
          refine Rf_iaload X (Nat.le_of_ble_eq_true rfl) rfl rfl s9 dX8_taken_56 rfl (v := gF σ6 18 (((gF σ6 20 (x1.toNatClampNeg)) - 10).toNatClampNeg)) rfl ?_
          refine Rf_istore_n X rfl (i := 3) (Nat.le_of_ble_eq_true rfl) (ls2 := [(3, .int (gF σ6 18 (((gF σ6 20 (x1.toNatClampNeg)) - 10).toNatClampNeg))), (0, .ref 0), (1, .int x1), (2, .int x2)]) rfl dX8_taken_57 rfl ?_
          refine Rf_iload_n X (j := 0) rfl rfl dX8_taken_58 rfl ?_
          refine Rf_istore X (i := 4) (Nat.le_of_ble_eq_true rfl) (ls2 := [(4, .int (gF σ6 18 (((gF σ6 20 (x1.toNatClampNeg)) - 10).toNatClampNeg))), (3, .int (gF σ6 18 (((gF σ6 20 (x1.toNatClampNeg)) - 10).toNatClampNeg))), (0, .ref 0), (1, .int x1), (2, .int x2)]) rfl dX8_taken_59 rfl ?_
          obtain ⟨n14, h⟩ := h
          refine Rf_sub [4, 1, 0] rfl ?_
          refine sl_X8_taken_61 X (fun x2_15 x3_16 x4_17 σ18 h => ?_) n14 _ _ _ _ h
          · exact sj_X8_taken_82 X _ _ _ _ h
        · have h := h.2 c20
          refine Rf_bipush X (v := (-12)) (by decide) dX8_taken_40 rfl ?_
          exact Rf_iret X rfl dX8_taken_42 ⟨_, rfl, h⟩
      · have h := h.2 c21
        refine Rf_bipush X (v := (-11)) (by decide) dX8_taken_29 rfl ?_
        exact Rf_iret X rfl dX8_taken_31 ⟨_, rfl, h⟩
    · have h := h.2 c22
      refine Rf_iconst X (v := (-1)) (by decide) dX8_taken_17 rfl ?_
      exact Rf_iret X rfl dX8_taken_18 ⟨_, rfl, h⟩
def wp_X8_count (σ : rfS) (x1 : Int32) (Q : Int32 → rfS → Prop) : Prop :=
  ((x1 = 0 → Q (gI σ 0 0) σ) ∧ (¬ x1 = 0 → ((x1 = 1 → wp_X8_knownBy σ ((1 <<< ((gI σ 0 0) &&& 31)) - 1) (fun (r4 : Int32) (σ3 : rfS) => wp_J6_bitCount_0f7a4 σ3 r4 (fun (r6 : Int32) (σ5 : rfS) => Q r6 σ5))) ∧ (¬ x1 = 1 → ((x1 = 2 → Q (gI σ 0 3) σ) ∧ (¬ x1 = 2 → ((x1 = 3 → Q (gI σ 0 27) σ) ∧ (¬ x1 = 3 → ((x1 = 4 → Q (gI σ 0 29) σ) ∧ (¬ x1 = 4 → ((x1 = 5 → Q (gI σ 0 31) σ) ∧ (¬ x1 = 5 → Q (-1) σ))))))))))))
set_option maxRecDepth 20000 in
theorem k_X8_count {σ : rfS} {x1 : Int32} {Q : Int32 → rfS → Prop} (h : wp_X8_count σ x1 Q) : RM ΛM 2 yX8_count cX8_count 2 (some .int) [.ref 0, .int x1] σ (qi Q) := by
  unfold wp_X8_count at h
  refine RM.intro (by decide) (Nat.le_of_ble_eq_true rfl) (fun E X => ?_)
  show Rf ΛM 2 E 2 (qi Q) 0 [(0, .ref 0), (1, .int x1)] [] σ
  refine Rf_iload_n X (j := 1) rfl rfl dX8_count_0 rfl ?_
  refine Rf_tsw X (dt := 81) [(0, 40), (1, 45), (2, 61), (3, 66), (4, 71), (5, 76)] dX8_count_1 rfl (by decide +kernel) (by decide +kernel) (by decide +kernel) ?_
  refine And.intro (fun c1 => ?_) (fun c1 => ?_)
  · have h := h.1 c1
    refine Rf_aload_n X (j := 0) rfl rfl dX8_count_40 rfl ?_
    refine Rf_get X kc8 (Nat.le_of_ble_eq_true rfl) rfl (j := 0) (Nat.le_of_ble_eq_true rfl) lf_X8_94 (v := .int (gI σ 0 0)) rfl dX8_count_41 rfl ?_
    exact Rf_iret X rfl dX8_count_44 ⟨_, rfl, h⟩
  · have h := h.2 c1
    refine And.intro (fun c2 => ?_) (fun c2 => ?_)
    · have h := h.1 c2
      refine Rf_aload_n X (j := 0) rfl rfl dX8_count_45 rfl ?_
      refine Rf_iconst X (v := 1) rfl dX8_count_46 rfl ?_
      refine Rf_aload_n X (j := 0) rfl rfl dX8_count_47 rfl ?_
      refine Rf_get X kc8 (Nat.le_of_ble_eq_true rfl) rfl (j := 0) (Nat.le_of_ble_eq_true rfl) lf_X8_94 (v := .int (gI σ 0 0)) rfl dX8_count_48 rfl ?_
      refine Rf_ishl X dX8_count_51 rfl ?_
      refine Rf_iconst X (v := 1) rfl dX8_count_52 rfl ?_
      refine Rf_isub X dX8_count_53 rfl ?_
      refine Rf_cVi (as := [.int ((1 <<< ((gI σ 0 0) &&& 31)) - 1)]) (st := []) X mi_X8_knownBy lm_X8_263 rfl (Nat.le_of_ble_eq_true rfl) rfl (k_X8_knownBy h) (Nat.le_of_ble_eq_true rfl) rfl rfl (Nat.le_of_ble_eq_true rfl) dX8_count_54 rfl (fun r4 σ3 h => ?_)
      refine Rf_cSi (as := [.int r4]) (st := []) X ms_J6_bitCount_0f7a4 lm_X8_209 (k_J6_bitCount_0f7a4 h) (Nat.le_of_ble_eq_true rfl) rfl rfl (Nat.le_of_ble_eq_true rfl) dX8_count_57 rfl (fun r6 σ5 h => ?_)
      exact Rf_iret X rfl dX8_count_60 ⟨_, rfl, h⟩
    · have h := h.2 c2
      refine And.intro (fun c7 => ?_) (fun c7 => ?_)
      · have h := h.1 c7
        refine Rf_aload_n X (j := 0) rfl rfl dX8_count_61 rfl ?_
        refine Rf_get X kc8 (Nat.le_of_ble_eq_true rfl) rfl (j := 3) (Nat.le_of_ble_eq_true rfl) lf_X8_139 (v := .int (gI σ 0 3)) rfl dX8_count_62 rfl ?_
        exact Rf_iret X rfl dX8_count_65 ⟨_, rfl, h⟩
      · have h := h.2 c7
        refine And.intro (fun c8 => ?_) (fun c8 => ?_)
        · have h := h.1 c8
          refine Rf_aload_n X (j := 0) rfl rfl dX8_count_66 rfl ?_
          refine Rf_get X kc8 (Nat.le_of_ble_eq_true rfl) rfl (j := 27) (Nat.le_of_ble_eq_true rfl) lf_X8_133 (v := .int (gI σ 0 27)) rfl dX8_count_67 rfl ?_
          exact Rf_iret X rfl dX8_count_70 ⟨_, rfl, h⟩
        · have h := h.2 c8
          refine And.intro (fun c9 => ?_) (fun c9 => ?_)
          · have h := h.1 c9
            refine Rf_aload_n X (j := 0) rfl rfl dX8_count_71 rfl ?_
            refine Rf_get X kc8 (Nat.le_of_ble_eq_true rfl) rfl (j := 29) (Nat.le_of_ble_eq_true rfl) lf_X8_326 (v := .int (gI σ 0 29)) rfl dX8_count_72 rfl ?_
            exact Rf_iret X rfl dX8_count_75 ⟨_, rfl, h⟩
          · have h := h.2 c9
            refine And.intro (fun c10 => ?_) (fun c10 => ?_)
            · have h := h.1 c10
              refine Rf_aload_n X (j := 0) rfl rfl dX8_count_76 rfl ?_
              refine Rf_get X kc8 (Nat.le_of_ble_eq_true rfl) rfl (j := 31) (Nat.le_of_ble_eq_true rfl) lf_X8_304 (v := .int (gI σ 0 31)) rfl dX8_count_77 rfl ?_
              exact Rf_iret X rfl dX8_count_80 ⟨_, rfl, h⟩
            · have h := h.2 c10
              show Rf ΛM 2 E 2 (qi Q) 81 [(0, .ref 0), (1, .int x1)] [] σ
              refine Rf_iconst X (v := (-1)) (by decide) dX8_count_81 rfl ?_
              exact Rf_iret X rfl dX8_count_82 ⟨_, rfl, h⟩

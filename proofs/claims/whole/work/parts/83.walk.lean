/-! the law: its walk from the entry -/
theorem ws_stat {s : State} {args : Array Value} (hts : ∀ w ∈ lw_tbl, w.before args s = true) (hg : ∀ w ∈ rfG, w.before args s = true) (hgv : (Jvm.Cond.and given_1 narrow_1).before args s = true) : ∃ a0 a1 a2 a3 : Nat, stP s "OneLeg" "LEAST_OF" [0, 0, 0, 1, 0, 0, 0, 0] a0 ∧ stP s "OneLeg" "MOST_OF" [127, 99, 255, 9, 3, 7, 99, 6] a1 ∧ stP s "OneLeg$Boots" "ABOVE" [-1, 0, 0, 2, 1, 3, 0, 4] a2 ∧ stP s "OneLeg$Boots" "BODIES" [1, 10, 11, 2, 20, 0, 0, 0, 0, 30, 0, 0, 0, 41, 40, 0, 0, 0, 50, 0, 0, 0, 0, 60, 70, 0, 0, 0, 0, 80, 0, 81] a3 := by
  have hs := flat_of_before _ hgv
  obtain ⟨a0, h0⟩ := ws_st (s := s) (C := "OneLeg") (n := "LEAST_OF") [0, 0, 0, 1, 0, 0, 0, 0] (by decide) (hs _ (by decide +kernel)) (hs _ (by decide +kernel)) (fun j hj => hs _ ((by decide +kernel : ∀ j, j < 8 → (Cond.eq (.elem (.static "OneLeg" "LEAST_OF" "[I") (.int (Int32.ofNat j))) (.int (([0, 0, 0, 1, 0, 0, 0, 0] : List Int32).getD j 0))) ∈ _) j hj)) (ws_l0 hts) (hg _ ci_n7)
  obtain ⟨a1, h1⟩ := ws_st (s := s) (C := "OneLeg") (n := "MOST_OF") [127, 99, 255, 9, 3, 7, 99, 6] (by decide) (hs _ (by decide +kernel)) (hs _ (by decide +kernel)) (fun j hj => hs _ ((by decide +kernel : ∀ j, j < 8 → (Cond.eq (.elem (.static "OneLeg" "MOST_OF" "[I") (.int (Int32.ofNat j))) (.int (([127, 99, 255, 9, 3, 7, 99, 6] : List Int32).getD j 0))) ∈ _) j hj)) (ws_l1 hts) (hg _ ci_n7)
  obtain ⟨a2, h2⟩ := ws_st (s := s) (C := "OneLeg$Boots") (n := "ABOVE") [-1, 0, 0, 2, 1, 3, 0, 4] (by decide) (hs _ (by decide +kernel)) (hs _ (by decide +kernel)) (fun j hj => hs _ ((by decide +kernel : ∀ j, j < 8 → (Cond.eq (.elem (.static "OneLeg$Boots" "ABOVE" "[I") (.int (Int32.ofNat j))) (.int (([-1, 0, 0, 2, 1, 3, 0, 4] : List Int32).getD j 0))) ∈ _) j hj)) (ws_l2 hts) (hg _ ci_n0)
  obtain ⟨a3, h3⟩ := ws_st (s := s) (C := "OneLeg$Boots") (n := "BODIES") [1, 10, 11, 2, 20, 0, 0, 0, 0, 30, 0, 0, 0, 41, 40, 0, 0, 0, 50, 0, 0, 0, 0, 60, 70, 0, 0, 0, 0, 80, 0, 81] (by decide) (hs _ (by decide +kernel)) (hs _ (by decide +kernel)) (fun j hj => hs _ ((by decide +kernel : ∀ j, j < 32 → (Cond.eq (.elem (.static "OneLeg$Boots" "BODIES" "[I") (.int (Int32.ofNat j))) (.int (([1, 10, 11, 2, 20, 0, 0, 0, 0, 30, 0, 0, 0, 41, 40, 0, 0, 0, 50, 0, 0, 0, 0, 60, 70, 0, 0, 0, 0, 80, 0, 81] : List Int32).getD j 0))) ∈ _) j hj)) (ws_l3 hts) (hg _ ci_n0)
  exact ⟨a0, a1, a2, a3, h0, h1, h2, h3⟩
abbrev fs7 : List Value := [.null, .null, .null, .null, .null, .int 0, .int 0, .null, .null, .null, .null]
abbrev fs8 : List Value := [.int 0, .null, .null, .int 0, .null, .int 0, .int 0, .null, .null, .null, .null, .int 0, .int 0, .int 0, .int 0, .null, .null, .null, .null, .null, .null, .null, .int 0, .int 0, .null, .null, .int 0, .int 0, .null, .int 0, .null, .int 0, .null, .null, .null, .null, .null, .null, .null, .null, .int 0, .int 0, .null]
theorem fs7_ok : ∀ j, j < 11 → defaultValue (tyX7 j) = vp_V fs7 j := by
  intro j hj
  match j with
  | 0 => rfl
  | 1 => rfl
  | 2 => rfl
  | 3 => rfl
  | 4 => rfl
  | 5 => rfl
  | 6 => rfl
  | 7 => rfl
  | 8 => rfl
  | 9 => rfl
  | 10 => rfl
theorem fs8_ok : ∀ j, j < 43 → defaultValue (tyX8 j) = vp_V fs8 j := by
  intro j hj
  match j with
  | 0 => rfl
  | 1 => rfl
  | 2 => rfl
  | 3 => rfl
  | 4 => rfl
  | 5 => rfl
  | 6 => rfl
  | 7 => rfl
  | 8 => rfl
  | 9 => rfl
  | 10 => rfl
  | 11 => rfl
  | 12 => rfl
  | 13 => rfl
  | 14 => rfl
  | 15 => rfl
  | 16 => rfl
  | 17 => rfl
  | 18 => rfl
  | 19 => rfl
  | 20 => rfl
  | 21 => rfl
  | 22 => rfl
  | 23 => rfl
  | 24 => rfl
  | 25 => rfl
  | 26 => rfl
  | 27 => rfl
  | 28 => rfl
  | 29 => rfl
  | 30 => rfl
  | 31 => rfl
  | 32 => rfl
  | 33 => rfl
  | 34 => rfl
  | 35 => rfl
  | 36 => rfl
  | 37 => rfl
  | 38 => rfl
  | 39 => rfl
  | 40 => rfl
  | 41 => rfl
  | 42 => rfl
  | n + 43 => exact absurd hj (Nat.not_lt.mpr (Nat.le_add_left 43 n))
theorem ws_split {D : va_G} {tc : Nat → ClassId} {aC aM : Nat → Nat} {A : Nat → Prop} {H : Heap} {sC sM : rfS} (hP : va_P D vwCl (rfW ΛC tc aC sC ++ rfW ΛM tc aM sM) H) (hD : va_D A (rfW ΛC tc aC sC ++ rfW ΛM tc aM sM)) : va_P D vwCl (rfW ΛC tc aC sC) H ∧ va_P D vwCl (rfW ΛM tc aM sM) H ∧ (∀ i j, i < ΛC.1 → j < ΛC.1 → aC i = aC j → i = j) ∧ (∀ k, k < ΛC.1 → A (aC k)) ∧ (∀ i j, i < ΛM.1 → j < ΛM.1 → aM i = aM j → i = j) ∧ (∀ k, k < ΛM.1 → A (aM k)) ∧ ∀ i j, i < ΛC.1 → j < ΛM.1 → aC i ≠ aM j := by
  have g1 : ∀ i, i < ΛC.1 → (rfW ΛC tc aC sC ++ rfW ΛM tc aM sM)[i]? = some (aC i, rfCell ΛC tc aC sC i) := fun i hi => by
    rw [List.getElem?_append_left (by rw [rfW_len]; exact hi)]
    exact rfW_at hi
  have g2 : ∀ j, j < ΛM.1 → (rfW ΛC tc aC sC ++ rfW ΛM tc aM sM)[ΛC.1 + j]? = some (aM j, rfCell ΛM tc aM sM j) := fun j hj => by
    rw [List.getElem?_append_right (by rw [rfW_len]; exact Nat.le_add_right _ _), rfW_len, Nat.add_sub_cancel_left]
    exact rfW_at hj
  refine ⟨hP.lft, hP.rgt, fun i j hi hj e => hD.1 i j _ _ (g1 i hi) (g1 j hj) e, fun k hk => hD.2 k _ (g1 k hk), fun i j hi hj e => ?_, fun k hk => hD.2 _ _ (g2 k hk), fun i j hi hj e => ?_⟩
  · exact Nat.add_left_cancel (hD.1 _ _ _ _ (g2 i hi) (g2 j hj) e)
  · have := hD.1 _ _ _ _ (g1 i hi) (g2 j hj) e
    exact absurd hi (Nat.not_lt.mpr (this ▸ Nat.le_add_right _ _))
/-- behind both constructors: the loop -/
theorem ws_loop {p : Program} {l : Launch} {e : Env} {s : State} {m : MethodId} {below : List Frame} {meth : Method} {c : Code} {b L : Nat} {xs : Nat → Int32} {D : va_G} {tc : Nat → ClassId} {w u1 u2 : Nat → Nat} {q1 q2 : Nat} (hL : L ≤ 3072) (C0 : lw_At p s m meth c b L xs) (hg : ∀ w ∈ rfG, w.before #[Value.ref b] s = true) (hK : va_K D vwCl (rfT tc) s) (hw : ∀ ad : Nat → Nat, (∀ k, 1000 ≤ k → ad k = w k) → rfSt ad s.heap.size s s.heap) {H : Heap} {locs : List Loc} {la : Array Slot} (hP : va_P D vwCl (WX7 w tc q1 u1 ++ WX8 w tc q2 u2) H) (hD : va_D (fun q : Nat => s.heap.size ≤ q) (WX7 w tc q1 u1 ++ WX8 w tc q2 u2)) (hS : va_S (fun q : Nat => s.heap.size ≤ q) s.heap H locs) (hl : lv_has la 4 [(3, .int (nI 0)), (2, .ref q2), (1, .ref q1), (0, .ref b)]) : W p l e room_1 s m #[Value.ref b] below meth c H locs 93 4368 (lw_Z below #[Value.ref b] s) (F0 m 18 la []) := by
  obtain ⟨hx, hb, hr, hml, hown, hts, hX, hbl, hlk, hgv⟩ := C0
  obtain ⟨z1, z2, z3, z4, z5, z6, z7⟩ := ws_split (aC := adX 65 w q1 u1) (aM := adX 28 w q2 u2) hP hD
  have ha : ∀ (n : Nat) (h : Nat) (u : Nat → Nat), n ≤ 65 → ∀ k, 1000 ≤ k → adX n w h u k = w k := fun n h u hn k hk => by
    unfold adX
    rw [if_neg (by omega), if_neg (by omega)]
  refine W.widen (k := 600000) (n := 7302250) (Nat.le_of_ble_eq_true rfl) (Nat.le_of_ble_eq_true rfl) ?_
  exact law_loop (E := (p, l, e, s, m, below, meth, c, D, tc)) (aC := adX 65 w q1 u1) (aM := adX 28 w q2 u2) ⟨hx, hb, hr, hml, hown, hg, hlk, hK, hX, hbl, hL, ⟨z3, z4⟩, ⟨z5, z6⟩, z7, hw _ (ha 65 q1 u1 (by decide)), hw _ (ha 28 q2 u2 (by decide))⟩ hL (L + 1) 0 iC iM (by omega) (by omega) rel_init H locs la z1 z2 hS (lv_sub hl [3, 2, 1, 0] rfl)
set_option maxHeartbeats 1000000 in
set_option maxRecDepth 40000 in
theorem whole_start {p : Program} {e : Env} {s : State} {m : MethodId} {below : List Frame} {meth : Method} {c : Code} (l : Launch) (hflags : l.flags = flags0) {b L : Nat} {xs : Nat → Int32} (hL : L ≤ 3072) (C0 : lw_At p s m meth c b L xs) : W p l e room_1 s m #[Value.ref b] below meth c s.heap [] 0 0 (lw_Z below #[Value.ref b] s) (entryFrame m ([Value.ref b] : List Value).toArray 4) := by
  have C1 := C0
  obtain ⟨hx, hb, hr, hml, hown, hts, hX, hbl, hlk, hgv⟩ := C0
  have hg : ∀ w ∈ rfG, w.before #[Value.ref b] s = true := fun w hw => hts w (List.mem_filter.mp hw).1
  obtain ⟨D, hD1⟩ := ws_D hg
  obtain ⟨tc, hT⟩ := ws_T hts hg
  have hK : va_K D vwCl (rfT tc) s := ⟨hD1, hT⟩
  obtain ⟨a0, a1, a2, a3, h0, h1, h2, h3⟩ := ws_stat hts hg hgv
  have hw : ∀ ad : Nat → Nat, (∀ k, 1000 ≤ k → ad k = (fun k => if k = 1000 then a0 else if k = 1001 then a1 else if k = 1002 then a2 else a3) k) → rfSt ad s.heap.size s s.heap := fun ad h => st_of (h 1000 (by decide)) (h 1001 (by decide)) (h 1002 (by decide)) (h 1003 (by decide)) h0 h1 h2 h3
  generalize (fun k => if k = 1000 then a0 else if k = 1001 then a1 else if k = 1002 then a2 else a3) = w at hw
  have X : czX (p, l, e, s, m, #[Value.ref b], below, meth, c, D, tc, (fun q : Nat => s.heap.size ≤ q), lw_Z below #[Value.ref b] s) x code 4 ret := ⟨hx, hb, hr, hml, hown, hg, hlk, hK, fun _ h => h, ws_NB hts⟩
  have key : Cz room_1 (p, l, e, s, m, #[Value.ref b], below, meth, c, D, tc, (fun q : Nat => s.heap.size ≤ q), lw_Z below #[Value.ref b] s) 4 0 [(0, .ref b)] [] [] 0 0 := by
    refine Cz_new X (ci := 7) (fs := fs7) kc7 lk_L_7 ci_s7 ci_n7 fs7_ok (Nat.le_of_ble_eq_true rfl) (Nat.le_of_ble_eq_true rfl) dw_0 rfl (fun q1 => ?_)
    refine Cz_dup X rfl dw_3 rfl ?_
    refine Cz_callI X (as := []) (st := [.ref q1]) (ws1 := []) (cm_X7 w) li_L_9 ci_i7 ci_n7 ci_c7 rfl (by decide) ⟨Nat.le_of_ble_eq_true rfl, Nat.le_of_ble_eq_true rfl⟩ ⟨Nat.le_of_ble_eq_true rfl, Nat.le_of_ble_eq_true rfl⟩ rfl (Nat.le_of_ble_eq_true rfl) dw_4 rfl rfl (fun u1 => ?_)
    refine Cz_astore_n X (i := 1) rfl (by decide) (ls2 := [(1, .ref q1), (0, .ref b)]) rfl dw_7 rfl ?_
    refine Cz_new X (ci := 8) (fs := fs8) kc8 lk_L_10 ci_s8 ci_n8 fs8_ok (Nat.le_of_ble_eq_true rfl) (Nat.le_of_ble_eq_true rfl) dw_8 rfl (fun q2 => ?_)
    refine Cz_dup X rfl dw_11 rfl ?_
    refine Cz_callI X (as := []) (st := [.ref q2]) (ws1 := [] ++ WX7 w tc q1 u1) (cm_X8 w) li_L_12 ci_i8 ci_n8 ci_c8 rfl (by decide) ⟨Nat.le_of_ble_eq_true rfl, Nat.le_of_ble_eq_true rfl⟩ ⟨Nat.le_of_ble_eq_true rfl, Nat.le_of_ble_eq_true rfl⟩ rfl (Nat.le_of_ble_eq_true rfl) dw_12 rfl rfl (fun u2 => ?_)
    refine Cz_astore_n X (i := 2) rfl (by decide) (ls2 := [(2, .ref q2), (1, .ref q1), (0, .ref b)]) rfl dw_15 rfl ?_
    refine Cz_iconst X (v := nI 0) (by decide) dw_16 rfl ?_
    refine Cz_istore_n X (i := 3) rfl (by decide) (ls2 := [(3, .int (nI 0)), (2, .ref q2), (1, .ref q1), (0, .ref b)]) rfl dw_17 rfl ?_
    intro H locs la hP hD hS hl
    exact ws_loop hL C1 hg hK hw hP hD hS hl
  have hl := lv_entry ([.ref b]) (n := 4) (Nat.le_of_ble_eq_true rfl)
  rw [lg_entry_eq]
  generalize (lg_sl ([.ref b] : List Value) ++ List.replicate (4 - (lg_sl ([.ref b] : List Value)).length) Slot.unset).toArray = la at hl ⊢
  exact key s.heap [] la (fun k q hq => by cases hq) ⟨fun i j p q hi => (by cases hi), fun k q hq => (by cases hq)⟩ va_S.rf hl

/-! act: the class's and the model's bodies, by fuel -/
def Pf : Nat → rfS → Int32 → Int32 → Int32 → Int32 → Int32 → (Int32 → rfS → Prop) → Prop
  | 0 => fun _ _ _ _ _ _ _ => False
  | 1 => fun _ _ _ _ _ _ _ => False
  | k + 2 => wp_X0_perform (wp_X0_own (Pf k)) (Pf (k + 1))
theorem Pf_k : ∀ (k : Nat) (σ : rfS) (x1 x2 x3 x4 x5 : Int32) (Q : Int32 → rfS → Prop), Pf k σ x1 x2 x3 x4 x5 Q → RM ΛC k yX0_perform cX0_perform 9 (some .int) [.ref 49, .int x1, .int x2, .int x3, .int x4, .int x5] σ (qi Q)
  | 0, _, _, _, _, _, _, _, h => False.elim h
  | 1, _, _, _, _, _, _, _, h => False.elim h
  | k + 2, σ, x1, x2, x3, x4, x5, Q, h => k_X0_perform (d := k + 1) (fun σ x1 x2 x3 x4 Q h => k_X0_own (d := k) (Pf_k k) (Nat.zero_le _) h) (Pf_k (k + 1)) (Nat.zero_le _) h
def Wk : Nat → rfS → Int32 → Int32 → Int32 → (Int32 → rfS → Prop) → Prop
  | 0 => fun _ _ _ _ _ => False
  | k + 1 => wp_X8_walksBy (Wk k)
theorem Wk_k : ∀ (k : Nat) (σ : rfS) (x1 x2 x3 : Int32) (Q : Int32 → rfS → Prop), Wk k σ x1 x2 x3 Q → RM ΛM k yX8_walksBy cX8_walksBy 4 (some .int) [.ref 0, .int x1, .int x2, .int x3] σ (qi Q)
  | 0, _, _, _, _, _, h => False.elim h
  | k + 1, _, _, _, _, _, h => k_X8_walksBy (d := k) (Wk_k k) (Nat.zero_le _) h
def Owk : Nat → rfS → Int32 → Int32 → Int32 → (Int32 → rfS → Prop) → Prop
  | 0 => fun _ _ _ _ _ => False
  | k + 1 => wp_X8_owesBy (Owk k) (Wk k)
theorem Owk_k : ∀ (k : Nat) (σ : rfS) (x1 x2 x3 : Int32) (Q : Int32 → rfS → Prop), Owk k σ x1 x2 x3 Q → RM ΛM k yX8_owesBy cX8_owesBy 5 (some .int) [.ref 0, .int x1, .int x2, .int x3] σ (qi Q)
  | 0, _, _, _, _, _, h => False.elim h
  | k + 1, _, _, _, _, _, h => k_X8_owesBy (d := k) (Owk_k k) (Wk_k k) (Nat.zero_le _) h
def Lnk : Nat → rfS → Int32 → Int32 → Int32 → (Int32 → rfS → Prop) → Prop
  | 0 => fun _ _ _ _ _ => False
  | k + 1 => wp_X8_leansBy (Lnk k) (Owk k) (Wk k)
theorem Lnk_k : ∀ (k : Nat) (σ : rfS) (x1 x2 x3 : Int32) (Q : Int32 → rfS → Prop), Lnk k σ x1 x2 x3 Q → RM ΛM k yX8_leansBy cX8_leansBy 5 (some .int) [.ref 0, .int x1, .int x2, .int x3] σ (qi Q)
  | 0, _, _, _, _, _, h => False.elim h
  | k + 1, _, _, _, _, _, h => k_X8_leansBy (d := k) (Lnk_k k) (Owk_k k) (Wk_k k) (Nat.zero_le _) h
def Tlk : Nat → rfS → Int32 → Int32 → Int32 → (Int32 → rfS → Prop) → Prop
  | 0 => fun _ _ _ _ _ => False
  | k + 1 => wp_X8_tells_ (Lnk k) (Owk k) (Tlk k)
theorem Tlk_k : ∀ (k : Nat) (σ : rfS) (x1 x2 x3 : Int32) (Q : Int32 → rfS → Prop), Tlk k σ x1 x2 x3 Q → RM ΛM k yX8_tells_ cX8_tells_ 5 (some .int) [.ref 0, .int x1, .int x2, .int x3] σ (qi Q)
  | 0, _, _, _, _, _, h => False.elim h
  | k + 1, _, _, _, _, _, h => k_X8_tells_ (d := k) (Lnk_k k) (Owk_k k) (Tlk_k k) (Nat.zero_le _) h
/-! what they answer, and which bodies ran -/
def o1 (w : Option (Int32 × List Int32)) (B : Int32) (F : Int32 → Int32) : Option (Int32 × List Int32) := match w with
  | some (v, T) => some (F v, B :: T)
  | none => none
def o2 (w1 w2 : Option (Int32 × List Int32)) (B : Int32) (F : Int32 → Int32 → Int32) : Option (Int32 × List Int32) := match w1, w2 with
  | some (v1, T1), some (v2, T2) => some (F v1 v2, B :: (T1 ++ T2))
  | _, _ => none
theorem o1_inv {w : Option (Int32 × List Int32)} {B : Int32} {F : Int32 → Int32} {v : Int32} {T : List Int32} (h : o1 w B F = some (v, T)) : ∃ v1 T1, w = some (v1, T1) ∧ v = F v1 ∧ T = B :: T1 := by
  rcases w with _ | ⟨v1, T1⟩
  · cases h
  · cases h
    exact ⟨v1, T1, rfl, rfl, rfl⟩
theorem o2_inv {w1 w2 : Option (Int32 × List Int32)} {B : Int32} {F : Int32 → Int32 → Int32} {v : Int32} {T : List Int32} (h : o2 w1 w2 B F = some (v, T)) : ∃ v1 T1 v2 T2, w1 = some (v1, T1) ∧ w2 = some (v2, T2) ∧ v = F v1 v2 ∧ T = B :: (T1 ++ T2) := by
  rcases w1 with _ | ⟨v1, T1⟩
  · cases h
  · rcases w2 with _ | ⟨v2, T2⟩
    · cases h
    · cases h
      exact ⟨v1, T1, v2, T2, rfl, rfl, rfl, rfl⟩
def rsv (f act : Nat) : Nat := (([[0, 0, 0, 0], [1, 0, 0, 0], [0, 2, 0, 0], [0, 3, 3, 0], [1, 0, 4, 0], [0, 3, 3, 5], [6, 0, 0, 0], [1, 7, 4, 7]] : List (List Nat)).getD f []).getD act 0
def pSt (P : Nat → Nat → Int32 → Option (Int32 × List Int32)) (O : Nat → Int32 → Option (Int32 × List Int32)) (g act : Nat) (b x : Int32) : Option (Int32 × List Int32) := match g, act with
  | 0, 0 => some (x + b, [1])
  | 0, 1 => o1 (O 0 x) 10 (fun v => v * 2)
  | 0, 2 => some (x ^^^ b, [11])
  | 0, 3 => o2 (O 1 x) (O 2 1) 2 (fun v w => v - w)
  | 1, 0 => o1 (P 0 0 x) 20 (fun v => v + 3)
  | 2, 1 => o1 (P 0 1 x) 30 (fun v => -v)
  | 3, 1 => o1 (P 2 1 (x + 1)) 41 (fun v => v)
  | 3, 2 => o1 (P 2 2 x) 40 (fun v => v * 3)
  | 4, 2 => o2 (P 1 2 x) (O 0 2) 50 (fun v w => v - w)
  | 5, 3 => o1 (P 3 3 x) 60 (fun v => v ^^^ 5)
  | 6, 0 => o1 (P 0 0 x) 70 (fun v => v * 2)
  | 7, 1 => o2 (P 4 1 x) (O 2 2) 80 (fun v w => v + w)
  | 7, 3 => o1 (P 4 3 x) 81 (fun v => v - 1)
  | _, _ => none
def pC : Nat → Nat → Nat → Nat → Int32 → Int32 → Option (Int32 × List Int32)
  | 0, _, _, _, _, _ => none
  | 1, _, _, _, _, _ => none
  | k + 2, kk, f, act, b, x => pSt (fun f2 a2 x2 => pC (k + 1) kk f2 a2 b x2) (fun a2 x2 => pC k kk kk a2 b x2) (rsv f act) act b x
def abM (k : Nat) : Nat := ([0, 0, 0, 2, 1, 3, 0, 4] : List Nat).getD k 0
def pW : Nat → Nat → Int32 → Int32 → Option (Int32 × List Int32)
  | 0, _, _, _ => none
  | n + 1, k, b, x => if k = 0 then some (x + b, [1]) else if k = 1 then o1 (pW n 0 b x) 20 (fun v => v + 3) else if k = 6 then o1 (pW n 0 b x) 70 (fun v => v * 2) else pW n (abM k) b x
def pO : Nat → Nat → Nat → Int32 → Int32 → Option (Int32 × List Int32)
  | 0, _, _, _, _ => none
  | n + 1, kk, k, b, x => if k = 0 then some (x ^^^ b, [11]) else if k = 3 then o1 (pO n kk 2 b x) 40 (fun v => v * 3) else if k = 4 then o2 (pO n kk 1 b x) (pW n kk b 2) 50 (fun v w => v - w) else pO n kk (abM k) b x
def pL : Nat → Nat → Nat → Int32 → Int32 → Option (Int32 × List Int32)
  | 0, _, _, _, _ => none
  | n + 1, kk, k, b, x => if k = 0 then o1 (pW n kk b x) 10 (fun v => v * 2) else if k = 2 then o1 (pL n kk 0 b x) 30 (fun v => -v) else if k = 3 then o1 (pL n kk 2 b (x + 1)) 41 (fun v => v) else if k = 7 then o2 (pL n kk 4 b x) (pO n kk kk b 2) 80 (fun v w => v + w) else pL n kk (abM k) b x
def pT : Nat → Nat → Nat → Int32 → Int32 → Option (Int32 × List Int32)
  | 0, _, _, _, _ => none
  | n + 1, kk, k, b, x => if k = 0 then o2 (pL n kk kk b x) (pO n kk kk b 1) 2 (fun v w => v - w) else if k = 5 then o1 (pT n kk 3 b x) 60 (fun v => v ^^^ 5) else if k = 7 then o1 (pT n kk 4 b x) 81 (fun v => v - 1) else pT n kk (abM k) b x
theorem w4 {w : Nat} (h : w < 4) : w = 0 ∨ w = 1 ∨ w = 2 ∨ w = 3 := by omega
/-- both sides do the same -/
theorem acts_same {kk act : Nat} (b x : Int32) (hk : kk < 8) (ha : act < 4) : ∃ v T, pC 20 kk kk act b x = some (v, T) ∧ T.length < 100 ∧ (act = 0 → pW 20 kk b x = some (v, T)) ∧ (act = 1 → pL 20 kk kk b x = some (v, T)) ∧ (act = 2 → pO 20 kk kk b x = some (v, T)) ∧ (act = 3 → pT 20 kk kk b x = some (v, T)) := by
  rcases w4 ha with rfl | rfl | rfl | rfl <;> rcases w8 hk with rfl | rfl | rfl | rfl | rfl | rfl | rfl | rfl
  all_goals
    refine ⟨_, _, rfl, by decide, ?_, ?_, ?_, ?_⟩ <;> intro q <;> first | (cases q; done) | rfl
/-! the class -/
def kBod (f act : Nat) : Nat := ([1, 10, 11, 2, 20, 0, 0, 0, 0, 30, 0, 0, 0, 41, 40, 0, 0, 0, 50, 0, 0, 0, 0, 60, 70, 0, 0, 0, 0, 80, 0, 81] : List Nat).getD (4 * f + act) 0
theorem bdC {f act : Nat} (hf : f < 8) (ha : act < 4) : rfSL[3].2.2.2.getD ((nI f * 4) + nI act).toNatClampNeg 0 = nI (kBod f act) ∧ vp_in ((nI f * 4) + nI act) 32 := by
  rcases w4 ha with rfl | rfl | rfl | rfl <;> rcases w8 hf with rfl | rfl | rfl | rfl | rfl | rfl | rfl | rfl <;> exact ⟨by decide, by unfold vp_in; decide⟩
theorem abC {f : Nat} (hf : f < 8) (h0 : f ≠ 0) : rfSL[2].2.2.2.getD (nI f).toNatClampNeg 0 = nI (abM f) := by
  rcases w8 hf with rfl | rfl | rfl | rfl | rfl | rfl | rfl | rfl
  · exact absurd rfl h0
  all_goals decide
section ActLoop
variable {κo : rfS → Int32 → Int32 → Int32 → Int32 → (Int32 → rfS → Prop) → Prop} {κp : rfS → Int32 → Int32 → Int32 → Int32 → Int32 → (Int32 → rfS → Prop) → Prop} {Q : Int32 → rfS → Prop} {kx : Int32 → Int32 → Int32 → Int32 → Int32 → rfS → Prop} {x1 x4 x5 : Int32} {σ : rfS}
theorem alp0 {n f act u : Nat} (hf : f < 8) (ha : act < 4) (hu : u < 7) (hb : kBod f act ≠ 0) (h : kx x1 (nI act) x4 x5 (nI f) σ) : wl_X0_perform_6 κo κp Q kx (n + 1) x1 (nI act) x4 x5 (nI f) (nI u) σ := by
  have hb9 : kBod f act < 100 := by rcases w4 ha with rfl | rfl | rfl | rfl <;> rcases w8 hf with rfl | rfl | rfl | rfl | rfl | rfl | rfl | rfl <;> decide
  refine ⟨fun _ => h, fun _ => ⟨fun _ => h, fun _ => ⟨(bdC hf ha).2, fun _ => h, fun q => ?_⟩⟩⟩
  rw [(bdC hf ha).1] at q
  have := congrArg Int32.toInt q
  rw [nI_toInt (by omega), show (0 : Int32).toInt = 0 from rfl] at this
  omega
theorem alp1 {n f act u : Nat} (hf : f < 8) (ha : act < 4) (hu : u < 7) (h0 : f ≠ 0) (hb : kBod f act = 0) (h : wl_X0_perform_6 κo κp Q kx n x1 (nI act) x4 x5 (nI (abM f)) (nI (u + 1)) σ) : wl_X0_perform_6 κo κp Q kx (n + 1) x1 (nI act) x4 x5 (nI f) (nI u) σ := by
  refine ⟨fun q => ?_, fun _ => ⟨fun q => ?_, fun _ => ⟨(bdC hf ha).2, fun q => ?_, fun _ => ⟨vin hf, ?_⟩⟩⟩⟩
  · rw [i_le, nI_toInt (by omega), show (7 : Int32).toInt = 7 from rfl] at q
    omega
  · have := congrArg Int32.toInt q
    rw [nI_toInt (by omega), show (-1 : Int32).toInt = -1 from rfl] at this
    omega
  · rw [(bdC hf ha).1, hb] at q
    exact absurd rfl q
  · rw [abC hf h0, nI_1]
    exact h
theorem alpC {f act : Nat} (hf : f < 8) (ha : act < 4) (h : kx x1 (nI act) x4 x5 (nI (rsv f act)) σ) : ∃ n, wl_X0_perform_6 κo κp Q kx n x1 (nI act) x4 x5 (nI f) 0 σ := by
  refine ⟨4, ?_⟩
  rcases w4 ha with rfl | rfl | rfl | rfl <;> rcases w8 hf with rfl | rfl | rfl | rfl | rfl | rfl | rfl | rfl
  all_goals
    first
    | exact alp0 (u := 0) (by decide) (by decide) (by decide) (by decide) h
    | exact alp1 (u := 0) (by decide) (by decide) (by decide) (by decide) (by decide) (alp0 (u := 1) (by decide) (by decide) (by decide) (by decide) h)
    | exact alp1 (u := 0) (by decide) (by decide) (by decide) (by decide) (by decide) (alp1 (u := 1) (by decide) (by decide) (by decide) (by decide) (by decide) (alp0 (u := 2) (by decide) (by decide) (by decide) (by decide) h))
    | exact alp1 (u := 0) (by decide) (by decide) (by decide) (by decide) (by decide) (alp1 (u := 1) (by decide) (by decide) (by decide) (by decide) (by decide) (alp1 (u := 2) (by decide) (by decide) (by decide) (by decide) (by decide) (alp0 (u := 3) (by decide) (by decide) (by decide) (by decide) h)))
theorem bo_1 {r : Nat} (h1 : gI σ 49 3 = nI r) (hr : r < 1000) (hd : x5 ≤ 40) (h : Q (x4 + x1) (noteC σ 1)) : wj_X0_perform_46 κo κp Q x1 0 x4 x5 0 σ := by
  unfold wj_X0_perform_46
  rw [show rfSL[3].2.2.2.getD (((0 : Int32) * 4) + 0).toNatClampNeg 0 = 1 from by decide, show rfSL[2].2.2.2.getD (0 : Int32).toNatClampNeg 0 = -1 from by decide]
  refine ⟨fun q => absurd q (by decide), fun _ => ⟨fun _ => ⟨by unfold vp_in; decide, noteC_w h1 hr ⟨by unfold vp_in; decide, ?_⟩⟩, fun q => absurd hd q⟩⟩
  repeat (refine ⟨fun q => absurd q (by decide), fun _ => ?_⟩)
  exact ⟨fun _ => h, fun q => absurd rfl q⟩
theorem bo_10 {r : Nat} (h1 : gI σ 49 3 = nI r) (hr : r < 1000) (hd : x5 ≤ 40) (h : κo (noteC σ 10) x1 0 x4 x5 (fun r s => Q (r * 2) s)) : wj_X0_perform_46 κo κp Q x1 1 x4 x5 0 σ := by
  unfold wj_X0_perform_46
  rw [show rfSL[3].2.2.2.getD (((0 : Int32) * 4) + 1).toNatClampNeg 0 = 10 from by decide, show rfSL[2].2.2.2.getD (0 : Int32).toNatClampNeg 0 = -1 from by decide]
  refine ⟨fun q => absurd q (by decide), fun _ => ⟨fun _ => ⟨by unfold vp_in; decide, noteC_w h1 hr ⟨by unfold vp_in; decide, ?_⟩⟩, fun q => absurd hd q⟩⟩
  repeat (refine ⟨fun q => absurd q (by decide), fun _ => ?_⟩)
  exact ⟨fun _ => h, fun q => absurd rfl q⟩
theorem bo_11 {r : Nat} (h1 : gI σ 49 3 = nI r) (hr : r < 1000) (hd : x5 ≤ 40) (h : Q (x4 ^^^ x1) (noteC σ 11)) : wj_X0_perform_46 κo κp Q x1 2 x4 x5 0 σ := by
  unfold wj_X0_perform_46
  rw [show rfSL[3].2.2.2.getD (((0 : Int32) * 4) + 2).toNatClampNeg 0 = 11 from by decide, show rfSL[2].2.2.2.getD (0 : Int32).toNatClampNeg 0 = -1 from by decide]
  refine ⟨fun q => absurd q (by decide), fun _ => ⟨fun _ => ⟨by unfold vp_in; decide, noteC_w h1 hr ⟨by unfold vp_in; decide, ?_⟩⟩, fun q => absurd hd q⟩⟩
  repeat (refine ⟨fun q => absurd q (by decide), fun _ => ?_⟩)
  exact ⟨fun _ => h, fun q => absurd rfl q⟩
theorem bo_2 {r : Nat} (h1 : gI σ 49 3 = nI r) (hr : r < 1000) (hd : x5 ≤ 40) (h : κo (noteC σ 2) x1 1 x4 x5 (fun r s => κo s x1 2 1 x5 (fun r2 s2 => Q (r - r2) s2))) : wj_X0_perform_46 κo κp Q x1 3 x4 x5 0 σ := by
  unfold wj_X0_perform_46
  rw [show rfSL[3].2.2.2.getD (((0 : Int32) * 4) + 3).toNatClampNeg 0 = 2 from by decide, show rfSL[2].2.2.2.getD (0 : Int32).toNatClampNeg 0 = -1 from by decide]
  refine ⟨fun q => absurd q (by decide), fun _ => ⟨fun _ => ⟨by unfold vp_in; decide, noteC_w h1 hr ⟨by unfold vp_in; decide, ?_⟩⟩, fun q => absurd hd q⟩⟩
  repeat (refine ⟨fun q => absurd q (by decide), fun _ => ?_⟩)
  exact ⟨fun _ => h, fun q => absurd rfl q⟩
theorem bo_20 {r : Nat} (h1 : gI σ 49 3 = nI r) (hr : r < 1000) (hd : x5 ≤ 40) (h : κp (noteC σ 20) x1 0 0 x4 (x5 + 1) (fun r s => Q (r + 3) s)) : wj_X0_perform_46 κo κp Q x1 0 x4 x5 1 σ := by
  unfold wj_X0_perform_46
  rw [show rfSL[3].2.2.2.getD (((1 : Int32) * 4) + 0).toNatClampNeg 0 = 20 from by decide, show rfSL[2].2.2.2.getD (1 : Int32).toNatClampNeg 0 = 0 from by decide]
  refine ⟨fun q => absurd q (by decide), fun _ => ⟨fun _ => ⟨by unfold vp_in; decide, noteC_w h1 hr ⟨by unfold vp_in; decide, ?_⟩⟩, fun q => absurd hd q⟩⟩
  repeat (refine ⟨fun q => absurd q (by decide), fun _ => ?_⟩)
  exact ⟨fun _ => h, fun q => absurd rfl q⟩
theorem bo_30 {r : Nat} (h1 : gI σ 49 3 = nI r) (hr : r < 1000) (hd : x5 ≤ 40) (h : κp (noteC σ 30) x1 0 1 x4 (x5 + 1) (fun r s => Q (-r) s)) : wj_X0_perform_46 κo κp Q x1 1 x4 x5 2 σ := by
  unfold wj_X0_perform_46
  rw [show rfSL[3].2.2.2.getD (((2 : Int32) * 4) + 1).toNatClampNeg 0 = 30 from by decide, show rfSL[2].2.2.2.getD (2 : Int32).toNatClampNeg 0 = 0 from by decide]
  refine ⟨fun q => absurd q (by decide), fun _ => ⟨fun _ => ⟨by unfold vp_in; decide, noteC_w h1 hr ⟨by unfold vp_in; decide, ?_⟩⟩, fun q => absurd hd q⟩⟩
  repeat (refine ⟨fun q => absurd q (by decide), fun _ => ?_⟩)
  exact ⟨fun _ => h, fun q => absurd rfl q⟩
theorem bo_41 {r : Nat} (h1 : gI σ 49 3 = nI r) (hr : r < 1000) (hd : x5 ≤ 40) (h : κp (noteC σ 41) x1 2 1 (x4 + 1) (x5 + 1) (fun r s => Q r s)) : wj_X0_perform_46 κo κp Q x1 1 x4 x5 3 σ := by
  unfold wj_X0_perform_46
  rw [show rfSL[3].2.2.2.getD (((3 : Int32) * 4) + 1).toNatClampNeg 0 = 41 from by decide, show rfSL[2].2.2.2.getD (3 : Int32).toNatClampNeg 0 = 2 from by decide]
  refine ⟨fun q => absurd q (by decide), fun _ => ⟨fun _ => ⟨by unfold vp_in; decide, noteC_w h1 hr ⟨by unfold vp_in; decide, ?_⟩⟩, fun q => absurd hd q⟩⟩
  repeat (refine ⟨fun q => absurd q (by decide), fun _ => ?_⟩)
  exact ⟨fun _ => h, fun q => absurd rfl q⟩
theorem bo_40 {r : Nat} (h1 : gI σ 49 3 = nI r) (hr : r < 1000) (hd : x5 ≤ 40) (h : κp (noteC σ 40) x1 2 2 x4 (x5 + 1) (fun r s => Q (r * 3) s)) : wj_X0_perform_46 κo κp Q x1 2 x4 x5 3 σ := by
  unfold wj_X0_perform_46
  rw [show rfSL[3].2.2.2.getD (((3 : Int32) * 4) + 2).toNatClampNeg 0 = 40 from by decide, show rfSL[2].2.2.2.getD (3 : Int32).toNatClampNeg 0 = 2 from by decide]
  refine ⟨fun q => absurd q (by decide), fun _ => ⟨fun _ => ⟨by unfold vp_in; decide, noteC_w h1 hr ⟨by unfold vp_in; decide, ?_⟩⟩, fun q => absurd hd q⟩⟩
  repeat (refine ⟨fun q => absurd q (by decide), fun _ => ?_⟩)
  exact ⟨fun _ => h, fun q => absurd rfl q⟩
theorem bo_50 {r : Nat} (h1 : gI σ 49 3 = nI r) (hr : r < 1000) (hd : x5 ≤ 40) (h : κp (noteC σ 50) x1 1 2 x4 (x5 + 1) (fun r s => κo s x1 0 2 x5 (fun r2 s2 => Q (r - r2) s2))) : wj_X0_perform_46 κo κp Q x1 2 x4 x5 4 σ := by
  unfold wj_X0_perform_46
  rw [show rfSL[3].2.2.2.getD (((4 : Int32) * 4) + 2).toNatClampNeg 0 = 50 from by decide, show rfSL[2].2.2.2.getD (4 : Int32).toNatClampNeg 0 = 1 from by decide]
  refine ⟨fun q => absurd q (by decide), fun _ => ⟨fun _ => ⟨by unfold vp_in; decide, noteC_w h1 hr ⟨by unfold vp_in; decide, ?_⟩⟩, fun q => absurd hd q⟩⟩
  repeat (refine ⟨fun q => absurd q (by decide), fun _ => ?_⟩)
  exact ⟨fun _ => h, fun q => absurd rfl q⟩
theorem bo_60 {r : Nat} (h1 : gI σ 49 3 = nI r) (hr : r < 1000) (hd : x5 ≤ 40) (h : κp (noteC σ 60) x1 3 3 x4 (x5 + 1) (fun r s => Q (r ^^^ 5) s)) : wj_X0_perform_46 κo κp Q x1 3 x4 x5 5 σ := by
  unfold wj_X0_perform_46
  rw [show rfSL[3].2.2.2.getD (((5 : Int32) * 4) + 3).toNatClampNeg 0 = 60 from by decide, show rfSL[2].2.2.2.getD (5 : Int32).toNatClampNeg 0 = 3 from by decide]
  refine ⟨fun q => absurd q (by decide), fun _ => ⟨fun _ => ⟨by unfold vp_in; decide, noteC_w h1 hr ⟨by unfold vp_in; decide, ?_⟩⟩, fun q => absurd hd q⟩⟩
  repeat (refine ⟨fun q => absurd q (by decide), fun _ => ?_⟩)
  exact ⟨fun _ => h, fun q => absurd rfl q⟩
theorem bo_70 {r : Nat} (h1 : gI σ 49 3 = nI r) (hr : r < 1000) (hd : x5 ≤ 40) (h : κp (noteC σ 70) x1 0 0 x4 (x5 + 1) (fun r s => Q (r * 2) s)) : wj_X0_perform_46 κo κp Q x1 0 x4 x5 6 σ := by
  unfold wj_X0_perform_46
  rw [show rfSL[3].2.2.2.getD (((6 : Int32) * 4) + 0).toNatClampNeg 0 = 70 from by decide, show rfSL[2].2.2.2.getD (6 : Int32).toNatClampNeg 0 = 0 from by decide]
  refine ⟨fun q => absurd q (by decide), fun _ => ⟨fun _ => ⟨by unfold vp_in; decide, noteC_w h1 hr ⟨by unfold vp_in; decide, ?_⟩⟩, fun q => absurd hd q⟩⟩
  repeat (refine ⟨fun q => absurd q (by decide), fun _ => ?_⟩)
  exact ⟨fun _ => h, fun q => absurd rfl q⟩
theorem bo_80 {r : Nat} (h1 : gI σ 49 3 = nI r) (hr : r < 1000) (hd : x5 ≤ 40) (h : κp (noteC σ 80) x1 4 1 x4 (x5 + 1) (fun r s => κo s x1 2 2 x5 (fun r2 s2 => Q (r + r2) s2))) : wj_X0_perform_46 κo κp Q x1 1 x4 x5 7 σ := by
  unfold wj_X0_perform_46
  rw [show rfSL[3].2.2.2.getD (((7 : Int32) * 4) + 1).toNatClampNeg 0 = 80 from by decide, show rfSL[2].2.2.2.getD (7 : Int32).toNatClampNeg 0 = 4 from by decide]
  refine ⟨fun q => absurd q (by decide), fun _ => ⟨fun _ => ⟨by unfold vp_in; decide, noteC_w h1 hr ⟨by unfold vp_in; decide, ?_⟩⟩, fun q => absurd hd q⟩⟩
  repeat (refine ⟨fun q => absurd q (by decide), fun _ => ?_⟩)
  exact ⟨fun _ => h, fun q => absurd rfl q⟩
theorem bo_81 {r : Nat} (h1 : gI σ 49 3 = nI r) (hr : r < 1000) (hd : x5 ≤ 40) (h : κp (noteC σ 81) x1 4 3 x4 (x5 + 1) (fun r s => Q (r - 1) s)) : wj_X0_perform_46 κo κp Q x1 3 x4 x5 7 σ := by
  unfold wj_X0_perform_46
  rw [show rfSL[3].2.2.2.getD (((7 : Int32) * 4) + 3).toNatClampNeg 0 = 81 from by decide, show rfSL[2].2.2.2.getD (7 : Int32).toNatClampNeg 0 = 4 from by decide]
  refine ⟨fun q => absurd q (by decide), fun _ => ⟨fun _ => ⟨by unfold vp_in; decide, noteC_w h1 hr ⟨by unfold vp_in; decide, ?_⟩⟩, fun q => absurd hd q⟩⟩
  repeat (refine ⟨fun q => absurd q (by decide), fun _ => ?_⟩)
  exact ⟨fun _ => h, fun q => absurd rfl q⟩
end ActLoop

/-! fire: the model -/
theorem f_has : ∀ p, p < 7 → ∀ S, S < 128 → (((nI S >>> (nI p &&& 31)) &&& 1 = 0) ↔ S.testBit p = false) := by decide +kernel
theorem f_clr : ∀ p, p < 7 → ∀ S, S < 128 → nI S &&& (((1 : Int32) <<< (nI p &&& 31)) ^^^ (-1)) = nI (clr S p) := by decide +kernel
section FireM
variable {m0 : rfS} {a : Nat → Nat} {n : Nat} {Lb : Nat → Int}
def slM (m0 : rfS) (a : Nat → Nat) (n : Nat) : Prop := n ≤ 7 ∧ gI m0 0 0 = nI n ∧ ∀ p, p < n → gF m0 1 (21 + p) = nI (a p) ∧ 1 ≤ a p ∧ a p ≤ 9
def FrM (m0 m : rfS) : Prop := (∀ k, k ≠ 27 → gF m k = gF m0 k) ∧ (∀ k, gI m k = gI m0 k) ∧ ∀ k, gL m k = gL m0 k
theorem FrM.sF {m0 m : rfS} (h : FrM m0 m) {j : Nat} {v : Int32} : FrM m0 (sF m 27 j v) := ⟨fun k hk => (gF_sF_ne hk).trans (h.1 k hk), fun k => (h.2.1 k), fun k => (h.2.2 k)⟩
theorem Rel.frM {n bs : Nat} {c m m2 : rfS} (h : Rel n bs c m) (f : FrM m m2) : Rel n bs c m2 := by
  obtain ⟨f1, f2, f3⟩ := f
  obtain ⟨hV, hT, hL, hLd, hIm, hCh, hBo, hTr, hSh, hMd⟩ := h
  exact ⟨hV.fr rfl rfl rfl rfl rfl rfl rfl rfl rfl (by rw [f2]) (f1 1 (by decide)) (f1 2 (by decide)), hT.fr rfl rfl (by rw [f2]) (f1 3 (by decide)), hL.fr rfl rfl (by rw [f2]) (by rw [f2]) (f1 4 (by decide)) (f1 5 (by decide)) (f1 6 (by decide)) (f1 7 (by decide)), hLd.fr rfl (f1 14 (by decide)), hIm.fr rfl rfl rfl rfl rfl (by rw [f2]) (by rw [f2]) (f1 15 (by decide)) (f1 16 (by decide)), hCh.fr rfl rfl rfl rfl rfl (by rw [f2]) (by rw [f2]) (f1 17 (by decide)), hBo.fr rfl rfl (by rw [f2]) (f1 18 (by decide)), hTr.fr rfl rfl (by rw [f2]) (f1 19 (by decide)), hSh.fr (fun k _ => ⟨rfl, rfl⟩) (f1 20 (by decide)) (f1 21 (by decide)) (f3 22), hMd⟩
/-- the state of the minutes -/
def ST (m0 : rfS) (n : Nat) (Lb : Nat → Int) (M : Nat → Nat) (m : rfS) : Prop := FrM m0 m ∧ ∀ S, 1 ≤ S → S < 2 ^ n → gF m 27 S = nI (M S) ∧ M S ≤ 9999 ∧ Lb S ≤ (M S : Int)
theorem slowM (h0 : slM m0 a n) {m : rfS} (hf : FrM m0 m) {p : Nat} (hp : p < n) {Q : Int32 → rfS → Prop} (hq : Q (nI (a p)) m) : wp_X8_slow m (nI p) Q := by
  have n7 := h0.1
  unfold wp_X8_slow
  rw [show (21 : Int32) = nI 21 from rfl, nI_add, cl (21 + p), hf.1 1 (by decide), (h0.2.2 p hp).1]
  exact ⟨vin (by omega), hq⟩
theorem or_pos (L r : Nat) : 1 ≤ L ||| 2 ^ r := by
  rcases Nat.eq_zero_or_pos (L ||| 2 ^ r) with z | z
  · have := or_bit L r r
    rw [z, Nat.zero_testBit] at this
    simp at this
  · exact z
theorem goM (h0 : slM m0 a n) {M : Nat → Nat} {m : rfS} (hs : ST m0 n Lb M m) {S p q : Nat} (hS : S < 2 ^ n) (hp : p < n) (hq : q < n) {Q : Int32 → rfS → Prop} (hQ : Q (nI (goV M a n S p q)) m) : wp_X8_goOut m (nI S) (nI p) (nI q) Q := by
  have n7 := h0.1
  have h128 := p2n n7
  have bp := (h0.2.2 p hp).2
  have bq := (h0.2.2 q hq).2
  have hL : clr (clr S p) q < 2 ^ n := clr2_lt hS
  unfold wp_X8_goOut
  refine slowM h0 hs.1 hp (slowM h0 hs.1 hq ?_)
  have c1 := clr_le S p
  rw [f_clr p (by omega) S (by omega), f_clr q (by omega) _ (by omega)]
  have tr : (if nI (a p) < nI (a q) then nI (a q) else nI (a p)) = nI (trp a p q) := by
    unfold trp
    by_cases e : a p < a q
    · rw [if_pos e, if_pos ((nIlt (by omega) (by omega)).mpr e)]
    · rw [if_neg e, if_neg (fun z => e ((nIlt (by omega) (by omega)).mp z))]
  have tb : trp a p q ≤ 9 := by unfold trp; split <;> omega
  rw [tr]
  unfold goV at hQ
  by_cases e0 : clr (clr S p) q = 0
  · rw [if_pos e0] at hQ
    rw [e0]
    exact ⟨fun z => absurd rfl z, fun _ => hQ⟩
  · rw [if_neg e0] at hQ
    refine ⟨fun _ => ⟨n + 1, ?_⟩, fun z => absurd z (fun z2 => e0 ?_)⟩
    · -- the loop
      have L : ∀ (k r : Nat), r + k = n → wl_X8_goOut_46 Q (k + 1) (nI (clr (clr S p) q)) (nI (trp a p q)) (nI (sn M a (clr (clr S p) q) r)) (nI r) m := by
        intro k
        induction k with
        | zero =>
          intro r hr
          have e : r = n := by omega
          subst e
          unfold wl_X8_goOut_46
          rw [hs.1.2.1, h0.2.1, nI_add]
          exact ⟨fun _ => hQ, fun z => absurd (Int32.le_refl _) z⟩
        | succ k ih =>
          intro r hr
          unfold wl_X8_goOut_46
          rw [hs.1.2.1, h0.2.1]
          have nle : ¬ nI n ≤ nI r := by
            rw [nI_le2 (by omega) (by omega)]
            omega
          refine ⟨fun z => absurd z nle, fun _ => ?_⟩
          rw [w_has, bI_0, Classical.not_not, f_has r (by omega) _ (by omega), nI_1]
          have st : sn M a (clr (clr S p) q) (r + 1) = if (clr (clr S p) q).testBit r = true then sn M a (clr (clr S p) q) r else if a r + M (clr (clr S p) q ||| 2 ^ r) < sn M a (clr (clr S p) q) r then a r + M (clr (clr S p) q ||| 2 ^ r) else sn M a (clr (clr S p) q) r := rfl
          refine ⟨fun z => ?_, fun z => slowM h0 hs.1 (by omega) ?_⟩
          · have := ih (r + 1) (by omega)
            rw [st, if_pos (by simpa using z)] at this
            exact this
          · have z := Classical.not_not.mp z
            have hS2 : clr (clr S p) q ||| 2 ^ r < 2 ^ n := or_lt hL (by omega)
            obtain ⟨g1, g2, g3⟩ := hs.2 _ (or_pos (clr (clr S p) q) r) hS2
            have s9 := sn_9 (M := M) (a := a) (L := clr (clr S p) q) r
            have br := (h0.2.2 r (by omega)).2
            rw [sh1 (n := r) (by omega), nx_or, cl (clr (clr S p) q ||| 2 ^ r) (by omega), g1, nI_add]
            refine ⟨vin (by omega), ?_⟩
            have := ih (r + 1) (by omega)
            rw [st, if_neg (by rw [z]; decide)] at this
            by_cases lt : a r + M (clr (clr S p) q ||| 2 ^ r) < sn M a (clr (clr S p) q) r
            · rw [if_pos lt] at this
              rw [if_pos ((nIlt (by omega) (by omega)).mpr lt)]
              exact this
            · rw [if_neg lt] at this
              rw [if_neg (fun z => lt ((nIlt (by omega) (by omega)).mp z))]
              exact this
      exact L n 0 (by omega)
    · have := congrArg Int32.toInt z2
      rw [nI_toInt (by omega), show (0 : Int32).toInt = 0 from rfl] at this
      omega
/-- one sweep: what has been looked at, is -/
def VD (n S p q : Nat) : Prop := 1 ≤ S ∧ S < 2 ^ n ∧ p ≤ q ∧ q < n ∧ S.testBit p = true ∧ S.testBit q = true
def SWP (m0 : rfS) (a : Nat → Nat) (n : Nat) (Lb : Nat → Int) (M0 : Nat → Nat) (fl : Int32) (D : Nat → Nat → Nat → Prop) (m : rfS) : Prop :=
  ∃ M, ST m0 n Lb M m ∧ (∀ S, 1 ≤ S → S < 2 ^ n → M S ≤ M0 S) ∧ ((fl = 0 ∧ (∀ S, 1 ≤ S → S < 2 ^ n → M S = M0 S) ∧ ∀ S p q, D S p q → VD n S p q → M0 S ≤ goV M0 a n S p q) ∨ (fl = 1 ∧ ∃ S, 1 ≤ S ∧ S < 2 ^ n ∧ M S < M0 S))
theorem SWP.im {M0 : Nat → Nat} {fl : Int32} {D D2 : Nat → Nat → Nat → Prop} {m : rfS} (h : SWP m0 a n Lb M0 fl D m) (hd : ∀ S p q, D2 S p q → VD n S p q → D S p q) : SWP m0 a n Lb M0 fl D2 m := by
  obtain ⟨M, h1, h2, h3⟩ := h
  refine ⟨M, h1, h2, ?_⟩
  rcases h3 with ⟨a1, a2, a3⟩ | h3
  · exact Or.inl ⟨a1, a2, fun S p q x y => a3 S p q (hd S p q x y) y⟩
  · exact Or.inr h3
theorem goV_cg {M N : Nat → Nat} {S p q : Nat} (hS : S < 2 ^ n) (h : ∀ S, 1 ≤ S → S < 2 ^ n → M S = N S) : goV M a n S p q = goV N a n S p q := by
  unfold goV
  rw [sn_cg n (fun r hr => h _ (or_pos _ r) (or_lt (clr2_lt hS) hr))]
def LbOK (a : Nat → Nat) (n : Nat) (Lb : Nat → Int) : Prop := (∀ S, Lb S ≤ 9999) ∧ ∀ (M : Nat → Nat) S p q, 1 ≤ S → S < 2 ^ n → p < n → q < n → S.testBit p = true → S.testBit q = true → (∀ S, 1 ≤ S → S < 2 ^ n → Lb S ≤ (M S : Int)) → Lb S ≤ (goV M a n S p q : Int)
/-- one look -/
theorem lookM (h0 : slM m0 a n) {M0 : Nat → Nat} {fl : Int32} {D : Nat → Nat → Nat → Prop} {m : rfS} {S p q : Nat} {x : Int32} {v : Nat} {Q : rfS → Prop} {kb : Int32 → Int32 → Int32 → Int32 → rfS → Prop} (hw : SWP m0 a n Lb M0 fl D m) (h1 : 1 ≤ S) (hS : S < 2 ^ n) (hx : x = nI v) (hv : v ≤ 20000) (hlb : v < 9999 → Lb S ≤ (v : Int)) (hfx : ∀ M : Nat → Nat, ST m0 n Lb M m → (∀ S, 1 ≤ S → S < 2 ^ n → M S = M0 S) → VD n S p q → v = goV M0 a n S p q)
    (hk : ∀ fl2 m2, SWP m0 a n Lb M0 fl2 (fun S2 p2 q2 => D S2 p2 q2 ∨ (S2 = S ∧ p2 = p ∧ q2 = q)) m2 → kb fl2 (nI S) (nI p) (nI (q + 1)) m2) : wj_X8_burns_100 Q kb fl (nI S) (nI p) (nI q) x m := by
  have n7 := h0.1
  have h128 := p2n n7
  obtain ⟨M, hs, hle, hd⟩ := hw
  obtain ⟨g1, g2, g3⟩ := hs.2 S h1 hS
  unfold wj_X8_burns_100
  rw [cl S (by omega), g1, hx, nI_1]
  refine ⟨vin (by omega), fun lt => ⟨vin (by omega), hk 1 _ ?_⟩, fun nlt => hk fl m ?_⟩
  · have lt := (nIlt (by omega) (by omega)).mp lt
    refine ⟨fun S2 => if S2 = S then v else M S2, ⟨hs.1.sF, fun S2 a1 a2 => ?_⟩, fun S2 a1 a2 => ?_, Or.inr ⟨rfl, S, h1, hS, ?_⟩⟩
    · rw [gF_sF]
      by_cases e : S2 = S
      · rw [if_pos ⟨rfl, e⟩]
        simp only [if_pos e]
        rw [e]
        exact ⟨by simp, by omega, hlb (by omega)⟩
      · rw [if_neg (fun z => e z.2)]
        simp only [if_neg e]
        exact hs.2 S2 a1 a2
    · by_cases e : S2 = S
      · simp only [if_pos e]
        rw [e]
        have := hle S h1 hS
        omega
      · simp only [if_neg e]
        exact hle S2 a1 a2
    · simp only [if_true]
      have := hle S h1 hS
      omega
  · have nlt : ¬ v < M S := fun z => nlt ((nIlt (by omega) (by omega)).mpr z)
    refine ⟨M, hs, hle, ?_⟩
    rcases hd with ⟨a1, a2, a3⟩ | hd
    · refine Or.inl ⟨a1, a2, fun S2 p2 q2 x y => ?_⟩
      rcases x with x | ⟨rfl, rfl, rfl⟩
      · exact a3 S2 p2 q2 x y
      · rw [← hfx M hs a2 y, ← a2 S2 h1 hS]
        omega
    · exact Or.inr hd
theorem goV_le (h0 : slM m0 a n) {M : Nat → Nat} {S p q : Nat} (hp : p < n) (hq : q < n) : goV M a n S p q ≤ 20000 := by
  have b1 := (h0.2.2 p hp).2
  have b2 := (h0.2.2 q hq).2
  have s := sn_9 (M := M) (a := a) (L := clr (clr S p) q) n
  unfold goV trp
  split <;> split <;> omega
theorem qM (h0 : slM m0 a n) (hl : LbOK a n Lb) {M0 : Nat → Nat} {S p : Nat} {Q : rfS → Prop} {kx : Int32 → Int32 → Int32 → rfS → Prop} (h1 : 1 ≤ S) (hS : S < 2 ^ n) (hp : p < n)
    (hk : ∀ fl m, SWP m0 a n Lb M0 fl (fun S2 p2 q2 => S2 < S ∨ (S2 = S ∧ (p2 < p ∨ (p2 = p ∧ q2 < n)))) m → kx fl (nI S) (nI p) m) : ∀ (k q : Nat) (fl : Int32) (m : rfS), q + k = n → p ≤ q → SWP m0 a n Lb M0 fl (fun S2 p2 q2 => S2 < S ∨ (S2 = S ∧ (p2 < p ∨ (p2 = p ∧ q2 < q)))) m → wl_X8_burns_60 Q kx (k + 1) fl (nI S) (nI p) (nI q) m := by
  have n7 := h0.1
  have h128 := p2n n7
  intro k
  induction k with
  | zero =>
    intro q fl m hq hpq hw
    have e : q = n := by omega
    subst e
    have hf : FrM m0 m := by obtain ⟨M, hs, _⟩ := hw; exact hs.1
    unfold wl_X8_burns_60
    rw [hf.2.1, h0.2.1]
    exact ⟨fun _ => hk fl m hw, fun z => absurd (Int32.le_refl _) z⟩
  | succ k ih =>
    intro q fl m hq hpq hw
    have hf : FrM m0 m := by obtain ⟨M, hs, _⟩ := hw; exact hs.1
    have nle : ¬ nI n ≤ nI q := by
      rw [nI_le2 (by omega) (by omega)]
      omega
    have next : ∀ fl2 m2, SWP m0 a n Lb M0 fl2 (fun S2 p2 q2 => (S2 < S ∨ (S2 = S ∧ (p2 < p ∨ (p2 = p ∧ q2 < q)))) ∨ (S2 = S ∧ p2 = p ∧ q2 = q)) m2 → wl_X8_burns_60 Q kx (k + 1) fl2 (nI S) (nI p) (nI (q + 1)) m2 := by
      intro fl2 m2 hw2
      refine ih (q + 1) fl2 m2 (by omega) (by omega) (hw2.im (fun S2 p2 q2 x _ => ?_))
      omega
    unfold wl_X8_burns_60
    rw [hf.2.1, h0.2.1]
    refine ⟨fun z => absurd z nle, fun _ => ?_⟩
    rw [w_has, bI_0, Classical.not_not, f_has p (by omega) S (by omega)]
    refine ⟨fun z => ?_, fun z => ?_⟩
    · unfold wj_X8_burns_97
      exact lookM h0 hw h1 hS (v := 9999) rfl (by omega) (fun x => absurd x (by omega)) (fun M _ _ v => absurd (v.2.2.2.2.1.symm.trans z) (by decide)) next
    · rw [w_has, bI_0, Classical.not_not, f_has q (by omega) S (by omega)]
      refine ⟨fun y => ?_, fun y => ?_⟩
      · unfold wj_X8_burns_97
        exact lookM h0 hw h1 hS (v := 9999) rfl (by omega) (fun x => absurd x (by omega)) (fun M _ _ v => absurd (v.2.2.2.2.2.symm.trans y) (by decide)) next
      · obtain ⟨M, hs, hle, hd⟩ := id hw
        refine goM h0 hs hS hp (by omega) ?_
        refine lookM h0 hw h1 hS rfl (goV_le h0 hp (by omega)) (fun _ => hl.2 M S p q h1 hS hp (by omega) (by simpa using z) (by simpa using y) (fun S2 a1 a2 => (hs.2 S2 a1 a2).2.2)) (fun N hN e _ => ?_) next
        refine goV_cg hS (fun S2 a1 a2 => ?_)
        have k1 := (hs.2 S2 a1 a2)
        have k2 := (hN.2 S2 a1 a2)
        have := congrArg Int32.toInt (k1.1.symm.trans k2.1)
        rw [nI_toInt (by omega), nI_toInt (by omega)] at this
        have e2 := e S2 a1 a2
        omega
theorem pM (h0 : slM m0 a n) (hl : LbOK a n Lb) {M0 : Nat → Nat} {S : Nat} {Q : rfS → Prop} {kx : Int32 → Int32 → rfS → Prop} (h1 : 1 ≤ S) (hS : S < 2 ^ n)
    (hk : ∀ fl m, SWP m0 a n Lb M0 fl (fun S2 _ _ => S2 < S + 1) m → kx fl (nI S) m) : ∀ (k p : Nat) (fl : Int32) (m : rfS), p + k = n → SWP m0 a n Lb M0 fl (fun S2 p2 _ => S2 < S ∨ (S2 = S ∧ p2 < p)) m → wl_X8_burns_49 Q kx (k + 1) fl (nI S) (nI p) m := by
  have n7 := h0.1
  intro k
  induction k with
  | zero =>
    intro p fl m hp hw
    have e : p = n := by omega
    subst e
    have hf : FrM m0 m := by obtain ⟨M, hs, _⟩ := hw; exact hs.1
    unfold wl_X8_burns_49
    rw [hf.2.1, h0.2.1]
    refine ⟨fun _ => hk fl m (hw.im (fun S2 p2 q2 x v => ?_)), fun z => absurd (Int32.le_refl _) z⟩
    obtain ⟨_, _, v3, v4, _⟩ := v
    omega
  | succ k ih =>
    intro p fl m hp hw
    have hf : FrM m0 m := by obtain ⟨M, hs, _⟩ := hw; exact hs.1
    have nle : ¬ nI n ≤ nI p := by
      rw [nI_le2 (by omega) (by omega)]
      omega
    unfold wl_X8_burns_49
    rw [hf.2.1, h0.2.1]
    refine ⟨fun z => absurd z nle, fun _ => ⟨(n - p) + 1, qM h0 hl h1 hS (by omega) (fun fl2 m2 hw2 => ?_) (n - p) p fl m (by omega) (Nat.le_refl _) (hw.im (fun S2 p2 q2 x v => ?_))⟩⟩
    · rw [nI_1]
      refine ih (p + 1) fl2 m2 (by omega) (hw2.im (fun S2 p2 q2 x v => ?_))
      obtain ⟨_, _, v3, v4, _⟩ := v
      omega
    · obtain ⟨_, _, v3, v4, _⟩ := v
      omega
theorem sM (h0 : slM m0 a n) (hl : LbOK a n Lb) {M0 : Nat → Nat} {Q : rfS → Prop} {kx : Int32 → rfS → Prop}
    (hk : ∀ fl m, SWP m0 a n Lb M0 fl (fun _ _ _ => True) m → kx fl m) : ∀ (k S : Nat) (fl : Int32) (m : rfS), S + k = 2 ^ n → 1 ≤ S → SWP m0 a n Lb M0 fl (fun S2 _ _ => S2 < S) m → wl_X8_burns_37 Q kx (k + 1) fl (nI S) m := by
  have n7 := h0.1
  have h128 := p2n n7
  intro k
  induction k with
  | zero =>
    intro S fl m hS h1 hw
    have e : S = 2 ^ n := by omega
    subst e
    have hf : FrM m0 m := by obtain ⟨M, hs, _⟩ := hw; exact hs.1
    unfold wl_X8_burns_37
    rw [hf.2.1, h0.2.1, sh1 n7]
    exact ⟨fun _ => hk fl m (hw.im (fun S2 p2 q2 _ v => v.2.1)), fun z => absurd (Int32.le_refl _) z⟩
  | succ k ih =>
    intro S fl m hS h1 hw
    have hf : FrM m0 m := by obtain ⟨M, hs, _⟩ := hw; exact hs.1
    unfold wl_X8_burns_37
    rw [hf.2.1, h0.2.1, sh1 n7]
    have nle : ¬ nI (2 ^ n) ≤ nI S := by
      rw [nI_le2 (by omega) (by omega)]
      omega
    refine ⟨fun z => absurd z nle, fun _ => ⟨n + 1, pM h0 hl h1 (by omega) (fun fl2 m2 hw2 => ?_) n 0 fl m (by omega) (hw.im (fun S2 p2 q2 x v => by omega))⟩⟩
    rw [nI_1]
    exact ih (S + 1) fl2 m2 (by omega) (by omega) hw2
def muF (M : Nat → Nat) : Nat → Nat
  | 0 => 0
  | k + 1 => muF M k + M (k + 1)
theorem muF_le {M N : Nat → Nat} : ∀ k, (∀ S, 1 ≤ S → S ≤ k → M S ≤ N S) → muF M k ≤ muF N k
  | 0, _ => Nat.le_refl _
  | k + 1, h => by
    have := muF_le k (fun S a1 a2 => h S a1 (by omega))
    have := h (k + 1) (by omega) (Nat.le_refl _)
    unfold muF
    omega
theorem muF_lt {M N : Nat → Nat} {T : Nat} (hT : M T < N T) (h1 : 1 ≤ T) : ∀ k, T ≤ k → (∀ S, 1 ≤ S → S ≤ k → M S ≤ N S) → muF M k < muF N k
  | 0, hk, _ => absurd hk (by omega)
  | k + 1, hk, h => by
    have h2 := h (k + 1) (by omega) (Nat.le_refl _)
    unfold muF
    by_cases e : T = k + 1
    · have := muF_le k (fun S a1 a2 => h S a1 (by omega))
      rw [e] at hT
      omega
    · have := muF_lt hT h1 k (by omega) (fun S a1 a2 => h S a1 (by omega))
      omega
theorem burnM (h0 : slM m0 a n) (hl : LbOK a n Lb) {Q : rfS → Prop} (hq : ∀ M m, ST m0 n Lb M m → FXx M a n → Q m) : ∀ (N : Nat) (M : Nat → Nat) (m : rfS), muF M (2 ^ n - 1) + 2 ≤ N → ST m0 n Lb M m → wl_X8_burns_29 Q N 1 m := by
  have n7 := h0.1
  have p1 : 1 ≤ 2 ^ n := Nat.one_le_two_pow
  intro N
  induction N with
  | zero => intro M m h; omega
  | succ N ih =>
    intro M m hN hs
    unfold wl_X8_burns_29
    refine ⟨fun z => absurd z (by decide), fun _ => ⟨(2 ^ n - 1) + 1, sM h0 hl (M0 := M) (fun fl m2 hw => ?_) (2 ^ n - 1) 1 0 m (by omega) (Nat.le_refl _) ⟨M, hs, fun _ _ _ => Nat.le_refl _, Or.inl ⟨rfl, fun _ _ _ => rfl, fun S p q x v => ?_⟩⟩⟩⟩
    · obtain ⟨M2, hs2, hle, hd⟩ := hw
      rcases hd with ⟨e, a2, a3⟩ | ⟨e, T, t1, t2, t3⟩
      · rw [e]
        obtain ⟨N2, rfl⟩ : ∃ N2, N = N2 + 1 := ⟨N - 1, by omega⟩
        unfold wl_X8_burns_29
        refine ⟨fun _ => hq M2 m2 hs2 (fun S p q s1 s2 hp hq2 bp bq => ?_), fun z => absurd rfl z⟩
        rw [goV_cg s2 (fun S a1 b1 => a2 S a1 b1), a2 S s1 s2]
        rcases Nat.le_total p q with h | h
        · exact a3 S p q trivial ⟨s1, s2, h, hq2, bp, bq⟩
        · rw [goV_symm n7 s2 hp hq2]
          exact a3 S q p trivial ⟨s1, s2, h, hp, bq, bp⟩
      · rw [e]
        have := muF_lt t3 t1 (2 ^ n - 1) (by omega) (fun S a1 b1 => hle S a1 (by omega))
        exact ih M2 m2 (by omega) hs2
    · obtain ⟨v1, _⟩ := v
      omega
theorem burns (h0 : slM m0 a n) (hl : LbOK a n Lb) {Q : rfS → Prop} (hq : ∀ M m, ST m0 n Lb M m → FXx M a n → Q m) : wp_X8_burns m0 Q := by
  have n7 := h0.1
  have h128 := p2n n7
  have p1 : 1 ≤ 2 ^ n := Nat.one_le_two_pow
  unfold wp_X8_burns
  have L : ∀ (k S : Nat) (m : rfS), S + k = 2 ^ n → 1 ≤ S → FrM m0 m → (∀ T, 1 ≤ T → T < S → gF m 27 T = nI 9999) → wl_X8_burns_2 Q (fun (σ4 : rfS) => (∃ n32, wl_X8_burns_29 Q n32 1 σ4)) (k + 1) (nI S) m := by
    intro k
    induction k with
    | zero =>
      intro S m hS h1 hf hT
      have e : S = 2 ^ n := by omega
      subst e
      unfold wl_X8_burns_2
      rw [hf.2.1, h0.2.1, sh1 n7]
      refine ⟨fun _ => ⟨muF (fun _ => 9999) (2 ^ n - 1) + 2, burnM h0 hl hq _ (fun _ => 9999) m (Nat.le_refl _) ⟨hf, fun T a1 a2 => ⟨hT T a1 a2, Nat.le_refl _, hl.1 T⟩⟩⟩, fun z => absurd (Int32.le_refl _) z⟩
    | succ k ih =>
      intro S m hS h1 hf hT
      unfold wl_X8_burns_2
      rw [hf.2.1, h0.2.1, sh1 n7, cl S (by omega), nI_1]
      have nle : ¬ nI (2 ^ n) ≤ nI S := by
        rw [nI_le2 (by omega) (by omega)]
        omega
      refine ⟨fun z => absurd z nle, fun _ => ⟨vin (by omega), ih (S + 1) _ (by omega) (by omega) hf.sF (fun T a1 a2 => ?_)⟩⟩
      rw [gF_sF]
      by_cases e : T = S
      · rw [if_pos ⟨rfl, e⟩]
        rfl
      · rw [if_neg (fun z => e z.2)]
        exact hT T a1 (by omega)
  exact ⟨(2 ^ n - 1) + 1, L (2 ^ n - 1) 1 m0 (by omega) (Nat.le_refl _) ⟨fun _ _ => rfl, fun _ => rfl, fun _ => rfl⟩ (fun T a1 a2 => absurd a2 (by omega))⟩
end FireM

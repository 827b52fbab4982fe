/-! drawn -/
theorem ush {x : Int32} {k : Int32} : ∃ q, q < 2 ^ 32 ∧ (x.toUInt32 >>> k.toUInt32).toInt32 = nI q ∧ q = (x.toUInt32 >>> k.toUInt32).toNat := by
  refine ⟨(x.toUInt32 >>> k.toUInt32).toNat, (x.toUInt32 >>> k.toUInt32).toNat_lt, ?_, rfl⟩
  show _ = Int32.ofNat _
  have : (UInt32.ofNat (x.toUInt32 >>> k.toUInt32).toNat).toInt32 = Int32.ofNat (x.toUInt32 >>> k.toUInt32).toNat := rfl
  rw [← this, UInt32.ofNat_toNat]
def u8 (z : Int32) : Nat := (z.toUInt32 >>> ((8 : Int32).toUInt32 &&& Int32.toUInt32 31)).toNat
def u16 (z : Int32) : Nat := (z.toUInt32 >>> ((16 : Int32).toUInt32 &&& Int32.toUInt32 31)).toNat
theorem u8_lt (z : Int32) : u8 z < 2 ^ 24 := by
  unfold u8
  have e : ((8 : Int32).toUInt32 &&& Int32.toUInt32 31) = 8 := by decide
  rw [e, UInt32.toNat_shiftRight]
  have := z.toUInt32.toNat_lt
  rw [show ((8 : UInt32).toNat % 32) = 8 from by decide, Nat.shiftRight_eq_div_pow]
  omega
theorem u16_lt (z : Int32) : u16 z < 2 ^ 16 := by
  unfold u16
  have e : ((16 : Int32).toUInt32 &&& Int32.toUInt32 31) = 16 := by decide
  rw [e, UInt32.toNat_shiftRight]
  have := z.toUInt32.toNat_lt
  rw [show ((16 : UInt32).toNat % 32) = 16 from by decide, Nat.shiftRight_eq_div_pow]
  omega
theorem u8_i (z : Int32) : (z.toUInt32 >>> ((8 : Int32).toUInt32 &&& Int32.toUInt32 31)).toInt32 = nI (u8 z) := by
  show _ = Int32.ofNat _
  have : (UInt32.ofNat (u8 z)).toInt32 = Int32.ofNat (u8 z) := rfl
  rw [← this]; unfold u8; rw [UInt32.ofNat_toNat]
theorem u16_i (z : Int32) : (z.toUInt32 >>> ((16 : Int32).toUInt32 &&& Int32.toUInt32 31)).toInt32 = nI (u16 z) := by
  show _ = Int32.ofNat _
  have : (UInt32.ofNat (u16 z)).toInt32 = Int32.ofNat (u16 z) := rfl
  rw [← this]; unfold u16; rw [UInt32.ofNat_toNat]
def whoN (n lz : Nat) (z : Int32) : Nat := if n = 0 then 7 else if lz ≤ u16 z % 12 then u8 z % n else 7
theorem whoN_ok (n lz : Nat) (z : Int32) : whoN n lz z < n ∨ whoN n lz z = 7 := by
  unfold whoN
  by_cases h : n = 0
  · rw [if_pos h]; exact Or.inr rfl
  · rw [if_neg h]
    by_cases h2 : lz ≤ u16 z % 12
    · rw [if_pos h2]; exact Or.inl (Nat.mod_lt _ (by omega))
    · rw [if_neg h2]; exact Or.inr rfl
theorem drawnC {c : rfS} {n lz : Nat} {z : Int32} (hn : gI c 1 0 = nI n) (hn7 : n ≤ 7) (hl : lz ≤ 12) {Q : Int32 → rfS → Prop} (hq : Q (nI (whoN n lz z)) c) : wp_X6_drawnBy c z (nI lz) Q := by
  unfold wp_X6_drawnBy
  rw [hn, u8_i, u16_i]
  have h16 := u16_lt z
  have h8 := u8_lt z
  unfold whoN at hq
  by_cases h : n = 0
  · subst h
    rw [if_pos rfl] at hq
    exact ⟨fun _ => hq, fun q => absurd rfl q⟩
  · have h0 : ¬ nI n = 0 := nI_ne0 (by omega) (by omega)
    rw [if_neg h] at hq
    rw [show (12 : Int32) = nI 12 from rfl, nI_mod (by omega) (by decide), nI_mod (by omega) (by omega)]
    have hm := Nat.mod_lt (u16 z) (show 12 > 0 by decide)
    refine ⟨fun q => absurd q h0, fun _ => ⟨fun q => ⟨h0, ?_⟩, fun q => ?_⟩⟩
    · rw [if_pos ((nI_leI (by omega) (by omega)).mp q)] at hq; exact hq
    · rw [if_neg (fun y => q (nI_le y (by omega)))] at hq; exact hq
abbrev drT : Type := Int32 × Int32 × Int32 × sdT
def drD (E : heT) (lz : Nat) (one : Int32) (t : drT) : drT := (t.1 * 1103515245 + 12345, t.2.1 + dyD E t.2.2.2 (whoN E.1 lz (t.1 * 1103515245 + 12345)), (if nI (whoN E.1 lz (t.1 * 1103515245 + 12345)) = one then t.2.2.1 + 1 else t.2.2.1), dyS E t.2.2.2 (whoN E.1 lz (t.1 * 1103515245 + 12345)))
def drI (E : heT) (lz : Nat) (one : Int32) : Nat → drT → drT
  | 0, t => t
  | k + 1, t => drD E lz one (drI E lz one k t)
def drW (E : heT) (lz dn : Nat) (one : Int32) (z : Int32) (s : sdT) : Nat → drT
  | 0 => (z, 0, 0, s)
  | y + 1 => drI E lz one dn ((drW E lz dn one z s y).1, (drW E lz dn one z s y).2.1, (drW E lz dn one z s y).2.2.1, s)
theorem drawCI {E : heT} {lz dn : Nat} {one x3 x10 : Int32} (hl : lz ≤ 12) (hdn : dn ≤ 28) {t : drT} {Q : Int32 → rfS → Prop} {kx : Nat → Int32 → Int32 → Int32 → Int32 → Int32 → Int32 → Int32 → Int32 → rfS → Prop} : ∀ (f i : Nat) (c : rfS), heC c E → stC c 26 E.1 (drI E lz one i t).2.2.2 → i ≤ dn → dn - i < f → (∀ c2, ScC c c2 → heC c2 E → kx 12 x3 (nI dn) (nI lz) one (drI E lz one dn t).1 (drI E lz one dn t).2.1 (drI E lz one dn t).2.2.1 x10 c2) → wl_X6_draw_38 Q kx f 12 x3 (nI dn) (nI lz) one (drI E lz one i t).1 (drI E lz one i t).2.1 (drI E lz one i t).2.2.1 x10 (nI i) c := by
  intro f
  induction f with
  | zero => intro i c _ _ _ h; omega
  | succ f ih =>
    intro i c hE hst hi hf hk
    unfold wl_X6_draw_38
    refine ⟨fun q => ?_, fun q => ?_⟩
    · have := (nI_leI (by omega) (by omega)).mp q
      have e : i = dn := by omega
      subst e
      exact hk c (ScC.rf c) hE
    · have hlt : i < dn := by
        rcases Nat.lt_or_ge i dn with z | z
        · exact z
        · exact absurd (nI_le z (by omega)) q
      refine drawnC hE.2.1 hE.1 hl (passC (E := E) isSt26 hE hst (whoN_ok _ _ _) (fun c2 f2 t2 => ?_))
      have sc : ScC c c2 := ScC.P (by decide) f2
      have step := ih (i + 1) c2 (hE.P isSt26 f2) t2 (by omega) (by omega) (fun c3 f3 e3 => hk c3 (sc.tr f3) e3)
      rw [nI_1]
      have e1 : (drI E lz one (i + 1) t).2.2.1 = if nI (whoN E.1 lz ((drI E lz one i t).1 * 1103515245 + 12345)) = one then (drI E lz one i t).2.2.1 + 1 else (drI E lz one i t).2.2.1 := rfl
      rw [e1] at step
      refine ⟨fun q2 => ?_, fun q2 => ?_⟩
      · rw [if_neg q2] at step
        rw [Int32.add_zero]
        exact step
      · rw [if_pos q2] at step
        exact step
theorem drawCO {E : heT} {c0 : rfS} {lz dn ys : Nat} {one z : Int32} {st : sdT} (hl : lz ≤ 12) (hdn : dn ≤ 28) (hys : ys ≤ 30) (h0 : stC c0 12 E.1 st) {Q : Int32 → rfS → Prop} {kx : Int32 → Int32 → Int32 → rfS → Prop} (hk : ∀ c2, ScC c0 c2 → kx one (drW E lz dn one z st ys).2.1 (drW E lz dn one z st ys).2.2.1 c2) : ∀ (f y : Nat) (c : rfS), heC c E → ScC c0 c → y ≤ ys → ys - y < f → wl_X6_draw_12 Q kx f 12 (nI ys) (nI dn) (nI lz) one (drW E lz dn one z st y).1 (drW E lz dn one z st y).2.1 (drW E lz dn one z st y).2.2.1 (nI y) c := by
  intro f
  induction f with
  | zero => intro y c _ _ _ h; omega
  | succ f ih =>
    intro y c hE hs hy hf
    unfold wl_X6_draw_12
    refine ⟨fun q => ?_, fun q => ?_⟩
    · have := (nI_leI (by omega) (by omega)).mp q
      have e : y = ys := by omega
      subst e
      exact hk c hs
    · have hlt : y < ys := by
        rcases Nat.lt_or_ge y ys with w | w
        · exact w
        · exact absurd (nI_le w (by omega)) q
      rw [hE.2.1]
      have s12 : stC c 12 E.1 st := by
        obtain ⟨a1, a2, a3, a4, a5⟩ := h0
        exact ⟨fun i hi => by rw [hs.1 13 (by decide) (by decide) (by decide) (by decide)]; exact a1 i hi, fun i hi => by rw [hs.1 14 (by decide) (by decide) (by decide) (by decide)]; exact a2 i hi, by rw [hs.2.1 12 (by decide)]; exact a3, by rw [hs.2.1 12 (by decide)]; exact a4, a5⟩
      refine copyC hE.1 ⟨30, ?_⟩
      have sc : ScC c (cpC c 26 12 E.1) := ScC.cp c (by decide) (by decide)
      refine drawCI (E := E) (t := ((drW E lz dn one z st y).1, (drW E lz dn one z st y).2.1, (drW E lz dn one z st y).2.2.1, st)) hl hdn 30 0 _ (hE.cp isSt26 (by decide)) (s12.cp (by decide)) (by omega) (by omega) (fun c2 f2 e2 => ?_)
      rw [nI_1]
      exact ih (y + 1) c2 e2 (hs.tr (sc.tr f2)) (by omega) (by omega)
/-- cell a keeps what m is, all else is as m but for scratch -/
def kep (m m2 : rfS) (a : Nat) : Prop := (∀ j, j < 7 → gF m2 a j = gF m 1 (7 + j) ∧ gF m2 a (7 + j) = gF m 1 (14 + j)) ∧ gF m2 a 14 = gF m 2 0 ∧ gF m2 a 15 = gF m 2 1 ∧ ScN m m2
theorem keptM.k {m m2 : rfS} {a : Nat} (ha : 23 ≤ a ∧ a ≤ 24) (h : keptM m m2 a) : kep m m2 a := by
  obtain ⟨k1, k2, k3, k4, k5, k6⟩ := h
  exact ⟨k1, k2, k3, fun q _ _ _ _ q5 => k4 q (by omega), fun j => by rw [k4 1 (by omega)], by rw [k4 2 (by omega)], by rw [k4 2 (by omega)], fun j _ _ => by rw [k5], k6⟩
theorem kep.think {m m2 m3 m4 : rfS} {a n : Nat} (hn : n ≤ 7) (ha : 23 ≤ a ∧ a ≤ 24) (h1 : kep m m2 a) (h2 : FrQ n m2 m3) (h3 : laidM m3 m4 a) : kep m m4 a := by
  obtain ⟨k1, k2, k3, s1, s2, s3, s4, s5, s6⟩ := h1
  obtain ⟨f1, f2, f3, f4⟩ := h2
  obtain ⟨l1, l2, l3, l4, l5, l6, l7⟩ := h3
  have ea : gF m3 a = gF m2 a := f1 a (by omega) (by omega) (by omega) (by omega)
  have ea4 : gF m4 a = gF m2 a := by rw [l5 a (by omega) (by omega), ea]
  refine ⟨by rw [ea4]; exact k1, by rw [ea4]; exact k2, by rw [ea4]; exact k3, fun q q1 q2 q3 q4 q5 => ?_, fun j => ?_, ?_, ?_, fun j j1 j2 => ?_, fun q => ?_⟩
  · rw [l5 q q1 q2, f1 q q1 q2 q3 q4, s1 q q1 q2 q3 q4 q5]
  · by_cases hj : ∀ q, q < 7 → j ≠ 7 + q ∧ j ≠ 14 + q
    · rw [l4 j hj, f2 j (fun i hi => hj i (by omega)), s2]
    · by_cases e : 7 ≤ j ∧ j < 14
      · have := l1 (j - 7) (by omega)
        have k := k1 (j - 7) (by omega)
        rw [show 7 + (j - 7) = j by omega] at this k
        rw [this.1, ea, k.1]
      · by_cases e2 : 14 ≤ j ∧ j < 21
        · have := l1 (j - 14) (by omega)
          have k := k1 (j - 14) (by omega)
          rw [show 14 + (j - 14) = j by omega] at this k
          rw [this.2, ea, k.2]
        · exact absurd (fun q hq => by omega) hj
  · rw [l2, ea, k2]
  · rw [l3, ea, k3]
  · rw [l6, f3, s5 j j1 j2]
  · rw [l7, f4, s6]
def drS (one : Int32) (t : drT) : Int32 := if one = -1 then t.2.1 else t.2.2.1
theorem drawMI {E : heT} {lz dn : Nat} {one x2 x6 : Int32} (hl : lz ≤ 12) (hdn : dn ≤ 28) (e1 : (x2 / 100) - (x2 / 100) / 100 * 100 = nI dn) (e2 : x2 - x2 / 100 * 100 = nI lz) {t : drT} {Q : Int32 → rfS → Prop} {kx : Int32 → Int32 → Int32 → Int32 → Int32 → rfS → Prop} : ∀ (f i : Nat) (m : rfS), heM m E → stM m E.1 (drI E lz one i t).2.2.2 → i ≤ dn → dn - i < f → (∀ m2, FrQ E.1 m m2 → heM m2 E → kx x2 one (drI E lz one dn t).1 (drS one (drI E lz one dn t)) x6 m2) → wl_X8_drawn_88 Q kx f x2 one (drI E lz one i t).1 (drS one (drI E lz one i t)) x6 (nI i) m := by
  intro f
  induction f with
  | zero => intro i m _ _ _ h; omega
  | succ f ih =>
    intro i m hE hst hi hf hk
    unfold wl_X8_drawn_88
    rw [e1, e2]
    refine ⟨fun q => ?_, fun q => ?_⟩
    · have := (nI_leI (by omega) (by omega)).mp q
      have e : i = dn := by omega
      subst e
      exact hk m (FrQ.rf _ m) hE
    · have hlt : i < dn := by
        rcases Nat.lt_or_ge i dn with z | z
        · exact z
        · exact absurd (nI_le z (by omega)) q
      rw [hE.2.1, u8_i, u16_i]
      generalize hz : (drI E lz one i t).1 * 1103515245 + 12345 = z
      have main : wj_X8_drawn_149 Q (wl_X8_drawn_88 Q kx f) x2 one z (drS one (drI E lz one i t)) x6 (nI i) (nI (whoN E.1 lz z)) m := by
        unfold wj_X8_drawn_149
        refine passM (E := E) hE hst (whoN_ok _ _ _) (fun m2 f2 t2 => ?_)
        have step := ih (i + 1) m2 (hE.Q f2) (by show stM m2 E.1 (dyS E (drI E lz one i t).2.2.2 (whoN E.1 lz ((drI E lz one i t).1 * 1103515245 + 12345))); rw [hz]; exact t2) (by omega) (by omega) (fun m3 f3 e3 => hk m3 (f2.tr f3) e3)
        have ez : (drI E lz one (i + 1) t).1 = z := hz
        have es : drS one (drI E lz one (i + 1) t) = if one = -1 then (drI E lz one i t).2.1 + dyD E (drI E lz one i t).2.2.2 (whoN E.1 lz z) else if nI (whoN E.1 lz z) = one then (drI E lz one i t).2.2.1 + 1 else (drI E lz one i t).2.2.1 := by
          rw [← hz]; rfl
        rw [ez, es] at step
        rw [nI_1]
        refine ⟨fun q1 => ⟨fun q2 => ?_, fun q2 => ?_⟩, fun q1 => ?_⟩
        · rw [if_neg q1, if_neg q2] at step
          rw [show drS one (drI E lz one i t) = (drI E lz one i t).2.2.1 from if_neg q1]
          exact step
        · rw [if_neg q1, if_pos q2] at step
          rw [show drS one (drI E lz one i t) = (drI E lz one i t).2.2.1 from if_neg q1]
          exact step
        · rw [if_pos q1] at step
          rw [show drS one (drI E lz one i t) = (drI E lz one i t).2.1 from if_pos q1]
          exact step
      have h16 := u16_lt z
      have h8 := u8_lt z
      have hn7 := hE.1
      unfold whoN at main
      by_cases h : E.1 = 0
      · rw [if_pos h] at main
        rw [h]
        unfold wj_X8_drawn_134
        exact ⟨fun _ => main, fun q => absurd rfl q⟩
      · have h0 : ¬ nI E.1 = 0 := nI_ne0 (by omega) (by omega)
        rw [if_neg h] at main
        rw [show (12 : Int32) = nI 12 from rfl, nI_mod (by omega) (by decide), nI_mod (by omega) (by omega)]
        have hm := Nat.mod_lt (u16 z) (show 12 > 0 by decide)
        refine ⟨fun q => absurd q h0, fun _ => ⟨fun q => ⟨h0, ?_⟩, fun q => ?_⟩⟩
        · rw [if_pos ((nI_leI (by omega) (by omega)).mp q)] at main; exact main
        · rw [if_neg (fun y => q (nI_le y (by omega)))] at main
          unfold wj_X8_drawn_134
          exact main
theorem drawMO {E : heT} {m0 : rfS} {lz dn ys : Nat} {one z x2 : Int32} {st : sdT} (hl : lz ≤ 12) (hdn : dn ≤ 28) (hys : ys ≤ 30) (e0 : x2 / 10000 = nI ys) (e1 : (x2 / 100) - (x2 / 100) / 100 * 100 = nI dn) (e2 : x2 - x2 / 100 * 100 = nI lz) (hE0 : heM m0 E) (h0 : stM m0 E.1 st) {Q : Int32 → rfS → Prop} (hq : ∀ m2, ScN m0 m2 → Q (drS one (drW E lz dn one z st ys)) m2) : ∀ (f y : Nat) (m : rfS), kep m0 m 24 → y ≤ ys → ys - y < f → wl_X8_drawn_75 Q f x2 one (drW E lz dn one z st y).1 (drS one (drW E lz dn one z st y)) (nI y) m := by
  intro f
  induction f with
  | zero => intro y m _ _ h; omega
  | succ f ih =>
    intro y m hs hy hf
    unfold wl_X8_drawn_75
    rw [e0]
    refine ⟨fun q => ?_, fun q => ?_⟩
    · have := (nI_leI (by omega) (by omega)).mp q
      have e : y = ys := by omega
      subst e
      exact hq m hs.2.2.2
    · have hlt : y < ys := by
        rcases Nat.lt_or_ge y ys with w | w
        · exact w
        · exact absurd (nI_le w (by omega)) q
      refine ⟨30, drawMI (E := E) (t := ((drW E lz dn one z st y).1, (drW E lz dn one z st y).2.1, (drW E lz dn one z st y).2.2.1, st)) hl hdn e1 e2 30 0 m (hE0.scn hs.2.2.2) (h0.fr hs.2.2.2.2.1 hs.2.2.2.2.2.1 hs.2.2.2.2.2.2.1) (by omega) (by omega) (fun m2 f2 e3 => ?_)⟩
      refine layM (by decide) (by decide) (fun m3 l3 => ?_)
      rw [nI_1]
      exact ih (y + 1) m3 (hs.think hE0.1 (by decide) f2 l3) (by omega) (by omega)
theorem op_drawn {n bs : Nat} {c m : rfS} (h : Rel n bs c m) (x1 x2 x3 : Int32) : wp_X7_drawn c x1 x2 x3 (fun r1 c2 => wp_X8_drawn m x1 x2 x3 (fun r2 m2 => r1 = r2 ∧ RelE c2 m2)) := by
  obtain ⟨lo, d, hd, ed, e1, e2, s1, s2⟩ := h.env
  have hn7 := h.1.1
  have hnC := h.1.2.1
  have hnM := h.1.2.2.1
  let fit : Prop := ¬ x2 < 0 ∧ (1 ≤ x2 / 10000 ∧ x2 / 10000 ≤ 30) ∧ (1 ≤ (x2 / 100) - (x2 / 100) / 100 * 100 ∧ (x2 / 100) - (x2 / 100) / 100 * 100 ≤ 28) ∧ (x2 - x2 / 100 * 100) ≤ 12 ∧ (x3 = -1 ∨ (0 ≤ x3 ∧ x3 < nI n))
  have mdl : ∀ Q : Int32 → rfS → Prop, (¬ fit → Q (-1) m) → (fit → wj_X8_drawn_58 Q x1 x2 x3 m) → wp_X8_drawn m x1 x2 x3 Q := by
    intro Q hb hg
    unfold wp_X8_drawn
    simp only [w_within, w_mOne, hnM, i_pred (n := n) (by omega), bI_0, Classical.not_not]
    exact ⟨fun q => hb (fun z => z.1 q), fun q1 => ⟨fun q => hb (fun z => q z.2.1), fun q2 => ⟨fun q => hb (fun z => q z.2.2.1), fun q3 => ⟨fun q => hb (fun z => absurd q (Int32.not_lt.mpr z.2.2.2.1)), fun q4 => ⟨fun q => hg ⟨q1, q2, q3, Int32.not_lt.mp q4, Or.inl q⟩, fun q => ⟨fun q5 => hg ⟨q1, q2, q3, Int32.not_lt.mp q4, Or.inr q5⟩, fun q5 => hb (fun z => z.2.2.2.2.elim q q5)⟩⟩⟩⟩⟩⟩
  have bad : ¬ fit → wp_X8_drawn m x1 x2 x3 (fun r2 m2 => -1 = r2 ∧ RelE c m2) := fun z => mdl _ (fun _ => ⟨rfl, n, bs, h⟩) (fun y => absurd y z)
  have main : (x3 = -1 ∨ (0 ≤ x3 ∧ x3 < nI n)) → ¬ x2 < 0 → wj_X7_drawn_22 (fun r1 c2 => wp_X8_drawn m x1 x2 x3 (fun r2 m2 => r1 = r2 ∧ RelE c2 m2)) x1 x2 x3 c := by
    intro h3 h2
    unfold wj_X7_drawn_22
    simp only [w_isWithin, bI_0, Classical.not_not]
    refine ⟨fun q => bad (fun z => q z.2.1), fun q2 => ⟨fun q => bad (fun z => q z.2.2.1), fun q3 => ⟨fun q4 => ?_, fun q => bad (fun z => q z.2.2.2.1)⟩⟩⟩
    obtain ⟨a, ha, rfl⟩ := nI_of h2
    have f0 : nI a / 10000 = nI (a / 10000) := nI_div ha (by decide)
    have f1 : (nI a / 100) - (nI a / 100) / 100 * 100 = nI (a / 100 % 100) := by
      rw [show (100 : Int32) = nI 100 from rfl, nI_div ha (by decide), nI_mod (by omega) (by decide)]
    have f2 : nI a - nI a / 100 * 100 = nI (a % 100) := nI_mod ha (by decide)
    have b0 : a / 10000 ≤ 30 := (nI_leI (b := 30) (by omega) (by decide)).mp (by rw [← f0]; exact q2.2)
    have b1 : a / 100 % 100 ≤ 28 := (nI_leI (b := 28) (by omega) (by decide)).mp (by rw [← f1]; exact q3.2)
    have b2 : a % 100 ≤ 12 := (nI_leI (b := 12) (by omega) (by decide)).mp (by rw [← f2]; exact q4)
    rw [f0, f1, f2]
    unfold wp_X6_draw
    have key : ∀ c2, ScC c c2 → ∀ v : Int32, v = drS x3 (drW (n, gF c 2, gF c 4, gF c 5, lo) (a % 100) (a / 100 % 100) x3 x1 (gF c 13, gF c 14, gI c 12 2, d) (a / 10000)) → wp_X8_drawn m x1 (nI a) x3 (fun r2 m2 => v = r2 ∧ RelE c2 m2) := by
      intro c2 g2 v hv
      refine mdl _ (fun z => absurd ⟨h2, q2, q3, q4, h3⟩ z) (fun _ => ?_)
      unfold wj_X8_drawn_58
      refine keepM (by decide) (by decide) (fun m2 km => ⟨32, ?_⟩)
      have L := drawMO (E := (n, gF c 2, gF c 4, gF c 5, lo)) (m0 := m) (st := (gF c 13, gF c 14, gI c 12 2, d)) (z := x1) (one := x3) b2 b1 b0 f0 f1 f2 e2 s2 (Q := fun r2 m2 => v = r2 ∧ RelE c2 m2) (fun m3 g3 => ⟨hv, n, bs, h.scn g2 g3⟩) 32 0 m2 (km.k (by decide)) (by omega) (by omega)
      rw [show drS x3 (drW (n, gF c 2, gF c 4, gF c 5, lo) (a % 100) (a / 100 % 100) x3 x1 (gF c 13, gF c 14, gI c 12 2, d) 0) = 0 from by unfold drS drW; split <;> rfl] at L
      exact L
    refine ⟨32, drawCO (E := (n, gF c 2, gF c 4, gF c 5, lo)) (c0 := c) (st := (gF c 13, gF c 14, gI c 12 2, d)) (z := x1) (one := x3) b2 b1 b0 s1 (fun c2 g2 => ⟨fun q => key c2 g2 _ (if_neg q).symm, fun q => key c2 g2 _ (if_pos q).symm⟩) 32 0 c e1 (ScC.rf c) (by omega) (by omega)⟩
  unfold wp_X7_drawn
  simp only [w_isOne, hnC, bI_0, Classical.not_not]
  exact ⟨fun q => bad (fun z => z.1 q), fun q1 => ⟨fun q => main (Or.inl q) q1, fun q => ⟨fun q2 => main (Or.inr q2) q1, fun q2 => bad (fun z => z.2.2.2.2.elim q q2)⟩⟩⟩

/-! week: the model, and both -/
def Dl : Nat → rfS → Int32 → Int32 → Int32 → (rfS → Prop) → Prop
  | 0 => fun _ _ _ _ _ => False
  | k + 1 => wp_X8_deals (Dl k)
theorem Dl_k : ∀ (k : Nat) (σ : rfS) (x1 x2 x3 : Int32) (Q : rfS → Prop), Dl k σ x1 x2 x3 Q → RM ΛM (1 + k) yX8_deals cX8_deals 5 none [.ref 0, .int x1, .int x2, .int x3] σ (qv Q)
  | 0, _, _, _, _, _, h => h.elim
  | k + 1, σ, x1, x2, x3, Q, h => k_X8_deals (d := 1 + k) (Dl_k k) (by omega) h
def inD (wn : Nat → Int32) (n : Nat) (T : Nat → Nat) (d : Nat) (m : rfS) : Prop := gI m 0 0 = nI n ∧ (∀ p, p < n → gF m 1 p = wn p) ∧ ∀ j, j < d → gF m 25 j = nI (T j)
def mlD (m : rfS) (B : dlB) : Prop := gI m 0 40 = eI B.1 ∧ (-1 ≤ B.1 ∧ B.1 ≤ 7) ∧ (0 ≤ B.1 → ∀ j, j < 7 → gF m 26 j = nI (B.2 j))
theorem dealL {T : Nat → Nat} {κ : rfS → Int32 → Int32 → Int32 → (rfS → Prop) → Prop} {Q : rfS → Prop} : ∀ (f k : Nat) (m : rfS), (∀ j, j < 7 → gF m 25 j = nI (T j)) → (∀ j, j < k → gF m 26 j = nI (T j)) → k ≤ 7 → 7 - k < f → (∀ m2, (∀ j, j < 7 → gF m2 26 j = nI (T j)) → (∀ q, q ≠ 26 → gF m2 q = gF m q) → (∀ q, gI m2 q = gI m q) → (∀ q, gL m2 q = gL m q) → Q m2) → wl_X8_deals_23 κ Q f (nI k) m := by
  intro f
  induction f with
  | zero => intro k m _ _ _ h; omega
  | succ f ih =>
    intro k m h25 h26 hk hf hq
    unfold wl_X8_deals_23
    refine ⟨fun q => ?_, fun q => ?_⟩
    · have := (nI_leI (a := 7) (by omega) (by omega)).mp q
      exact hq m (fun j hj => h26 j (by omega)) (fun _ _ => rfl) (fun _ => rfl) (fun _ => rfl)
    · have hlt : k < 7 := by
        rcases Nat.lt_or_ge k 7 with z | z
        · exact z
        · exact absurd (nI_le (a := 7) z (by omega)) q
      rw [cl k, nI_1]
      refine ⟨vin (by omega), vin (by omega), ih (k + 1) _ (fun j hj => ?_) (fun j hj => ?_) (by omega) (by omega) (fun m2 a1 a2 a3 a4 => hq m2 a1 (fun q hq => ?_) (fun q => ?_) (fun q => ?_))⟩
      · rw [gF_sFn (by decide)]; exact h25 j hj
      · by_cases z : j = k
        · rw [z, gF_sFs]; exact h25 k hlt
        · rw [gF_sFi z]; exact h26 j (by omega)
      · rw [a2 q hq, gF_sF_ne hq]
      · rw [a3 q]; rfl
      · rw [a4 q]; rfl
theorem dealM {wn : Nat → Int32} {n : Nat} {m0 : rfS} (hn : n ≤ 7) : ∀ (r : Nat) (k d S : Nat) (many : Int) (T : Nat → Nat) (B : dlB) (m : rfS) (Q : rfS → Prop), r < k → d + r = 7 → S < 2 ^ n → 0 ≤ many → many ≤ (d : Int) → inD wn n T d m → mlD m B → ScN m0 m → (∀ m2, ScN m0 m2 → inD wn n T d m2 → mlD m2 (dlR wn n r S many T d B) → Q m2) → Dl k m (nI d) (nI S) (eI many) Q := by
  intro r
  induction r with
  | zero =>
    intro k d S many T B m Q hk hd hS hm0 hm1 hi hB hs hq
    obtain ⟨k, rfl⟩ : ∃ k', k = k' + 1 := ⟨k - 1, by omega⟩
    have e : d = 7 := by omega
    subst e
    show wp_X8_deals (Dl k) m (nI 7) (nI S) (eI many) Q
    unfold wp_X8_deals
    obtain ⟨b1, b2, b3⟩ := hB
    have lt := eI_lt (a := B.1) (b := many) (by omega) (by omega) (by omega) (by omega)
    rw [b1]
    refine ⟨fun z => absurd rfl z, fun _ => ⟨fun q => ⟨8, ?_⟩, fun q => hq m hs hi ?_⟩⟩
    · have hlt := lt.mp q
      refine dealL (T := T) 8 0 _ hi.2.2 (fun j hj => by omega) (by omega) (by omega) (fun m2 a1 a2 a3 a4 => ?_)
      have sn : ScN m m2 := ⟨fun q q1 q2 q3 q4 q5 => a2 q (by omega), fun j => by rw [a2 1 (by decide)]; rfl, by rw [a2 2 (by decide)]; rfl, by rw [a2 2 (by decide)]; rfl, fun j j1 j2 => by rw [a3, gI_sIj j1], fun q => a4 q⟩
      refine hq m2 (hs.tr sn) ⟨by rw [sn.2.2.2.2.1 0 (by decide) (by decide)]; exact hi.1, fun p hp => by rw [sn.2.1]; exact hi.2.1 p hp, fun j hj => by rw [a2 25 (by decide)]; exact hi.2.2 j hj⟩ ?_
      unfold dlR
      rw [show mz wn n 0 S = 0 from rfl, Int.add_zero, if_pos hlt]
      exact ⟨by rw [a3, gI_sIs], by show -1 ≤ many ∧ many ≤ 7; omega, fun _ j hj => by show gF m2 26 j = nI (if j < 7 then T j else pz wn n 0 S (j - 7)); rw [if_pos hj]; exact a1 j hj⟩
    · unfold dlR
      rw [show mz wn n 0 S = 0 from rfl, Int.add_zero, if_neg (fun z => q (lt.mpr z))]
      exact ⟨b1, b2, b3⟩
  | succ r ih =>
    intro k d S many T B m Q hk hd hS hm0 hm1 hi hB hs hq
    obtain ⟨k, rfl⟩ : ∃ k', k = k' + 1 := ⟨k - 1, by omega⟩
    have hd6 : d = 6 - r := by omega
    have p128 := p2n hn
    show wp_X8_deals (Dl k) m (nI d) (nI S) (eI many) Q
    unfold wp_X8_deals
    have ne7 : ¬ nI d = 7 := fun z => by have := (nI_eq (b := 7) (by omega) (by decide)).mp z; omega
    refine ⟨fun _ => ⟨9, ?_⟩, fun z => absurd z ne7⟩
    -- setting tried
    have setT : ∀ (m : rfS) (w : Nat) (B : dlB), inD wn n T d m → mlD m B → ScN m0 m → inD wn n (up1 T d w) (d + 1) (sF m 25 d (nI w)) ∧ mlD (sF m 25 d (nI w)) B ∧ ScN m0 (sF m 25 d (nI w)) := by
      intro m w B hi hB hs
      have s1 : ScN m (sF m 25 d (nI w)) := ⟨fun q _ _ _ _ q5 => gF_sF_ne (by omega), fun j => by rw [gF_sFn (by decide)], by rw [gF_sFn (by decide)], by rw [gF_sFn (by decide)], fun _ _ _ => rfl, fun _ => rfl⟩
      refine ⟨⟨hi.1, fun p hp => by rw [gF_sFn (by decide)]; exact hi.2.1 p hp, fun j hj => ?_⟩, ⟨hB.1, hB.2.1, fun z j hj => by rw [gF_sFn (by decide)]; exact hB.2.2 z j hj⟩, hs.tr s1⟩
      by_cases z : j = d
      · rw [z, gF_sFs, show up1 T d w d = w from if_pos rfl]
      · rw [gF_sFi z, show up1 T d w j = T j from if_neg z]; exact hi.2.2 j (by omega)
    have back : ∀ (m : rfS) (w : Nat), inD wn n (up1 T d w) (d + 1) m → inD wn n T d m := fun m w h => ⟨h.1, h.2.1, fun j hj => by
      have := h.2.2 j (by omega)
      rw [show up1 T d w j = T j from if_neg (by omega)] at this
      exact this⟩
    have loop : ∀ (f p : Nat) (m : rfS), p ≤ n → n - p < f → inD wn n T d m → mlD m (dlK wn n r S many T d B p) → ScN m0 m → wl_X8_deals_54 (Dl k) Q (fun (x1_11 : Int32) (x2_12 : Int32) (x3_13 : Int32) (σ14 : rfS) => vp_in x1_11 7 ∧ Dl k (sF σ14 25 (x1_11.toNatClampNeg) 7) (x1_11 + 1) x2_12 x3_13 (fun (σ16 : rfS) => Q σ16)) f (nI d) (nI S) (eI many) (nI p) m := by
      intro f
      induction f with
      | zero => intro p m _ h; omega
      | succ f ihf =>
        intro p m hp hf hi hB hs
        unfold wl_X8_deals_54
        rw [hi.1]
        refine ⟨fun q => ?_, fun q => ?_⟩
        · have := (nI_leI (by omega) (by omega)).mp q
          have e : p = n := by omega
          subst e
          rw [cl d, nI_1]
          obtain ⟨i2, b2, s2⟩ := setT m 7 _ hi hB hs
          refine ⟨vin (by omega), ih k (d + 1) S many (up1 T d 7) _ _ _ (by omega) (by omega) hS hm0 (by omega) i2 b2 s2 (fun m9 f9 i9 b9 => hq m9 f9 (back m9 7 i9) ?_)⟩
          rw [dl_step hn hd6] at b9
          exact b9
        · have hlt : p < n := by
            rcases Nat.lt_or_ge p n with z | z
            · exact z
            · exact absurd (nI_le z (by omega)) q
          rw [w_has, nI_1, bI_0, Classical.not_not]
          have skip : ¬ mayT wn d S p → wl_X8_deals_54 (Dl k) Q (fun (x1_11 : Int32) (x2_12 : Int32) (x3_13 : Int32) (σ14 : rfS) => vp_in x1_11 7 ∧ Dl k (sF σ14 25 (x1_11.toNatClampNeg) 7) (x1_11 + 1) x2_12 x3_13 (fun (σ16 : rfS) => Q σ16)) f (nI d) (nI S) (eI many) (nI (p + 1)) m := by
            intro z
            refine ihf (p + 1) m (by omega) (by omega) hi ?_ hs
            rw [show dlK wn n r S many T d B (p + 1) = dlK wn n r S many T d B p from if_neg z]
            exact hB
          refine ⟨fun z => skip (fun y => z y.2), fun z => ?_⟩
          rw [w_wants (by omega), bI_0, Classical.not_not, hi.2.1 p hlt]
          refine ⟨fun z2 => ?_, fun z2 => skip (fun y => y.1 (Classical.not_not.mp z2))⟩
          have may : mayT wn d S p := ⟨z2, Classical.not_not.mp z⟩
          rw [cl d, nI_1, sh1 (by omega), nx_or, show (1 : Int32) = eI 1 from rfl, eI_add]
          obtain ⟨i2, b2, s2⟩ := setT m p _ hi hB hs
          refine ⟨vin (by omega), ih k (d + 1) (S ||| 2 ^ p) (many + 1) (up1 T d p) _ _ _ (by omega) (by omega) (or_lt hS hlt) (by omega) (by omega) i2 b2 s2 (fun m9 f9 i9 b9 => ihf (p + 1) m9 (by omega) (by omega) (back m9 p i9) ?_ f9)⟩
          rw [show dlK wn n r S many T d B (p + 1) = dlR wn n r (S ||| 2 ^ p) (many + 1) (up1 T d p) (d + 1) (dlK wn n r S many T d B p) from if_pos may]
          exact b9
    exact loop 9 0 m (by omega) (by omega) hi hB hs
theorem op_week {n bs : Nat} {c m : rfS} (h : Rel n bs c m) (x1 : Int32) : wp_X7_week c x1 (fun r1 c2 => wp_X8_week (Dl 8) m x1 (fun r2 m2 => r1 = r2 ∧ RelE c2 m2)) := by
  obtain ⟨lo, d, hd, ed, e1, e2, s1, s2⟩ := h.env
  have hn7 := h.1.1
  have hnC := h.1.2.1
  have hnM := h.1.2.2.1
  unfold wp_X7_week wp_X8_week
  simp only [w_isWithin, w_within, bI_0, Classical.not_not]
  refine ⟨fun q => ⟨fun z => absurd z q, fun _ => ⟨by simp, n, bs, h⟩⟩, fun g => ?_⟩
  have mdl : ∀ Q : rfS → Prop, (∀ m2, ScN m m2 → gI m2 0 40 = eI (mz (gF c 2) n 7 0) → (∀ j, j < 7 → gF m2 26 j = nI (pz (gF c 2) n 7 0 j)) → Q m2) → Dl 8 (sI m 0 40 (-1)) 0 0 0 Q := by
    intro Q hq
    have sn : ScN m (sI m 0 40 (-1)) := ⟨fun _ _ _ _ _ _ => rfl, fun _ => rfl, rfl, rfl, fun j j1 j2 => by rw [gI_sIj j1], fun _ => rfl⟩
    refine dealM (wn := gF c 2) (n := n) (m0 := m) hn7 7 8 0 0 0 (fun _ => 0) (-1, fun _ => 0) (sI m 0 40 (-1)) Q (by omega) (by omega) (Nat.two_pow_pos _) (by omega) (by omega) ⟨by rw [gI_sIj (by decide)]; exact hnM, fun p hp => e2.2.2.1 p hp, fun j hj => by omega⟩ ⟨gI_sIs, by decide, fun z => absurd z (by decide)⟩ sn (fun m2 f2 i2 b2 => ?_)
    have mb := mz_b (gF c 2) n hn7 7 0
    unfold dlR at b2
    rw [if_pos (show (-1 : Int) < 0 + mz (gF c 2) n 7 0 by omega), Int.zero_add] at b2
    refine hq m2 f2 b2.1 (fun j hj => ?_)
    have := b2.2.2 (show 0 ≤ mz (gF c 2) n 7 0 from mb.1) j hj
    exact this
  refine dealC (wn := gF c 2) hn7 hnC (fun _ _ => rfl) h.2.2.2.2.2.2.2.2.2 g (fun q c2 f2 => ⟨fun _ => mdl _ (fun m2 f3 v1 v2 => ⟨fun z => absurd q z, fun _ => ⟨v1.symm, n, bs, (h.wk f2).scn (ScC.rf c2) f3⟩⟩), fun z => absurd g z⟩) (fun D hD q c2 f2 => ?_)
  subst q
  refine ⟨fun _ => mdl _ (fun m2 f3 v1 v2 => ⟨fun _ => ⟨vin (by omega), ?_, n, bs, (h.wk f2).scn (ScC.rf c2) f3⟩, fun z => ?_⟩), fun z => absurd g z⟩
  · rw [cl D, v2 D (by omega)]
    have := pz_sv (wn := gF c 2) (n := n) D 0 (by omega)
    rw [Nat.zero_add] at this
    rw [← this]
    rfl
  · exfalso
    rw [i_eq, nI_toInt (by omega), show ((-1 : Int32)).toInt = -1 from by decide] at z
    omega

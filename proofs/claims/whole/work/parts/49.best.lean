/-! bestRota -/
def Sk : Nat → rfS → Int32 → Int32 → Int32 → (rfS → Prop) → Prop
  | 0 => fun _ _ _ _ _ => False
  | k + 1 => wp_X6_seekFrom (Sk k)
theorem Sk_k : ∀ (k : Nat) (σ : rfS) (x1 x2 x3 : Int32) (Q : rfS → Prop), Sk k σ x1 x2 x3 Q → RM ΛC (3 + k) yX6_seekFrom cX6_seekFrom 5 none [.ref 20, .int x1, .int x2, .int x3] σ (qv Q)
  | 0, _, _, _, _, _, h => h.elim
  | k + 1, σ, x1, x2, x3, Q, h => k_X6_seekFrom (d := 3 + k) (Sk_k k) (by omega) h
def Tr : Nat → rfS → Int32 → Int32 → (rfS → Prop) → Prop
  | 0 => fun _ _ _ _ => False
  | k + 1 => wp_X8_tries (Tr k)
theorem Tr_k : ∀ (k : Nat) (σ : rfS) (x1 x2 : Int32) (Q : rfS → Prop), Tr k σ x1 x2 Q → RM ΛM (4 + k) yX8_tries cX8_tries 6 none [.ref 0, .int x1, .int x2] σ (qv Q)
  | 0, _, _, _, _, h => h.elim
  | k + 1, σ, x1, x2, Q, h => k_X8_tries (d := 4 + k) (Tr_k k) (by omega) h
abbrev bsT : Type := Bool × Int32 × Int32 × (Nat → Nat)
def bsW (B : bsT) (dn ow : Int32) (W : Nat → Nat) : bsT := if B.1 = false ∨ B.2.1 < dn ∨ (dn = B.2.1 ∧ ow < B.2.2.1) then (true, dn, ow, W) else B
def up1 (W : Nat → Nat) (i w : Nat) : Nat → Nat := fun j => if j = i then w else W j
def skL (F : Nat → bsT → bsT) : Nat → bsT → bsT
  | 0, B => B
  | k + 1, B => F k (skL F k B)
def skF (E : heT) (st : sdT) (t : Nat) : Nat → (Nat → Nat) → bsT → bsT
  | 0, W, B => bsW B (itD E W st t) (smF (itS E W st t).1 E.1) W
  | r + 1, W, B => skL (fun p B => skF E st t r (up1 W (t - (r + 1)) (if p < E.1 then p else 7)) B) (E.1 + 1) B
theorem bsW_has (B : bsT) (dn ow : Int32) (W : Nat → Nat) : (bsW B dn ow W).1 = true := by
  unfold bsW
  by_cases h : B.1 = false ∨ B.2.1 < dn ∨ (dn = B.2.1 ∧ ow < B.2.2.1)
  · rw [if_pos h]
  · rw [if_neg h]
    cases e : B.1
    · exact absurd (Or.inl e) h
    · rfl
theorem skF_has (E : heT) (st : sdT) (t : Nat) : ∀ r W B, (skF E st t r W B).1 = true
  | 0, W, B => bsW_has _ _ _ _
  | r + 1, W, B => skF_has E st t r _ _
theorem itS_up {E : heT} {W : Nat → Nat} {st : sdT} {i w : Nat} : ∀ j, j ≤ i → itS E (up1 W i w) st j = itS E W st j ∧ itD E (up1 W i w) st j = itD E W st j
  | 0, _ => ⟨rfl, rfl⟩
  | j + 1, h => by
    obtain ⟨a, b⟩ := itS_up (E := E) (W := W) (st := st) (i := i) (w := w) j (by omega)
    have e : up1 W i w j = W j := if_neg (by omega)
    exact ⟨by show dyS E (itS E (up1 W i w) st j) (up1 W i w j) = _; rw [a, e]; rfl, by show itD E (up1 W i w) st j + dyD E (itS E (up1 W i w) st j) (up1 W i w j) = _; rw [a, b, e]; rfl⟩
theorem itS_at {E : heT} {W : Nat → Nat} {st : sdT} {i w : Nat} : itS E (up1 W i w) st (i + 1) = dyS E (itS E W st i) w ∧ itD E (up1 W i w) st (i + 1) = itD E W st i + dyD E (itS E W st i) w := by
  obtain ⟨a, b⟩ := itS_up (E := E) (W := W) (st := st) (i := i) (w := w) i (Nat.le_refl _)
  have e : up1 W i w i = w := if_pos rfl
  exact ⟨by show dyS E (itS E (up1 W i w) st i) (up1 W i w i) = _; rw [a, e], by show itD E (up1 W i w) st i + dyD E (itS E (up1 W i w) st i) (up1 W i w i) = _; rw [a, b, e]⟩
theorem clV_n (x : Int32) : ∃ k, k ≤ 20 ∧ clV x = nI k := by
  unfold clV
  by_cases h : x < 20
  · rw [if_pos h]
    by_cases h2 : 0 < x
    · rw [if_pos h2]
      obtain ⟨a, ha, e⟩ := i_ix (n := 20) (by decide) (Int32.le_of_lt h2) h
      exact ⟨a, by omega, e⟩
    · rw [if_neg h2]; exact ⟨0, by omega, rfl⟩
  · rw [if_neg h, if_pos (by decide)]; exact ⟨20, by omega, rfl⟩
theorem dyD_n (E : heT) (s : sdT) (w : Nat) : ∃ k, k ≤ 20 ∧ dyD E s w = nI k := by
  unfold dyD
  by_cases h : w < E.1
  · rw [if_pos h]; exact clV_n _
  · rw [if_neg h]; exact ⟨0, by omega, rfl⟩
theorem itD_n (E : heT) (W : Nat → Nat) (s : sdT) : ∀ k, ∃ x, x ≤ 20 * k ∧ itD E W s k = nI x
  | 0 => ⟨0, by omega, rfl⟩
  | k + 1 => by
    obtain ⟨x, hx, e⟩ := itD_n E W s k
    obtain ⟨y, hy, e2⟩ := dyD_n E (itS E W s k) (W k)
    exact ⟨x + y, by omega, by show itD E W s k + dyD E (itS E W s k) (W k) = _; rw [e, e2, nI_add]⟩
def clB (t : Nat) (c : rfS) (B : bsT) : Prop := (B.1 = false ∧ gI c 20 7 = 0) ∨ (B.1 = true ∧ gI c 20 7 = 1 ∧ gI c 20 0 = B.2.1 ∧ gI c 20 1 = B.2.2.1 ∧ ∀ j, j < t → gF c 21 j = nI (B.2.2.2 j))
def mlB (t : Nat) (m : rfS) (B : bsT) : Prop := (B.1 = false ∧ gI m 0 40 = -1) ∨ (B.1 = true ∧ gI m 0 40 = B.2.1 ∧ gI m 0 41 = B.2.2.1 ∧ ∀ j, j < t → gF m 26 j = nI (B.2.2.2 j))
theorem clB.fr {t : Nat} {c c2 : rfS} {B : bsT} (h : clB t c B) (h1 : gI c2 20 = gI c 20) (h2 : gF c2 21 = gF c 21) : clB t c2 B := by
  unfold clB; rw [h1, h2]; exact h
theorem mlB.fr {t : Nat} {m m2 : rfS} {B : bsT} (h : mlB t m B) (h1 : gI m2 0 40 = gI m 0 40) (h2 : gI m2 0 41 = gI m 0 41) (h3 : gF m2 26 = gF m 26) : mlB t m2 B := by
  unfold mlB; rw [h1, h2, h3]; exact h
def inC (E : heT) (st : sdT) (W : Nat → Nat) (i : Nat) (c : rfS) : Prop := heC c E ∧ (∀ j, j ≤ i → stC c (26 + 3 * j) E.1 (itS E W st j)) ∧ ∀ j, j < i → gF c 23 j = nI (W j)
theorem isSt_n {j : Nat} (h : j < 6) : isSt (26 + 3 * j) := by
  have : j = 0 ∨ j = 1 ∨ j = 2 ∨ j = 3 ∨ j = 4 ∨ j = 5 := by omega
  unfold isSt
  rcases this with rfl | rfl | rfl | rfl | rfl | rfl <;> decide
theorem stC.fr {c c2 : rfS} {a n : Nat} {s : sdT} (h : stC c a n s) (h1 : gF c2 (a + 1) = gF c (a + 1)) (h2 : gF c2 (a + 2) = gF c (a + 2)) (h3 : gI c2 a = gI c a) : stC c2 a n s := by
  unfold stC; rw [h1, h2, h3]; exact h
theorem weighC {E : heT} {st : sdT} {W : Nat → Nat} {t : Nat} {B : bsT} {c : rfS} (ht : t ≤ 4) (hi : inC E st W t c) (hB : clB t c B) {Q : rfS → Prop} (hq : ∀ c2, ScC c c2 → inC E st W t c2 → clB t c2 (bsW B (itD E W st t) (smF (itS E W st t).1 E.1) W) → Q c2) : wp_X6_weigh c (nI t) (itD E W st t) Q := by
  obtain ⟨h1, h2, h3⟩ := hi
  unfold wp_X6_weigh
  rw [cl t, h1.2.1]
  refine ⟨vin (by omega), sumC h1.1 (h2 t (Nat.le_refl _)) ?_⟩
  have keepB : ¬ (B.1 = false ∨ B.2.1 < itD E W st t ∨ (itD E W st t = B.2.1 ∧ smF (itS E W st t).1 E.1 < B.2.2.1)) → Q c := by
    intro q
    refine hq c (ScC.rf c) ⟨h1, h2, h3⟩ ?_
    unfold bsW; rw [if_neg q]; exact hB
  have takeB : (B.1 = false ∨ B.2.1 < itD E W st t ∨ (itD E W st t = B.2.1 ∧ smF (itS E W st t).1 E.1 < B.2.2.1)) → wj_X6_weigh_48 Q (nI t) (itD E W st t) (smF (itS E W st t).1 E.1) c := by
    intro q
    unfold wj_X6_weigh_48 wj_X6_weigh_53
    rw [cl t]
    refine ⟨fun z => absurd z (by decide), fun _ => ⟨nI_pos (by omega), by omega, by omega, hq _ ⟨fun q _ _ _ q4 => ?_, fun q hq => ?_, fun _ => rfl⟩ ⟨?_, fun j hj => ?_, fun j hj => ?_⟩ ?_⟩⟩
    · rw [gF_cF_ne (by omega)]; rfl
    · rw [gI_cF_f, gI_sI_ne (by omega), gI_sI_ne (by omega), gI_sI_ne (by omega)]
    · exact h1.fr (by rw [gI_cF_f, gI_sI_ne (by omega), gI_sI_ne (by omega), gI_sI_ne (by omega)]) (gF_cF_ne (by omega)) (gF_cF_ne (by omega)) (gF_cF_ne (by omega)) (by rw [gI_cF_f, gI_sI_ne (by omega), gI_sI_ne (by omega), gI_sI_ne (by omega)]) (gF_cF_ne (by omega))
    · exact (h2 j hj).fr (gF_cF_ne (by omega)) (gF_cF_ne (by omega)) (by rw [gI_cF_f, gI_sI_ne (by omega), gI_sI_ne (by omega), gI_sI_ne (by omega)])
    · rw [gF_cF_ne (by omega)]; exact h3 j hj
    · unfold bsW
      rw [if_pos q]
      refine Or.inr ⟨rfl, ?_, ?_, ?_, fun j hj => ?_⟩
      · rw [gI_cF_f, gI_sIj (by decide), gI_sIj (by decide), gI_sIs]
      · rw [gI_cF_f, gI_sIj (by decide), gI_sIs]
      · rw [gI_cF_f, gI_sIs]
      · rw [gF_cF, if_pos ⟨rfl, by omega, by omega⟩, Nat.sub_zero, Nat.zero_add]
        exact h3 j hj
  have notB : ¬ (B.1 = false ∨ B.2.1 < itD E W st t ∨ (itD E W st t = B.2.1 ∧ smF (itS E W st t).1 E.1 < B.2.2.1)) → wj_X6_weigh_52 Q (nI t) (itD E W st t) (smF (itS E W st t).1 E.1) c := by
    intro q
    unfold wj_X6_weigh_52 wj_X6_weigh_53
    exact ⟨fun _ => keepB q, fun z => absurd rfl z⟩
  rcases hB with ⟨b1, b2⟩ | ⟨b1, b2, b3, b4, b5⟩
  · rw [b2]
    exact ⟨fun _ => takeB (Or.inl b1), fun z => absurd rfl z⟩
  · rw [b2, b3, b4]
    refine ⟨fun z => absurd z (by decide), fun _ => ⟨fun q => takeB (Or.inr (Or.inl q)), fun q => ⟨fun q2 => notB (fun z => ?_), fun q2 => ⟨fun q3 => notB (fun z => ?_), fun q3 => takeB (Or.inr (Or.inr ⟨q2, Int32.not_le.mp q3⟩))⟩⟩⟩⟩
    · rcases z with z | z | z
      · rw [b1] at z; exact absurd z (by decide)
      · exact q z
      · exact q2 z.1
    · rcases z with z | z | z
      · rw [b1] at z; exact absurd z (by decide)
      · exact q z
      · exact absurd z.2 (Int32.not_lt.mpr q3)
theorem seekC {E : heT} {st : sdT} {t : Nat} {c0 : rfS} (ht : t ≤ 4) : ∀ (r : Nat) (k i : Nat) (W : Nat → Nat) (B : bsT) (c : rfS) (Q : rfS → Prop), r < k → i + r = t → inC E st W i c → clB t c B → ScC c0 c → (∀ c2, ScC c0 c2 → inC E st W i c2 → clB t c2 (skF E st t r W B) → Q c2) → Sk k c (nI i) (nI t) (itD E W st i) Q := by
  intro r
  induction r with
  | zero =>
    intro k i W B c Q hk hir hi hB hs hq
    obtain ⟨k, rfl⟩ : ∃ k', k = k' + 1 := ⟨k - 1, by omega⟩
    have e : i = t := by omega
    subst e
    show wp_X6_seekFrom (Sk k) c (nI i) (nI i) (itD E W st i) Q
    unfold wp_X6_seekFrom
    exact ⟨fun z => absurd z (nI_nlt (Nat.le_refl _) (by omega)), fun _ => weighC ht hi hB (fun c2 f2 i2 b2 => hq c2 (hs.tr f2) i2 b2)⟩
  | succ r ih =>
    intro k i W B c Q hk hir hi hB hs hq
    obtain ⟨k, rfl⟩ : ∃ k', k = k' + 1 := ⟨k - 1, by omega⟩
    show wp_X6_seekFrom (Sk k) c (nI i) (nI t) (itD E W st i) Q
    unfold wp_X6_seekFrom
    refine ⟨fun _ => ⟨9, ?_⟩, fun z => absurd (nI_lt (by omega) (by omega)) z⟩
    have et : t - (r + 1) = i := by omega
    have hn7 := hi.1.1
    have loop : ∀ (f p : Nat) (c : rfS), p ≤ E.1 + 1 → E.1 + 1 - p < f → inC E st W i c → clB t c (skL (fun p B => skF E st t r (up1 W (t - (r + 1)) (if p < E.1 then p else 7)) B) p B) → ScC c0 c → wl_X6_seekFrom_15 (Sk k) Q f (nI i) (nI t) (itD E W st i) (nI p) c := by
      intro f
      induction f with
      | zero => intro p c _ h; omega
      | succ f ihf =>
        intro p c hp hf hi hB hs
        obtain ⟨h1, h2, h3⟩ := id hi
        unfold wl_X6_seekFrom_15
        rw [h1.2.1]
        have body : wj_X6_seekFrom_51 (Sk k) Q (wl_X6_seekFrom_15 (Sk k) Q f) (nI i) (nI t) (itD E W st i) (nI p) (nI (if p < E.1 then p else 7)) (nI i) c ∨ ¬ p ≤ E.1 := by
          by_cases hpn : p ≤ E.1
          · refine Or.inl ?_
            generalize hw : (if p < E.1 then p else 7) = w
            have wok : w < E.1 ∨ w = 7 := by
              rw [← hw]
              by_cases z : p < E.1
              · rw [if_pos z]; exact Or.inl z
              · rw [if_neg z]; exact Or.inr rfl
            unfold wj_X6_seekFrom_51
            rw [nI_1, nI_1, cl i, cl (i + 1), h1.2.1]
            have s1 : ScC c (sF c 23 i (nI w)) := ⟨fun q _ _ _ q4 => gF_sF_ne (by omega), fun _ _ => rfl, fun _ => rfl⟩
            have hd : 26 + 3 * i + 2 ≠ 26 + 3 * (i + 1) + 1 := by omega
            have s2 : ScC (sF c 23 i (nI w)) (cpC (sF c 23 i (nI w)) (26 + 3 * (i + 1)) (26 + 3 * i) E.1) := ScC.cp _ hd (by omega)
            have e2 : heC (sF c 23 i (nI w)) E := h1.fr rfl (gF_sF_ne (by decide)) (gF_sF_ne (by decide)) (gF_sF_ne (by decide)) rfl (gF_sF_ne (by decide))
            have t2 : stC (sF c 23 i (nI w)) (26 + 3 * i) E.1 (itS E W st i) := (h2 i (Nat.le_refl _)).fr (gF_sF_ne (by omega)) (gF_sF_ne (by omega)) rfl
            obtain ⟨k1, k2, k3⟩ := cpC_fr (sF c 23 i (nI w)) (a0 := 26 + 3 * (i + 1)) (a1 := 26 + 3 * i) (k := E.1) hd
            refine ⟨vin (by omega), vin (by omega), vin (by omega), copyC hn7 ⟨vin (by omega), vin (by omega), ?_⟩⟩
            have r23 : gF (cpC (sF c 23 i (nI w)) (26 + 3 * (i + 1)) (26 + 3 * i) E.1) 23 i = nI w := by rw [k1 23 (by omega) (by omega), gF_sFs]
            rw [r23]
            refine passC (E := E) (isSt_n (j := i + 1) (by omega)) (e2.cp (isSt_n (j := i + 1) (by omega)) hd) (t2.cp hd) wok (fun c7 f7 t7 => ?_)
            have s3 : ScC (cpC (sF c 23 i (nI w)) (26 + 3 * (i + 1)) (26 + 3 * i) E.1) c7 := ScC.P (by omega) f7
            have sAll : ScC c c7 := s1.tr (s2.tr s3)
            -- cells that stay
            have stay : ∀ q, q ≠ 26 + 3 * (i + 1) + 1 → q ≠ 26 + 3 * (i + 1) + 2 → q ≠ 8 → q ≠ 11 → q ≠ 23 → gF c7 q = gF c q := fun q a b d e g => by rw [f7.1 q a b d e, k1 q a b, gF_sF_ne g]
            have stayI : ∀ q, q ≠ 26 + 3 * (i + 1) → gI c7 q = gI c q := fun q a => by rw [f7.2.1 q a, k2 q a]; rfl
            obtain ⟨a1, a2⟩ := itS_at (E := E) (W := W) (st := st) (i := i) (w := w)
            have in7 : inC E st (up1 W i w) (i + 1) c7 := by
              refine ⟨(e2.cp (isSt_n (j := i + 1) (by omega)) hd).P (isSt_n (j := i + 1) (by omega)) f7, fun j hj => ?_, fun j hj => ?_⟩
              · by_cases z : j = i + 1
                · rw [z, a1]; exact t7
                · rw [(itS_up j (by omega)).1]
                  exact (h2 j (by omega)).fr (stay _ (by omega) (by omega) (by omega) (by omega) (by omega)) (stay _ (by omega) (by omega) (by omega) (by omega) (by omega)) (stayI _ (by omega))
              · rw [f7.1 23 (by omega) (by omega) (by omega) (by omega), k1 23 (by omega) (by omega)]
                by_cases z : j = i
                · rw [z, gF_sFs]; show nI w = nI (up1 W i w i); rw [show up1 W i w i = w from if_pos rfl]
                · rw [gF_sFi z]; show gF c 23 j = nI (up1 W i w j); rw [show up1 W i w j = W j from if_neg z]; exact h3 j (by omega)
            have b7 := hB.fr (stayI 20 (by omega)) (stay 21 (by omega) (by omega) (by omega) (by omega) (by omega))
            have recd := ih k (i + 1) (up1 W i w) _ c7 (fun c9 => wl_X6_seekFrom_15 (Sk k) Q f (nI i) (nI t) (itD E W st i) (nI (p + 1)) c9) (by omega) (by omega) in7 b7 (hs.tr sAll) (fun c9 f9 i9 b9 => by
              refine ihf (p + 1) c9 (by omega) (by omega) ⟨i9.1, fun j hj => ?_, fun j hj => ?_⟩ ?_ f9
              · have := i9.2.1 j (by omega)
                rw [(itS_up j (by omega)).1] at this
                exact this
              · have := i9.2.2 j (by omega)
                rw [show up1 W i w j = W j from if_neg (by omega)] at this
                exact this
              · show clB t c9 (skF E st t r (up1 W (t - (r + 1)) (if p < E.1 then p else 7)) _)
                rw [et, hw]
                rw [et] at b9
                exact b9)
            rw [a2] at recd
            exact recd
          · exact Or.inr hpn
        refine ⟨fun q => ?_, fun q => ⟨fun q2 => ?_, fun q2 => ?_⟩⟩
        · have hlt := (nI_ltI (by omega) (by omega)).mp q
          have e : p = E.1 + 1 := by omega
          subst e
          exact hq c hs hi hB
        · have h1' := (nI_leI (by omega) (by omega)).mp q2
          have h2' : ¬ E.1 < p := fun z => q (nI_lt z (by omega))
          have b := body.resolve_right (by omega)
          rw [if_neg (by omega)] at b
          exact b
        · have h1' : ¬ E.1 ≤ p := fun z => q2 (nI_le z (by omega))
          have b := body.resolve_right (by omega)
          rw [if_pos (by omega)] at b
          exact b
    exact loop 9 0 c (by omega) (by omega) hi hB hs

/-! bestRota: the model, and both -/
def inM (E : heT) (st : sdT) (W : Nat → Nat) (i : Nat) (m : rfS) : Prop := heM m E ∧ stM m E.1 st ∧ ∀ j, j < i → gF m 25 j = nI (W j) ∧ (W j < E.1 ∨ W j = 7)
theorem tryL {E : heT} {st : sdT} {W : Nat → Nat} {t : Nat} (ht : t ≤ 4) {κ : rfS → Int32 → Int32 → (rfS → Prop) → Prop} {Q : rfS → Prop} {kx : Int32 → Int32 → rfS → Prop} : ∀ (f k : Nat) (m : rfS), heM m E → stM m E.1 (itS E W st k) → (∀ j, j < t → gF m 25 j = nI (W j) ∧ (W j < E.1 ∨ W j = 7)) → k ≤ t → t - k < f → (∀ m2, FrQ E.1 m m2 → heM m2 E → stM m2 E.1 (itS E W st t) → kx (nI t) (itD E W st t) m2) → wl_X8_tries_18 κ Q kx f (nI t) (itD E W st k) (nI k) m := by
  intro f
  induction f with
  | zero => intro k m _ _ _ _ h; omega
  | succ f ih =>
    intro k m hE hs h25 hk hf hq
    unfold wl_X8_tries_18
    refine ⟨fun q => ?_, fun q => ?_⟩
    · have := (nI_leI (by omega) (by omega)).mp q
      have e : k = t := by omega
      subst e
      exact hq m (FrQ.rf _ m) hE hs
    · have hlt : k < t := by
        rcases Nat.lt_or_ge k t with z | z
        · exact z
        · exact absurd (nI_le z (by omega)) q
      rw [cl k, (h25 k hlt).1, nI_1]
      refine ⟨vin (by omega), passM (E := E) hE hs (h25 k hlt).2 (fun m2 f2 t2 => ?_)⟩
      refine ih (k + 1) m2 (hE.Q f2) t2 (fun j hj => ?_) (by omega) (by omega) (fun m3 f3 e3 t3 => hq m3 (f2.tr f3) e3 t3)
      rw [f2.1 25 (by decide) (by decide) (by decide) (by decide)]
      exact h25 j hj
theorem bstL {W : Nat → Nat} {t : Nat} (ht : t ≤ 4) {κ : rfS → Int32 → Int32 → (rfS → Prop) → Prop} {Q : rfS → Prop} : ∀ (f k : Nat) (m : rfS), (∀ j, j < t → gF m 25 j = nI (W j)) → (∀ j, j < k → gF m 26 j = nI (W j)) → k ≤ t → t - k < f → (∀ m2, (∀ j, j < t → gF m2 26 j = nI (W j)) → (∀ q, q ≠ 26 → gF m2 q = gF m q) → (∀ q, gI m2 q = gI m q) → (∀ q, gL m2 q = gL m q) → Q m2) → wl_X8_tries_98 κ Q f (nI t) (nI k) m := by
  intro f
  induction f with
  | zero => intro k m _ _ _ h; omega
  | succ f ih =>
    intro k m h25 h26 hk hf hq
    unfold wl_X8_tries_98
    refine ⟨fun q => ?_, fun q => ?_⟩
    · have := (nI_leI (by omega) (by omega)).mp q
      exact hq m (fun j hj => h26 j (by omega)) (fun _ _ => rfl) (fun _ => rfl) (fun _ => rfl)
    · have hlt : k < t := by
        rcases Nat.lt_or_ge k t with z | z
        · exact z
        · exact absurd (nI_le z (by omega)) q
      rw [cl k, nI_1]
      refine ⟨vin (by omega), vin (by omega), ih (k + 1) _ (fun j hj => ?_) (fun j hj => ?_) (by omega) (by omega) (fun m2 a1 a2 a3 a4 => hq m2 a1 (fun q hq => ?_) (fun q => ?_) (fun q => ?_))⟩
      · rw [gF_sFn (by decide)]; exact h25 j hj
      · by_cases z : j = k
        · rw [z, gF_sFs]; exact h25 k hlt
        · rw [gF_sFi z]; exact h26 j (by omega)
      · rw [a2 q hq, gF_sF_ne hq]
      · rw [a3 q]; rfl
      · rw [a4 q]; rfl
theorem leafM {E : heT} {st : sdT} {W : Nat → Nat} {t : Nat} {B : bsT} {m : rfS} (ht : t ≤ 4) {κ : rfS → Int32 → Int32 → (rfS → Prop) → Prop} (hi : inM E st W t m) (hB : mlB t m B) {Q : rfS → Prop} (hq : ∀ m2, ScN m m2 → inM E st W t m2 → mlB t m2 (bsW B (itD E W st t) (smF (itS E W st t).1 E.1) W) → Q m2) : wp_X8_tries κ m (nI t) (nI t) Q := by
  obtain ⟨h1, h2, h3⟩ := id hi
  unfold wp_X8_tries
  refine ⟨fun z => absurd rfl z, fun _ => keepM (by decide) (by decide) (fun m2 km => ⟨6, ?_⟩)⟩
  refine tryL (E := E) (st := st) (W := W) ht 6 0 m2 (h1.kept (by decide) km) (h2.kept (by decide) km) (fun j hj => by rw [km.2.2.2.1 25 (by decide)]; exact h3 j hj) (by omega) (by omega) (fun m3 f3 e3 t3 => ?_)
  refine sumM (E := E) e3 t3 (layM (by decide) (by decide) (fun m4 lm => ?_))
  have sn : ScN m m4 := ScN.think h1.1 (by decide) km f3 lm
  have gi : ∀ k, gI m4 k = gI m k := fun k => by rw [lm.2.2.2.2.2.1, f3.2.2.1, km.2.2.2.2.1]
  have gf : ∀ q, 25 ≤ q → gF m4 q = gF m q := fun q hq => by rw [lm.2.2.2.2.1 q (by omega) (by omega), f3.1 q (by omega) (by omega) (by omega) (by omega), km.2.2.2.1 q (by omega)]
  have in4 : inM E st W t m4 := ⟨h1.scn sn, h2.fr sn.2.1 sn.2.2.1 sn.2.2.2.1, fun j hj => by rw [gf 25 (by decide)]; exact h3 j hj⟩
  have b4 : mlB t m4 B := hB.fr (by rw [gi]) (by rw [gi]) (gf 26 (by decide))
  have keepB : ¬ (B.1 = false ∨ B.2.1 < itD E W st t ∨ (itD E W st t = B.2.1 ∧ smF (itS E W st t).1 E.1 < B.2.2.1)) → Q m4 := by
    intro q
    refine hq m4 sn in4 ?_
    unfold bsW; rw [if_neg q]; exact b4
  have takeB : (B.1 = false ∨ B.2.1 < itD E W st t ∨ (itD E W st t = B.2.1 ∧ smF (itS E W st t).1 E.1 < B.2.2.1)) → wj_X8_tries_84 κ Q (nI t) (itD E W st t) (smF (itS E W st t).1 E.1) m4 := by
    intro q
    unfold wj_X8_tries_84
    refine ⟨6, bstL (W := W) ht 6 0 _ (fun j hj => (in4.2.2 j hj).1) (fun j hj => by omega) (by omega) (by omega) (fun m5 a1 a2 a3 a4 => ?_)⟩
    have sn5 : ScN m4 m5 := ⟨fun q q1 q2 q3 q4 q5 => a2 q (by omega), fun j => by rw [a2 1 (by decide)]; rfl, by rw [a2 2 (by decide)]; rfl, by rw [a2 2 (by decide)]; rfl, fun j j1 j2 => by rw [a3, gI_sIj j2, gI_sIj j1], fun q => a4 q⟩
    refine hq m5 (sn.tr sn5) ⟨in4.1.scn sn5, in4.2.1.fr sn5.2.1 sn5.2.2.1 sn5.2.2.2.1, fun j hj => by rw [a2 25 (by decide)]; exact in4.2.2 j hj⟩ ?_
    unfold bsW
    rw [if_pos q]
    exact Or.inr ⟨rfl, by rw [a3, gI_sIj (by decide), gI_sIs], by rw [a3, gI_sIs], a1⟩
  obtain ⟨x, hx, ex⟩ := itD_n E W st t
  rcases b4 with ⟨b1, b2⟩ | ⟨b1, b2, b3, b5⟩
  · rw [b2]
    have n1 : ¬ itD E W st t < -1 := by
      rw [ex, i_lt, nI_toInt (by omega), show ((-1 : Int32)).toInt = -1 from by decide]; omega
    have n2 : ¬ itD E W st t = -1 := by
      rw [ex, i_eq, nI_toInt (by omega), show ((-1 : Int32)).toInt = -1 from by decide]; omega
    exact ⟨fun z => absurd z n1, fun _ => ⟨fun _ => takeB (Or.inl b1), fun z => absurd z n2⟩⟩
  · rw [b2, b3]
    refine ⟨fun q => keepB (fun z => ?_), fun q => ⟨fun q2 => takeB (Or.inr (Or.inl ?_)), fun q2 => ⟨fun q3 => takeB (Or.inr (Or.inr ⟨q2, q3⟩)), fun q3 => keepB (fun z => ?_)⟩⟩⟩
    · rcases z with z | z | z
      · rw [b1] at z; exact absurd z (by decide)
      · exact Int32.lt_irrefl (Int32.lt_trans z q)
      · rw [z.1] at q; exact Int32.lt_irrefl q
    · rw [i_lt] at q ⊢
      rw [i_eq] at q2
      omega
    · rcases z with z | z | z
      · rw [b1] at z; exact absurd z (by decide)
      · rw [q2] at z; exact Int32.lt_irrefl z
      · exact q3 z.2
theorem triesM {E : heT} {st : sdT} {t : Nat} {m0 : rfS} (ht : t ≤ 4) : ∀ (r : Nat) (k i : Nat) (W : Nat → Nat) (B : bsT) (m : rfS) (Q : rfS → Prop), r < k → i + r = t → inM E st W i m → mlB t m B → ScN m0 m → (∀ m2, ScN m0 m2 → inM E st W i m2 → mlB t m2 (skF E st t r W B) → Q m2) → Tr k m (nI i) (nI t) Q := by
  intro r
  induction r with
  | zero =>
    intro k i W B m Q hk hir hi hB hs hq
    obtain ⟨k, rfl⟩ : ∃ k', k = k' + 1 := ⟨k - 1, by omega⟩
    have e : i = t := by omega
    subst e
    exact leafM (κ := Tr k) ht hi hB (fun m2 f2 i2 b2 => hq m2 (hs.tr f2) i2 b2)
  | succ r ih =>
    intro k i W B m Q hk hir hi hB hs hq
    obtain ⟨k, rfl⟩ : ∃ k', k = k' + 1 := ⟨k - 1, by omega⟩
    show wp_X8_tries (Tr k) m (nI i) (nI t) Q
    unfold wp_X8_tries
    have hne : ¬ nI i = nI t := fun z => by have := (nI_eq (by omega) (by omega)).mp z; omega
    refine ⟨fun _ => ⟨9, ?_⟩, fun z => absurd z hne⟩
    have et : t - (r + 1) = i := by omega
    have hn7 := hi.1.1
    have loop : ∀ (f p : Nat) (m : rfS), p ≤ E.1 + 1 → E.1 + 1 - p < f → inM E st W i m → mlB t m (skL (fun p B => skF E st t r (up1 W (t - (r + 1)) (if p < E.1 then p else 7)) B) p B) → ScN m0 m → wl_X8_tries_127 (Tr k) Q f (nI i) (nI t) (nI p) m := by
      intro f
      induction f with
      | zero => intro p m _ h; omega
      | succ f ihf =>
        intro p m hp hf hi hB hs
        obtain ⟨h1, h2, h3⟩ := id hi
        unfold wl_X8_tries_127
        rw [h1.2.1]
        have body : p ≤ E.1 → wj_X8_tries_154 (Tr k) Q (wl_X8_tries_127 (Tr k) Q f) (nI i) (nI t) (nI p) (nI (if p < E.1 then p else 7)) (nI i) m := by
          intro hpn
          generalize hw : (if p < E.1 then p else 7) = w
          have wok : w < E.1 ∨ w = 7 := by
            rw [← hw]
            by_cases z : p < E.1
            · rw [if_pos z]; exact Or.inl z
            · rw [if_neg z]; exact Or.inr rfl
          unfold wj_X8_tries_154
          rw [nI_1, nI_1, cl i]
          refine ⟨vin (by omega), ?_⟩
          have s1 : ScN m (sF m 25 i (nI w)) := ⟨fun q _ _ _ _ q5 => gF_sF_ne (by omega), fun j => by rw [gF_sFn (by decide)], by rw [gF_sFn (by decide)], by rw [gF_sFn (by decide)], fun _ _ _ => rfl, fun _ => rfl⟩
          refine ih k (i + 1) (up1 W i w) _ (sF m 25 i (nI w)) _ (by omega) (by omega) ⟨h1.scn s1, h2.fr s1.2.1 s1.2.2.1 s1.2.2.2.1, fun j hj => ?_⟩ (hB.fr rfl rfl (gF_sF_ne (by decide))) (hs.tr s1) (fun m9 f9 i9 b9 => ?_)
          · by_cases z : j = i
            · rw [z, gF_sFs, show up1 W i w i = w from if_pos rfl]; exact ⟨rfl, wok⟩
            · rw [gF_sFi z, show up1 W i w j = W j from if_neg z]; exact h3 j (by omega)
          · refine ihf (p + 1) m9 (by omega) (by omega) ⟨i9.1, i9.2.1, fun j hj => ?_⟩ ?_ f9
            · have := i9.2.2 j (by omega)
              rw [show up1 W i w j = W j from if_neg (by omega)] at this
              exact this
            · show mlB t m9 (skF E st t r (up1 W (t - (r + 1)) (if p < E.1 then p else 7)) _)
              rw [et, hw]
              rw [et] at b9
              exact b9
        refine ⟨fun q => ?_, fun q => ⟨fun q2 => ?_, fun q2 => ?_⟩⟩
        · have hlt := (nI_ltI (by omega) (by omega)).mp q
          have e : p = E.1 + 1 := by omega
          subst e
          exact hq m hs hi hB
        · have h2' : ¬ E.1 < p := fun z => q (nI_lt z (by omega))
          have h3' : ¬ p = E.1 := fun z => q2 (by rw [z])
          have b := body (by omega)
          rw [if_pos (by omega)] at b
          exact b
        · have h3' : p = E.1 := (nI_eq (by omega) (by omega)).mp q2
          have b := body (by omega)
          rw [if_neg (by omega)] at b
          exact b
    exact loop 9 0 m (by omega) (by omega) hi hB hs
theorem op_bestRota {n bs : Nat} {c m : rfS} (h : Rel n bs c m) (x1 x2 : Int32) : wp_X7_bestRota (wp_X6_seekBest (Sk 5)) c x1 x2 (fun r1 c2 => wp_X8_bestRota (Tr 5) m x1 x2 (fun r2 m2 => r1 = r2 ∧ RelE c2 m2)) := by
  obtain ⟨lo, d, hd, ed, e1, e2, s1, s2⟩ := h.env
  have hn7 := h.1.1
  have hnC := h.1.2.1
  unfold wp_X7_bestRota wp_X8_bestRota
  simp only [w_isWithin, w_within, bI_0, Classical.not_not]
  refine ⟨fun q => ⟨fun _ => ⟨by simp, n, bs, h⟩, fun z => absurd z q⟩, fun g1 => ⟨fun g2 => ?_, fun q => ⟨fun z => absurd g1 z, fun _ => ⟨fun z => absurd z q, fun _ => ⟨by simp, n, bs, h⟩⟩⟩⟩⟩
  obtain ⟨t, ht, rfl⟩ := i_below (k := 4) (by decide) g1
  unfold wp_X6_seekBest
  rw [hnC]
  refine copyC hn7 ?_
  have sc : ScC c (sI (cpC c 26 12 n) 20 7 0) := (ScC.cp c (a0 := 26) (a1 := 12) (k := n) (by decide) (by decide)).tr ⟨fun _ _ _ _ _ => rfl, fun q hq => gI_sI_ne (by omega), fun _ => rfl⟩
  have st0 : stC (sI (cpC c 26 12 n) 20 7 0) 26 n (gF c 13, gF c 14, gI c 12 2, d) := (s1.cp (a0 := 26) (by decide)).fr rfl rfl (gI_sI_ne (by decide))
  have he0 : heC (sI (cpC c 26 12 n) 20 7 0) (n, gF c 2, gF c 4, gF c 5, lo) := (e1.cp (a1 := 12) (k := n) isSt26 (by decide)).fr (by rw [gI_sI_ne (by decide)]) rfl rfl rfl (by rw [gI_sI_ne (by decide)]) rfl
  refine seekC (E := (n, gF c 2, gF c 4, gF c 5, lo)) (st := (gF c 13, gF c 14, gI c 12 2, d)) (c0 := c) (t := t) (by omega) t 5 0 (fun _ => 0) (false, 0, 0, fun _ => 0) _ _ (by omega) (by omega) ⟨he0, fun j hj => ?_, fun j hj => by omega⟩ (Or.inl ⟨rfl, gI_sIs⟩) sc (fun c2 f2 i2 b2 => ?_)
  · have e : j = 0 := by omega
    subst e
    exact st0
  have has := skF_has (n, gF c 2, gF c 4, gF c 5, lo) (gF c 13, gF c 14, gI c 12 2, d) t t (fun _ => 0) (false, 0, 0, fun _ => 0)
  obtain ⟨-, -, b3, b4, b5⟩ := b2.resolve_left (fun z => by rw [has] at z; exact absurd z.1 (by decide))
  -- the model
  have mdl : ∀ v : Int32, (∀ m2 : rfS, mlB t m2 (skF (n, gF c 2, gF c 4, gF c 5, lo) (gF c 13, gF c 14, gI c 12 2, d) t t (fun _ => 0) (false, 0, 0, fun _ => 0)) → RelE c2 m2 → ((¬ x2 = (-1) → ((¬ x2 = (-2) → vp_in x2 7 ∧ (v = (gF m2 26 (x2.toNatClampNeg)) ∧ RelE c2 m2)) ∧ (x2 = (-2) → v = (gI m2 0 41) ∧ RelE c2 m2))) ∧ (x2 = (-1) → v = (gI m2 0 40) ∧ RelE c2 m2))) → (¬ (0 ≤ nI t ∧ nI t ≤ 4) → v = -1 ∧ RelE c2 m) ∧ ((0 ≤ nI t ∧ nI t ≤ 4) → ((-2 ≤ x2 ∧ x2 ≤ nI t - 1) → Tr 5 (sI (sI m 0 40 (-1)) 0 41 0) 0 (nI t) (fun (σ5 : rfS) => ((¬ x2 = (-1) → ((¬ x2 = (-2) → vp_in x2 7 ∧ (v = (gF σ5 26 (x2.toNatClampNeg)) ∧ RelE c2 σ5)) ∧ (x2 = (-2) → v = (gI σ5 0 41) ∧ RelE c2 σ5))) ∧ (x2 = (-1) → v = (gI σ5 0 40) ∧ RelE c2 σ5)))) ∧ (¬ (-2 ≤ x2 ∧ x2 ≤ nI t - 1) → v = -1 ∧ RelE c2 m)) := by
    intro v hv
    refine ⟨fun z => absurd g1 z, fun _ => ⟨fun _ => ?_, fun z => absurd g2 z⟩⟩
    have sn : ScN m (sI (sI m 0 40 (-1)) 0 41 0) := ⟨fun _ _ _ _ _ _ => rfl, fun _ => rfl, rfl, rfl, fun j j1 j2 => by rw [gI_sIj j2, gI_sIj j1], fun _ => rfl⟩
    exact triesM (E := (n, gF c 2, gF c 4, gF c 5, lo)) (st := (gF c 13, gF c 14, gI c 12 2, d)) (m0 := m) (t := t) (by omega) t 5 0 (fun _ => 0) (false, 0, 0, fun _ => 0) _ _ (by omega) (by omega) ⟨e2.scn sn, s2.fr sn.2.1 sn.2.2.1 sn.2.2.2.1, fun j hj => by omega⟩ (Or.inl ⟨rfl, by rw [gI_sIj (by decide), gI_sIs]⟩) sn (fun m2 f3 i3 b6 => hv m2 b6 ⟨n, bs, h.scn f2 f3⟩)
  have mb : ∀ m2 : rfS, mlB t m2 (skF (n, gF c 2, gF c 4, gF c 5, lo) (gF c 13, gF c 14, gI c 12 2, d) t t (fun _ => 0) (false, 0, 0, fun _ => 0)) → gI m2 0 40 = gI c2 20 0 ∧ gI m2 0 41 = gI c2 20 1 ∧ ∀ j, j < t → gF m2 26 j = gF c2 21 j := by
    intro m2 hb
    obtain ⟨-, y3, y4, y5⟩ := hb.resolve_left (fun z => by rw [has] at z; exact absurd z.1 (by decide))
    exact ⟨y3.trans b3.symm, y4.trans b4.symm, fun j hj => (y5 j hj).trans (b5 j hj).symm⟩
  refine ⟨fun q1 => ⟨fun q2 => ?_, fun q2 => mdl _ (fun m2 hb hr => ⟨fun _ => ⟨fun z => absurd q2 z, fun _ => ⟨(mb m2 hb).2.1.symm, hr⟩⟩, fun z => absurd z q1⟩)⟩, fun q1 => mdl _ (fun m2 hb hr => ⟨fun z => absurd q1 z, fun _ => ⟨(mb m2 hb).1.symm, hr⟩⟩)⟩
  have h0 : 0 ≤ x2 := by
    have g := g2.1
    rw [i_le] at g ⊢
    rw [i_eq] at q1 q2
    have z1 : ((-2 : Int32)).toInt = -2 := by decide
    have z2 : ((-1 : Int32)).toInt = -1 := by decide
    have z3 : ((0 : Int32)).toInt = 0 := by decide
    omega
  obtain ⟨k, hk, rfl⟩ := i_ix (n := t) (by omega) h0 ((i_pred (by omega)).mp g2.2)
  refine ⟨vin (by omega), mdl _ (fun m2 hb hr => ⟨fun _ => ⟨fun _ => ⟨vin (by omega), ?_, hr⟩, fun z => absurd z q2⟩, fun z => absurd z q1⟩)⟩
  rw [cl k]
  exact ((mb m2 hb).2.2 k hk).symm

/-! byTurns: the model, and both -/
def TB : Nat → rfS → Int32 → Int32 → Int32 → Int32 → (Int32 → rfS → Prop) → Prop
  | 0 => fun _ _ _ _ _ _ => False
  | k + 1 => wp_X8_turnBy (wp_X8_turnFrom (TB k))
theorem TB_k : ∀ (k : Nat) (σ : rfS) (x1 x2 x3 x4 : Int32) (Q : Int32 → rfS → Prop), TB k σ x1 x2 x3 x4 Q → RM ΛM (3 + 2 * k) yX8_turnBy cX8_turnBy 15 (some .int) [.ref 0, .int x1, .int x2, .int x3, .int x4] σ (qi Q)
  | 0, _, _, _, _, _, _, h => h.elim
  | k + 1, σ, x1, x2, x3, x4, Q, h => k_X8_turnBy (d := 3 + 2 * k + 1) (fun σ x1 x2 x3 Q h => k_X8_turnFrom (d := 3 + 2 * k) (TB_k k) (by omega) h) (by omega) h
theorem packL {m : rfS} {n : Nat} {vo vk : Nat → Nat} (hn : n ≤ 7) (h0 : gI m 0 0 = nI n) (ho : ∀ j, vo j < 256) (hk : ∀ j, vk j < 256) (eo : ∀ j, j < n → gF m 1 (7 + j) = nI (vo j)) (ek : ∀ j, j < n → gF m 1 (14 + j) = nI (vk j)) {κ : rfS → Int32 → Int32 → Int32 → (Int32 → rfS → Prop) → Prop} {Q : Int32 → rfS → Prop} {kx : Int32 → Int32 → Int32 → Int32 → Int32 → Int32 → Int64 → Int64 → rfS → Prop} {x1 x2 x3 x4 x5 x6 : Int32} (hq : kx x1 x2 x3 x4 x5 x6 (lN (pkv vo n)) (lN (pkv vk n)) m) : ∀ (f p : Nat), p ≤ n → n - p < f → wl_X8_turnBy_25 κ Q kx f x1 x2 x3 x4 x5 x6 (lN (pkv vo p)) (lN (pkv vk p)) (nI p) m := by
  intro f
  induction f with
  | zero => intro p _ h; omega
  | succ f ih =>
    intro p hp hf
    unfold wl_X8_turnBy_25
    rw [h0]
    refine ⟨fun q => ?_, fun q => ?_⟩
    · have := (nI_leI (by omega) (by omega)).mp q
      have e : p = n := by omega
      subst e
      exact hq
    · have hlt : p < n := by
        rcases Nat.lt_or_ge p n with z | z
        · exact z
        · exact absurd (nI_le z (by omega)) q
      rw [show (7 : Int32) = nI 7 from rfl, show (14 : Int32) = nI 14 from rfl, nI_add, nI_add, cl (7 + p), cl (14 + p), pk_put ho (by omega) (eo p hlt), pk_put hk (by omega) (ek p hlt), nI_1]
      exact ⟨vin (by omega), vin (by omega), ih (p + 1) (by omega) (by omega)⟩
theorem unpackL {n : Nat} {vo vk : Nat → Nat} (hn : n ≤ 7) (ho : ∀ j, vo j < 256) (hk : ∀ j, vk j < 256) {κ : rfS → Int32 → Int32 → Int32 → (Int32 → rfS → Prop) → Prop} {Q : Int32 → rfS → Prop} {x13 : Int32} : ∀ (f p : Nat) (m : rfS), gI m 0 0 = nI n → p ≤ n → n - p < f → (∀ m2, (∀ j, p ≤ j → j < n → gF m2 1 (7 + j) = nI (vo j) ∧ gF m2 1 (14 + j) = nI (vk j)) → (∀ j, (∀ q, p ≤ q → q < n → j ≠ 7 + q ∧ j ≠ 14 + q) → gF m2 1 j = gF m 1 j) → (∀ q, q ≠ 1 → gF m2 q = gF m q) → (∀ q, gI m2 q = gI m q) → (∀ q, gL m2 q = gL m q) → Q x13 m2) → wl_X8_turnBy_166 κ Q f (lN (pkv vo n)) (lN (pkv vk n)) x13 (nI p) m := by
  intro f
  induction f with
  | zero => intro p m _ _ h; omega
  | succ f ih =>
    intro p m h0 hp hf hq
    unfold wl_X8_turnBy_166
    rw [h0]
    refine ⟨fun q => ?_, fun q => ?_⟩
    · have := (nI_leI (by omega) (by omega)).mp q
      exact hq m (fun j h1 h2 => by omega) (fun _ _ => rfl) (fun _ _ => rfl) (fun _ => rfl) (fun _ => rfl)
    · have hlt : p < n := by
        rcases Nat.lt_or_ge p n with z | z
        · exact z
        · exact absurd (nI_le z (by omega)) q
      rw [pk_get ho hn hlt, pk_get hk hn hlt, show (7 : Int32) = nI 7 from rfl, show (14 : Int32) = nI 14 from rfl, nI_add, nI_add, cl (7 + p), cl (14 + p), nI_1]
      refine ⟨vin (by omega), vin (by omega), ih (p + 1) _ (by rw [← h0]; rfl) (by omega) (by omega) (fun m2 a1 a2 a3 a4 a5 => hq m2 (fun j h1 h2 => ?_) (fun j hj => ?_) (fun q hq => ?_) (fun q => ?_) (fun q => ?_))⟩
      · by_cases e : j = p
        · subst e
          rw [a2 (7 + j) (fun q q1 q2 => by omega), a2 (14 + j) (fun q q1 q2 => by omega), gF_sFi (by omega), gF_sFs, gF_sFs]
          exact ⟨rfl, rfl⟩
        · exact a1 j (by omega) h2
      · have := hj p (by omega) hlt
        rw [a2 j (fun q q1 q2 => hj q (by omega) q2), gF_sFi this.2, gF_sFi this.1]
      · rw [a3 q hq, gF_sF_ne hq, gF_sF_ne hq]
      · rw [a4 q]; rfl
      · rw [a5 q]; rfl
def vz (E : heT) (a b i r : Nat) (s : sdT) (w : Nat) : Int := if i % 2 = 0 then dz E s w - wz E r (dyS E s w) b a else -(dz E s w - wz E r (dyS E s w) a b)
def fz (E : heT) (a b i r : Nat) (s : sdT) : Int := if i % 2 = 0 then wz E r s a b else - wz E r s b a
def tkW (a b i : Nat) (tk : Int32) : Nat := if tk = 0 then 7 else if i % 2 = 0 then a else b
def SpTB (E : heT) (t a b : Nat) (x : Int32) (k r : Nat) : Prop := ∀ (i : Nat) (tk : Int32) (s : sdT) (m : rfS) (Q : Int32 → rfS → Prop), i + r + 1 = t → heM m E → stM m E.1 s → sOK E.1 s → (∀ m2, ScN m m2 → Q (eI (vz E a b i r s (tkW a b i tk))) m2) → TB k m (nI i) (nI t) x tk Q
def SpTF (E : heT) (t a b : Nat) (x : Int32) (k r : Nat) : Prop := ∀ (i : Nat) (s : sdT) (m : rfS) (Q : Int32 → rfS → Prop), i + r = t → heM m E → stM m E.1 s → sOK E.1 s → (∀ m2, ScN m m2 → Q (eI (fz E a b i r s)) m2) → wp_X8_turnFrom (TB k) m (nI i) (nI t) x Q
theorem tFrom {E : heT} {t a b : Nat} {x : Int32} {k r : Nat} (ht : t ≤ 5) (H : ∀ r', r = r' + 1 → SpTB E t a b x k r') : SpTF E t a b x k r := by
  intro i s m Q hir hE hst hok hq
  unfold wp_X8_turnFrom
  cases r with
  | zero =>
    have e : i = t := by omega
    subst e
    refine ⟨fun z => absurd rfl z, fun _ => ?_⟩
    have := hq m (ScN.rf m)
    have e2 : fz E a b i 0 s = 0 := by unfold fz wz; split <;> rfl
    rw [e2] at this
    exact this
  | succ r =>
    have H := H r rfl
    have hne : ¬ nI i = nI t := fun z => by have := (nI_eq (by omega) (by omega)).mp z; omega
    refine ⟨fun _ => H i 0 s m _ (by omega) hE hst hok (fun m2 f2 => H i 1 s m2 _ (by omega) (hE.scn f2) (hst.fr f2.2.1 f2.2.2.1 f2.2.2.2.1) hok (fun m3 f3 => ?_)), fun z => absurd z hne⟩
    have fin := hq m3 (f2.tr f3)
    rw [show (2 : Int32) = nI 2 from rfl, nI_mod (by omega) (by decide)]
    have w0 : tkW a b i 0 = 7 := if_pos rfl
    have par : i % 2 = 0 ∨ i % 2 = 1 := by omega
    rcases par with p | p
    · rw [p]
      refine ⟨fun z => absurd rfl z, fun _ => ?_⟩
      have w1 : tkW a b i 1 = a := by unfold tkW; rw [if_neg (by decide), if_pos p]
      rw [w0, w1]
      have b1 := wz_b E r (dyS E s 7) b a
      have b2 := wz_b E r (dyS E s a) b a
      have d1 := dz_n E s 7
      have d2 := dz_n E s a
      unfold vz
      rw [if_pos p, if_pos p, eI_max (by omega) (by omega) (by omega) (by omega)]
      unfold fz at fin
      rw [if_pos p] at fin
      exact fin
    · rw [p]
      refine ⟨fun _ => ?_, fun z => absurd z (by decide)⟩
      have w1 : tkW a b i 1 = b := by unfold tkW; rw [if_neg (by decide), if_neg (by omega)]
      rw [w0, w1]
      have b1 := wz_b E r (dyS E s 7) a b
      have b2 := wz_b E r (dyS E s b) a b
      have d1 := dz_n E s 7
      have d2 := dz_n E s b
      unfold vz
      have np : ¬ i % 2 = 0 := by omega
      rw [if_neg np, if_neg np, eI_min (by omega) (by omega) (by omega) (by omega)]
      unfold fz at fin
      rw [if_neg (by omega)] at fin
      have e : min (-(dz E s 7 - wz E r (dyS E s 7) a b)) (-(dz E s b - wz E r (dyS E s b) a b)) = -wz E (r + 1) s b a := by
        show _ = -(max (dz E s 7 - wz E r (dyS E s 7) a b) (dz E s b - wz E r (dyS E s b) a b))
        omega
      rw [e]
      exact fin
theorem tBy {E : heT} {t a b : Nat} {x : Int32} {k r : Nat} (ht : t ≤ 5) (hE0 : eOK E) (ha : a < E.1) (hb : b < E.1) (ea : x / 10 = nI a) (eb : x - x / 10 * 10 = nI b) (H : SpTF E t a b x k r) : SpTB E t a b x (k + 1) r := by
  intro i tk s m Q hir hE hst hok hq
  show wp_X8_turnBy (wp_X8_turnFrom (TB k)) m (nI i) (nI t) x tk Q
  have hn7 := hE.1
  let vo : Nat → Nat := fun j => if j < E.1 then (s.1 j).toNatClampNeg else 0
  let vk : Nat → Nat := fun j => if j < E.1 then (s.2.1 j).toNatClampNeg else 0
  have no : ∀ j, j < E.1 → s.1 j = nI (vo j) ∧ vo j < 256 := by
    intro j hj
    obtain ⟨y, hy, e⟩ := rg_n (hi := 99) (by decide) (hok.1 j hj).1
    have e2 : vo j = y := by show (if j < E.1 then (s.1 j).toNatClampNeg else 0) = y; rw [if_pos hj, e, cl y]
    rw [e2, e]; exact ⟨rfl, by omega⟩
  have nk : ∀ j, j < E.1 → s.2.1 j = nI (vk j) ∧ vk j < 256 := by
    intro j hj
    obtain ⟨y, hy, e⟩ := rg_n (hi := 255) (by decide) (hok.1 j hj).2
    have e2 : vk j = y := by show (if j < E.1 then (s.2.1 j).toNatClampNeg else 0) = y; rw [if_pos hj, e, cl y]
    rw [e2, e]; exact ⟨rfl, by omega⟩
  have ho : ∀ j, vo j < 256 := fun j => by
    by_cases z : j < E.1
    · exact (no j z).2
    · show (if j < E.1 then (s.1 j).toNatClampNeg else 0) < 256; rw [if_neg z]; decide
  have hk : ∀ j, vk j < 256 := fun j => by
    by_cases z : j < E.1
    · exact (nk j z).2
    · show (if j < E.1 then (s.2.1 j).toNatClampNeg else 0) < 256; rw [if_neg z]; decide
  unfold wp_X8_turnBy
  refine ⟨9, packL hn7 hE.2.1 ho hk (fun j hj => by rw [← (no j hj).1]; exact hst.1 j hj) (fun j hj => by rw [← (nk j hj).1]; exact hst.2.1 j hj) ?_ 9 0 (by omega) (by omega)⟩
  -- behind the choice
  have body : ∀ w, w = tkW a b i tk → wj_X8_turnBy_116 (wp_X8_turnFrom (TB k)) Q (nI i) (nI t) x (gF m 2 0) (gF m 2 1) (lN (pkv vo E.1)) (lN (pkv vk E.1)) (nI w) m := by
    intro w ew
    have wok : w < E.1 ∨ w = 7 := by
      rw [ew]; unfold tkW
      by_cases z : tk = 0
      · rw [if_pos z]; exact Or.inr rfl
      · rw [if_neg z]
        by_cases z2 : i % 2 = 0
        · rw [if_pos z2]; exact Or.inl ha
        · rw [if_neg z2]; exact Or.inl hb
    unfold wj_X8_turnBy_116
    refine passM (E := E) hE hst wok (fun m2 f2 t2 => ?_)
    have go : ∀ v : Int32, v + eI (fz E a b (i + 1) r (dyS E s w)) = eI (vz E a b i r s w) → wj_X8_turnBy_135 (wp_X8_turnFrom (TB k)) Q (nI i) (nI t) x (gF m 2 0) (gF m 2 1) (lN (pkv vo E.1)) (lN (pkv vk E.1)) v m2 := by
      intro v hv
      unfold wj_X8_turnBy_135
      rw [nI_1]
      refine H (i + 1) (dyS E s w) m2 _ (by omega) (hE.Q f2) t2 (hok.dy hE0) (fun m3 f3 => ⟨9, ?_⟩)
      rw [hv]
      have h03 : gI m3 0 0 = nI E.1 := by rw [f3.2.2.2.2.1 0 (by decide) (by decide), f2.2.2.1]; exact hE.2.1
      refine unpackL hn7 ho hk 9 0 _ (by rw [← h03]; rfl) (by omega) (by omega) (fun m4 u1 u2 u3 u4 u5 => ?_)
      rw [ew]
      refine hq m4 ⟨fun q q1 q2 q3 q4 q5 => ?_, fun j => ?_, ?_, ?_, fun j j1 j2 => ?_, fun q => ?_⟩
      · rw [u3 q q1, gF_sF_ne q2, gF_sF_ne q2, f3.1 q q1 q2 q3 q4 q5, f2.1 q q1 q2 q3 q4]
      · by_cases hj : ∀ q, q < E.1 → j ≠ 7 + q ∧ j ≠ 14 + q
        · rw [u2 j (fun q _ q2 => hj q q2), gF_sFn (by decide), gF_sFn (by decide), f3.2.1 j, f2.2.1 j hj]
        · by_cases e : ∃ q, q < E.1 ∧ j = 7 + q
          · obtain ⟨q, hq, rfl⟩ := e
            rw [(u1 q (by omega) hq).1, ← (no q hq).1]; exact (hst.1 q hq).symm
          · by_cases e2 : ∃ q, q < E.1 ∧ j = 14 + q
            · obtain ⟨q, hq, rfl⟩ := e2
              rw [(u1 q (by omega) hq).2, ← (nk q hq).1]; exact (hst.2.1 q hq).symm
            · exact absurd (fun q hq => ⟨fun z => e ⟨q, hq, z⟩, fun z => e2 ⟨q, hq, z⟩⟩) hj
      · rw [u3 2 (by decide), gF_sFi (by decide), gF_sFs]
      · rw [u3 2 (by decide), gF_sFs]
      · rw [u4]
        show gI m3 0 j = gI m 0 j
        rw [f3.2.2.2.2.1 j j1 j2, f2.2.2.1]
      · rw [u5]
        show gL m3 q = gL m q
        rw [f3.2.2.2.2.2 q, f2.2.2.2]
    rw [show (2 : Int32) = nI 2 from rfl, nI_mod (by omega) (by decide)]
    obtain ⟨z1, z2, z3⟩ := dz_n E s w
    have par : i % 2 = 0 ∨ i % 2 = 1 := by omega
    rcases par with p | p
    · rw [p]
      refine ⟨fun z => absurd rfl z, fun _ => go _ ?_⟩
      unfold fz vz
      rw [if_neg (by omega), if_pos p, z3, eI_add]
      congr 1
    · rw [p]
      refine ⟨fun _ => go _ ?_, fun z => absurd z (by decide)⟩
      unfold fz vz
      rw [if_pos (by omega), if_neg (by omega), z3, eI_neg, eI_add]
      congr 1
      omega
  have pick : ∀ xs0 : Int32, xs0 = nI (if i % 2 = 0 then a else b) → wj_X8_turnBy_101 (wp_X8_turnFrom (TB k)) Q (nI i) (nI t) x tk (gF m 2 0) (gF m 2 1) (lN (pkv vo E.1)) (lN (pkv vk E.1)) xs0 m := by
    intro xs0 hx
    unfold wj_X8_turnBy_101
    refine ⟨fun z => ?_, fun z => ?_⟩
    · exact body 7 (by unfold tkW; rw [if_pos z])
    · rw [hx]
      exact body _ (by unfold tkW; rw [if_neg z])
  have e2 : nI i - nI i / 2 * 2 = nI (i % 2) := nI_mod (by omega) (by decide)
  have par : i % 2 = 0 ∨ i % 2 = 1 := by omega
  rcases par with p | p
  · rw [p] at e2
    exact ⟨fun z => absurd e2 z, fun _ => pick _ (by rw [if_pos p]; exact ea)⟩
  · rw [p] at e2
    exact ⟨fun _ => pick _ (by rw [if_neg (by omega)]; exact eb), fun z => absurd (z.symm.trans e2) (by decide)⟩
theorem tAll {E : heT} {t a b : Nat} {x : Int32} (ht : t ≤ 5) (hE0 : eOK E) (ha : a < E.1) (hb : b < E.1) (ea : x / 10 = nI a) (eb : x - x / 10 * 10 = nI b) : ∀ k r, r < k → SpTB E t a b x k r
  | 0, _, h => by omega
  | k + 1, r, h => tBy ht hE0 ha hb ea eb (tFrom ht (fun r' e => tAll ht hE0 ha hb ea eb k r' (by omega)))
theorem op_byTurns {n bs : Nat} {c m : rfS} (h : Rel n bs c m) (x1 x2 x3 : Int32) : wp_X7_byTurns (wp_X6_worthOfTurns (WF 6)) c x1 x2 x3 (fun r1 c2 => wp_X8_byTurns (TB 6) m x1 x2 x3 (fun r2 m2 => r1 = r2 ∧ RelE c2 m2)) := by
  obtain ⟨lo, d, hd, ed, e1, e2, s1, s2⟩ := h.env
  obtain ⟨so, eo⟩ := h.sok hd
  have hn7 := h.1.1
  have hnC := h.1.2.1
  have hnM := h.1.2.2.1
  let fit : Prop := abOk n x1 ∧ ¬ x1 / 10 = x1 - x1 / 10 * 10 ∧ (1 ≤ x2 ∧ x2 ≤ 5) ∧ (0 ≤ x3 ∧ x3 ≤ 1)
  have mdl : ∀ Q : Int32 → rfS → Prop, (¬ fit → Q (-2000000000) m) → (fit → TB 6 m 0 x2 x1 0 (fun (r10 : Int32) (σ9 : rfS) => TB 6 σ9 0 x2 x1 1 (fun (r12 : Int32) (σ11 : rfS) => ((¬ x3 = 0 → ((r12 ≤ r10 → Q 0 σ11) ∧ (¬ (r12 ≤ r10) → Q 1 σ11))) ∧ (x3 = 0 → Q (if r10 < r12 then r12 else r10) σ11))))) → wp_X8_byTurns (TB 6) m x1 x2 x3 Q := by
    intro Q hb hg
    unfold wp_X8_byTurns
    simp only [w_within, w_mOne, hnM, i_pred (n := n) (by omega), bI_0, Classical.not_not]
    exact ⟨fun q => hb (fun z => z.1.1 q), fun q1 => ⟨fun q => hb (fun z => q z.1.2.1), fun q2 => ⟨fun q => hb (fun z => q z.1.2.2), fun q3 => ⟨fun q => hb (fun z => z.2.1 q), fun q4 => ⟨fun q => hb (fun z => q z.2.2.1), fun q5 => ⟨fun q6 => hg ⟨⟨q1, q2, q3⟩, q4, q5, q6⟩, fun q => hb (fun z => q z.2.2.2)⟩⟩⟩⟩⟩⟩
  have bad : ¬ fit → wp_X8_byTurns (TB 6) m x1 x2 x3 (fun r2 m2 => -2000000000 = r2 ∧ RelE c m2) := fun z => mdl _ (fun _ => ⟨rfl, n, bs, h⟩) (fun y => absurd y z)
  unfold wp_X7_byTurns
  simp only [w_areBrothers hnC, w_isWithin, bI_0, Classical.not_not]
  refine ⟨fun q => bad (fun z => q z.1), fun g1 => ⟨fun q => bad (fun z => z.2.1 q), fun g2 => ⟨fun q => bad (fun z => q z.2.2.1), fun g3 => ⟨fun g4 => ?_, fun q => bad (fun z => q z.2.2.2)⟩⟩⟩⟩
  obtain ⟨o1, o2, o3⟩ := id g1
  obtain ⟨a, ha, ea⟩ := i_ix (by omega) o2.1 o2.2
  obtain ⟨b, hb, eb⟩ := i_ix (by omega) o3.1 o3.2
  obtain ⟨t, ht, rfl⟩ := i_below (k := 5) (x := x2) (by decide) ⟨Int32.le_trans (by decide) g3.1, g3.2⟩
  have ht0 : 0 < t := (nI_leI (a := 1) (by decide) (by omega)).mp g3.1
  obtain ⟨r, rfl⟩ : ∃ r, t = r + 1 := ⟨t - 1, by omega⟩
  unfold wp_X6_worthOfTurns
  rw [hnC]
  refine copyC hn7 ?_
  have sc : ScC c (cpC c 26 12 n) := ScC.cp c (by decide) (by decide)
  have b1 := wz_b (n, gF c 2, gF c 4, gF c 5, lo) r (dyS (n, gF c 2, gF c 4, gF c 5, lo) (gF c 13, gF c 14, gI c 12 2, d) 7) b a
  have b2 := wz_b (n, gF c 2, gF c 4, gF c 5, lo) r (dyS (n, gF c 2, gF c 4, gF c 5, lo) (gF c 13, gF c 14, gI c 12 2, d) a) b a
  have d1 := dz_n (n, gF c 2, gF c 4, gF c 5, lo) (gF c 13, gF c 14, gI c 12 2, d) 7
  have d2 := dz_n (n, gF c 2, gF c 4, gF c 5, lo) (gF c 13, gF c 14, gI c 12 2, d) a
  generalize hE : ((n, gF c 2, gF c 4, gF c 5, lo) : heT) = E at *
  generalize hS : ((gF c 13, gF c 14, gI c 12 2, d) : sdT) = s at *
  have hEn : E.1 = n := by rw [← hE]
  have key : ∀ c2, ScC c c2 → gI c2 20 3 = bI (dz E s 7 - wz E r (dyS E s 7) b a < dz E s a - wz E r (dyS E s a) b a) → ∀ v : Int32, (x3 = 0 → v = eI (max (dz E s 7 - wz E r (dyS E s 7) b a) (dz E s a - wz E r (dyS E s a) b a))) → (¬ x3 = 0 → v = bI (dz E s 7 - wz E r (dyS E s 7) b a < dz E s a - wz E r (dyS E s a) b a)) → wp_X8_byTurns (TB 6) m x1 (nI (r + 1)) x3 (fun r2 m2 => v = r2 ∧ RelE c2 m2) := by
    intro c2 f2 hf v hv1 hv2
    refine mdl _ (fun z => absurd ⟨g1, g2, g3, g4⟩ z) (fun _ => ?_)
    have T : SpTB E (r + 1) a b x1 6 r := tAll (by omega) (by rw [← hE]; exact eo lo) (by omega) (by omega) ea eb 6 r (by omega)
    have sokE : sOK E.1 s := by rw [hEn]; exact so
    refine T 0 0 s m _ (by omega) e2 (by rw [hEn]; exact s2) sokE (fun m2 f3 => ?_)
    refine T 0 1 s m2 _ (by omega) (e2.scn f3) ((show stM m E.1 s by rw [hEn]; exact s2).fr f3.2.1 f3.2.2.1 f3.2.2.2.1) sokE (fun m3 f4 => ?_)
    have R : RelE c2 m3 := ⟨n, bs, h.scn f2 (f3.tr f4)⟩
    rw [show tkW a b 0 0 = 7 from rfl, show tkW a b 0 1 = a from rfl, show vz E a b 0 r s 7 = dz E s 7 - wz E r (dyS E s 7) b a from rfl, show vz E a b 0 r s a = dz E s a - wz E r (dyS E s a) b a from rfl, eI_max (by omega) (by omega) (by omega) (by omega)]
    have lt := eI_lt (a := dz E s 7 - wz E r (dyS E s 7) b a) (b := dz E s a - wz E r (dyS E s a) b a) (by omega) (by omega) (by omega) (by omega)
    refine ⟨fun q => ⟨fun q2 => ⟨?_, R⟩, fun q2 => ⟨?_, R⟩⟩, fun q => ⟨hv1 q, R⟩⟩
    · rw [hv2 q, bI_f (fun z => absurd (lt.mpr z) (Int32.not_lt.mpr q2))]
    · rw [hv2 q, bI_t (lt.mp (Int32.not_le.mp q2))]
  rw [eb, ea]
  refine worthC (E := E) (c0 := c) (by omega : r + 1 ≤ 5) (r + 1) 6 0 a b s _ _ (by omega) (by omega) (by omega) (by omega) (e1.cp isSt26 (by decide)) (by rw [hEn]; exact s1.cp (by decide)) sc (fun c2 f2 he2 fs2 fl => ?_)
  have fl := fl rfl r rfl
  refine ⟨fun q => ⟨fun q2 => key c2 f2 fl _ (fun z => absurd z q) (fun _ => ?_), fun q2 => key c2 f2 fl _ (fun z => absurd z q) (fun _ => ?_)⟩, fun q => key c2 f2 fl _ (fun _ => rfl) (fun z => absurd q z)⟩
  · rw [← fl, q2]
  · rw [fl, bI_0, Classical.not_not] at q2
    rw [bI_t q2]

/-! byTurns: the class -/
def eI (z : Int) : Int32 := Int32.ofInt z
theorem eI_toInt {z : Int} (h1 : -1000 ≤ z) (h2 : z ≤ 1000) : (eI z).toInt = z := by
  unfold eI
  rw [Int32.toInt_ofInt, show Int32.size = 4294967296 from rfl, Int.bmod_def]
  split <;> omega
theorem eI_add (a b : Int) : eI a + eI b = eI (a + b) := (Int32.ofInt_add a b).symm
theorem eI_sub (a b : Int) : eI a - eI b = eI (a - b) := (Int32.ofInt_sub a b).symm
theorem eI_neg (a : Int) : - eI a = eI (- a) := (Int32.ofInt_neg a).symm
theorem eI_lt {a b : Int} (h1 : -1000 ≤ a) (h2 : a ≤ 1000) (h3 : -1000 ≤ b) (h4 : b ≤ 1000) : eI a < eI b ↔ a < b := by
  rw [i_lt, eI_toInt h1 h2, eI_toInt h3 h4]
theorem eI_max {a b : Int} (h1 : -1000 ≤ a) (h2 : a ≤ 1000) (h3 : -1000 ≤ b) (h4 : b ≤ 1000) : (if eI a < eI b then eI b else eI a) = eI (max a b) := by
  by_cases h : a < b
  · rw [if_pos ((eI_lt h1 h2 h3 h4).mpr h)]; congr 1; omega
  · rw [if_neg (fun z => h ((eI_lt h1 h2 h3 h4).mp z))]; congr 1; omega
theorem eI_min {a b : Int} (h1 : -1000 ≤ a) (h2 : a ≤ 1000) (h3 : -1000 ≤ b) (h4 : b ≤ 1000) : (if eI b < eI a then eI b else eI a) = eI (min a b) := by
  by_cases h : b < a
  · rw [if_pos ((eI_lt h3 h4 h1 h2).mpr h)]; congr 1; omega
  · rw [if_neg (fun z => h ((eI_lt h3 h4 h1 h2).mp z))]; congr 1; omega
def dz (E : heT) (s : sdT) (w : Nat) : Int := (dyD E s w).toInt
theorem dz_n (E : heT) (s : sdT) (w : Nat) : 0 ≤ dz E s w ∧ dz E s w ≤ 20 ∧ dyD E s w = eI (dz E s w) := by
  obtain ⟨k, hk, e⟩ := dyD_n E s w
  unfold dz
  rw [e, nI_toInt (by omega)]
  refine ⟨by omega, by omega, ?_⟩
  apply Int32.toInt_inj.mp
  rw [nI_toInt (by omega), eI_toInt (by omega) (by omega)]
def wz (E : heT) : Nat → sdT → Nat → Nat → Int
  | 0, _, _, _ => 0
  | r + 1, s, a, b => max (dz E s 7 - wz E r (dyS E s 7) b a) (dz E s a - wz E r (dyS E s a) b a)
theorem wz_b (E : heT) : ∀ (r : Nat) (s : sdT) (a b : Nat), -20 * (r : Int) ≤ wz E r s a b ∧ wz E r s a b ≤ 20 * (r : Int)
  | 0, _, _, _ => by unfold wz; omega
  | r + 1, s, a, b => by
    have h1 := wz_b E r (dyS E s 7) b a
    have h2 := wz_b E r (dyS E s a) b a
    have h3 := dz_n E s 7
    have h4 := dz_n E s a
    unfold wz
    omega
def WF : Nat → rfS → Int32 → Int32 → Int32 → Int32 → (Int32 → rfS → Prop) → Prop
  | 0 => fun _ _ _ _ _ _ => False
  | k + 1 => wp_X6_worthFrom (wp_X6_worthBehind (WF k))
theorem WF_k : ∀ (k : Nat) (σ : rfS) (x1 x2 x3 x4 : Int32) (Q : Int32 → rfS → Prop), WF k σ x1 x2 x3 x4 Q → RM ΛC (3 + 2 * k) yX6_worthFrom cX6_worthFrom 7 (some .int) [.ref 20, .int x1, .int x2, .int x3, .int x4] σ (qi Q)
  | 0, _, _, _, _, _, _, h => h.elim
  | k + 1, σ, x1, x2, x3, x4, Q, h => k_X6_worthFrom (d := 3 + 2 * k + 1) (fun σ x1 x2 x3 x4 x5 Q h => k_X6_worthBehind (d := 3 + 2 * k) (WF_k k) (by omega) h) (by omega) h
/-- the standings up to step i stay -/
def FS (i : Nat) (c c2 : rfS) : Prop := ∀ j, j ≤ i → gF c2 (26 + 3 * j + 1) = gF c (26 + 3 * j + 1) ∧ gF c2 (26 + 3 * j + 2) = gF c (26 + 3 * j + 2) ∧ gI c2 (26 + 3 * j) = gI c (26 + 3 * j)
theorem FS.rf (i : Nat) (c : rfS) : FS i c c := fun _ _ => ⟨rfl, rfl, rfl⟩
theorem FS.tr {i : Nat} {c c2 c3 : rfS} (h1 : FS i c c2) (h2 : FS i c2 c3) : FS i c c3 := fun j hj => ⟨(h2 j hj).1.trans (h1 j hj).1, (h2 j hj).2.1.trans (h1 j hj).2.1, (h2 j hj).2.2.trans (h1 j hj).2.2⟩
theorem FS.le {i k : Nat} {c c2 : rfS} (h : FS k c c2) (hi : i ≤ k) : FS i c c2 := fun j hj => h j (by omega)
theorem FS.st {i n : Nat} {c c2 : rfS} {s : sdT} (h : FS i c c2) (hs : stC c (26 + 3 * i) n s) : stC c2 (26 + 3 * i) n s := hs.fr (h i (Nat.le_refl _)).1 (h i (Nat.le_refl _)).2.1 (h i (Nat.le_refl _)).2.2
theorem worthC {E : heT} {t : Nat} {c0 : rfS} (ht : t ≤ 5) : ∀ (r : Nat) (k i a b : Nat) (s : sdT) (c : rfS) (Q : Int32 → rfS → Prop), r < k → i + r = t → a < E.1 → b < E.1 → heC c E → stC c (26 + 3 * i) E.1 s → ScC c0 c → (∀ c2, ScC c0 c2 → heC c2 E → FS i c c2 → (i = 0 → ∀ r', r = r' + 1 → gI c2 20 3 = bI (dz E s 7 - wz E r' (dyS E s 7) b a < dz E s a - wz E r' (dyS E s a) b a)) → Q (eI (wz E r s a b)) c2) → WF k c (nI i) (nI t) (nI a) (nI b) Q := by
  intro r
  induction r with
  | zero =>
    intro k i a b s c Q hk hir ha hb hE hst hs hq
    obtain ⟨k, rfl⟩ : ∃ k', k = k' + 1 := ⟨k - 1, by omega⟩
    show wp_X6_worthFrom _ c (nI i) (nI t) (nI a) (nI b) Q
    unfold wp_X6_worthFrom
    exact ⟨fun z => absurd z (nI_nlt (by omega) (by omega)), fun _ => hq c hs hE (FS.rf i c) (fun _ r' z => by omega)⟩
  | succ r ih =>
    intro k i a b s c Q hk hir ha hb hE hst hs hq
    obtain ⟨k, rfl⟩ : ∃ k', k = k' + 1 := ⟨k - 1, by omega⟩
    have hn7 := hE.1
    have behind : ∀ (w : Nat) (c : rfS) (Q2 : Int32 → rfS → Prop), (w < E.1 ∨ w = 7) → heC c E → stC c (26 + 3 * i) E.1 s → ScC c0 c → (∀ c2, ScC c0 c2 → heC c2 E → FS i c c2 → Q2 (eI (dz E s w - wz E r (dyS E s w) b a)) c2) → wp_X6_worthBehind (WF k) c (nI i) (nI t) (nI w) (nI a) (nI b) Q2 := by
      intro w c Q2 hw hE hst hs hq2
      unfold wp_X6_worthBehind
      rw [nI_1, cl i, cl (i + 1), hE.2.1]
      have hd : 26 + 3 * i + 2 ≠ 26 + 3 * (i + 1) + 1 := by omega
      have s2 : ScC c (cpC c (26 + 3 * (i + 1)) (26 + 3 * i) E.1) := ScC.cp _ hd (by omega)
      obtain ⟨k1, k2, k3⟩ := cpC_fr c (a0 := 26 + 3 * (i + 1)) (a1 := 26 + 3 * i) (k := E.1) hd
      refine ⟨vin (by omega), vin (by omega), copyC hn7 ⟨vin (by omega), ?_⟩⟩
      refine passC (E := E) (isSt_n (j := i + 1) (by omega)) (hE.cp (isSt_n (j := i + 1) (by omega)) hd) (hst.cp hd) hw (fun c7 f7 t7 => ?_)
      have s3 : ScC (cpC c (26 + 3 * (i + 1)) (26 + 3 * i) E.1) c7 := ScC.P (by omega) f7
      have fs : FS i c c7 := fun j hj => ⟨by rw [f7.1 _ (by omega) (by omega) (by omega) (by omega), k1 _ (by omega) (by omega)], by rw [f7.1 _ (by omega) (by omega) (by omega) (by omega), k1 _ (by omega) (by omega)], by rw [f7.2.1 _ (by omega), k2 _ (by omega)]⟩
      refine ih k (i + 1) b a (dyS E s w) c7 _ (by omega) (by omega) hb ha ((hE.cp (isSt_n (j := i + 1) (by omega)) hd).P (isSt_n (j := i + 1) (by omega)) f7) t7 (hs.tr (s2.tr s3)) (fun c9 f9 e9 fs9 _ => ?_)
      obtain ⟨z1, z2, z3⟩ := dz_n E s w
      rw [z3, eI_sub]
      exact hq2 c9 f9 e9 (fs.tr (fs9.le (by omega)))
    show wp_X6_worthFrom (wp_X6_worthBehind (WF k)) c (nI i) (nI t) (nI a) (nI b) Q
    unfold wp_X6_worthFrom
    refine ⟨fun _ => ?_, fun z => absurd (nI_lt (by omega) (by omega)) z⟩
    refine behind 7 c _ (Or.inr rfl) hE hst hs (fun c2 f2 e2 fs2 => ?_)
    refine behind a c2 _ (Or.inl ha) e2 (fs2.st hst) f2 (fun c3 f3 e3 fs3 => ?_)
    have b1 := wz_b E r (dyS E s 7) b a
    have b2 := wz_b E r (dyS E s a) b a
    have d1 := dz_n E s 7
    have d2 := dz_n E s a
    have mx := eI_max (a := dz E s 7 - wz E r (dyS E s 7) b a) (b := dz E s a - wz E r (dyS E s a) b a) (by omega) (by omega) (by omega) (by omega)
    have lt := eI_lt (a := dz E s 7 - wz E r (dyS E s 7) b a) (b := dz E s a - wz E r (dyS E s a) b a) (by omega) (by omega) (by omega) (by omega)
    unfold wj_X6_worthFrom_49 wj_X6_worthFrom_52
    rw [mx]
    have fin : ∀ v : Int32, (v = bI (dz E s 7 - wz E r (dyS E s 7) b a < dz E s a - wz E r (dyS E s a) b a)) → Q (eI (wz E (r + 1) s a b)) (sI c3 20 3 v) := by
      intro v hv
      have sc : ScC c3 (sI c3 20 3 v) := ⟨fun _ _ _ _ _ => rfl, fun q hq => gI_sI_ne (by omega), fun _ => rfl⟩
      refine hq _ (f3.tr sc) (e3.fr (by rw [gI_sI_ne (by decide)]) rfl rfl rfl (by rw [gI_sI_ne (by decide)]) rfl) ((fs2.tr fs3).tr (fun j hj => ⟨rfl, rfl, gI_sI_ne (by omega)⟩)) (fun _ r' er => ?_)
      have : r' = r := by omega
      subst this
      rw [gI_sIs]; exact hv
    refine ⟨fun q => hq c3 f3 e3 (fs2.tr fs3) (fun z => absurd (by rw [z]; rfl) q), fun _ => ⟨fun q => ⟨Or.inl rfl, fin 0 ?_⟩, fun q => ⟨Or.inr rfl, fin 1 ?_⟩⟩⟩
    · rw [bI_f (fun z => absurd (lt.mpr z) (Int32.not_lt.mpr q))]
    · rw [bI_t (lt.mp (Int32.not_le.mp q))]

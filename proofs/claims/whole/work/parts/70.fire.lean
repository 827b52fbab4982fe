/-! fire: the whole call -/
theorem LbOK_of {a π : Nat → Nat} {n : Nat} (h1 : 1 ≤ n) (hn : n ≤ 7) (hπ : PI n a π) (ha : ∀ v, v < n → 1 ≤ a v ∧ a v ≤ 9) : ∃ Lb, LbOK a n Lb ∧ Lb (2 ^ n - 1) = cg (fun j => (a (π j) : Int)) n := by
  by_cases e : n = 1
  · subst e
    have p0 := hπ.1 0 (by omega)
    have e0 : π 0 = 0 := by omega
    have b0 := ha 0 (by omega)
    refine ⟨fun _ => (a 0 : Int), ⟨fun S => by show (a 0 : Int) ≤ 9999; omega, fun M S p q s1 s2 hp hq bp bq _ => ?_⟩, ?_⟩
    · have ep : p = 0 := by omega
      have eq : q = 0 := by omega
      have eS : S = 1 := by omega
      subst ep eq eS
      have : goV M a 1 1 0 0 = a 0 := by
        unfold goV trp
        rw [if_pos (by decide), if_neg (Nat.lt_irrefl _)]
      show (a 0 : Int) ≤ (goV M a 1 1 0 0 : Int)
      rw [this]
      exact Int.le_refl _
    · show (a 0 : Int) = (a (π 0) : Int)
      rw [e0]
  · have H := fiH_of hπ (by omega) ha
    refine ⟨fun S => fi (a (π 0)) (a (π 1)) (fun v => (a v : Int)) n S.testBit, ⟨fun S => by have := fi_le (β := S.testBit) H hn; show fi _ _ _ _ _ ≤ 9999; omega, fun M S p q s1 s2 hp hq bp bq hM => go_lb hn H hM s2 hp hq bp bq⟩, ?_⟩
    have := fi_all hπ (β := (2 ^ n - 1).testBit) (fun i hi => by rw [Nat.testBit_two_pow_sub_one]; exact decide_eq_true hi)
    show fi _ _ _ _ _ = _
    rw [this]
    refine fk_cg (n := n) ?_ (fun i j hij hj => ?_) (fun j hj => ?_) n (by omega) (Nat.le_refl _)
    · have := ha _ (hπ.1 0 (by omega)); show (1 : Int) ≤ (a (π 0) : Int); omega
    · have := hπ.2.2 i j hij hj; show (a (π i) : Int) ≤ (a (π j) : Int); omega
    · have := ha _ (hπ.1 j hj); show (a (π j) : Int) ≤ 9; omega
theorem PI_any {c0 : rfS} {a : Nat → Nat} {n : Nat} (h0 : slC c0 a n) : ∃ π, PI n a π := by
  have L : ∀ b, b ≤ n → ∃ π, PI b a π := by
    intro b
    induction b with
    | zero => intro _; exact ⟨fun j => j, fun j hj => absurd hj (by omega), fun i j hi => absurd hi (by omega), fun i j _ hj => absurd hj (by omega)⟩
    | succ b ih =>
      intro hb
      obtain ⟨π, hπ⟩ := ih (by omega)
      -- the place: behind all that are not slower
      have P : ∀ k, k ≤ b → (∀ j, b - k ≤ j → j < b → a b < a (π j)) → ∃ pl, pl ≤ b ∧ (∀ j, pl ≤ j → j < b → a b < a (π j)) ∧ (pl = 0 ∨ a (π (pl - 1)) ≤ a b) := by
        intro k
        induction h : b - k generalizing k with
        | zero => intro hk hj; exact ⟨0, by omega, fun j _ hj2 => hj j (by omega) hj2, Or.inl rfl⟩
        | succ pl ih2 =>
          intro hk hj
          by_cases c : a (π pl) ≤ a b
          · exact ⟨pl + 1, by omega, fun j a1 a2 => hj j (by omega) a2, Or.inr c⟩
          · refine ih2 (k + 1) (by omega) (by omega) (fun j a1 a2 => ?_)
            by_cases e : j = pl
            · rw [e]; omega
            · exact hj j (by omega) a2
      obtain ⟨pl, q1, q2, q3⟩ := P 0 (Nat.zero_le _) (fun j a1 a2 => absurd a2 (by omega))
      exact ⟨_, PI_ins hπ q1 q2 q3⟩
  exact L n (Nat.le_refl _)
theorem op_fire {n bs : Nat} {c m : rfS} (h : Rel n bs c m) (x1 : Int32) : wp_X7_fire c x1 (fun r1 c2 => wp_X8_fire m x1 (fun r2 m2 => r1 = r2 ∧ RelE c2 m2)) := by
  obtain ⟨hn7, hnC, hnM, hV⟩ := h.1
  have hsl : ∀ p, p < n → ∃ k, gF c 3 p = nI k ∧ gF m 1 (21 + p) = nI k ∧ 1 ≤ k ∧ k ≤ 9 ∧ k = (gF c 3 p).toNatClampNeg := by
    intro p hp
    obtain ⟨e1, e2⟩ := hV 3 p (by decide) (by simpa [bnd] using hp)
    have e1 : gF c 3 p = gF m 1 (21 + p) := e1
    have r1 : (1 : Int32) ≤ gF c 3 p := e2.1
    have r2 : gF c 3 p ≤ 9 := e2.2
    obtain ⟨k, hk, e⟩ := i_below (x := gF c 3 p) (k := 9) (by decide) ⟨Int32.le_trans (by decide) r1, r2⟩
    refine ⟨k, e, e1.symm.trans e, ?_, by omega, by rw [e, cl k]⟩
    rw [e, i_le, nI_toInt (by omega), show (1 : Int32).toInt = 1 from rfl] at r1
    omega
  have hC : slC c (fun p => (gF c 3 p).toNatClampNeg) n := ⟨hn7, hnC, fun p hp => by
    obtain ⟨k, k1, k2, k3, k4, k5⟩ := hsl p hp
    show gF c 3 p = nI (gF c 3 p).toNatClampNeg ∧ 1 ≤ (gF c 3 p).toNatClampNeg ∧ (gF c 3 p).toNatClampNeg ≤ 9
    rw [← k5]
    exact ⟨k1, k3, k4⟩⟩
  have hM : slM m (fun p => (gF c 3 p).toNatClampNeg) n := ⟨hn7, hnM, fun p hp => by
    obtain ⟨k, k1, k2, k3, k4, k5⟩ := hsl p hp
    show gF m 1 (21 + p) = nI (gF c 3 p).toNatClampNeg ∧ 1 ≤ (gF c 3 p).toNatClampNeg ∧ (gF c 3 p).toNatClampNeg ≤ 9
    rw [← k5]
    exact ⟨k2, k3, k4⟩⟩
  generalize (fun p => (gF c 3 p).toNatClampNeg) = a at hC hM
  have ha : ∀ v, v < n → 1 ≤ a v ∧ a v ≤ 9 := fun v hv => (hC.2.2 v hv).2
  have h128 := p2n hn7
  have p1 : 1 ≤ 2 ^ n := Nat.one_le_two_pow
  unfold wp_X7_fire
  refine ⟨fun e0 => ?_, fun n0 => ⟨fun e1 => ?_, fun n1 => ?_⟩⟩
  · -- minutes
    refine minC hC (fun π c2 r hπ hf hr _ => ?_)
    unfold wp_X8_fire
    subst e0
    simp only [w_within, bI_0, Classical.not_not]
    refine ⟨fun _ => ⟨fun nz => ?_, fun z => ?_⟩, fun z => absurd ⟨by decide, by decide⟩ z⟩
    · have h1 : 1 ≤ n := by
        rcases Nat.eq_zero_or_pos n with q | q
        · exact absurd (by rw [hnM, q]; rfl) nz
        · exact q
      obtain ⟨Lb, hl, hL⟩ := LbOK_of h1 hn7 hπ ha
      refine burns hM hl (fun M m2 hs hF => ⟨fun z => absurd (by decide) z, fun _ => ?_⟩)
      rw [hs.1.2.1, hnM, sh1 hn7]
      have e2 : nI (2 ^ n) - 1 = nI (2 ^ n - 1) := by rw [show (1 : Int32) = nI 1 from rfl, pk_sub p1]
      have h2n : 2 ≤ 2 ^ n := by
        have := Nat.pow_le_pow_right (n := 2) (by decide) h1
        simpa using this
      obtain ⟨g1, g2, g3⟩ := hs.2 (2 ^ n - 1) (by omega) (by omega)
      rw [e2, cl (2 ^ n - 1) (by omega), g1]
      have up := ub hn7 hF hπ n h1 (Nat.le_refl _) (2 ^ n - 1) (by omega) (fun i hi => by rw [im_all hπ hi, Nat.testBit_two_pow_sub_one]; exact decide_eq_true hi)
      refine ⟨vin (by omega), ?_, n, bs, (h.frC hf).frM hs.1⟩
      congr 1
      rw [hL] at g3
      omega
    · have hz : n = 0 := by
        rcases Nat.eq_zero_or_pos n with q | q
        · exact q
        · rw [hnM] at z
          have := congrArg Int32.toInt z
          rw [nI_toInt (by omega), show (0 : Int32).toInt = 0 from rfl] at this
          omega
      refine ⟨?_, n, bs, h.frC hf⟩
      rw [hz] at hr
      have : r = 0 := by
        have c0 : cg (fun j => (a (π j) : Int)) 0 = 0 := rfl
        omega
      rw [this]
      rfl
  · unfold wp_X7_firstOut wp_X8_fire
    subst e1
    simp only [w_within, bI_0, Classical.not_not, hnC]
    refine ⟨fun _ => ⟨fun nz => ?_, fun z => ?_⟩, fun z => absurd ⟨by decide, by decide⟩ z⟩
    · have h1 : 1 ≤ n := by
        rcases Nat.eq_zero_or_pos n with q | q
        · exact absurd (by rw [hnM, q]; rfl) nz
        · exact q
      obtain ⟨π, hπ⟩ := PI_any hC
      obtain ⟨Lb, hl, hL⟩ := LbOK_of h1 hn7 hπ ha
      refine burns hM hl (fun M m2 hs hF => ⟨fun _ => ⟨n + 1, ?_⟩, fun z => absurd z (by decide)⟩)
      rw [hs.1.2.1, hnM, sh1 hn7]
      have e2 : nI (2 ^ n) - 1 = nI (2 ^ n - 1) := by rw [show (1 : Int32) = nI 1 from rfl, pk_sub p1]
      have h2n : 2 ≤ 2 ^ n := by
        have := Nat.pow_le_pow_right (n := 2) (by decide) h1
        simpa using this
      have fb : ∀ i, i < n → (2 ^ n - 1).testBit i = true := fun i hi => by rw [Nat.testBit_two_pow_sub_one]; exact decide_eq_true hi
      obtain ⟨g1, g2, g3⟩ := hs.2 (2 ^ n - 1) (by omega) (by omega)
      rw [e2]
      have rel := h.frM hs.1
      by_cases c1 : n = 1
      · subst c1
        unfold wl_X8_fire_46
        rw [hs.1.2.1, hnM]
        refine ⟨fun z => absurd z (by decide), fun _ => goM (p := 0) (q := 0) hM hs (by omega) (by omega) (by omega) ?_⟩
        rw [cl (2 ^ 1 - 1) (by decide), g1]
        refine ⟨vin (by decide), fun z => absurd ?_ z, fun _ => ⟨by decide, 1, bs, rel⟩⟩
        have f1 := hF 1 0 0 (by decide) (by decide) (by decide) (by decide) (by decide) (by decide)
        have b0 := ha 0 (by omega)
        have e3 : goV M a 1 1 0 0 = a 0 := by
          unfold goV trp
          rw [if_pos (by decide), if_neg (Nat.lt_irrefl _)]
        have p0 := hπ.1 0 (by omega)
        have e0 : π 0 = 0 := by omega
        have g3 : Lb 1 ≤ (M 1 : Int) := g3
        have hL : Lb 1 = (a (π 0) : Int) := hL
        rw [e0] at hL
        show nI (goV M a 1 1 0 0) = nI (M 1)
        rw [e3]
        congr 1
        omega
      · -- more than one: whoever goes first alone, must come back himself
        have L : ∀ (k p : Nat), p + k = n → wl_X8_fire_46 (fun r2 m2 => (if 2 < nI n then 2 else nI n) = r2 ∧ RelE c m2) (k + 1) (nI (2 ^ n - 1)) (nI p) m2 := by
          intro k
          induction k with
          | zero =>
            intro p hp
            unfold wl_X8_fire_46
            rw [hs.1.2.1, hnM]
            have e : p = n := by omega
            subst e
            refine ⟨fun _ => ⟨?_, p, bs, rel⟩, fun z => absurd (Int32.le_refl _) z⟩
            by_cases c2 : 2 < p
            · rw [if_pos (show (2 : Int32) < nI p from (nIlt (a := 2) (by omega) (by omega)).mpr c2)]
            · rw [if_neg (show ¬ (2 : Int32) < nI p from fun z => c2 ((nIlt (a := 2) (by omega) (by omega)).mp z))]
              have : p = 2 := by omega
              rw [this]
              rfl
          | succ k ih =>
            intro p hp
            unfold wl_X8_fire_46
            rw [hs.1.2.1, hnM]
            have nle : ¬ nI n ≤ nI p := by
              rw [nI_le2 (by omega) (by omega)]
              omega
            refine ⟨fun z => absurd z nle, fun _ => goM hM hs (by omega) (by omega) (by omega) ?_⟩
            rw [cl (2 ^ n - 1) (by omega), g1, nI_1]
            have bp := ha p (by omega)
            have gl := goV_le hM (M := M) (S := 2 ^ n - 1) (p := p) (q := p) (by omega) (by omega)
            have gt : M (2 ^ n - 1) < goV M a n (2 ^ n - 1) p p := by
              have bits : ∀ i, i < n → (clr (clr (2 ^ n - 1) p) p).testBit i = decide (i ≠ p) := fun i hi => by
                rw [clr2_bit hn7 (by omega) (by omega) (by omega) hi, fb i hi]
                simp
              -- another one is in
              obtain ⟨w, w1, w2⟩ : ∃ w, w < n ∧ w ≠ p := by
                by_cases q : p = 0
                · exact ⟨1, by omega, by omega⟩
                · exact ⟨0, by omega, by omega⟩
              have ne : ¬ clr (clr (2 ^ n - 1) p) p = 0 := fun z => by
                have := bits w w1
                rw [z, Nat.zero_testBit] at this
                simp [w2] at this
              unfold goV trp
              rw [if_neg ne, if_neg (Nat.lt_irrefl _)]
              have := sn_ge (M := M) (a := a) (L := clr (clr (2 ^ n - 1) p) p) (B := (M (2 ^ n - 1) : Int)) (by omega) n (fun r hr br => by
                have er : r = p := by
                  rw [bits r hr] at br
                  simpa using br
                subst er
                have e5 : clr (clr (2 ^ n - 1) r) r ||| 2 ^ r = 2 ^ n - 1 := by
                  apply Nat.eq_of_testBit_eq
                  intro i
                  rcases Nat.lt_or_ge i n with hi | hi
                  · rw [or_bit, bits i hi, fb i hi]
                    by_cases q : i = r <;> simp [q]
                  · have h2 := Nat.pow_le_pow_right (n := 2) (by decide) hi
                    have o := or_lt (n := n) (clr2_lt (S := 2 ^ n - 1) (p := r) (q := r) (by omega)) hr
                    rw [Nat.testBit_lt_two_pow (Nat.lt_of_lt_of_le o h2), Nat.testBit_lt_two_pow (Nat.lt_of_lt_of_le (by omega) h2)]
                rw [e5]
                omega)
              omega
            refine ⟨vin (by omega), fun _ => ih (p + 1) (by omega), fun z => ?_⟩
            have := congrArg Int32.toInt z
            rw [nI_toInt (by omega), nI_toInt (by omega)] at this
            omega
        exact L n 0 (by omega)
    · have hz : n = 0 := by
        rcases Nat.eq_zero_or_pos n with q | q
        · exact q
        · rw [hnM] at z
          have := congrArg Int32.toInt z
          rw [nI_toInt (by omega), show (0 : Int32).toInt = 0 from rfl] at this
          omega
      refine ⟨?_, n, bs, h⟩
      rw [hz]
      decide
  · unfold wp_X8_fire
    simp only [w_within, bI_0, Classical.not_not]
    refine ⟨fun z => ?_, fun _ => ⟨by simp, n, bs, h⟩⟩
    obtain ⟨k, hk, rfl⟩ := i_below (k := 1) (by decide) z
    have hc : k = 0 ∨ k = 1 := by omega
    rcases hc with rfl | rfl
    · exact absurd rfl n0
    · exact absurd rfl n1

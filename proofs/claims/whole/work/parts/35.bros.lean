/-! brothers -/
theorem w_told {m : rfS} {s i : Nat} (hs : s < 6) (hi : i < 60) (Q : Int32 → rfS → Prop) (h : Q (gL m 22 (60 * s + i)).toInt32 m) : wp_X8_toldAt m (nI s) (nI i) Q := by
  unfold wp_X8_toldAt
  rw [show (60 : Int32) = nI 60 from rfl, pk_mul, nI_add, cl (60 * s + i)]
  exact ⟨vin (by omega), h⟩
theorem bro {bs s K p N : Nat} (hs : s < 6) (hK : K ≤ 60) (hp : p < 2 ^ 31) (hN : N ≤ 7) : ∀ (f came n : Nat) (c m : rfS), Rel n bs c m → shRow c m s 1 K → came ≤ N → (came = 0 ∨ p + 3 * came ≤ 60) → N - came < f → ∃ (r : Int32) (c2 m2 : rfS), RelE c2 m2 ∧ (∀ Q : Int32 → rfS → Prop, Q r c2 → wl_X7_brothers_57 Q f (nI N) (53 + 2 * s) (nI came) (nI (p + 3 * came)) c) ∧ (∀ Q : Int32 → rfS → Prop, Q r m2 → wl_X8_brothers_50 Q f (nI s) (nI p) (nI N) (nI came) (nI came) m) := by
  intro f
  induction f with
  | zero => intro came n c m _ _ _ _ h; omega
  | succ f ih =>
    intro came n c m h hr hc hp2 hf
    obtain ⟨hn7, hnC, hnM, hV⟩ := h.1
    obtain ⟨r1, r2, r3, r4, r5⟩ := id hr
    by_cases e1 : N ≤ came
    · have e2 : nI N ≤ nI came := nI_le e1 (by omega)
      refine ⟨nI came, c, m, ⟨n, bs, h⟩, fun Q hq => ?_, fun Q hq => ?_⟩
      · unfold wl_X7_brothers_57; exact ⟨fun _ => hq, fun q => absurd e2 q⟩
      · unfold wl_X8_brothers_50; exact ⟨fun _ => hq, fun q => absurd e2 q⟩
    · have e2 : ¬ nI N ≤ nI came := nI_ge (by omega) (by omega)
      have pl : p + 3 * came < 2 ^ 31 := by omega
      have l1 : (nI p).toInt64 + 3 * (nI came).toInt64 = lN (p + 3 * came) := by
        rw [nI_l hp, nI_l (by omega), show (3 : Int64) = lN 3 from rfl, lN_mul, lN_add]
      have l2 : ¬ lN (p + 3 * came) < 0 := by
        rw [show (0 : Int64) = lN 0 from rfl, lN_ltB (by omega) (by omega)]; omega
      have l3 : (gF m 21 s).toInt64 = lN K := by rw [r4, nI_l (by omega)]
      have n0 : ¬ nI (p + 3 * came) < 0 := by
        rw [show (0 : Int32) = nI 0 from rfl, nI_ltI pl (by decide)]; omega
      have n3 : (nI K - 3 < nI (p + 3 * came)) ↔ K < (p + 3 * came) + 3 := sub_lt hK pl (by decide)
      have n4 : (lN K < lN (p + 3 * came) + 3) ↔ K < (p + 3 * came) + 3 := by
        rw [show (3 : Int64) = lN 3 from rfl, lN_add, lN_ltB (by omega) (by omega)]
      -- an end without a new one
      have stop : (K < (p + 3 * came) + 3 ∨ n = 7) → ∃ (r : Int32) (c2 m2 : rfS), RelE c2 m2 ∧ (∀ Q : Int32 → rfS → Prop, Q r c2 → wl_X7_brothers_57 Q (f + 1) (nI N) (53 + 2 * s) (nI came) (nI (p + 3 * came)) c) ∧ (∀ Q : Int32 → rfS → Prop, Q r m2 → wl_X8_brothers_50 Q (f + 1) (nI s) (nI p) (nI N) (nI came) (nI came) m) := by
        intro hst
        refine ⟨nI came, c, m, ⟨n, bs, h⟩, fun Q hq => ?_, fun Q hq => ?_⟩
        · unfold wl_X7_brothers_57 wp_X7_comesFrom
          refine ⟨fun q => absurd q e2, fun _ => ⟨fun q => absurd q n0, fun _ => ?_⟩⟩
          rw [r3, hnC]
          refine ⟨fun _ => ⟨fun _ => hq, fun q => absurd rfl q⟩, fun q => ⟨fun q2 => ?_, fun _ => ⟨fun _ => hq, fun q => absurd rfl q⟩⟩⟩
          rcases hst with e | e
          · exact absurd (n3.mpr e) q
          · exact absurd (by rw [e]; rfl) q2
        · unfold wl_X8_brothers_50
          simp only [lg_cmp_lt, lg_cmp_gt, l1, cl s, l3, hnM]
          refine ⟨fun q => absurd q e2, fun _ => ⟨fun q => absurd q l2, fun _ => ⟨vin hs, fun _ => hq, fun q => ⟨fun q2 => ?_, fun _ => hq⟩⟩⟩⟩
          rcases hst with e | e
          · exact absurd (n4.mpr e) q
          · exact absurd (by rw [e]; rfl) q2
      by_cases e3 : K < (p + 3 * came) + 3
      · exact stop (Or.inl e3)
      by_cases e4 : n = 7
      · exact stop (Or.inr e4)
      have a1 := (r5 (p + 3 * came) (by omega)).1
      have a2 := (r5 (p + 3 * came + 1) (by omega)).1
      have a3 := (r5 (p + 3 * came + 2) (by omega)).1
      have n7 : ¬ nI n = 7 := by
        rw [show (7 : Int32) = nI 7 from rfl, nI_eq (by omega) (by decide)]; exact e4
      have t1 : nI (p + 3 * came) + 1 = nI (p + 3 * came + 1) := nI_1 _
      have t2 : nI (p + 3 * came) + 2 = nI (p + 3 * came + 2) := nI_add _ 2
      have t3 : nI (p + 3 * came) + 3 = nI (p + 3 * (came + 1)) := by
        rw [show (3 : Int32) = nI 3 from rfl, nI_add, show p + 3 * came + 3 = p + 3 * (came + 1) by omega]
      have t4 : (lN (p + 3 * came)).toInt32 = nI (p + 3 * came) := lN_i _
      generalize hA1 : (gL c (53 + 2 * s + 1) (p + 3 * came)).toInt32 = A1
      generalize hA2 : (gL c (53 + 2 * s + 1) (p + 3 * came + 1)).toInt32 = A2
      generalize hA3 : (gL c (53 + 2 * s + 1) (p + 3 * came + 2)).toInt32 = A3
      have b1 : (gL m 22 (60 * s + (p + 3 * came))).toInt32 = A1 := by rw [← a1]; exact hA1
      have b2 : (gL m 22 (60 * s + (p + 3 * came + 1))).toInt32 = A2 := by rw [← a2]; exact hA2
      have b3 : (gL m 22 (60 * s + (p + 3 * came + 2))).toInt32 = A3 := by rw [← a3]; exact hA3
      -- what the class does
      have cls : ∀ Q : Int32 → rfS → Prop, (¬ (rg 0 127 A1 ∧ rg 0 99 A2 ∧ rg 0 255 A3) → Q 0 c) → ((rg 0 127 A1 ∧ rg 0 99 A2 ∧ rg 0 255 A3) → Q 1 (comeC c n A1 A2 A3)) → wp_X7_comesFrom c (53 + 2 * s) (nI (p + 3 * came)) Q := by
        intro Q h0 h1
        unfold wp_X7_comesFrom
        rw [r3, hnC, t1, t2, cl (p + 3 * came), cl (p + 3 * came + 1), cl (p + 3 * came + 2), hA1, hA2, hA3]
        simp only [w_isWithin, bI_0, Classical.not_not]
        refine ⟨fun q => absurd q n0, fun _ => ⟨fun q => absurd (n3.mp q) e3, fun _ => ⟨fun _ => ⟨vin (by omega), vin (by omega), vin (by omega), fun q => h0 (fun z => q z.1), fun q1 => ⟨fun q => h0 (fun z => q z.2.1), fun q2 => ⟨fun q3 => welC hnC (by omega) (h1 ⟨q1, q2, q3⟩), fun q => h0 (fun z => q z.2.2)⟩⟩⟩, fun q => absurd q n7⟩⟩⟩
      by_cases ok : rg 0 127 A1 ∧ rg 0 99 A2 ∧ rg 0 255 A3
      · obtain ⟨o1, o2, o3⟩ := id ok
        have hrel := h.come (w := A1) (o := A2) (k := A3) (by omega) o1 o2 o3
        have sr : shRow (comeC c n A1 A2 A3) (comeM m n A1 A2 A3) s 1 K := by
          have u1 : gI (comeC c n A1 A2 A3) (53 + 2 * s) = gI c (53 + 2 * s) := by
            unfold comeC
            rw [show gI (sI (upC (upC (upC (upC c 0 n A1) 3 n 3) 1 n A2) 2 n A3) 1 0 (nI (n + 1))) (53 + 2 * s) = gI (upC (upC (upC (upC c 0 n A1) 3 n 3) 1 n A2) 2 n A3) (53 + 2 * s) from funext fun b => gI_sIk (by omega), gI_upC (by decide) (by omega), gI_upC (by decide) (by omega), gI_upC (by decide) (by omega), gI_upC (by decide) (by omega)]
          have u2 : gL (comeC c n A1 A2 A3) (53 + 2 * s + 1) = gL c (53 + 2 * s + 1) := by
            unfold comeC
            rw [gL_sI_f, gL_upC (by decide), gL_upC (by decide), gL_upC (by decide), gL_upC (by decide)]
          have u3 : ∀ k, k ≠ 1 → k ≠ 2 → gF (comeM m n A1 A2 A3) k = gF m k := by
            intro k k1 k2
            unfold comeM
            rw [gF_sI_f, gF_upM k1 k2, gF_upM k1 k2, gF_upM k1 k2, gF_upM k1 k2]
          have u4 : gL (comeM m n A1 A2 A3) 22 = gL m 22 := by
            unfold comeM
            rw [gL_sI_f, gL_upM, gL_upM, gL_upM, gL_upM]
          unfold shRow
          rw [u1, u2, u3 20 (by decide) (by decide), u3 21 (by decide) (by decide), u4]
          exact hr
        obtain ⟨r, c2, m2, g1, g2, g3⟩ := ih (came + 1) (n + 1) _ _ hrel sr (by omega) (by omega) (by omega)
        refine ⟨r, c2, m2, g1, fun Q hq => ?_, fun Q hq => ?_⟩
        · unfold wl_X7_brothers_57
          refine ⟨fun q => absurd q e2, fun _ => cls _ (fun q => absurd ok q) (fun _ => ⟨fun q => absurd q (by decide), fun _ => ?_⟩)⟩
          rw [nI_1, t3]
          exact g2 Q hq
        · unfold wl_X8_brothers_50
          simp only [lg_cmp_lt, lg_cmp_gt, l1, cl s, l3, hnM, w_within, bI_0, t4, t1, t2]
          refine ⟨fun q => absurd q e2, fun _ => ⟨fun q => absurd q l2, fun _ => ⟨vin hs, fun q => absurd (n4.mp q) e3, fun _ => ⟨fun _ => w_told hs (by omega) _ ⟨fun q => absurd (by rw [b1]; exact o1) q, fun _ => w_told hs (by omega) _ ⟨fun q => absurd (by rw [b2]; exact o2) q, fun _ => w_told hs (by omega) _ ⟨fun _ => w_told hs (by omega) _ (w_told hs (by omega) _ (w_told hs (by omega) _ (welM hnM (by omega) ?_))), fun q => absurd (by rw [b3]; exact o3) q⟩⟩⟩, fun q => absurd q n7⟩⟩⟩⟩
          rw [b1, b2, b3, nI_1]
          exact g3 Q hq
      · refine ⟨nI came, c, m, ⟨n, bs, h⟩, fun Q hq => ?_, fun Q hq => ?_⟩
        · unfold wl_X7_brothers_57
          exact ⟨fun q => absurd q e2, fun _ => cls _ (fun _ => ⟨fun _ => hq, fun q => absurd rfl q⟩) (fun q => absurd q ok)⟩
        · unfold wl_X8_brothers_50
          simp only [lg_cmp_lt, lg_cmp_gt, l1, cl s, l3, hnM, w_within, bI_0, t4, t1, t2, Classical.not_not]
          refine ⟨fun q => absurd q e2, fun _ => ⟨fun q => absurd q l2, fun _ => ⟨vin hs, fun q => absurd (n4.mp q) e3, fun _ => ⟨fun _ => w_told hs (by omega) _ ⟨fun q => hq, fun q1 => w_told hs (by omega) _ ⟨fun q => hq, fun q2 => w_told hs (by omega) _ ⟨fun q3 => ?_, fun q => hq⟩⟩⟩, fun q => absurd q n7⟩⟩⟩⟩
          rw [b1] at q1; rw [b2] at q2; rw [b3] at q3
          exact absurd ⟨q1, q2, q3⟩ ok
theorem op_brothers {n bs : Nat} {c m : rfS} (h : Rel n bs c m) (x1 x2 x3 : Int32) : wp_X7_brothers c x1 x2 x3 (fun r1 c2 => wp_X8_brothers m x1 x2 x3 (fun r2 m2 => r1 = r2 ∧ RelE c2 m2)) := by
  obtain ⟨hn7, hnC, hnM, hV⟩ := h.1
  have hSh := h.2.2.2.2.2.2.2.2.1
  -- the model's answer where it is none of the two loops
  unfold wp_X7_brothers
  simp only [w_isShelf, w_isWithin, bI_0, Classical.not_not]
  refine ⟨fun hw => ?_, fun hw => ⟨fun hw2 => ?_, fun hw2 => ?_⟩⟩
  · unfold wp_X8_brothers
    simp only [w_mShelf, w_within, bI_0, Classical.not_not]
    exact ⟨fun _ => ⟨by simp, n, bs, h⟩, fun q => absurd q hw⟩
  · obtain ⟨s, hs, rfl⟩ := i_below (k := 5) (by decide) hw
    rw [cl s]
    refine ⟨vin hs, fun hne => ⟨fun h1 => ?_, fun h1 => ?_⟩, fun he => ?_⟩
    · have row : ∃ K, K ≤ 60 ∧ shRow c m s 1 K := by
        rcases hSh s hs with ⟨a1, a2⟩ | ⟨b, b1, b2, b3, b4⟩ | ⟨t, k, ht, hk, hr⟩
        · exact absurd a1 hne
        · rw [b2] at h1; exact absurd h1 (by decide)
        · have e : t = 1 := by
            have := hr.1
            rw [h1, show (1 : Int32) = nI 1 from rfl] at this
            exact ((nI_eq (by decide) (by omega)).mp this).symm
          subst e
          exact ⟨k, hk, hr⟩
      obtain ⟨K, hK, hr⟩ := row
      have mdl : ∀ Q : Int32 → rfS → Prop, (∃ f, wl_X8_brothers_50 Q f (nI s) x2 x3 0 0 m) → wp_X8_brothers m (nI s) x2 x3 Q := by
        intro Q hq
        unfold wp_X8_brothers
        simp only [w_mShelf, w_within, bI_0, Classical.not_not]
        rw [cl s, hr.2.1]
        exact ⟨fun q => absurd hw q, fun _ => ⟨fun _ => ⟨vin hs, fun _ => ⟨vin hs, fun _ => hq, fun q => absurd (by decide) q⟩, fun q => absurd q (by decide)⟩, fun q => absurd hw2 q⟩⟩
      obtain ⟨N, hN, rfl⟩ := i_below (k := 7) (x := x3) (by decide) ⟨Int32.le_trans (by decide) hw2.1, hw2.2⟩
      by_cases neg : x2 < 0
      · refine ⟨1, ?_⟩
        have N0 : ¬ nI N ≤ 0 := fun q => absurd (Int32.le_trans hw2.1 q) (by decide)
        unfold wl_X7_brothers_57 wp_X7_comesFrom
        refine ⟨fun q => absurd q N0, fun _ => ⟨fun _ => ⟨fun _ => mdl _ ⟨1, ?_⟩, fun q => absurd rfl q⟩, fun q => absurd neg q⟩⟩
        unfold wl_X8_brothers_50
        simp only [lg_cmp_lt, lg_cmp_gt]
        refine ⟨fun q => absurd q N0, fun _ => ⟨fun _ => ⟨by simp, n, bs, h⟩, fun q => absurd ?_ q⟩⟩
        rw [show x2.toInt64 + 3 * (0 : Int32).toInt64 = x2.toInt64 from by rw [show (3 : Int64) * (0 : Int32).toInt64 = 0 from by decide, Int64.add_zero], show (0 : Int64) = (0 : Int32).toInt64 from rfl, Int64.lt_iff_toInt_lt, Int32.toInt_toInt64, Int32.toInt_toInt64, ← i_lt]
        exact neg
      · obtain ⟨p, hp, rfl⟩ := nI_of neg
        obtain ⟨r, c2, m2, g1, g2, g3⟩ := bro hs hK hp (by omega : N ≤ 7) 8 0 n c m h hr (by omega) (Or.inl rfl) (by omega)
        exact ⟨8, g2 _ (mdl _ ⟨8, g3 _ ⟨rfl, g1⟩⟩)⟩
    · unfold wp_X8_brothers
      simp only [w_mShelf, w_within, bI_0, Classical.not_not]
      rw [cl s]
      have : ¬ gF m 20 s = -1 ∧ ¬ gF m 20 s = 1 := by
        rcases hSh s hs with ⟨a1, a2⟩ | ⟨b, b1, b2, b3, b4⟩ | ⟨t, k, ht, hk, hr⟩
        · exact absurd a1 hne
        · rw [b4]
          refine ⟨(sh_boot (by have := h.2.2.2.2.2.2.1.1; omega)).2, fun q => ?_⟩
          have := (nI_eq (b := 1) (by have := h.2.2.2.2.2.2.1.1; omega) (by decide)).mp q
          omega
        · rw [hr.2.1]
          rw [hr.1] at h1
          exact ⟨(sh_row ht).2.2.1, h1⟩
      exact ⟨fun q => absurd hw q, fun _ => ⟨fun _ => ⟨vin hs, fun _ => ⟨vin hs, fun q => absurd q this.2, fun _ => ⟨by simp, n, bs, h⟩⟩, fun q => absurd q this.1⟩, fun q => absurd hw2 q⟩⟩
    · unfold wp_X8_brothers
      simp only [w_mShelf, w_within, bI_0, Classical.not_not]
      rw [cl s]
      have : gF m 20 s = -1 := by
        rcases hSh s hs with ⟨a1, a2⟩ | ⟨b, b1, b2, b3, b4⟩ | ⟨t, k, ht, hk, hr⟩
        · exact a2
        · rw [b2] at he; exact absurd he (by decide)
        · rw [hr.1] at he; exact absurd he (sh_row ht).2.2.2
      exact ⟨fun q => absurd hw q, fun _ => ⟨fun _ => ⟨vin hs, fun q => absurd this q, fun _ => ⟨by simp, n, bs, h⟩⟩, fun q => absurd hw2 q⟩⟩
  · unfold wp_X8_brothers
    simp only [w_mShelf, w_within, bI_0, Classical.not_not]
    exact ⟨fun q => absurd hw q, fun _ => ⟨fun q => absurd q hw2, fun _ => ⟨by simp, n, bs, h⟩⟩⟩

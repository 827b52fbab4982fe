/-! week: the class's table and way -/
def ScW (c c2 : rfS) : Prop := (∀ q, q ≠ 24 → gF c2 q = gF c q) ∧ (∀ q, gI c2 q = gI c q) ∧ (∀ q, gL c2 q = gL c q) ∧ ∀ j, 896 ≤ j → gF c2 24 j = gF c 24 j
theorem ScW.rf (c : rfS) : ScW c c := ⟨fun _ _ => rfl, fun _ => rfl, fun _ => rfl, fun _ _ => rfl⟩
theorem ScW.tr {c c2 c3 : rfS} (h1 : ScW c c2) (h2 : ScW c2 c3) : ScW c c3 := ⟨fun q a => (h2.1 q a).trans (h1.1 q a), fun q => (h2.2.1 q).trans (h1.2.1 q), fun q => (h2.2.2.1 q).trans (h1.2.2.1 q), fun j a => (h2.2.2.2 j a).trans (h1.2.2.2 j a)⟩
theorem Rel.wk {n bs : Nat} {c m c2 : rfS} (h : Rel n bs c m) (f : ScW c c2) : Rel n bs c2 m := by
  obtain ⟨hV, hT, hL, hLd, hIm, hCh, hBo, hTr, hSh, hMd⟩ := h
  obtain ⟨fF, fI, fL, f24⟩ := f
  refine ⟨hV.fr (by rw [fI]) (fF 2 (by decide)) (fF 3 (by decide)) (fF 4 (by decide)) (fF 5 (by decide)) (fF 13 (by decide)) (fF 14 (by decide)) (by rw [fI]) (by rw [fI]) rfl rfl rfl, hT.fr (by rw [fI]) (fF 9 (by decide)) rfl rfl, hL.fr (by rw [fI]) (fF 7 (by decide)) rfl rfl rfl rfl rfl rfl, hLd.fr (fF 15 (by decide)) rfl, hIm.fr (fI 0) (fI 16) (fF 17 (by decide)) (fF 18 (by decide)) (fF 19 (by decide)) rfl rfl rfl rfl, hCh.fr (fI 44) (fF 45 (by decide)) (fF 46 (by decide)) (fF 47 (by decide)) (fF 48 (by decide)) rfl rfl rfl, hBo.fr (by rw [fI]) (fF 50 (by decide)) rfl rfl, hTr.fr (by rw [fI]) (fF 51 (by decide)) rfl rfl, hSh.fr (fun k hk => ⟨fI k, fL k⟩) rfl rfl rfl, fun j h1 h2 => by rw [f24 j h1]; exact hMd j h1 h2⟩
theorem fillL {wn : Nat → Int32} {n d : Nat} (hn : n ≤ 7) (hd : d ≤ 6) {x1 : Int32} {Q : Int32 → rfS → Prop} {kx : Int32 → Int32 → Int32 → rfS → Prop} : ∀ (f S : Nat) (c : rfS), gI c 1 0 = nI n → (∀ p, p < n → gF c 2 p = wn p) → (∀ d2, d < d2 → d2 ≤ 7 → rowT c wn n d2) → (∀ S2, S2 < S → gF c 24 (128 * d + S2) = eI (mz wn n (7 - d) S2)) → S ≤ 2 ^ n → 2 ^ n - S < f → (∀ c2, ScW c c2 → (∀ d2, d ≤ d2 → d2 ≤ 7 → rowT c2 wn n d2) → kx x1 (nI (2 ^ n)) (nI d) c2) → wl_X6_dealt_20 Q kx f x1 (nI (2 ^ n)) (nI d) (nI S) c := by
  have p := p2n hn
  intro f
  induction f with
  | zero => intro S c _ _ _ _ _ h; omega
  | succ f ih =>
    intro S c hnc hw hr hrow hS hf hk
    unfold wl_X6_dealt_20
    refine ⟨fun q => ?_, fun q => ?_⟩
    · have := (nI_leI (by omega) (by omega)).mp q
      refine hk c (ScW.rf c) (fun d2 h1 h2 => ?_)
      by_cases e : d2 = d
      · rw [e]; exact fun S2 hS2 => hrow S2 (by omega)
      · exact hr d2 (by omega) h2
    · have hlt : S < 2 ^ n := by
        rcases Nat.lt_or_ge S (2 ^ n) with z | z
        · exact z
        · exact absurd (nI_le z (by omega)) q
      refine holderC hn hnc hw hd hlt (hr (d + 1) (by omega) (by omega)) ?_
      have hm := hz_m (wn := wn) (n := n) (r := 6 - d) (S := S) hn
      rw [show 6 - d + 1 = 7 - d by omega] at hm
      have hok : hz wn n (6 - d) S < n ∨ hz wn n (6 - d) S = 7 := by
        rcases hm with z | z
        · exact Or.inr z.1
        · exact Or.inl z.1
      refine dealtC hn hd hlt (hr (d + 1) (by omega) (by omega)) hok ?_
      have ev : ((if hz wn n (6 - d) S = 7 then 0 else 1 : Int) + mz wn n (6 - d) (if hz wn n (6 - d) S = 7 then S else S ||| 2 ^ hz wn n (6 - d) S)) = mz wn n (7 - d) S := by
        rcases hm with z | z
        · rw [if_pos z.1, if_pos z.1, z.2]; omega
        · have n7 : ¬ hz wn n (6 - d) S = 7 := by omega
          rw [if_neg n7, if_neg n7, z.2.2]
      rw [ev, show nI d * 128 + nI S = nI (128 * d + S) from by rw [show (128 : Int32) = nI 128 from rfl, pk_mul, nI_add, Nat.mul_comm], cl (128 * d + S), nI_1]
      have sw : ScW c (sF c 24 (128 * d + S) (eI (mz wn n (7 - d) S))) := ⟨fun q hq => gF_sF_ne hq, fun _ => rfl, fun _ => rfl, fun j hj => gF_sFi (by omega)⟩
      refine ⟨vin (by omega), ih (S + 1) _ hnc (fun p hp => by rw [gF_sFn (by decide)]; exact hw p hp) (fun d2 h1 h2 S2 hS2 => ?_) (fun S2 hS2 => ?_) (by omega) (by omega) (fun c2 f2 r2 => hk c2 (sw.tr f2) r2)⟩
      · rw [gF_sFi (by omega)]; exact hr d2 h1 h2 S2 hS2
      · by_cases e : S2 = S
        · rw [e, gF_sFs]
        · rw [gF_sFi (by omega)]; exact hrow S2 (by omega)
theorem fillO {wn : Nat → Int32} {n : Nat} (hn : n ≤ 7) {x1 : Int32} {Q : Int32 → rfS → Prop} {kx : Int32 → rfS → Prop} : ∀ (d : Nat) (c : rfS), d ≤ 7 → gI c 1 0 = nI n → (∀ p, p < n → gF c 2 p = wn p) → (∀ d2, d ≤ d2 → d2 ≤ 7 → rowT c wn n d2) → (∀ c2, ScW c c2 → (∀ d2, d2 ≤ 7 → rowT c2 wn n d2) → kx x1 c2) → wl_X6_dealt_13 Q kx (d + 1) x1 (nI (2 ^ n)) (nI d - 1) c := by
  intro d
  induction d with
  | zero =>
    intro c _ hnc hw hr hk
    unfold wl_X6_dealt_13
    exact ⟨fun _ => hk c (ScW.rf c) (fun d2 h => hr d2 (by omega) h), fun z => absurd (by decide) z⟩
  | succ d ih =>
    intro c hd hnc hw hr hk
    unfold wl_X6_dealt_13
    rw [nI_pred]
    refine ⟨fun z => absurd z (nI_pos (by omega)), fun _ => ⟨2 ^ n + 1, ?_⟩⟩
    refine fillL hn (by omega) (2 ^ n + 1) 0 c hnc hw (fun d2 h1 h2 => hr d2 (by omega) h2) (fun S2 h => by omega) (Nat.zero_le _) (by rw [Nat.sub_zero]; exact Nat.lt_succ_self _) (fun c2 f2 r2 => ?_)
    rw [show nI d + -1 = nI d - 1 from (Int32.sub_eq_add_neg _ _).symm]
    exact ih c2 (by omega) (by rw [f2.2.1]; exact hnc) (fun p hp => by rw [f2.1 2 (by decide)]; exact hw p hp) r2 (fun c3 f3 r3 => hk c3 (f2.tr f3) r3)
/-- who has been served ahead of day d, and who has day d -/
def gpz (wn : Nat → Int32) (n : Nat) (r S : Nat) : Nat := if hz wn n r S = 7 then S else S ||| 2 ^ hz wn n r S
def svz (wn : Nat → Int32) (n : Nat) : Nat → Nat
  | 0 => 0
  | d + 1 => gpz wn n (6 - d) (svz wn n d)
theorem gp_lt {wn : Nat → Int32} {n r S : Nat} (hn : n ≤ 7) (hS : S < 2 ^ n) : gpz wn n r S < 2 ^ n := by
  unfold gpz
  rcases hz_m (wn := wn) (n := n) (r := r) (S := S) hn with z | z
  · rw [if_pos z.1]; exact hS
  · rw [if_neg (by omega)]; exact or_lt hS z.1
theorem sv_lt {wn : Nat → Int32} {n : Nat} (hn : n ≤ 7) : ∀ d, svz wn n d < 2 ^ n
  | 0 => Nat.two_pow_pos _
  | d + 1 => gp_lt hn (sv_lt hn d)
theorem wayL {wn : Nat → Int32} {n D : Nat} {c : rfS} (hn : n ≤ 7) (hD : D ≤ 6) (hnc : gI c 1 0 = nI n) (hw : ∀ p, p < n → gF c 2 p = wn p) (hr : ∀ d2, d2 ≤ 7 → rowT c wn n d2) {Q : Int32 → rfS → Prop} {kx : Int32 → Int32 → rfS → Prop} (hk : kx (nI D) (nI (svz wn n D)) c) : ∀ (f d : Nat), d ≤ D → D - d < f → wl_X6_dealt_81 Q kx f (nI D) (nI (svz wn n d)) (nI d) c := by
  intro f
  induction f with
  | zero => intro d _ h; omega
  | succ f ih =>
    intro d hd hf
    unfold wl_X6_dealt_81
    refine ⟨fun q => ?_, fun q => ?_⟩
    · have := (nI_leI (by omega) (by omega)).mp q
      have e : d = D := by omega
      subst e
      exact hk
    · have hlt : d < D := by
        rcases Nat.lt_or_ge d D with z | z
        · exact z
        · exact absurd (nI_le z (by omega)) q
      refine holderC hn hnc hw (by omega) (sv_lt hn d) (hr (d + 1) (by omega)) ?_
      unfold wp_X6_groupOf
      have ihd := ih (d + 1) (by omega) (by omega)
      have es : svz wn n (d + 1) = gpz wn n (6 - d) (svz wn n d) := rfl
      rw [es] at ihd
      unfold gpz at ihd
      rw [nI_1]
      rcases hz_m (wn := wn) (n := n) (r := 6 - d) (S := svz wn n d) hn with z | z
      · rw [if_pos z.1] at ihd
        rw [z.1]
        refine ⟨fun y => absurd rfl y, fun _ => ?_⟩
        show wl_X6_dealt_81 Q kx f (nI D) (nI (svz wn n d) ||| nI 0) (nI (d + 1)) c
        rw [nx_or, Nat.or_zero]
        exact ihd
      · have n7 : ¬ hz wn n (6 - d) (svz wn n d) = 7 := by omega
        rw [if_neg n7] at ihd
        refine ⟨fun _ => ?_, fun y => absurd ((nI_eq (b := 7) (by omega) (by decide)).mp y) n7⟩
        show wl_X6_dealt_81 Q kx f (nI D) (nI (svz wn n d) ||| (1 : Int32) <<< (nI (hz wn n (6 - d) (svz wn n d)) &&& 31)) (nI (d + 1)) c
        rw [sh1 (by omega), nx_or]
        exact ihd
theorem dealC {wn : Nat → Int32} {n : Nat} {c : rfS} (hn : n ≤ 7) (hnc : gI c 1 0 = nI n) (hw : ∀ p, p < n → gF c 2 p = wn p) (hMd : RMd c) {x1 : Int32} (hx : -1 ≤ x1 ∧ x1 ≤ 6) {Q : Int32 → rfS → Prop} (h1 : x1 = -1 → ∀ c2, ScW c c2 → Q (eI (mz wn n 7 0)) c2) (h2 : ∀ D, D ≤ 6 → x1 = nI D → ∀ c2, ScW c c2 → Q (nI (hz wn n (6 - D) (svz wn n D))) c2) : wp_X6_dealt c x1 Q := by
  have p := p2n hn
  unfold wp_X6_dealt
  rw [hnc, sh1 hn]
  have r7 : ∀ d2, 7 ≤ d2 → d2 ≤ 7 → rowT c wn n d2 := by
    intro d2 a b S hS
    have e : d2 = 7 := by omega
    subst e
    rw [hMd _ (by omega) (by omega)]
    rfl
  have L := fillO (wn := wn) hn (x1 := x1) (Q := Q) (kx := (fun (x1_14 : Int32) (σ15 : rfS) => ((0 ≤ x1_14 → (∃ n21, wl_X6_dealt_81 Q (fun (x1_22 : Int32) (x3_23 : Int32) (σ24 : rfS) => wp_X6_holderOf σ24 x1_22 x3_23 (fun (r26 : Int32) (σ25 : rfS) => Q r26 σ25)) n21 x1_14 0 0 σ15)) ∧ (¬ (0 ≤ x1_14) → Q (gF σ15 24 0) σ15)))) 7 c (by omega) hnc hw r7 (fun c2 f2 r2 => ?_)
  · exact ⟨8, L⟩
  · refine ⟨fun q => ?_, fun q => ?_⟩
    · obtain ⟨D, hD, rfl⟩ := i_below (k := 6) (by decide) ⟨q, hx.2⟩
      refine ⟨8, wayL (wn := wn) hn (by omega : D ≤ 6) (by rw [f2.2.1]; exact hnc) (fun p hp => by rw [f2.1 2 (by decide)]; exact hw p hp) r2 ?_ 8 0 (by omega) (by omega)⟩
      exact holderC hn (by rw [f2.2.1]; exact hnc) (fun p hp => by rw [f2.1 2 (by decide)]; exact hw p hp) (by omega) (sv_lt hn D) (r2 (D + 1) (by omega)) (h2 D (by omega) rfl c2 f2)
    · have e : x1 = -1 := by
        have g := hx.1
        rw [i_le] at g q
        rw [i_eq]
        have z2 : ((-1 : Int32)).toInt = -1 := by decide
        have z3 : ((0 : Int32)).toInt = 0 := by decide
        omega
      have r0 := r2 0 (by omega) 0 (Nat.two_pow_pos _)
      rw [show 128 * 0 + 0 = 0 from rfl] at r0
      rw [r0]
      exact h1 e c2 f2

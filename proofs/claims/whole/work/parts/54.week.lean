/-! week: what is dealt, and the class -/
abbrev mayT (wn : Nat → Int32) (d S p : Nat) : Prop := ¬ wbit (wn p) d = 0 ∧ (nI S >>> (nI p &&& 31)) &&& 1 = 0
def bvz (wn : Nat → Int32) (F : Nat → Int) (d S : Nat) : Nat → Int
  | 0 => -1
  | k + 1 => if mayT wn d S k ∧ bvz wn F d S k < 1 + F (S ||| 2 ^ k) then 1 + F (S ||| 2 ^ k) else bvz wn F d S k
def hdz (wn : Nat → Int32) (F : Nat → Int) (d S : Nat) : Nat → Nat
  | 0 => 7
  | k + 1 => if mayT wn d S k ∧ bvz wn F d S k < 1 + F (S ||| 2 ^ k) then k else hdz wn F d S k
def mz (wn : Nat → Int32) (n : Nat) : Nat → Nat → Int
  | 0, _ => 0
  | r + 1, S => max (bvz wn (mz wn n r) (6 - r) S n) (mz wn n r S)
def hz (wn : Nat → Int32) (n r S : Nat) : Nat := if bvz wn (mz wn n r) (6 - r) S n < mz wn n r S then 7 else hdz wn (mz wn n r) (6 - r) S n
theorem bv_hd {wn : Nat → Int32} {F : Nat → Int} {d S : Nat} : ∀ k, k ≤ 7 → (hdz wn F d S k = 7 ∧ bvz wn F d S k = -1) ∨ (hdz wn F d S k < k ∧ mayT wn d S (hdz wn F d S k) ∧ bvz wn F d S k = 1 + F (S ||| 2 ^ hdz wn F d S k))
  | 0, _ => Or.inl ⟨rfl, rfl⟩
  | k + 1, hk => by
    rw [show hdz wn F d S (k + 1) = if mayT wn d S k ∧ bvz wn F d S k < 1 + F (S ||| 2 ^ k) then k else hdz wn F d S k from rfl, show bvz wn F d S (k + 1) = if mayT wn d S k ∧ bvz wn F d S k < 1 + F (S ||| 2 ^ k) then 1 + F (S ||| 2 ^ k) else bvz wn F d S k from rfl]
    by_cases h : mayT wn d S k ∧ bvz wn F d S k < 1 + F (S ||| 2 ^ k)
    · rw [if_pos h, if_pos h]; exact Or.inr ⟨by omega, h.1, rfl⟩
    · rw [if_neg h, if_neg h]
      rcases bv_hd (wn := wn) (F := F) (d := d) (S := S) k (by omega) with q | q
      · exact Or.inl q
      · exact Or.inr ⟨by omega, q.2⟩
theorem mz_b (wn : Nat → Int32) (n : Nat) (hn : n ≤ 7) : ∀ (r S : Nat), 0 ≤ mz wn n r S ∧ mz wn n r S ≤ (r : Int)
  | 0, _ => by unfold mz; omega
  | r + 1, S => by
    have h := mz_b wn n hn r S
    have h2 := bv_hd (wn := wn) (F := mz wn n r) (d := 6 - r) (S := S) n hn
    show 0 ≤ max (bvz wn (mz wn n r) (6 - r) S n) (mz wn n r S) ∧ max (bvz wn (mz wn n r) (6 - r) S n) (mz wn n r S) ≤ ((r + 1 : Nat) : Int)
    rcases h2 with q | q
    · rw [q.2]; omega
    · have h3 := mz_b wn n hn r (S ||| 2 ^ hdz wn (mz wn n r) (6 - r) S n)
      rw [q.2.2]; omega
theorem bv_b {wn : Nat → Int32} {n r d S : Nat} (hn : n ≤ 7) (k : Nat) (hk : k ≤ 7) : -1 ≤ bvz wn (mz wn n r) d S k ∧ bvz wn (mz wn n r) d S k ≤ (r : Int) + 1 := by
  rcases bv_hd (wn := wn) (F := mz wn n r) (d := d) (S := S) k hk with q | q
  · rw [q.2]; omega
  · have h3 := mz_b wn n hn r (S ||| 2 ^ hdz wn (mz wn n r) d S k)
    rw [q.2.2]; omega
/-- the holder by whom most are dealt -/
theorem hz_m {wn : Nat → Int32} {n r S : Nat} (hn : n ≤ 7) : (hz wn n r S = 7 ∧ mz wn n (r + 1) S = mz wn n r S) ∨ (hz wn n r S < n ∧ mayT wn (6 - r) S (hz wn n r S) ∧ mz wn n (r + 1) S = 1 + mz wn n r (S ||| 2 ^ hz wn n r S)) := by
  have hb := mz_b wn n hn r S
  have e : mz wn n (r + 1) S = max (bvz wn (mz wn n r) (6 - r) S n) (mz wn n r S) := rfl
  unfold hz
  by_cases h : bvz wn (mz wn n r) (6 - r) S n < mz wn n r S
  · rw [if_pos h]; exact Or.inl ⟨rfl, by rw [e]; omega⟩
  · rw [if_neg h]
    rcases bv_hd (wn := wn) (F := mz wn n r) (d := 6 - r) (S := S) n hn with q | q
    · rw [q.2] at h; omega
    · exact Or.inr ⟨q.1, q.2.1, by rw [e, ← q.2.2]; omega⟩
/-- row d of the class's table, for groups of n -/
def rowT (c : rfS) (wn : Nat → Int32) (n d : Nat) : Prop := ∀ S, S < 2 ^ n → gF c 24 (128 * d + S) = eI (mz wn n (7 - d) S)
theorem or_lt {n S p : Nat} (hS : S < 2 ^ n) (hp : p < n) : S ||| 2 ^ p < 2 ^ n := Nat.or_lt_two_pow hS (Nat.pow_lt_pow_right (by decide) hp)
theorem p2n {n : Nat} (h : n ≤ 7) : 2 ^ n ≤ 128 := p2 h
theorem dealtC {c : rfS} {wn : Nat → Int32} {n d S h : Nat} (hn : n ≤ 7) (hd : d ≤ 6) (hS : S < 2 ^ n) (hr : rowT c wn n (d + 1)) (hh : h < n ∨ h = 7) {Q : Int32 → rfS → Prop} (hq : Q (eI ((if h = 7 then 0 else 1) + mz wn n (6 - d) (if h = 7 then S else S ||| 2 ^ h))) c) : wp_X6_dealtBy c (nI d) (nI S) (nI h) Q := by
  have p := p2n hn
  unfold wp_X6_dealtBy wj_X6_dealtBy_11 wp_X6_groupOf
  by_cases e : h = 7
  · subst e
    refine ⟨fun z => absurd rfl z, fun _ => ⟨fun z => absurd rfl z, fun _ => ?_⟩⟩
    rw [if_pos rfl, if_pos rfl] at hq
    have e1 : (nI d + 1) * 128 + (nI S ||| 0) = nI (128 * (d + 1) + S) := by
      rw [nI_1, show (128 : Int32) = nI 128 from rfl, pk_mul, show (0 : Int32) = nI 0 from rfl, nx_or, Nat.or_zero, nI_add, Nat.mul_comm]
    rw [e1, cl (128 * (d + 1) + S), hr S hS, show (0 : Int32) = eI 0 from rfl, eI_add, show 7 - (d + 1) = 6 - d by omega]
    exact ⟨vin (by omega), hq⟩
  · have hlt : h < n := hh.resolve_right e
    have ne : ¬ nI h = 7 := fun z => e ((nI_eq (b := 7) (by omega) (by decide)).mp z)
    rw [if_neg e, if_neg e] at hq
    have ol := or_lt hS hlt
    refine ⟨fun _ => ⟨fun _ => ?_, fun z => absurd z ne⟩, fun z => absurd z ne⟩
    have e1 : (nI d + 1) * 128 + (nI S ||| (1 : Int32) <<< (nI h &&& 31)) = nI (128 * (d + 1) + (S ||| 2 ^ h)) := by
      rw [nI_1, show (128 : Int32) = nI 128 from rfl, pk_mul, sh1 (by omega), nx_or, nI_add, Nat.mul_comm]
    show vp_in ((nI d + 1) * 128 + (nI S ||| (1 : Int32) <<< (nI h &&& 31))) 1024 ∧ Q (1 + gF c 24 ((nI d + 1) * 128 + (nI S ||| (1 : Int32) <<< (nI h &&& 31))).toNatClampNeg) c
    rw [e1, cl (128 * (d + 1) + (S ||| 2 ^ h)), hr _ ol, show (1 : Int32) = eI 1 from rfl, eI_add, show 7 - (d + 1) = 6 - d by omega]
    exact ⟨vin (by omega), hq⟩
theorem holderC {c : rfS} {wn : Nat → Int32} {n d S : Nat} (hn : n ≤ 7) (hnc : gI c 1 0 = nI n) (hw : ∀ p, p < n → gF c 2 p = wn p) (hd : d ≤ 6) (hS : S < 2 ^ n) (hr : rowT c wn n (d + 1)) {Q : Int32 → rfS → Prop} (hq : Q (nI (hz wn n (6 - d) S)) c) : wp_X6_holderOf c (nI d) (nI S) Q := by
  have d6 : 6 - (6 - d) = d := by omega
  have loop : ∀ (f p : Nat), p ≤ n → n - p < f → wl_X6_holderOf_9 Q (fun (x1_12 : Int32) (x2_13 : Int32) (x3_14 : Int32) (x4_15 : Int32) (σ16 : rfS) => wp_X6_dealtBy σ16 x1_12 x2_13 7 (fun (r18 : Int32) (σ17 : rfS) => ((r18 ≤ x4_15 → Q x3_14 σ17) ∧ (¬ (r18 ≤ x4_15) → Q 7 σ17)))) f (nI d) (nI S) (nI (hdz wn (mz wn n (6 - d)) d S p)) (eI (bvz wn (mz wn n (6 - d)) d S p)) (nI p) c := by
    intro f
    induction f with
    | zero => intro p _ h; omega
    | succ f ih =>
      intro p hp hf
      have bb := bv_b (wn := wn) (n := n) (r := 6 - d) (d := d) (S := S) hn p (by omega)
      unfold wl_X6_holderOf_9
      rw [hnc]
      refine ⟨fun q => ?_, fun q => ?_⟩
      · have := (nI_leI (by omega) (by omega)).mp q
        have e : p = n := by omega
        subst e
        refine dealtC (h := 7) hn hd hS hr (Or.inr rfl) ?_
        rw [if_pos rfl, if_pos rfl, Int.zero_add]
        unfold hz at hq
        rw [d6] at hq
        have mb := mz_b wn p hn (6 - d) S
        have lt := eI_lt (a := bvz wn (mz wn p (6 - d)) d S p) (b := mz wn p (6 - d) S) (by omega) (by omega) (by omega) (by omega)
        refine ⟨fun z => ?_, fun z => ?_⟩
        · rw [if_neg (fun y => absurd (lt.mpr y) (Int32.not_lt.mpr z))] at hq; exact hq
        · rw [if_pos (lt.mp (Int32.not_le.mp z))] at hq; exact hq
      · have hlt : p < n := by
          rcases Nat.lt_or_ge p n with z | z
          · exact z
          · exact absurd (nI_le z (by omega)) q
        have ihp := ih (p + 1) (by omega) (by omega)
        have mb := mz_b wn n hn (6 - d) (S ||| 2 ^ p)
        have lt := eI_lt (a := bvz wn (mz wn n (6 - d)) d S p) (b := 1 + mz wn n (6 - d) (S ||| 2 ^ p)) (by omega) (by omega) (by omega) (by omega)
        have skip : ¬ (mayT wn d S p ∧ bvz wn (mz wn n (6 - d)) d S p < 1 + mz wn n (6 - d) (S ||| 2 ^ p)) → wl_X6_holderOf_9 Q (fun (x1_12 : Int32) (x2_13 : Int32) (x3_14 : Int32) (x4_15 : Int32) (σ16 : rfS) => wp_X6_dealtBy σ16 x1_12 x2_13 7 (fun (r18 : Int32) (σ17 : rfS) => ((r18 ≤ x4_15 → Q x3_14 σ17) ∧ (¬ (r18 ≤ x4_15) → Q 7 σ17)))) f (nI d) (nI S) (nI (hdz wn (mz wn n (6 - d)) d S p)) (eI (bvz wn (mz wn n (6 - d)) d S p)) (nI p + 1) c := by
          intro z
          rw [show hdz wn (mz wn n (6 - d)) d S (p + 1) = hdz wn (mz wn n (6 - d)) d S p from if_neg z, show bvz wn (mz wn n (6 - d)) d S (p + 1) = bvz wn (mz wn n (6 - d)) d S p from if_neg z] at ihp
          rw [nI_1]; exact ihp
        rw [cl p, hw p hlt, show (wn p >>> (nI d &&& 31)) &&& 1 = wbit (wn p) d from rfl]
        unfold wj_X6_holderOf_51 wj_X6_holderOf_52
        refine ⟨vin (by omega), fun z => ⟨fun _ => skip (fun y => y.1.1 z), fun y => absurd rfl y⟩, fun z1 => ⟨fun z => ⟨fun _ => skip (fun y => z y.1.2), fun y => absurd rfl y⟩, fun z2 => ⟨fun y => absurd y (by decide), fun _ => ?_⟩⟩⟩
        have n7 : ¬ p = 7 := by omega
        refine dealtC (h := p) hn hd hS hr (Or.inl hlt) ?_
        rw [if_neg n7, if_neg n7]
        refine ⟨fun z => skip (fun y => absurd (lt.mpr y.2) (Int32.not_lt.mpr z)), fun z => ?_⟩
        refine dealtC (h := p) hn hd hS hr (Or.inl hlt) ?_
        rw [if_neg n7, if_neg n7, nI_1]
        have tk : mayT wn d S p ∧ bvz wn (mz wn n (6 - d)) d S p < 1 + mz wn n (6 - d) (S ||| 2 ^ p) := ⟨⟨z1, z2⟩, lt.mp (Int32.not_le.mp z)⟩
        rw [show hdz wn (mz wn n (6 - d)) d S (p + 1) = p from if_pos tk, show bvz wn (mz wn n (6 - d)) d S (p + 1) = 1 + mz wn n (6 - d) (S ||| 2 ^ p) from if_pos tk] at ihp
        exact ihp
  unfold wp_X6_holderOf
  exact ⟨8, loop 8 0 (by omega) (by omega)⟩

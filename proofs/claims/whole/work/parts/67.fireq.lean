/-! fire: who is in, as bits; the order by slowness; both bounds -/
def clr (S p : Nat) : Nat := if S.testBit p = true then S - 2 ^ p else S
theorem clr_bit : ∀ p, p < 7 → ∀ i, i < 7 → ∀ S, S < 128 → (clr S p).testBit i = (S.testBit i && decide (i ≠ p)) := by decide +kernel
theorem clr_le (S p : Nat) : clr S p ≤ S := by
  unfold clr
  split
  · exact Nat.sub_le _ _
  · exact Nat.le_refl _
theorem or_bit (S r i : Nat) : (S ||| 2 ^ r).testBit i = (S.testBit i || decide (i = r)) := by
  rw [Nat.testBit_or, Nat.testBit_two_pow]
  congr 1
  by_cases h : r = i
  · simp [h]
  · rw [decide_eq_false h, decide_eq_false (fun q => h (Eq.symm q))]
theorem bit_0 {n S : Nat} (hS : S < 2 ^ n) (h : ∀ i, i < n → S.testBit i = false) : S = 0 := by
  apply Nat.eq_of_testBit_eq
  intro i
  rw [Nat.zero_testBit]
  rcases Nat.lt_or_ge i n with hi | hi
  · exact h i hi
  · exact Nat.testBit_lt_two_pow (Nat.lt_of_lt_of_le hS (Nat.pow_le_pow_right (by decide) hi))
def sn (M a : Nat → Nat) (L : Nat) : Nat → Nat
  | 0 => 9999
  | r + 1 => if L.testBit r = true then sn M a L r else if a r + M (L ||| 2 ^ r) < sn M a L r then a r + M (L ||| 2 ^ r) else sn M a L r
def trp (a : Nat → Nat) (p q : Nat) : Nat := if a p < a q then a q else a p
def goV (M a : Nat → Nat) (n S p q : Nat) : Nat := if clr (clr S p) q = 0 then trp a p q else trp a p q + sn M a (clr (clr S p) q) n
theorem sn_le {M a : Nat → Nat} {L r : Nat} (h : L.testBit r = false) : ∀ k, r < k → sn M a L k ≤ a r + M (L ||| 2 ^ r)
  | 0, hk => absurd hk (by omega)
  | k + 1, hk => by
    unfold sn
    by_cases e : r = k
    · subst e
      rw [if_neg (by rw [h]; decide)]
      split <;> omega
    · have ih := sn_le (M := M) (a := a) h k (by omega)
      split
      · exact ih
      · split <;> omega
theorem sn_9 {M a : Nat → Nat} {L : Nat} : ∀ k, sn M a L k ≤ 9999
  | 0 => Nat.le_refl _
  | k + 1 => by
    have ih := sn_9 (M := M) (a := a) (L := L) k
    unfold sn
    split
    · exact ih
    · split <;> omega
theorem sn_ge {M a : Nat → Nat} {L : Nat} {B : Int} (h9 : B ≤ 9999) : ∀ k, (∀ r, r < k → L.testBit r = false → B ≤ (a r : Int) + (M (L ||| 2 ^ r) : Int)) → B ≤ (sn M a L k : Int)
  | 0, _ => h9
  | k + 1, h => by
    have ih := sn_ge (M := M) (a := a) (L := L) h9 k (fun r hr => h r (by omega))
    unfold sn
    by_cases e : L.testBit k = true
    · rw [if_pos e]; exact ih
    · have := h k (by omega) (by simpa using e)
      rw [if_neg e]
      split <;> omega
theorem sn_cg {M N a : Nat → Nat} {L : Nat} : ∀ k, (∀ r, r < k → M (L ||| 2 ^ r) = N (L ||| 2 ^ r)) → sn M a L k = sn N a L k
  | 0, _ => rfl
  | k + 1, h => by
    unfold sn
    rw [sn_cg k (fun r hr => h r (by omega)), h k (by omega)]
section FireQ
variable {M a π : Nat → Nat} {n : Nat}
theorem mv_bit (hn : n ≤ 7) {S p q r i : Nat} (hS : S < 2 ^ n) (hp : p < n) (hq : q < n) (hi : i < n) : (clr (clr S p) q ||| 2 ^ r).testBit i = (((S.testBit i && decide (i ≠ p)) && decide (i ≠ q)) || decide (i = r)) := by
  have h128 := p2n hn
  have := clr_le S p
  rw [or_bit, clr_bit q (by omega) i (by omega) _ (by omega), clr_bit p (by omega) i (by omega) S (by omega)]
theorem clr2_bit (hn : n ≤ 7) {S p q i : Nat} (hS : S < 2 ^ n) (hp : p < n) (hq : q < n) (hi : i < n) : (clr (clr S p) q).testBit i = ((S.testBit i && decide (i ≠ p)) && decide (i ≠ q)) := by
  have h128 := p2n hn
  have := clr_le S p
  rw [clr_bit q (by omega) i (by omega) _ (by omega), clr_bit p (by omega) i (by omega) S (by omega)]
theorem clr2_lt {S p q : Nat} (hS : S < 2 ^ n) : clr (clr S p) q < 2 ^ n := Nat.lt_of_le_of_lt (Nat.le_trans (clr_le _ _) (clr_le _ _)) hS
theorem clr2_symm (hn : n ≤ 7) {S p q : Nat} (hS : S < 2 ^ n) (hp : p < n) (hq : q < n) : clr (clr S p) q = clr (clr S q) p := by
  apply Nat.eq_of_testBit_eq
  intro i
  rcases Nat.lt_or_ge i n with hi | hi
  · rw [clr2_bit hn hS hp hq hi, clr2_bit hn hS hq hp hi]
    cases S.testBit i <;> cases decide (i ≠ p) <;> cases decide (i ≠ q) <;> rfl
  · have h2 := Nat.pow_le_pow_right (n := 2) (by decide) hi
    rw [Nat.testBit_lt_two_pow (Nat.lt_of_lt_of_le (clr2_lt hS) h2), Nat.testBit_lt_two_pow (Nat.lt_of_lt_of_le (clr2_lt hS) h2)]
theorem trp_symm (p q : Nat) : trp a p q = trp a q p := by unfold trp; split <;> split <;> omega
theorem goV_symm (hn : n ≤ 7) {S p q : Nat} (hS : S < 2 ^ n) (hp : p < n) (hq : q < n) : goV M a n S p q = goV M a n S q p := by
  unfold goV
  rw [clr2_symm hn hS hp hq, trp_symm]
/-- from below -/
theorem sb_mv (hn : n ≤ 7) {S p q r : Nat} (hS : S < 2 ^ n) (hp : p < n) (hq : q < n) (hr : r < n) (hpq : p ≠ q) (bp : S.testBit p = true) (bq : S.testBit q = true) (br : (clr (clr S p) q).testBit r = false) (f : Nat → Int) : sb f n (clr (clr S p) q ||| 2 ^ r).testBit = sb f n S.testBit - f p - f q + f r := by
  have h128 := p2n hn
  rw [sb_on (β := (clr (clr S p) q).testBit) hr br (fun i _ => or_bit _ _ _)]
  rw [sb_off (β := (clr S p).testBit) hq (by rw [clr_bit p (by omega) q (by omega) S (by omega), bq, Bool.true_and]; exact decide_eq_true (fun e => hpq (Eq.symm e))) (fun i hi => clr_bit q (by omega) i (by omega) _ (by have := clr_le S p; omega))]
  rw [sb_off (β := S.testBit) hp bp (fun i hi => clr_bit p (by omega) i (by omega) S (by omega))]
theorem clr_clr (hn : n ≤ 7) {S p : Nat} (hS : S < 2 ^ n) (hp : p < n) : clr (clr S p) p = clr S p := by
  have h128 := p2n hn
  have : (clr S p).testBit p = false := by rw [clr_bit p (by omega) p (by omega) S (by omega)]; simp
  show (if (clr S p).testBit p = true then _ else _) = _
  rw [if_neg (by rw [this]; decide)]
theorem go_lb (hn : n ≤ 7) {a1 a2 : Int} (H : fiH a1 a2 (fun v => (a v : Int)) n) (hM : ∀ S, 1 ≤ S → S < 2 ^ n → fi a1 a2 (fun v => (a v : Int)) n S.testBit ≤ (M S : Int)) {S p q : Nat} (hS : S < 2 ^ n) (hp : p < n) (hq : q < n) (bp : S.testBit p = true) (bq : S.testBit q = true) : fi a1 a2 (fun v => (a v : Int)) n S.testBit ≤ (goV M a n S p q : Int) := by
  have h128 := p2n hn
  -- let p be the faster one
  suffices h : ∀ p q, p < n → q < n → S.testBit p = true → S.testBit q = true → a p ≤ a q → fi a1 a2 (fun v => (a v : Int)) n S.testBit ≤ (goV M a n S p q : Int) by
    rcases Nat.le_total (a p) (a q) with e | e
    · exact h p q hp hq bp bq e
    · rw [goV_symm hn hS hp hq]
      exact h q p hq hp bq bp e
  clear bp bq hp hq p q
  intro p q hp hq bp bq hle
  have tq : trp a p q = a q := by unfold trp; split <;> omega
  unfold goV
  rw [tq]
  have hL : clr (clr S p) q < 2 ^ n := clr2_lt hS
  by_cases e0 : clr (clr S p) q = 0
  · rw [if_pos e0]
    by_cases hpq : p = q
    · subst hpq
      rw [clr_clr hn hS hp] at e0
      refine fi_end1 H hp (fun f => ?_)
      have := sb_off (f := f) (β := S.testBit) (γ := (clr S p).testBit) hp bp (fun i hi => clr_bit p (by omega) i (by omega) S (by omega))
      rw [sb_0 n (fun i _ => by rw [e0, Nat.zero_testBit])] at this
      omega
    · refine fi_end2 H hp hq hpq (by show (a p : Int) ≤ a q; omega) (fun f => ?_)
      have h1 := sb_off (f := f) (β := S.testBit) (γ := (clr S p).testBit) hp bp (fun i hi => clr_bit p (by omega) i (by omega) S (by omega))
      have h2 := sb_off (f := f) (β := (clr S p).testBit) (γ := (clr (clr S p) q).testBit) hq (by rw [clr_bit p (by omega) q (by omega) S (by omega), bq, Bool.true_and]; exact decide_eq_true (fun e => hpq (Eq.symm e))) (fun i hi => clr_bit q (by omega) i (by omega) _ (by have := clr_le S p; omega))
      rw [sb_0 n (fun i _ => by rw [e0, Nat.zero_testBit])] at h2
      omega
  · rw [if_neg e0]
    have := sn_ge (M := M) (a := a) (L := clr (clr S p) q) (B := fi a1 a2 (fun v => (a v : Int)) n S.testBit - (a q : Int)) (by have := fi_le (β := S.testBit) H hn; omega) n (fun r hr br => by
      have hS2 : clr (clr S p) q ||| 2 ^ r < 2 ^ n := or_lt hL hr
      have h1 : 1 ≤ clr (clr S p) q ||| 2 ^ r := by
        rcases Nat.eq_zero_or_pos (clr (clr S p) q ||| 2 ^ r) with z | z
        · have := or_bit (clr (clr S p) q) r r
          rw [z, Nat.zero_testBit] at this
          simp at this
        · exact z
      have hm := hM _ h1 hS2
      by_cases hpq : p = q
      · subst hpq
        have st := fi_one (β := S.testBit) (γ := (clr (clr S p) p ||| 2 ^ r).testBit) H hp hr (fun f => by
          rw [sb_on (β := (clr (clr S p) p).testBit) hr br (fun i _ => or_bit _ _ _), clr_clr hn hS hp]
          rw [sb_off (β := S.testBit) hp bp (fun i hi => clr_bit p (by omega) i (by omega) S (by omega))])
        have st2 : fi a1 a2 (fun v => (a v : Int)) n S.testBit ≤ (a p : Int) + (a r : Int) + fi a1 a2 (fun v => (a v : Int)) n (clr (clr S p) p ||| 2 ^ r).testBit := st
        omega
      · have st2 : fi a1 a2 (fun v => (a v : Int)) n S.testBit ≤ (a q : Int) + (a r : Int) + fi a1 a2 (fun v => (a v : Int)) n (clr (clr S p) q ||| 2 ^ r).testBit := fi_two H hp hq hr hpq (by show (a p : Int) ≤ a q; omega) (fun f => sb_mv hn hS hp hq hr hpq bp bq br f)
        omega)
    omega
/-- the order -/
def PI (n : Nat) (a π : Nat → Nat) : Prop := (∀ j, j < n → π j < n) ∧ (∀ i j, i < n → j < n → π i = π j → i = j) ∧ ∀ i j, i ≤ j → j < n → a (π i) ≤ a (π j)
def im (π : Nat → Nat) : Nat → Nat → Bool
  | 0, _ => false
  | k + 1, i => im π k i || decide (i = π k)
theorem im_iff {i : Nat} : ∀ k, im π k i = true ↔ ∃ j, j < k ∧ π j = i
  | 0 => by simp [im]
  | k + 1 => by
    unfold im
    rw [Bool.or_eq_true, im_iff k, decide_eq_true_iff]
    constructor
    · rintro (⟨j, h1, h2⟩ | h)
      · exact ⟨j, by omega, h2⟩
      · exact ⟨k, by omega, h.symm⟩
    · rintro ⟨j, h1, h2⟩
      by_cases e : j = k
      · right; rw [← h2, e]
      · left; exact ⟨j, by omega, h2⟩
theorem im_no {k : Nat} (h : PI n a π) (hk : k < n) {j : Nat} (hj : j ≤ k) : im π j (π k) = false := by
  rw [Bool.eq_false_iff]
  intro q
  obtain ⟨i, h1, h2⟩ := (im_iff j).mp q
  have := h.2.1 i k (by omega) hk h2
  omega
theorem sb_im (h : PI n a π) (g : Int → Int) : ∀ k, k ≤ n → sb (fun v => g (a v : Int)) n (im π k) = sk g (fun j => (a (π j) : Int)) k
  | 0, _ => sb_0 n (fun _ _ => rfl)
  | k + 1, hk => by
    rw [sb_on (β := im π k) (γ := im π (k + 1)) (h.1 k hk) (im_no h hk (Nat.le_refl _)) (fun i _ => rfl), sb_im h g k (by omega)]
    rfl
theorem sb_1 {β : Nat → Bool} : ∀ n : Nat, sb (fun _ => 1) n β ≤ n
  | 0 => Int.le_refl _
  | n + 1 => by
    have := sb_1 (β := β) n
    unfold sb
    split <;> omega
theorem sb_all {β : Nat → Bool} : ∀ n : Nat, sb (fun _ => 1) n β = n → ∀ i, i < n → β i = true
  | 0, _, i, hi => absurd hi (by omega)
  | n + 1, h, i, hi => by
    have h1 := sb_1 (β := β) n
    unfold sb at h
    have hb : β n = true := by
      by_cases e : β n = true
      · exact e
      · rw [if_neg e] at h
        omega
    rw [if_pos hb] at h
    by_cases e : i = n
    · rw [e]; exact hb
    · exact sb_all n (by omega) i (by omega)
theorem sk_1 {b : Nat → Int} : ∀ k : Nat, sk (fun _ => 1) b k = k
  | 0 => rfl
  | k + 1 => by
    unfold sk
    rw [sk_1 k]
    omega
theorem im_all (h : PI n a π) {i : Nat} (hi : i < n) : im π n i = true := sb_all n ((sb_im h (fun _ => 1) n (Nat.le_refl _)).trans (sk_1 n)) i hi
theorem fi_all (h : PI n a π) {β : Nat → Bool} (hb : ∀ i, i < n → β i = true) : fi (a (π 0)) (a (π 1)) (fun v => (a v : Int)) n β = fk (fun j => (a (π j) : Int)) n := by
  have e : ∀ g : Int → Int, sb (fun v => g (a v : Int)) n β = sk g (fun j => (a (π j) : Int)) n := fun g => by
    rw [← sb_im h g n (Nat.le_refl _)]
    exact sb_cg n (fun i hi => by rw [hb i hi, im_all h hi])
  unfold fi fk
  have e1 : sb (fiW (a (π 0)) (a (π 1)) (fun v => (a v : Int))) n β = _ := e (fun x => (a (π 0) : Int) + 2 * (a (π 1) : Int) + (if (a (π 1) : Int) ≤ x then x - 2 * (a (π 1) : Int) else -x))
  rw [e1]
  congr 1
  refine gs_cg 9 (fun t _ => ?_)
  show sb (fun v => ge1 t (a v : Int)) n β / 2 = _
  rw [e (ge1 t)]
theorem fiH_of (h : PI n a π) (h2 : 2 ≤ n) (ha : ∀ v, v < n → 1 ≤ a v ∧ a v ≤ 9) : fiH (a (π 0)) (a (π 1)) (fun v => (a v : Int)) n := by
  have s : ∀ v, v < n → ∃ j, j < n ∧ π j = v := fun v hv => (im_iff n).mp (im_all h hv)
  have b0 := ha _ (h.1 0 (by omega))
  have b1 := ha _ (h.1 1 (by omega))
  have b01 := h.2.2 0 1 (by omega) (by omega)
  refine ⟨by omega, by omega, by omega, fun v hv => ?_, fun p q hp hq hpq => ?_⟩
  · obtain ⟨j, hj, rfl⟩ := s v hv
    have b2 := ha _ (h.1 j hj)
    have b3 := h.2.2 0 j (by omega) hj
    refine ⟨by show (a (π 0) : Int) ≤ a (π j); omega, by show (a (π j) : Int) ≤ 9; omega, fun lt => ?_⟩
    have lt2 : (a (π j) : Int) < a (π 1) := lt
    rcases Nat.eq_zero_or_pos j with e | e
    · rw [e]
    · have := h.2.2 1 j (by omega) hj
      omega
  · obtain ⟨i, hi, rfl⟩ := s p hp
    obtain ⟨j, hj, rfl⟩ := s q hq
    show (a (π 1) : Int) ≤ a (π i) ∨ (a (π 1) : Int) ≤ a (π j)
    rcases Nat.eq_zero_or_pos i with e | e
    · rcases Nat.eq_zero_or_pos j with e2 | e2
      · exact absurd (by rw [e, e2]) hpq
      · right
        have := h.2.2 1 j (by omega) hj
        omega
    · left
      have := h.2.2 1 i (by omega) hi
      omega
/-- from above -/
def FXx (M a : Nat → Nat) (n : Nat) : Prop := ∀ S p q, 1 ≤ S → S < 2 ^ n → p < n → q < n → S.testBit p = true → S.testBit q = true → M S ≤ goV M a n S p q
theorem bit_1 {S p : Nat} (b : S.testBit p = true) : 1 ≤ S := by
  rcases Nat.eq_zero_or_pos S with e | e
  · rw [e, Nat.zero_testBit] at b
    cases b
  · exact e
theorem mv (hn : n ≤ 7) (F : FXx M a n) {S p q r w : Nat} (hS : S < 2 ^ n) (hp : p < n) (hq : q < n) (hr : r < n) (hw : w < n) (bp : S.testBit p = true) (bq : S.testBit q = true) (hle : a p ≤ a q) (hrl : r = p ∨ r = q ∨ S.testBit r = false) (bw : S.testBit w = true) (w1 : w ≠ p) (w2 : w ≠ q) : M S ≤ a q + a r + M (clr (clr S p) q ||| 2 ^ r) ∧ clr (clr S p) q ||| 2 ^ r < 2 ^ n := by
  have h := F S p q (bit_1 bp) hS hp hq bp bq
  have tq : trp a p q = a q := by unfold trp; split <;> omega
  have bl : (clr (clr S p) q).testBit w = true := by
    rw [clr2_bit hn hS hp hq hw, bw]
    simp [w1, w2]
  have ne : ¬ clr (clr S p) q = 0 := fun e => by
    rw [e, Nat.zero_testBit] at bl
    cases bl
  have br : (clr (clr S p) q).testBit r = false := by
    rw [clr2_bit hn hS hp hq hr]
    rcases hrl with e | e | e
    · subst e; simp
    · subst e; simp
    · rw [e]; simp
  unfold goV at h
  rw [if_neg ne, tq] at h
  have := sn_le (M := M) (a := a) br n hr
  exact ⟨by omega, or_lt (clr2_lt hS) hr⟩
theorem im_s {k i : Nat} : im π (k + 1) i = (im π k i || decide (i = π k)) := rfl
theorem im_at {k j : Nat} (h : j < k) : im π k (π j) = true := (im_iff k).mpr ⟨j, h, rfl⟩
/-- the fastest one takes the last one out -/
theorem led1 (hn : n ≤ 7) (F : FXx M a n) (h : PI n a π) {k S : Nat} (hk : k + 2 < n) (hS : S < 2 ^ n) (hb : ∀ i, i < n → S.testBit i = im π (k + 3) i) : ∃ S2, S2 < 2 ^ n ∧ (∀ i, i < n → S2.testBit i = im π (k + 2) i) ∧ M S ≤ a (π (k + 2)) + a (π 0) + M S2 := by
  have p0 := h.1 0 (by omega)
  have p1 := h.1 1 (by omega)
  have p2 := h.1 (k + 2) (by omega)
  have ne : ∀ i j, i < n → j < n → i ≠ j → π i ≠ π j := fun i j hi hj e q => e (h.2.1 i j hi hj q)
  obtain ⟨m1, m2⟩ := mv hn F hS p0 p2 p0 p1 (by rw [hb _ p0]; exact im_at (by omega)) (by rw [hb _ p2]; exact im_at (by omega)) (h.2.2 0 (k + 2) (by omega) (by omega)) (Or.inl rfl) (by rw [hb _ p1]; exact im_at (by omega)) (ne 1 0 (by omega) (by omega) (by omega)) (ne 1 (k + 2) (by omega) (by omega) (by omega))
  refine ⟨_, m2, fun i hi => ?_, m1⟩
  rw [mv_bit hn hS p0 p2 hi, hb i hi, im_s]
  by_cases e0 : i = π 0
  · subst e0
    rw [im_at (show 0 < k + 2 by omega)]
    simp
  · by_cases e2 : i = π (k + 2)
    · subst e2
      rw [im_no h (by omega) (Nat.le_refl _)]
      simp [e0]
    · simp [e0, e2]
/-- the two fastest ones bear the two slowest ones -/
theorem led2 (hn : n ≤ 7) (F : FXx M a n) (h : PI n a π) {k S : Nat} (hk : k + 3 < n) (hS : S < 2 ^ n) (hb : ∀ i, i < n → S.testBit i = im π (k + 4) i) : ∃ S2, S2 < 2 ^ n ∧ (∀ i, i < n → S2.testBit i = im π (k + 2) i) ∧ M S ≤ a (π 0) + 2 * a (π 1) + a (π (k + 3)) + M S2 := by
  have p0 := h.1 0 (by omega)
  have p1 := h.1 1 (by omega)
  have p2 := h.1 (k + 2) (by omega)
  have p3 := h.1 (k + 3) (by omega)
  have ne : ∀ i j, i < n → j < n → i ≠ j → π i ≠ π j := fun i j hi hj e q => e (h.2.1 i j hi hj q)
  obtain ⟨m1, m2⟩ := mv hn F hS p0 p1 p0 p2 (by rw [hb _ p0]; exact im_at (by omega)) (by rw [hb _ p1]; exact im_at (by omega)) (h.2.2 0 1 (by omega) (by omega)) (Or.inl rfl) (by rw [hb _ p2]; exact im_at (by omega)) (ne _ _ (by omega) (by omega) (by omega)) (ne _ _ (by omega) (by omega) (by omega))
  generalize hS1 : clr (clr S (π 0)) (π 1) ||| 2 ^ π 0 = S1 at m1 m2
  have b1 : ∀ i, i < n → S1.testBit i = (im π (k + 4) i && decide (i ≠ π 1)) := by
    intro i hi
    rw [← hS1, mv_bit hn hS p0 p1 hi, hb i hi]
    by_cases e0 : i = π 0
    · subst e0
      rw [im_at (show 0 < k + 4 by omega)]
      simp [ne 0 1 (by omega) (by omega) (by omega)]
    · simp [e0]
  obtain ⟨m3, m4⟩ := mv hn F m2 p2 p3 p1 p0 (by rw [b1 _ p2, im_at (show k + 2 < k + 4 by omega)]; simp [ne (k + 2) 1 (by omega) (by omega) (by omega)]) (by rw [b1 _ p3, im_at (show k + 3 < k + 4 by omega)]; simp [ne (k + 3) 1 (by omega) (by omega) (by omega)]) (h.2.2 _ _ (by omega) (by omega)) (Or.inr (Or.inr (by rw [b1 _ p1]; simp))) (by rw [b1 _ p0, im_at (show 0 < k + 4 by omega)]; simp [ne 0 1 (by omega) (by omega) (by omega)]) (ne _ _ (by omega) (by omega) (by omega)) (ne _ _ (by omega) (by omega) (by omega))
  refine ⟨_, m4, fun i hi => ?_, by omega⟩
  rw [mv_bit hn m2 p2 p3 hi, b1 i hi, im_s, im_s]
  by_cases e1 : i = π 1
  · subst e1
    rw [im_at (show 1 < k + 2 by omega)]
    simp
  · by_cases e2 : i = π (k + 2)
    · subst e2
      rw [im_no h (by omega) (Nat.le_refl _)]
      simp [e1]
    · by_cases e3 : i = π (k + 3)
      · subst e3
        rw [im_no h (by omega) (show k + 2 ≤ k + 3 by omega)]
        simp [e1]
      · simp [e1, e2, e3]
theorem ub (hn : n ≤ 7) (F : FXx M a n) (h : PI n a π) : ∀ k, 1 ≤ k → k ≤ n → ∀ S, S < 2 ^ n → (∀ i, i < n → S.testBit i = im π k i) → (M S : Int) ≤ cg (fun j => (a (π j) : Int)) k
  | 0, hk, _, _, _, _ => absurd hk (by omega)
  | 1, _, hk, S, hS, hb => by
    have p0 := h.1 0 (by omega)
    have b0 : S.testBit (π 0) = true := by rw [hb _ p0]; exact im_at (by omega)
    have m := F S (π 0) (π 0) (bit_1 b0) hS p0 p0 b0 b0
    have e : clr (clr S (π 0)) (π 0) = 0 := bit_0 (clr2_lt hS) (fun i hi => by
      rw [clr2_bit hn hS p0 p0 hi, hb i hi]
      unfold im im
      by_cases e : i = π 0 <;> simp [e])
    unfold goV trp at m
    rw [if_pos e, if_neg (Nat.lt_irrefl _)] at m
    show (M S : Int) ≤ (a (π 0) : Int)
    omega
  | 2, _, hk, S, hS, hb => by
    have p0 := h.1 0 (by omega)
    have p1 := h.1 1 (by omega)
    have b0 : S.testBit (π 0) = true := by rw [hb _ p0]; exact im_at (by omega)
    have b1 : S.testBit (π 1) = true := by rw [hb _ p1]; exact im_at (by omega)
    have m := F S (π 0) (π 1) (bit_1 b0) hS p0 p1 b0 b1
    have e : clr (clr S (π 0)) (π 1) = 0 := bit_0 (clr2_lt hS) (fun i hi => by
      rw [clr2_bit hn hS p0 p1 hi, hb i hi]
      unfold im im im
      by_cases e : i = π 0 <;> by_cases e2 : i = π 1 <;> simp [e, e2])
    have le := h.2.2 0 1 (by omega) (by omega)
    have tq : trp a (π 0) (π 1) = a (π 1) := by unfold trp; split <;> omega
    unfold goV at m
    rw [if_pos e, tq] at m
    show (M S : Int) ≤ (a (π 1) : Int)
    omega
  | 3, _, hk, S, hS, hb => by
    obtain ⟨S2, h1, h2, h3⟩ := led1 (k := 0) hn F h (by omega) hS hb
    have ih := ub hn F h 2 (by omega) (by omega) S2 h1 h2
    have ih2 : (M S2 : Int) ≤ (a (π 1) : Int) := ih
    show (M S : Int) ≤ (a (π 0) : Int) + (a (π 1) : Int) + (a (π 2) : Int)
    have h3 : M S ≤ a (π 2) + a (π 0) + M S2 := h3
    omega
  | k + 4, _, hk, S, hS, hb => by
    obtain ⟨S2, h1, h2, h3⟩ := led1 (k := k + 1) hn F h (by omega) hS hb
    obtain ⟨S3, h4, h5, h6⟩ := led1 (k := k) hn F h (by omega) h1 h2
    obtain ⟨S4, h7, h8, h9⟩ := led2 (k := k) hn F h (by omega) hS hb
    have i1 := ub hn F h (k + 2) (by omega) (by omega) S3 h4 h5
    have i2 := ub hn F h (k + 2) (by omega) (by omega) S4 h7 h8
    unfold cg
    have h3 : M S ≤ a (π (k + 3)) + a (π 0) + M S2 := h3
    split <;> omega
end FireQ

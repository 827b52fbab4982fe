/-! week: the way of the model's search -/
def pz (wn : Nat → Int32) (n : Nat) : Nat → Nat → Nat → Nat
  | 0, _, _ => 7
  | r + 1, S, 0 => hz wn n r S
  | r + 1, S, k + 1 => pz wn n r (gpz wn n r S) k
theorem pz_sv {wn : Nat → Int32} {n : Nat} : ∀ (k d : Nat), d + k ≤ 6 → pz wn n (7 - d) (svz wn n d) k = hz wn n (6 - (d + k)) (svz wn n (d + k))
  | 0, d, h => by
    rw [show 7 - d = (6 - d) + 1 by omega]; rfl
  | k + 1, d, h => by
    have := pz_sv (wn := wn) (n := n) k (d + 1) (by omega)
    rw [show 7 - d = (6 - d) + 1 by omega]
    show pz wn n (6 - d) (gpz wn n (6 - d) (svz wn n d)) k = _
    rw [show d + (k + 1) = d + 1 + k by omega, ← this, show 7 - (d + 1) = 6 - d by omega]
    rfl
abbrev dlB : Type := Int × (Nat → Nat)
def dlR (wn : Nat → Int32) (n r S : Nat) (many : Int) (T : Nat → Nat) (d : Nat) (B : dlB) : dlB := if B.1 < many + mz wn n r S then (many + mz wn n r S, fun j => if j < d then T j else pz wn n r S (j - d)) else B
/-- behind the first k brothers -/
def dlK (wn : Nat → Int32) (n r S : Nat) (many : Int) (T : Nat → Nat) (d : Nat) (B : dlB) : Nat → dlB
  | 0 => B
  | k + 1 => if mayT wn d S k then dlR wn n r (S ||| 2 ^ k) (many + 1) (up1 T d k) (d + 1) (dlK wn n r S many T d B k) else dlK wn n r S many T d B k
theorem way_at {wn : Nat → Int32} {n r S d h : Nat} {T : Nat → Nat} (hn7 : ¬ h = 7) (hh : h = hz wn n r S) : (fun j => if j < d + 1 then up1 T d h j else pz wn n r (S ||| 2 ^ h) (j - (d + 1))) = (fun j => if j < d then T j else pz wn n (r + 1) S (j - d)) := by
  funext j
  by_cases h1 : j < d
  · rw [if_pos (by omega), if_pos h1]; exact if_neg (by omega)
  · by_cases h2 : j = d
    · subst h2
      rw [if_pos (by omega), if_neg h1, Nat.sub_self]
      rw [show up1 T j h j = h from if_pos rfl]; exact hh
    · rw [if_neg (by omega), if_neg h1, show j - d = (j - (d + 1)) + 1 by omega]
      show _ = pz wn n r (gpz wn n r S) (j - (d + 1))
      unfold gpz
      rw [← hh, if_neg hn7]
theorem way_7 {wn : Nat → Int32} {n r S d : Nat} {T : Nat → Nat} (hh : 7 = hz wn n r S) : (fun j => if j < d + 1 then up1 T d 7 j else pz wn n r S (j - (d + 1))) = (fun j => if j < d then T j else pz wn n (r + 1) S (j - d)) := by
  funext j
  by_cases h1 : j < d
  · rw [if_pos (by omega), if_pos h1]; exact if_neg (by omega)
  · by_cases h2 : j = d
    · subst h2
      rw [if_pos (by omega), if_neg h1, Nat.sub_self]
      rw [show up1 T j 7 j = 7 from if_pos rfl]; exact hh
    · rw [if_neg (by omega), if_neg h1, show j - d = (j - (d + 1)) + 1 by omega]
      show _ = pz wn n r (gpz wn n r S) (j - (d + 1))
      unfold gpz
      rw [← hh, if_pos rfl]
theorem dlK_is {wn : Nat → Int32} {n r S : Nat} {many : Int} {T : Nat → Nat} {d : Nat} {B : dlB} (hn : n ≤ 7) : ∀ k, k ≤ 7 → dlK wn n r S many T d B k = if ¬ hdz wn (mz wn n r) d S k = 7 ∧ B.1 < many + bvz wn (mz wn n r) d S k then (many + bvz wn (mz wn n r) d S k, fun j => if j < d + 1 then up1 T d (hdz wn (mz wn n r) d S k) j else pz wn n r (S ||| 2 ^ hdz wn (mz wn n r) d S k) (j - (d + 1))) else B
  | 0, _ => by rw [if_neg (fun z => z.1 rfl)]; rfl
  | k + 1, hk => by
    have ih := dlK_is (wn := wn) (n := n) (r := r) (S := S) (many := many) (T := T) (d := d) (B := B) hn k (by omega)
    have mb := mz_b wn n hn r (S ||| 2 ^ k)
    have bh := bv_hd (wn := wn) (F := mz wn n r) (d := d) (S := S) k (by omega)
    rw [show dlK wn n r S many T d B (k + 1) = if mayT wn d S k then dlR wn n r (S ||| 2 ^ k) (many + 1) (up1 T d k) (d + 1) (dlK wn n r S many T d B k) else dlK wn n r S many T d B k from rfl]
    rw [show hdz wn (mz wn n r) d S (k + 1) = if mayT wn d S k ∧ bvz wn (mz wn n r) d S k < 1 + mz wn n r (S ||| 2 ^ k) then k else hdz wn (mz wn n r) d S k from rfl, show bvz wn (mz wn n r) d S (k + 1) = if mayT wn d S k ∧ bvz wn (mz wn n r) d S k < 1 + mz wn n r (S ||| 2 ^ k) then 1 + mz wn n r (S ||| 2 ^ k) else bvz wn (mz wn n r) d S k from rfl]
    by_cases hm : mayT wn d S k
    · rw [if_pos hm]
      unfold dlR
      by_cases hlt : bvz wn (mz wn n r) d S k < 1 + mz wn n r (S ||| 2 ^ k)
      · have c1 : mayT wn d S k ∧ bvz wn (mz wn n r) d S k < 1 + mz wn n r (S ||| 2 ^ k) := ⟨hm, hlt⟩
        rw [if_pos c1, if_pos c1, ih]
        by_cases hc : ¬ hdz wn (mz wn n r) d S k = 7 ∧ B.1 < many + bvz wn (mz wn n r) d S k
        · rw [if_pos hc]
          rw [if_pos (show many + bvz wn (mz wn n r) d S k < many + 1 + mz wn n r (S ||| 2 ^ k) by omega), if_pos ⟨by omega, by omega⟩, Int.add_assoc]
        · rw [if_neg hc]
          by_cases hb : B.1 < many + (1 + mz wn n r (S ||| 2 ^ k))
          · rw [if_pos (show B.1 < many + 1 + mz wn n r (S ||| 2 ^ k) by omega), if_pos ⟨by omega, hb⟩, Int.add_assoc]
          · rw [if_neg (show ¬ B.1 < many + 1 + mz wn n r (S ||| 2 ^ k) by omega), if_neg (fun z => hb z.2)]
      · have c1 : ¬ (mayT wn d S k ∧ bvz wn (mz wn n r) d S k < 1 + mz wn n r (S ||| 2 ^ k)) := fun z => hlt z.2
        have h7 : ¬ hdz wn (mz wn n r) d S k = 7 := by
          rcases bh with q | q
          · rw [q.2] at hlt; omega
          · omega
        rw [if_neg c1, if_neg c1, ih]
        by_cases hc : ¬ hdz wn (mz wn n r) d S k = 7 ∧ B.1 < many + bvz wn (mz wn n r) d S k
        · rw [if_pos hc, if_neg (show ¬ many + bvz wn (mz wn n r) d S k < many + 1 + mz wn n r (S ||| 2 ^ k) by omega)]
        · rw [if_neg hc]
          have : ¬ B.1 < many + bvz wn (mz wn n r) d S k := fun z => hc ⟨h7, z⟩
          rw [if_neg (show ¬ B.1 < many + 1 + mz wn n r (S ||| 2 ^ k) by omega)]
    · have c1 : ¬ (mayT wn d S k ∧ bvz wn (mz wn n r) d S k < 1 + mz wn n r (S ||| 2 ^ k)) := fun z => hm z.1
      rw [if_neg hm, if_neg c1, if_neg c1, ih]
theorem dl_step {wn : Nat → Int32} {n r S : Nat} {many : Int} {T : Nat → Nat} {d : Nat} {B : dlB} (hn : n ≤ 7) (hd : d = 6 - r) : dlR wn n r S many (up1 T d 7) (d + 1) (dlK wn n r S many T d B n) = dlR wn n (r + 1) S many T d B := by
  have mb := mz_b wn n hn r S
  have bh := bv_hd (wn := wn) (F := mz wn n r) (d := d) (S := S) n hn
  have em : mz wn n (r + 1) S = max (bvz wn (mz wn n r) d S n) (mz wn n r S) := by rw [hd]; rfl
  have eh : hz wn n r S = if bvz wn (mz wn n r) d S n < mz wn n r S then 7 else hdz wn (mz wn n r) d S n := by rw [hd]; rfl
  rw [dlK_is hn n hn]
  unfold dlR
  by_cases hlt : bvz wn (mz wn n r) d S n < mz wn n r S
  · rw [if_pos hlt] at eh
    rw [show mz wn n (r + 1) S = mz wn n r S by rw [em]; omega, way_7 eh.symm]
    by_cases hc : ¬ hdz wn (mz wn n r) d S n = 7 ∧ B.1 < many + bvz wn (mz wn n r) d S n
    · rw [if_pos hc]
      rw [if_pos (show many + bvz wn (mz wn n r) d S n < many + mz wn n r S by omega), if_pos (by omega)]
    · rw [if_neg hc]
  · have h7 : ¬ hdz wn (mz wn n r) d S n = 7 := by
      rcases bh with q | q
      · rw [q.2] at hlt; omega
      · omega
    rw [if_neg hlt] at eh
    rw [show mz wn n (r + 1) S = bvz wn (mz wn n r) d S n by rw [em]; omega]
    by_cases hc : B.1 < many + bvz wn (mz wn n r) d S n
    · rw [if_pos (⟨h7, hc⟩ : ¬ hdz wn (mz wn n r) d S n = 7 ∧ B.1 < many + bvz wn (mz wn n r) d S n), if_pos hc]
      rw [if_neg (show ¬ many + bvz wn (mz wn n r) d S n < many + mz wn n r S by omega), way_at h7 eh.symm]
    · rw [if_neg (show ¬ (¬ hdz wn (mz wn n r) d S n = 7 ∧ B.1 < many + bvz wn (mz wn n r) d S n) from fun z => hc z.2), if_neg hc]
      rw [if_neg (show ¬ B.1 < many + mz wn n r S by omega)]

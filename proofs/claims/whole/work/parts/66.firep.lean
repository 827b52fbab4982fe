/-! fire: sums over those who are in, the bound from below -/
def sb (f : Nat → Int) : Nat → (Nat → Bool) → Int
  | 0, _ => 0
  | n + 1, β => sb f n β + (if β n = true then f n else 0)
theorem sb_cg {f : Nat → Int} {β γ : Nat → Bool} : ∀ n, (∀ i, i < n → γ i = β i) → sb f n γ = sb f n β
  | 0, _ => rfl
  | n + 1, h => by
    unfold sb
    rw [sb_cg n (fun i hi => h i (by omega)), h n (by omega)]
theorem sb_at1 {f : Nat → Int} {β γ : Nat → Bool} {p : Nat} : ∀ n, p < n → (∀ i, i < n → i ≠ p → γ i = β i) → sb f n γ = sb f n β + (if γ p = true then f p else 0) - (if β p = true then f p else 0)
  | 0, hp, _ => absurd hp (by omega)
  | n + 1, hp, h => by
    unfold sb
    by_cases e : p = n
    · subst e
      rw [sb_cg p (fun i hi => h i (by omega) (by omega))]
      omega
    · rw [sb_at1 n (by omega) (fun i hi he => h i (by omega) he), h n (by omega) (fun q => e q.symm)]
      omega
theorem sb_off {f : Nat → Int} {β γ : Nat → Bool} {p n : Nat} (hp : p < n) (hb : β p = true) (h : ∀ i, i < n → γ i = (β i && decide (i ≠ p))) : sb f n γ = sb f n β - f p := by
  rw [sb_at1 (γ := γ) (β := β) n hp (fun i hi he => by rw [h i hi]; simp [he]), h p hp, hb]
  simp
theorem sb_on {f : Nat → Int} {β γ : Nat → Bool} {p n : Nat} (hp : p < n) (hb : β p = false) (h : ∀ i, i < n → γ i = (β i || decide (i = p))) : sb f n γ = sb f n β + f p := by
  rw [sb_at1 (γ := γ) (β := β) n hp (fun i hi he => by rw [h i hi]; simp [he]), h p hp, hb]
  simp
theorem sb_0 {f : Nat → Int} {β : Nat → Bool} : ∀ n, (∀ i, i < n → β i = false) → sb f n β = 0
  | 0, _ => rfl
  | n + 1, h => by
    unfold sb
    rw [sb_0 n (fun i hi => h i (by omega)), h n (by omega)]
    simp
theorem sb_le {f : Nat → Int} {β : Nat → Bool} {c : Int} (hc : 0 ≤ c) : ∀ n, (∀ i, i < n → f i ≤ c) → sb f n β ≤ n * c
  | 0, _ => by simp [sb]
  | n + 1, h => by
    have ih := sb_le (β := β) hc n (fun i hi => h i (by omega))
    have := h n (by omega)
    unfold sb
    rw [Int.natCast_add, Int.add_mul]
    split <;> omega
theorem sb_nn {f : Nat → Int} {β : Nat → Bool} : ∀ n, (∀ i, 0 ≤ f i) → 0 ≤ sb f n β
  | 0, _ => Int.le_refl _
  | n + 1, h => by
    have ih := sb_nn (β := β) n h
    have := h n
    unfold sb
    split <;> omega
def gs (T : Int) (F : Nat → Int) : Nat → Int
  | 0 => 0
  | k + 1 => gs T F k + (if T < ((k + 1 : Nat) : Int) then F (k + 1) else 0)
theorem gs_d {T : Int} {F G H : Nat → Int} (h : ∀ t, H t ≤ F t - G t) : ∀ k, gs T H k ≤ gs T F k - gs T G k
  | 0 => by simp [gs]
  | k + 1 => by
    have ih := gs_d (T := T) h k
    have := h (k + 1)
    unfold gs
    split <;> omega
theorem gs_e {T : Int} {F G H : Nat → Int} (h : ∀ t, H t = F t - G t) : ∀ k, gs T H k = gs T F k - gs T G k
  | 0 => by simp [gs]
  | k + 1 => by
    have ih := gs_e (T := T) h k
    have := h (k + 1)
    unfold gs
    split <;> omega
theorem gs_nn {T : Int} {F : Nat → Int} (h : ∀ t, 0 ≤ F t) : ∀ k, 0 ≤ gs T F k
  | 0 => Int.le_refl _
  | k + 1 => by
    have ih := gs_nn (T := T) h k
    have := h (k + 1)
    unfold gs
    split <;> omega
def px (z : Int) : Int := if 0 ≤ z then z else 0
def ge1 (t : Nat) (x : Int) : Int := if (t : Int) ≤ x then 1 else 0
theorem gs_c {T x : Int} (hT : 0 ≤ T) (hx : 0 ≤ x) : ∀ k : Nat, gs T (fun t => ge1 t x) k = px ((if x ≤ (k : Int) then x else (k : Int)) - T)
  | 0 => by
    unfold gs px
    split <;> split at * <;> omega
  | k + 1 => by
    have ih := gs_c hT hx k
    unfold gs
    rw [ih]
    unfold px ge1
    push_cast
    (repeat' split) <;> omega
theorem gs_z {T : Int} : ∀ k, gs T (fun _ => 0) k = 0
  | 0 => rfl
  | k + 1 => by
    unfold gs
    rw [gs_z k]
    simp
/-- what is left to do at least -/
def fiW (a1 a2 : Int) (a : Nat → Int) (v : Nat) : Int := a1 + 2 * a2 + (if a2 ≤ a v then a v - 2 * a2 else - a v)
def fi (a1 a2 : Int) (a : Nat → Int) (n : Nat) (β : Nat → Bool) : Int := sb (fiW a1 a2 a) n β - (a1 + 2 * a2) - gs (2 * a2 - a1) (fun t => sb (fun v => ge1 t (a v)) n β / 2) 9
def fiH (a1 a2 : Int) (a : Nat → Int) (n : Nat) : Prop := 1 ≤ a1 ∧ a1 ≤ a2 ∧ a2 ≤ 9 ∧ (∀ v, v < n → a1 ≤ a v ∧ a v ≤ 9 ∧ (a v < a2 → a v = a1)) ∧ ∀ p q, p < n → q < n → p ≠ q → a2 ≤ a p ∨ a2 ≤ a q
theorem ge1_01 (t : Nat) (x : Int) : 0 ≤ ge1 t x ∧ ge1 t x ≤ 1 := by unfold ge1; split <;> omega
theorem ge1_le {t : Nat} {x y : Int} (h : x ≤ y) : ge1 t x ≤ ge1 t y := by unfold ge1; split <;> split <;> omega
theorem fi_two {a1 a2 : Int} {a : Nat → Int} {n : Nat} {β γ : Nat → Bool} {p q r : Nat} (H : fiH a1 a2 a n) (hp : p < n) (hq : q < n) (hr : r < n) (hpq : p ≠ q) (hle : a p ≤ a q) (e : ∀ f : Nat → Int, sb f n γ = sb f n β - f p - f q + f r) : fi a1 a2 a n β ≤ a q + a r + fi a1 a2 a n γ := by
  obtain ⟨h1, h2, h3, h4, h5⟩ := H
  have d : gs (2 * a2 - a1) (fun t => ge1 t (a p) - ge1 t (a r)) 9 ≤ gs (2 * a2 - a1) (fun t => sb (fun v => ge1 t (a v)) n β / 2) 9 - gs (2 * a2 - a1) (fun t => sb (fun v => ge1 t (a v)) n γ / 2) 9 := by
    refine gs_d (fun t => ?_) 9
    show ge1 t (a p) - ge1 t (a r) ≤ sb (fun v => ge1 t (a v)) n β / 2 - sb (fun v => ge1 t (a v)) n γ / 2
    rw [e]
    have k1 := ge1_01 t (a p)
    have k2 := ge1_01 t (a q)
    have k3 := ge1_01 t (a r)
    have k4 := ge1_le (t := t) hle
    show ge1 t (a p) - ge1 t (a r) ≤ sb (fun v => ge1 t (a v)) n β / 2 - (sb (fun v => ge1 t (a v)) n β - ge1 t (a p) - ge1 t (a q) + ge1 t (a r)) / 2
    omega
  rw [gs_e (F := fun t => ge1 t (a p)) (G := fun t => ge1 t (a r)) (fun t => rfl) 9, gs_c (by omega) (by have := (h4 p hp).1; omega) 9, gs_c (by omega) (by have := (h4 r hr).1; omega) 9] at d
  unfold fi
  rw [e]
  have b1 := h4 p hp
  have b2 := h4 q hq
  have b3 := h4 r hr
  have b4 := h5 p q hp hq hpq
  generalize gs (2 * a2 - a1) (fun t => sb (fun v => ge1 t (a v)) n β / 2) 9 = g1 at *
  generalize gs (2 * a2 - a1) (fun t => sb (fun v => ge1 t (a v)) n γ / 2) 9 = g2 at *
  generalize sb (fiW a1 a2 a) n β = s at *
  unfold fiW
  unfold px at d
  generalize a p = x at *
  generalize a q = y at *
  generalize a r = z at *
  by_cases c1 : a2 ≤ x
  · rw [if_pos c1, if_pos (show a2 ≤ y by omega)]
    by_cases c3 : a2 ≤ z
    · rw [if_pos c3]
      (repeat' split at d) <;> omega
    · rw [if_neg c3]
      (repeat' split at d) <;> omega
  · rw [if_neg c1, if_pos (show a2 ≤ y by omega)]
    by_cases c3 : a2 ≤ z
    · rw [if_pos c3]
      (repeat' split at d) <;> omega
    · rw [if_neg c3]
      (repeat' split at d) <;> omega
theorem fi_one {a1 a2 : Int} {a : Nat → Int} {n : Nat} {β γ : Nat → Bool} {p r : Nat} (H : fiH a1 a2 a n) (hp : p < n) (hr : r < n) (e : ∀ f : Nat → Int, sb f n γ = sb f n β - f p + f r) : fi a1 a2 a n β ≤ a p + a r + fi a1 a2 a n γ := by
  obtain ⟨h1, h2, h3, h4, h5⟩ := H
  have d : gs (2 * a2 - a1) (fun t => 0 - ge1 t (a r)) 9 ≤ gs (2 * a2 - a1) (fun t => sb (fun v => ge1 t (a v)) n β / 2) 9 - gs (2 * a2 - a1) (fun t => sb (fun v => ge1 t (a v)) n γ / 2) 9 := by
    refine gs_d (fun t => ?_) 9
    show 0 - ge1 t (a r) ≤ sb (fun v => ge1 t (a v)) n β / 2 - sb (fun v => ge1 t (a v)) n γ / 2
    rw [e]
    have k1 := ge1_01 t (a p)
    have k3 := ge1_01 t (a r)
    show 0 - ge1 t (a r) ≤ sb (fun v => ge1 t (a v)) n β / 2 - (sb (fun v => ge1 t (a v)) n β - ge1 t (a p) + ge1 t (a r)) / 2
    omega
  rw [gs_e (F := fun _ => 0) (G := fun t => ge1 t (a r)) (fun t => rfl) 9, gs_z, gs_c (by omega) (by have := (h4 r hr).1; omega) 9] at d
  unfold fi
  rw [e]
  have b1 := h4 p hp
  have b3 := h4 r hr
  generalize gs (2 * a2 - a1) (fun t => sb (fun v => ge1 t (a v)) n β / 2) 9 = g1 at *
  generalize gs (2 * a2 - a1) (fun t => sb (fun v => ge1 t (a v)) n γ / 2) 9 = g2 at *
  generalize sb (fiW a1 a2 a) n β = s at *
  unfold fiW
  unfold px at d
  generalize a p = x at *
  generalize a r = z at *
  by_cases c1 : a2 ≤ x
  · rw [if_pos c1]
    by_cases c3 : a2 ≤ z
    · rw [if_pos c3]
      (repeat' split at d) <;> omega
    · rw [if_neg c3]
      (repeat' split at d) <;> omega
  · rw [if_neg c1]
    by_cases c3 : a2 ≤ z
    · rw [if_pos c3]
      (repeat' split at d) <;> omega
    · rw [if_neg c3]
      (repeat' split at d) <;> omega
theorem fi_end2 {a1 a2 : Int} {a : Nat → Int} {n : Nat} {β : Nat → Bool} {p q : Nat} (H : fiH a1 a2 a n) (hp : p < n) (hq : q < n) (hpq : p ≠ q) (hle : a p ≤ a q) (e : ∀ f : Nat → Int, sb f n β = f p + f q) : fi a1 a2 a n β ≤ a q := by
  obtain ⟨h1, h2, h3, h4, h5⟩ := H
  have d : gs (2 * a2 - a1) (fun t => ge1 t (a p)) 9 ≤ gs (2 * a2 - a1) (fun t => sb (fun v => ge1 t (a v)) n β / 2) 9 - gs (2 * a2 - a1) (fun _ => 0) 9 := by
    refine gs_d (fun t => ?_) 9
    show ge1 t (a p) ≤ sb (fun v => ge1 t (a v)) n β / 2 - 0
    rw [e]
    have k1 := ge1_01 t (a p)
    have k2 := ge1_01 t (a q)
    have k4 := ge1_le (t := t) hle
    show ge1 t (a p) ≤ (ge1 t (a p) + ge1 t (a q)) / 2 - 0
    omega
  rw [gs_z, gs_c (by omega) (by have := (h4 p hp).1; omega) 9] at d
  unfold fi
  rw [e]
  have b1 := h4 p hp
  have b2 := h4 q hq
  have b4 := h5 p q hp hq hpq
  generalize gs (2 * a2 - a1) (fun t => sb (fun v => ge1 t (a v)) n β / 2) 9 = g1 at *
  unfold fiW
  unfold px at d
  generalize a p = x at *
  generalize a q = y at *
  by_cases c1 : a2 ≤ x
  · rw [if_pos c1, if_pos (show a2 ≤ y by omega)]
    (repeat' split at d) <;> omega
  · rw [if_neg c1, if_pos (show a2 ≤ y by omega)]
    (repeat' split at d) <;> omega
theorem fi_end1 {a1 a2 : Int} {a : Nat → Int} {n : Nat} {β : Nat → Bool} {p : Nat} (H : fiH a1 a2 a n) (hp : p < n) (e : ∀ f : Nat → Int, sb f n β = f p) : fi a1 a2 a n β ≤ a p := by
  obtain ⟨h1, h2, h3, h4, h5⟩ := H
  have d := gs_nn (T := 2 * a2 - a1) (F := fun t => sb (fun v => ge1 t (a v)) n β / 2) (fun t => by
    have := sb_nn (f := fun v => ge1 t (a v)) (β := β) n (fun i => (ge1_01 t (a i)).1)
    show 0 ≤ sb (fun v => ge1 t (a v)) n β / 2
    omega) 9
  unfold fi
  rw [e]
  have b1 := h4 p hp
  generalize gs (2 * a2 - a1) (fun t => sb (fun v => ge1 t (a v)) n β / 2) 9 = g1 at *
  unfold fiW
  split <;> omega
theorem fi_le {a1 a2 : Int} {a : Nat → Int} {n : Nat} {β : Nat → Bool} (H : fiH a1 a2 a n) (hn : n ≤ 7) : fi a1 a2 a n β ≤ 999 := by
  obtain ⟨h1, h2, h3, h4, h5⟩ := H
  have d := gs_nn (T := 2 * a2 - a1) (F := fun t => sb (fun v => ge1 t (a v)) n β / 2) (fun t => by
    have := sb_nn (f := fun v => ge1 t (a v)) (β := β) n (fun i => (ge1_01 t (a i)).1)
    show 0 ≤ sb (fun v => ge1 t (a v)) n β / 2
    omega) 9
  have s := sb_le (f := fiW a1 a2 a) (β := β) (c := 60) (by omega) n (fun i hi => by
    have := h4 i hi
    unfold fiW
    split <;> omega)
  unfold fi
  omega
/-! the way itself -/
def cg (b : Nat → Int) : Nat → Int
  | 0 => 0
  | 1 => b 0
  | 2 => b 1
  | 3 => b 0 + b 1 + b 2
  | k + 4 => cg b (k + 2) + (if b 0 + 2 * b 1 + b (k + 3) < 2 * b 0 + b (k + 2) + b (k + 3) then b 0 + 2 * b 1 + b (k + 3) else 2 * b 0 + b (k + 2) + b (k + 3))
/-- sums of the first k of a row -/
def sk (f : Int → Int) (b : Nat → Int) : Nat → Int
  | 0 => 0
  | k + 1 => sk f b k + f (b k)
def fk (b : Nat → Int) (k : Nat) : Int := sk (fun x => b 0 + 2 * b 1 + (if b 1 ≤ x then x - 2 * b 1 else -x)) b k - (b 0 + 2 * b 1) - gs (2 * b 1 - b 0) (fun t => sk (ge1 t) b k / 2) 9
theorem sk_0 {t : Nat} {b : Nat → Int} : ∀ k, (∀ j, j < k → ¬ (t : Int) ≤ b j) → sk (ge1 t) b k = 0
  | 0, _ => rfl
  | k + 1, h => by
    unfold sk
    rw [sk_0 k (fun j hj => h j (by omega))]
    unfold ge1
    rw [if_neg (h k (by omega))]
    rfl
theorem gs_cg {T : Int} {F G : Nat → Int} : ∀ k, (∀ t : Nat, T < (t : Int) → F t = G t) → gs T F k = gs T G k
  | 0, _ => rfl
  | k + 1, h => by
    unfold gs
    rw [gs_cg k h]
    by_cases c : T < ((k + 1 : Nat) : Int)
    · rw [if_pos c, if_pos c, h (k + 1) c]
    · rw [if_neg c, if_neg c]
theorem fk_cg {b : Nat → Int} {n : Nat} (h1 : 1 ≤ b 0) (hs : ∀ i j, i ≤ j → j < n → b i ≤ b j) (h9 : ∀ j, j < n → b j ≤ 9) : ∀ k, 2 ≤ k → k ≤ n → fk b k = cg b k
  | 0, h, _ => absurd h (by omega)
  | 1, h, _ => absurd h (by omega)
  | 2, _, hn => by
    have k1 := hs 0 1 (by omega) (by omega)
    have g : gs (2 * b 1 - b 0) (fun t => sk (ge1 t) b 2 / 2) 9 = 0 := by
      rw [gs_cg (G := fun _ => 0) 9 (fun t ht => ?_), gs_z]
      show sk (ge1 t) b 2 / 2 = 0
      rw [sk_0 2 (fun j hj => ?_)]
      · rfl
      · have := hs j 1 (by omega) (by omega)
        omega
    unfold fk
    rw [g]
    show (0 + _ + _ : Int) - _ - 0 = b 1
    simp only [Int.le_refl, if_true]
    split <;> omega
  | 3, _, hn => by
    have k1 := hs 0 1 (by omega) (by omega)
    have k2 := hs 1 2 (by omega) (by omega)
    have g : gs (2 * b 1 - b 0) (fun t => sk (ge1 t) b 3 / 2) 9 = 0 := by
      rw [gs_cg (G := fun _ => 0) 9 (fun t ht => ?_), gs_z]
      show (sk (ge1 t) b 2 + ge1 t (b 2)) / 2 = 0
      rw [sk_0 2 (fun j hj => ?_)]
      · have := ge1_01 t (b 2)
        omega
      · have := hs j 1 (by omega) (by omega)
        omega
    unfold fk
    rw [g]
    show (0 + _ + _ + _ : Int) - _ - 0 = b 0 + b 1 + b 2
    simp only [Int.le_refl, if_true, if_pos k2]
    split <;> omega
  | k + 4, _, hn => by
    have ih := fk_cg h1 hs h9 (k + 2) (by omega) (by omega)
    have k1 := hs 0 1 (by omega) (by omega)
    have k2 := hs 1 (k + 2) (by omega) (by omega)
    have k3 := hs (k + 2) (k + 3) (by omega) (by omega)
    have k4 := h9 (k + 2) (by omega)
    have g : gs (2 * b 1 - b 0) (fun t => ge1 t (b (k + 2))) 9 = gs (2 * b 1 - b 0) (fun t => sk (ge1 t) b (k + 4) / 2) 9 - gs (2 * b 1 - b 0) (fun t => sk (ge1 t) b (k + 2) / 2) 9 := by
      refine gs_e (fun t => ?_) 9
      show ge1 t (b (k + 2)) = (sk (ge1 t) b (k + 2) + ge1 t (b (k + 2)) + ge1 t (b (k + 3))) / 2 - sk (ge1 t) b (k + 2) / 2
      by_cases c : (t : Int) ≤ b (k + 2)
      · have e1 : ge1 t (b (k + 2)) = 1 := if_pos c
        have e2 : ge1 t (b (k + 3)) = 1 := if_pos (by omega)
        omega
      · have e1 : ge1 t (b (k + 2)) = 0 := if_neg c
        have e3 := sk_0 (t := t) (b := b) (k + 2) (fun j hj => by have := hs j (k + 2) (by omega) (by omega); omega)
        have := ge1_01 t (b (k + 3))
        omega
    rw [gs_c (by omega) (by omega) 9] at g
    unfold cg
    rw [← ih]
    unfold fk
    show (sk _ b (k + 2) + _ + _ : Int) - _ - _ = _
    generalize gs (2 * b 1 - b 0) (fun t => sk (ge1 t) b (k + 4) / 2) 9 = g1 at *
    generalize gs (2 * b 1 - b 0) (fun t => sk (ge1 t) b (k + 2) / 2) 9 = g2 at *
    generalize sk (fun x => b 0 + 2 * b 1 + (if b 1 ≤ x then x - 2 * b 1 else -x)) b (k + 2) = s at *
    simp only []
    rw [if_pos k2, if_pos (show b 1 ≤ b (k + 3) by omega)]
    unfold px at g
    (repeat' split at g) <;> (repeat' split) <;> omega

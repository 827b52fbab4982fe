/-! law: the reader as a pure function over a tape t of len bytes -/
abbrev lwR : Type := Bool × Nat × List Int32
def lwSg (t : Nat → Int32) (len a : Nat) : Int32 := if a < len then t a else -1
def lwOp (l : Nat) (x : Int32) : Int32 := match l with
  | 0 => if x = 124 then 6 else -1
  | 1 => if x = 38 then 7 else -1
  | 2 => if x = 60 then 8 else if x = 61 then 9 else if x = 62 then 10 else -1
  | 3 => if x = 43 then 11 else if x = 45 then 12 else -1
  | 4 => if x = 42 then 13 else if x = 47 then 14 else if x = 37 then 15 else -1
  | _ => -1
def lwNm (x : Int32) : Int32 := if x = 100 then 5 else if x = 102 then 4 else if x = 107 then 0 else if x = 111 then 1 else if x = 118 then 3 else if x = 119 then 2 else -1
section LawPure
variable (t : Nat → Int32) (len : Nat)
def lwNum : Nat → Nat → Int32 → Int32 × Nat
  | 0, a, v => (v, a)
  | r + 1, a, v => if 48 ≤ lwSg t len a ∧ lwSg t len a ≤ 57 then lwNum r (a + 1) (10 * v + lwSg t len a - 48) else (v, a)
def lwLk (p : Nat → lwR) (l : Nat) : Nat → Nat → List Int32 → lwR
  | 0, a, cs => (true, a, cs)
  | n + 1, a, cs => if lwOp l (lwSg t len a) = -1 then (true, a, cs) else
      if (p (a + 1)).1 = false then (false, (p (a + 1)).2.1, cs ++ (p (a + 1)).2.2)
      else if l = 2 then (true, (p (a + 1)).2.1, cs ++ (p (a + 1)).2.2 ++ [lwOp l (lwSg t len a)])
      else lwLk p l n (p (a + 1)).2.1 (cs ++ (p (a + 1)).2.2 ++ [lwOp l (lwSg t len a)])
def lwCh (p : Nat → lwR) (l : Nat) (a : Nat) : lwR := if (p a).1 = false then p a else lwLk t len p l len (p a).2.1 (p a).2.2
def lwChs : Nat → (Nat → lwR) → Nat → lwR
  | 0, p => p
  | m + 1, p => lwCh t len (lwChs m p) (4 - m)
def lwUn (p : Nat → lwR) (a : Nat) (c : Int32) : lwR := if (p (a + 1)).1 = false then p (a + 1) else (true, (p (a + 1)).2.1, (p (a + 1)).2.2 ++ [c])
def lwPar (p : Nat → lwR) (a : Nat) : lwR := if (lwChs t len 5 p (a + 1)).1 = false then lwChs t len 5 p (a + 1) else
  if lwSg t len (lwChs t len 5 p (a + 1)).2.1 = 41 then (true, (lwChs t len 5 p (a + 1)).2.1 + 1, (lwChs t len 5 p (a + 1)).2.2) else (false, (lwChs t len 5 p (a + 1)).2.1, (lwChs t len 5 p (a + 1)).2.2)
def lwBra (q : Option (Nat → lwR)) (a : Nat) : lwR := match q with
  | none => (false, a, [])
  | some p => if lwSg t len a = 33 then lwUn p a 16 else if lwSg t len a = 45 then lwUn p a 17 else if lwSg t len a = 40 then lwPar t len p a else (false, a, [])
def lwOpn (q : Option (Nat → lwR)) (a : Nat) : lwR :=
  if 48 ≤ lwSg t len a ∧ lwSg t len a ≤ 57 then (true, (lwNum t len 4 a 0).2, [18 + (lwNum t len 4 a 0).1])
  else if ¬ lwNm (lwSg t len a) = -1 then (true, a + 1, [lwNm (lwSg t len a)])
  else lwBra t len q a
def lwOo : Nat → Nat → lwR
  | 0 => lwOpn t len none
  | n + 1 => lwOpn t len (some (lwOo n))
def lwE : Nat → lwR := lwChs t len 5 (lwOo t len 6)
abbrev lwQ : Type := Option (List Int32) × List Int32
/-- a line: so, where, the line -/
def lwLn (a : Nat) : Bool × Nat × lwQ :=
  if (lwE t len a).1 = false then (false, (lwE t len a).2.1, (none, []))
  else if lwSg t len (lwE t len a).2.1 = 63 then
    (if (lwE t len ((lwE t len a).2.1 + 1)).1 = false then (false, (lwE t len ((lwE t len a).2.1 + 1)).2.1, (none, [])) else (true, (lwE t len ((lwE t len a).2.1 + 1)).2.1, (some (lwE t len a).2.2, (lwE t len ((lwE t len a).2.1 + 1)).2.2)))
  else (true, (lwE t len a).2.1, (none, (lwE t len a).2.2))
def lwLs : Nat → Nat → List lwQ → Bool × Nat × List lwQ
  | 0, a, L => (false, a, L)
  | n + 1, a, L => if (lwLn t len a).1 = false then (false, (lwLn t len a).2.1, L)
      else if (lwLn t len a).2.1 = len then (true, len, L ++ [(lwLn t len a).2.2])
      else if lwSg t len (lwLn t len a).2.1 = 59 then lwLs n ((lwLn t len a).2.1 + 1) (L ++ [(lwLn t len a).2.2])
      else (false, (lwLn t len a).2.1, L ++ [(lwLn t len a).2.2])
end LawPure
/-! what the reader keeps -/
theorem nIm (a b : Nat) : nI a * nI b = nI (a * b) := (Int32.ofNat_mul a b).symm
theorem lwOk_n {k : Nat} (h : k < 10018) : lwOk (nI k) := by
  refine ⟨?_, ?_⟩
  · rw [i_le, nI_toInt (by omega), show (0 : Int32).toInt = 0 from rfl]; omega
  · rw [i_le, nI_toInt (by omega), show (10017 : Int32).toInt = 10017 from rfl]; omega
theorem lwOp_ok {l : Nat} {x : Int32} (h : ¬ lwOp l x = -1) : lwOk (lwOp l x) ∧ ¬ (18 ≤ lwOp l x ∨ lwOp l x ≤ 5) ∧ ¬ (lwOp l x = 16 ∨ lwOp l x = 17) ∧ l < 5 ∧ lwTok (lwOp l x) = -x := by
  unfold lwOp at h ⊢
  split at h <;> (try split at h) <;> (try split at h) <;> (try split at h) <;> first
    | exact absurd rfl h
    | (simp only [*]; refine ⟨⟨by decide, by decide⟩, by decide, by decide, by decide, by decide⟩)
theorem lwOp_m1 (l : Nat) : lwOp l (-1) = -1 := by
  unfold lwOp
  split <;> decide
theorem lwNm_m1 : lwNm (-1) = -1 := by decide
theorem lwNm_v (x : Int32) : lwNm x = 0 ∨ lwNm x = 1 ∨ lwNm x = 2 ∨ lwNm x = 3 ∨ lwNm x = 4 ∨ lwNm x = 5 ∨ lwNm x = -1 := by
  unfold lwNm
  repeat' split
  all_goals decide
theorem lwNm_ok {x : Int32} (h : ¬ lwNm x = -1) : lwOk (lwNm x) ∧ lwNm x ≤ 5 ∧ ¬ lwNm x < 0 ∧ lwTok (lwNm x) = -1 - lwNm x := by
  rcases lwNm_v x with e | e | e | e | e | e | e
  all_goals first
    | exact absurd e h
    | (rw [e]; refine ⟨⟨by decide, by decide⟩, by decide, by decide, by decide⟩)
theorem lwWf_app : ∀ (A B : List Int32) (d : Nat), lwWf (A ++ B) d = (lwWf A d).bind (lwWf B)
  | [], B, d => rfl
  | x :: A, B, d => by
    show lwWf (x :: (A ++ B)) d = _
    unfold lwWf
    split
    · exact lwWf_app A B _
    · split
      · split
        · rfl
        · exact lwWf_app A B _
      · split
        · rfl
        · exact lwWf_app A B _
theorem lwWf_op {l : Nat} {x : Int32} (h : ¬ lwOp l x = -1) (d : Nat) : lwWf [lwOp l x] (d + 2) = some (d + 1) := by
  obtain ⟨h1, h2, h3, -, -⟩ := lwOp_ok h
  unfold lwWf
  rw [if_neg h2, if_neg h3, if_neg (by omega)]
  rfl
theorem lwWf_val {x : Int32} (h : 18 ≤ x ∨ x ≤ 5) (d : Nat) : lwWf [x] d = some (d + 1) := by
  unfold lwWf
  rw [if_pos h]
  rfl
theorem lwWf_un {x : Int32} (h : x = 16 ∨ x = 17) (d : Nat) : lwWf [x] (d + 1) = some (d + 1) := by
  unfold lwWf
  rw [if_neg (by rcases h with rfl | rfl <;> decide), if_pos h, if_neg (by omega)]
  rfl
section LawGood
variable {t : Nat → Int32} {len : Nat}
theorem lwSg_lt {a : Nat} (h : ¬ lwSg t len a = -1) : a < len := by
  unfold lwSg at h
  split at h
  · assumption
  · exact absurd rfl h
def lwGd (len : Nat) (p : Nat → lwR) : Prop := ∀ a, a ≤ len → a ≤ (p a).2.1 ∧ (p a).2.1 ≤ len ∧ (p a).2.2.length + a ≤ (p a).2.1 ∧ ((p a).1 = true → a < (p a).2.1 ∧ ∀ d, lwWf (p a).2.2 d = some (d + 1)) ∧ ∀ x ∈ (p a).2.2, lwOk x
theorem lwLk_gd {p : Nat → lwR} {l : Nat} (hp : lwGd len p) : ∀ (n a a0 : Nat) (cs : List Int32), a ≤ len → cs.length + a0 ≤ a → a0 < a → (∀ d, lwWf cs d = some (d + 1)) → (∀ x ∈ cs, lwOk x) → a0 ≤ (lwLk t len p l n a cs).2.1 ∧ (lwLk t len p l n a cs).2.1 ≤ len ∧ (lwLk t len p l n a cs).2.2.length + a0 ≤ (lwLk t len p l n a cs).2.1 ∧ ((lwLk t len p l n a cs).1 = true → a0 < (lwLk t len p l n a cs).2.1 ∧ ∀ d, lwWf (lwLk t len p l n a cs).2.2 d = some (d + 1)) ∧ ∀ x ∈ (lwLk t len p l n a cs).2.2, lwOk x
  | 0, a, a0, cs, ha, hc, h0, hw, ho => ⟨by simp only [lwLk]; omega, by simp only [lwLk]; omega, by simp only [lwLk]; omega, fun _ => ⟨by simp only [lwLk]; omega, by simp only [lwLk]; exact hw⟩, by simp only [lwLk]; exact ho⟩
  | n + 1, a, a0, cs, ha, hc, h0, hw, ho => by
    unfold lwLk
    by_cases h : lwOp l (lwSg t len a) = -1
    · rw [if_pos h]
      exact ⟨Nat.le_of_lt h0, ha, hc, fun _ => ⟨h0, hw⟩, ho⟩
    · rw [if_neg h]
      have hlt : a < len := lwSg_lt (fun q => h (by rw [q]; exact lwOp_m1 l))
      obtain ⟨g1, g2, g3, g4, g5⟩ := hp (a + 1) (by omega)
      obtain ⟨k1, k2, k3, k4, k5⟩ := lwOp_ok h
      have ho2 : ∀ x ∈ cs ++ (p (a + 1)).2.2, lwOk x := by
        intro x hx
        rcases List.mem_append.mp hx with hx | hx
        · exact ho x hx
        · exact g5 x hx
      have ho3 : ∀ x ∈ cs ++ (p (a + 1)).2.2 ++ [lwOp l (lwSg t len a)], lwOk x := by
        intro x hx
        rcases List.mem_append.mp hx with hx | hx
        · exact ho2 x hx
        · rw [List.mem_singleton.mp hx]; exact k1
      by_cases hf : (p (a + 1)).1 = false
      · rw [if_pos hf]
        refine ⟨by show a0 ≤ (p (a + 1)).2.1; omega, g2, ?_, fun q => absurd (show false = true from q) (by decide), ho2⟩
        show (cs ++ (p (a + 1)).2.2).length + a0 ≤ (p (a + 1)).2.1
        rw [List.length_append]
        omega
      · rw [if_neg hf]
        have ht : (p (a + 1)).1 = true := by simpa using hf
        obtain ⟨g6, g7⟩ := g4 ht
        have hw2 : ∀ d, lwWf (cs ++ (p (a + 1)).2.2 ++ [lwOp l (lwSg t len a)]) d = some (d + 1) := by
          intro d
          rw [lwWf_app, lwWf_app, hw]
          show ((lwWf (p (a + 1)).2.2 (d + 1))).bind _ = _
          rw [g7]
          exact lwWf_op h d
        have hl2 : (cs ++ (p (a + 1)).2.2 ++ [lwOp l (lwSg t len a)]).length + a0 ≤ (p (a + 1)).2.1 := by
          rw [List.length_append, List.length_append, List.length_singleton]
          omega
        by_cases h2 : l = 2
        · rw [if_pos h2]
          exact ⟨by show a0 ≤ (p (a + 1)).2.1; omega, g2, hl2, fun _ => ⟨by show a0 < (p (a + 1)).2.1; omega, hw2⟩, ho3⟩
        · rw [if_neg h2]
          exact lwLk_gd hp n _ a0 _ g2 hl2 (by omega) hw2 ho3
theorem lwCh_gd {p : Nat → lwR} {l : Nat} (hp : lwGd len p) : lwGd len (lwCh t len p l) := by
  intro a ha
  unfold lwCh
  by_cases h : (p a).1 = false
  · rw [if_pos h]
    exact hp a ha
  · rw [if_neg h]
    obtain ⟨g1, g2, g3, g4, g5⟩ := hp a ha
    obtain ⟨g6, g7⟩ := g4 (by simpa using h)
    exact lwLk_gd hp len _ a _ g2 g3 g6 g7 g5
theorem lwChs_gd {p : Nat → lwR} (hp : lwGd len p) : ∀ m, lwGd len (lwChs t len m p)
  | 0 => hp
  | m + 1 => lwCh_gd (lwChs_gd hp m)
theorem lwNum_ok : ∀ (r a w : Nat), a ≤ len → ∃ w2, (lwNum t len r a (nI w)).1 = nI w2 ∧ (w < 10 ^ (4 - r) → r ≤ 4 → w2 < 10000) ∧ a ≤ (lwNum t len r a (nI w)).2 ∧ (lwNum t len r a (nI w)).2 ≤ len
  | 0, a, w, ha => ⟨w, rfl, fun h _ => h, Nat.le_refl _, ha⟩
  | r + 1, a, w, ha => by
    unfold lwNum
    by_cases h : 48 ≤ lwSg t len a ∧ lwSg t len a ≤ 57
    · rw [if_pos h]
      have hlt : a < len := lwSg_lt (fun q => by rw [q] at h; exact absurd h.1 (by decide))
      obtain ⟨s, hs, e⟩ : ∃ s, s < 58 ∧ lwSg t len a = nI s := by
        refine i_ix (by decide) (Int32.le_trans (by decide) h.1) ?_
        exact Int32.lt_of_le_of_lt h.2 (by decide)
      have hs48 : 48 ≤ s := by
        have := h.1
        rw [e, i_le, nI_toInt (by omega), show (48 : Int32).toInt = 48 from rfl] at this
        omega
      have e2 : 10 * nI w + lwSg t len a - 48 = nI (10 * w + (s - 48)) := by
        rw [e, show (10 : Int32) = nI 10 from rfl, show (48 : Int32) = nI 48 from rfl, nIm, nI_add, pk_sub (by omega)]
        congr 1
        omega
      rw [e2]
      obtain ⟨w2, h1, h2, h3, h4⟩ := lwNum_ok r (a + 1) (10 * w + (s - 48)) (by omega)
      refine ⟨w2, h1, fun hw hr => h2 ?_ (by omega), by omega, h4⟩
      have : 10 ^ (4 - r) = 10 * 10 ^ (4 - (r + 1)) := by
        rw [show 4 - r = (4 - (r + 1)) + 1 by omega, Nat.pow_succ]
        omega
      omega
    · rw [if_neg h]
      refine ⟨w, rfl, fun hw hr => ?_, Nat.le_refl _, ha⟩
      exact Nat.lt_of_lt_of_le hw (by
        have := Nat.pow_le_pow_right (n := 10) (by omega) (show 4 - (r + 1) ≤ 4 by omega)
        simpa using this)
theorem lwNum_gd {a : Nat} (ha : a ≤ len) (h : 48 ≤ lwSg t len a ∧ lwSg t len a ≤ 57) : ∃ w, w < 10000 ∧ (lwNum t len 4 a 0).1 = nI w ∧ a < (lwNum t len 4 a 0).2 ∧ (lwNum t len 4 a 0).2 ≤ len := by
  have hlt : a < len := lwSg_lt (fun q => by rw [q] at h; exact absurd h.1 (by decide))
  obtain ⟨w, h1, h2, h3, h4⟩ := lwNum_ok (t := t) (len := len) 4 a 0 ha
  refine ⟨w, h2 (by decide) (Nat.le_refl _), h1, ?_, h4⟩
  unfold lwNum
  rw [if_pos h]
  obtain ⟨s, hs, e⟩ : ∃ s, s < 58 ∧ lwSg t len a = nI s := by
    refine i_ix (by decide) (Int32.le_trans (by decide) h.1) ?_
    exact Int32.lt_of_le_of_lt h.2 (by decide)
  have hs48 : 48 ≤ s := by
    have := h.1
    rw [e, i_le, nI_toInt (by omega), show (48 : Int32).toInt = 48 from rfl] at this
    omega
  have e2 : 10 * 0 + lwSg t len a - 48 = nI (s - 48) := by
    rw [e, show (10 : Int32) * 0 = nI 0 from rfl, show (48 : Int32) = nI 48 from rfl, nI_add, pk_sub (by omega)]
    congr 1
    omega
  rw [e2]
  obtain ⟨w2, k1, k2, k3, k4⟩ := lwNum_ok (t := t) (len := len) 3 (a + 1) (s - 48) (by omega)
  exact Nat.lt_of_lt_of_le (Nat.lt_succ_self a) k3
theorem lwUn_gd {p : Nat → lwR} {a : Nat} {c : Int32} (hp : lwGd len p) (ha : a < len) (hc : c = 16 ∨ c = 17) : a ≤ (lwUn p a c).2.1 ∧ (lwUn p a c).2.1 ≤ len ∧ (lwUn p a c).2.2.length + a ≤ (lwUn p a c).2.1 ∧ ((lwUn p a c).1 = true → a < (lwUn p a c).2.1 ∧ ∀ d, lwWf (lwUn p a c).2.2 d = some (d + 1)) ∧ ∀ x ∈ (lwUn p a c).2.2, lwOk x := by
  obtain ⟨g1, g2, g3, g4, g5⟩ := hp (a + 1) (by omega)
  unfold lwUn
  by_cases h : (p (a + 1)).1 = false
  · rw [if_pos h]
    exact ⟨by omega, g2, by omega, fun q => absurd (h.symm.trans q) (by decide), g5⟩
  · rw [if_neg h]
    obtain ⟨g6, g7⟩ := g4 (by simpa using h)
    refine ⟨by show a ≤ (p (a + 1)).2.1; omega, g2, ?_, fun _ => ⟨by show a < (p (a + 1)).2.1; omega, fun d => ?_⟩, fun x hx => ?_⟩
    · show ((p (a + 1)).2.2 ++ [c]).length + a ≤ (p (a + 1)).2.1
      rw [List.length_append, List.length_singleton]
      omega
    · show lwWf ((p (a + 1)).2.2 ++ [c]) d = _
      rw [lwWf_app, g7]
      exact lwWf_un hc d
    · rcases List.mem_append.mp hx with hx | hx
      · exact g5 x hx
      · rw [List.mem_singleton.mp hx]
        rcases hc with rfl | rfl <;> exact ⟨by decide, by decide⟩
theorem lwPar_gd {p : Nat → lwR} {a : Nat} (hp : lwGd len p) (ha : a < len) : a ≤ (lwPar t len p a).2.1 ∧ (lwPar t len p a).2.1 ≤ len ∧ (lwPar t len p a).2.2.length + a ≤ (lwPar t len p a).2.1 ∧ ((lwPar t len p a).1 = true → a < (lwPar t len p a).2.1 ∧ ∀ d, lwWf (lwPar t len p a).2.2 d = some (d + 1)) ∧ ∀ x ∈ (lwPar t len p a).2.2, lwOk x := by
  obtain ⟨g1, g2, g3, g4, g5⟩ := lwChs_gd (t := t) hp 5 (a + 1) (by omega)
  unfold lwPar
  generalize lwChs t len 5 p (a + 1) = r at g1 g2 g3 g4 g5 ⊢
  by_cases h : r.1 = false
  · rw [if_pos h]
    exact ⟨by omega, g2, by omega, fun q => absurd (h.symm.trans q) (by decide), g5⟩
  · rw [if_neg h]
    obtain ⟨g6, g7⟩ := g4 (by simpa using h)
    by_cases h2 : lwSg t len r.2.1 = 41
    · rw [if_pos h2]
      have hlt : r.2.1 < len := lwSg_lt (fun q => by rw [q] at h2; exact absurd h2 (by decide))
      exact ⟨by show a ≤ r.2.1 + 1; omega, by show r.2.1 + 1 ≤ len; omega, by show r.2.2.length + a ≤ r.2.1 + 1; omega, fun _ => ⟨by show a < r.2.1 + 1; omega, g7⟩, g5⟩
    · rw [if_neg h2]
      exact ⟨by show a ≤ r.2.1; omega, g2, by show r.2.2.length + a ≤ r.2.1; omega, fun q => absurd (show false = true from q) (by decide), g5⟩
theorem lwOpn_gd {q : Option (Nat → lwR)} (hq : ∀ p, q = some p → lwGd len p) : lwGd len (lwOpn t len q) := by
  intro a ha
  unfold lwOpn
  by_cases h1 : 48 ≤ lwSg t len a ∧ lwSg t len a ≤ 57
  · rw [if_pos h1]
    obtain ⟨w, k1, k2, k3, k4⟩ := lwNum_gd ha h1
    have e : (18 : Int32) + (lwNum t len 4 a 0).1 = nI (18 + w) := by rw [k2, show (18 : Int32) = nI 18 from rfl, nI_add]
    have ok : lwOk (nI (18 + w)) := lwOk_n (by omega)
    refine ⟨by show a ≤ (lwNum t len 4 a 0).2; omega, k4, by show 1 + a ≤ (lwNum t len 4 a 0).2; omega, fun _ => ⟨k3, fun d => ?_⟩, fun x hx => ?_⟩
    · show lwWf [18 + (lwNum t len 4 a 0).1] d = _
      refine lwWf_val (Or.inl ?_) d
      rw [e, i_le, nI_toInt (by omega), show (18 : Int32).toInt = 18 from rfl]
      omega
    · have hx : x = 18 + (lwNum t len 4 a 0).1 := List.mem_singleton.mp hx
      rw [hx, e]
      exact ok
  · rw [if_neg h1]
    by_cases h2 : ¬ lwNm (lwSg t len a) = -1
    · rw [if_pos h2]
      have hlt : a < len := lwSg_lt (fun q => h2 (by rw [q]; exact lwNm_m1))
      obtain ⟨k1, k2, k3, k4⟩ := lwNm_ok h2
      exact ⟨Nat.le_succ _, hlt, by show 1 + a ≤ a + 1; omega, fun _ => ⟨Nat.lt_succ_self _, fun d => lwWf_val (Or.inr k2) d⟩, fun x hx => by rw [show x = _ from List.mem_singleton.mp hx]; exact k1⟩
    · rw [if_neg h2]
      have bad : a ≤ ((false, a, []) : lwR).2.1 ∧ ((false, a, []) : lwR).2.1 ≤ len ∧ ((false, a, []) : lwR).2.2.length + a ≤ ((false, a, []) : lwR).2.1 ∧ (((false, a, []) : lwR).1 = true → a < ((false, a, []) : lwR).2.1 ∧ ∀ d, lwWf ((false, a, []) : lwR).2.2 d = some (d + 1)) ∧ ∀ x ∈ ((false, a, []) : lwR).2.2, lwOk x := ⟨Nat.le_refl _, ha, by show 0 + a ≤ a; omega, fun q => absurd (show false = true from q) (by decide), fun x hx => absurd hx (by simp)⟩
      cases q with
      | none => exact bad
      | some p =>
        have hp := hq p rfl
        unfold lwBra
        dsimp only
        by_cases e1 : lwSg t len a = 33
        · rw [if_pos e1]
          exact lwUn_gd hp (lwSg_lt (fun z => by rw [z] at e1; exact absurd e1 (by decide))) (Or.inl rfl)
        · rw [if_neg e1]
          by_cases e2 : lwSg t len a = 45
          · rw [if_pos e2]
            exact lwUn_gd hp (lwSg_lt (fun z => by rw [z] at e2; exact absurd e2 (by decide))) (Or.inr rfl)
          · rw [if_neg e2]
            by_cases e3 : lwSg t len a = 40
            · rw [if_pos e3]
              exact lwPar_gd hp (lwSg_lt (fun z => by rw [z] at e3; exact absurd e3 (by decide)))
            · rw [if_neg e3]
              exact bad
theorem lwOo_gd : ∀ n, lwGd len (lwOo t len n)
  | 0 => lwOpn_gd (fun p h => by cases h)
  | n + 1 => lwOpn_gd (fun p h => by cases h; exact lwOo_gd n)
theorem lwE_gd : lwGd len (lwE t len) := lwChs_gd (lwOo_gd 6) 5
end LawGood

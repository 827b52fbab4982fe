
def rfSw : List (Int32 × Nat) → Nat → Int32 → (Nat → Prop) → Prop
  | [], dt, _, K => K dt
  | (v, t) :: r, dt, x, K => (x = v → K t) ∧ (¬ x = v → rfSw r dt x K)
def rfTg (sw : List (Int32 × Nat)) (dt : Nat) (z : Int) : Nat := ((sw.find? (fun q => q.1.toInt == z)).map (fun q => q.2)).getD dt
theorem rfSw_tg {sw : List (Int32 × Nat)} {dt : Nat} {x : Int32} {K : Nat → Prop} (h : rfSw sw dt x K) : K (rfTg sw dt x.toInt) := by
  induction sw with
  | nil => exact h
  | cons q r ih =>
    obtain ⟨v, t⟩ := q
    obtain ⟨h1, h2⟩ := h
    unfold rfTg
    rw [List.find?_cons]
    by_cases hx : x = v
    · subst hx
      simp
      exact h1 rfl
    · have : (v.toInt == x.toInt) = false := by
        simp only [beq_eq_false_iff_ne, ne_eq]
        intro q
        exact hx (Int32.toInt_inj.mp q.symm)
      simp only [this]
      exact ih (h2 hx)
theorem rfLk_tg (pc : Nat) (dflt : Int) (dt : Nat) (hdt : (pc : Int) + dflt = dt) : ∀ (ps : List (Int × Int)) (sw : List (Int32 × Nat)), ps.map (fun q => (q.1, (pc : Int) + q.2)) = sw.map (fun q => (q.1.toInt, (q.2 : Int))) → ∀ z : Int, (pc : Int) + Op.lookupswitch.offset ps dflt z = (rfTg sw dt z : Nat)
  | [], [], _, z => by simpa [Op.lookupswitch.offset_nil, rfTg] using hdt
  | [], _ :: _, h, _ => by cases h
  | _ :: _, [], h, _ => by cases h
  | (a, o) :: ps, (v, t) :: sw, h, z => by
    simp only [List.map_cons, List.cons.injEq, Prod.mk.injEq] at h
    obtain ⟨⟨h1, h2⟩, h3⟩ := h
    have ih := rfLk_tg pc dflt dt hdt ps sw h3 z
    rw [Op.lookupswitch.offset_cons]
    unfold rfTg at ih ⊢
    rw [List.find?_cons]
    by_cases hz : z = a
    · have hb : (v.toInt == z) = true := by rw [← h1, hz]; simp
      simp only [hb]
      rw [if_pos (by first | exact hz | exact hz.symm)]
      simpa using h2
    · have hb : (v.toInt == z) = false := by
        simp only [beq_eq_false_iff_ne, ne_eq]
        intro q
        exact hz (by rw [h1, q])
      simp only [hb]
      rw [if_neg (by first | exact hz | exact fun q => hz q.symm)]
      exact ih
section RfSwitch
variable {Λ : rfL} {d : Nat} {E : rfE} {y : MethodName} {cc : ByteArray} {nL : Nat} {ret : Option FieldType} {Q : Option Value → rfS → Prop} {pc pc2 : Nat} {ls ls2 : List (Nat × Value)} {st : List Value} {σ : rfS}

theorem Rf_lsw (X : rfX Λ E y cc nL ret) {dflt : Int} {ps : Array (Int × Int)} {len dt : Nat} {x : Int32} (sw : List (Int32 × Nat)) (hd : decode cc pc = .ok (.lookupswitch dflt ps, len)) (ho : (ps.toList.zip (ps.toList.drop 1)).all (fun (a, next) => a.1 < next.1) = true) (hdt : (pc : Int) + dflt = dt) (hsw : ps.toList.map (fun q => (q.1, (pc : Int) + q.2)) = sw.map (fun q => (q.1.toInt, (q.2 : Int)))) (k : rfSw sw dt x (fun t => Rf Λ d E nL Q t ls st σ)) : Rf Λ d E nL Q pc ls (.int x :: st) σ := by
  have k2 := rfSw_tg k
  obtain ⟨p, l, e, s, m, args, below, meth, c, D, tc, ad, b0⟩ := E
  intro H locs la hP hS hl
  obtain ⟨hx, hb, hr, hml, hown, hts, hlk, hK, hI, hz, hSt⟩ := X
  exact lv_lookup hx hb hd ho rfl (rfLk_tg pc dflt dt hdt _ sw hsw x.toInt) (k2 H locs la hP hS hl)
theorem Rf_tsw (X : rfX Λ E y cc nL ret) {dflt lo hi : Int} {offs : Array Int} {len dt : Nat} {x : Int32} (sw : List (Int32 × Nat)) (hd : decode cc pc = .ok (.tableswitch dflt lo hi offs, len)) (hdt : (pc : Int) + dflt = dt) (hsz : hi - lo + 1 = offs.size) (hin : (List.range offs.size).all (fun i => offs[i]? == some ((rfTg sw dt (lo + i) : Int) - pc)) = true) (hout : sw.all (fun q => decide (lo ≤ q.1.toInt) && decide (q.1.toInt ≤ hi)) = true) (k : rfSw sw dt x (fun t => Rf Λ d E nL Q t ls st σ)) : Rf Λ d E nL Q pc ls (.int x :: st) σ := by
  have k2 := rfSw_tg k
  obtain ⟨p, l, e, s, m, args, below, meth, c, D, tc, ad, b0⟩ := E
  intro H locs la hP hS hl
  obtain ⟨hx, hb, hr, hml, hown, hts, hlk, hK, hI, hz, hSt⟩ := X
  by_cases h : x.toInt < lo ∨ hi < x.toInt
  · have e : rfTg sw dt x.toInt = dt := by
      unfold rfTg
      rw [List.find?_eq_none.mpr]
      · rfl
      · intro q hq
        have h3 := List.all_eq_true.mp hout q hq
        simp only [Bool.and_eq_true, decide_eq_true_eq] at h3
        simp only [beq_iff_eq]
        omega
    rw [e] at k2
    exact lv_tableOut hx hb hd h hdt (k2 H locs la hP hS hl)
  · have h1 : ¬ x.toInt < lo := fun q => h (Or.inl q)
    have h2 : ¬ hi < x.toInt := fun q => h (Or.inr q)
    have hi2 : (x.toInt - lo).toNat < offs.size := by omega
    have h3 := List.all_eq_true.mp hin (x.toInt - lo).toNat (List.mem_range.mpr hi2)
    have e2 : lo + ((x.toInt - lo).toNat : Int) = x.toInt := by omega
    rw [e2] at h3
    exact lv_tableIn hx hb hd h1 h2 (beq_iff_eq.mp h3) (tgt := rfTg sw dt x.toInt) (by omega) (k2 H locs la hP hS hl)
theorem RM.weaken {as : List Value} {Q2 : Option Value → rfS → Prop} (h : RM Λ d y cc nL ret as σ Q2) (hq : ∀ r σ2, Q2 r σ2 → Q r σ2) : RM Λ d y cc nL ret as σ Q := by
  intro l D tc ad b0 sz
  intro p e ha hc hk s m args below hf happ hP hK
  obtain ⟨k, o, h1, h2, h3, ⟨⟨⟨r, σ2, ho, hq2, hB⟩, hF⟩, hL⟩⟩ := h l D tc ad b0 sz p e ha hc hk s m args below hf happ hP hK
  exact ⟨k, o, h1, h2, h3, ⟨⟨⟨r, σ2, ho, hq _ _ hq2, hB⟩, hF⟩, hL⟩⟩
end RfSwitch
def qi (Q : Int32 → rfS → Prop) : Option Value → rfS → Prop := fun r σ => ∃ v, r = some (.int v) ∧ Q v σ
def ql (Q : Int64 → rfS → Prop) : Option Value → rfS → Prop := fun r σ => ∃ v, r = some (.long v) ∧ Q v σ
def qr (Q : Nat → rfS → Prop) : Option Value → rfS → Prop := fun r σ => ∃ v, r = some (.ref v) ∧ Q v σ
def qv (Q : rfS → Prop) : Option Value → rfS → Prop := fun r σ => r = none ∧ Q σ
theorem kc0 : rfCl 0 RX0 TX0 4 tyX0 := ⟨rfl, rfl, rf_ws inX0, tyX0_ok, nmX0⟩
theorem kc1 : rfCl 1 RX1 TX1 6 tyX1 := ⟨rfl, rfl, rf_ws inX1, tyX1_ok, nmX1⟩
theorem kc2 : rfCl 2 RX2 TX2 7 tyX2 := ⟨rfl, rfl, rf_ws inX2, tyX2_ok, nmX2⟩
theorem kc3 : rfCl 3 RX3 TX3 8 tyX3 := ⟨rfl, rfl, rf_ws inX3, tyX3_ok, nmX3⟩
theorem kc4 : rfCl 4 RX4 TX4 4 tyX4 := ⟨rfl, rfl, rf_ws inX4, tyX4_ok, nmX4⟩
theorem kc5 : rfCl 5 RX5 TX5 4 tyX5 := ⟨rfl, rfl, rf_ws inX5, tyX5_ok, nmX5⟩
theorem kc6 : rfCl 6 RX6 TX6 10 tyX6 := ⟨rfl, rfl, rf_ws inX6, tyX6_ok, nmX6⟩
theorem kc7 : rfCl 7 RX7 TX7 11 tyX7 := ⟨rfl, rfl, rf_ws inX7, tyX7_ok, nmX7⟩
theorem kc8 : rfCl 8 RX8 TX8 43 tyX8 := ⟨rfl, rfl, rf_ws inX8, tyX8_ok, nmX8⟩

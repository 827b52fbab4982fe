/-! segments of code, lines, the whole law -/
def seg (f : Nat → Int32) : Nat → List Int32 → Prop
  | _, [] => True
  | p, a :: r => f p = a ∧ seg f (p + 1) r
theorem seg_app {f : Nat → Int32} : ∀ (l1 l2 : List Int32) (p : Nat), seg f p (l1 ++ l2) ↔ seg f p l1 ∧ seg f (p + l1.length) l2
  | [], l2, p => by simp [seg]
  | a :: r, l2, p => by
    simp only [List.cons_append, seg, seg_app r l2 (p + 1), List.length_cons]
    rw [show p + 1 + r.length = p + (r.length + 1) by omega]
    exact and_assoc.symm
theorem seg_of {f : Nat → Int32} : ∀ (l : List Int32) (p : Nat), (∀ i, i < l.length → f (p + i) = l.getD i 0) → seg f p l
  | [], _, _ => trivial
  | a :: r, p, h => ⟨by simpa using h 0 (by simp), seg_of r (p + 1) (fun i hi => by
      have := h (i + 1) (by simp; omega)
      rw [show p + 1 + i = p + (i + 1) by omega]
      simpa using this)⟩
theorem seg_to {f : Nat → Int32} : ∀ (l : List Int32) (p : Nat), seg f p l → ∀ i, i < l.length → f (p + i) = l.getD i 0
  | [], _, _, i, hi => by simp at hi
  | a :: r, p, h, 0, _ => by simpa using h.1
  | a :: r, p, h, i + 1, hi => by
    have := seg_to r (p + 1) h.2 i (by simp at hi; omega)
    rw [show p + (i + 1) = p + 1 + i by omega]
    simpa using this
theorem wf_step {nm : Nat → Int32} {t : Int32} {r st : List Int32} {e : Nat} (h : lwWf (t :: r) st.length = some e) : (18 ≤ t ∨ t ≤ 5 ∨ ((t = 16 ∨ t = 17) ∧ 1 ≤ st.length) ∨ 2 ≤ st.length) ∧ lwWf r (evT nm t st).length = some e ∧ (evT nm t st).length ≤ st.length + 1 := by
  unfold lwWf at h
  unfold evT
  by_cases h1 : 18 ≤ t ∨ t ≤ 5
  · rw [if_pos h1] at h
    refine ⟨by rcases h1 with q | q; exact Or.inl q; exact Or.inr (Or.inl q), ?_⟩
    by_cases h2 : 18 ≤ t
    · rw [if_pos h2]; exact ⟨h, Nat.le_refl _⟩
    · rw [if_neg h2, if_pos (h1.resolve_left h2)]; exact ⟨h, Nat.le_refl _⟩
  · rw [if_neg h1] at h
    have a1 : ¬ 18 ≤ t := fun q => h1 (Or.inl q)
    have a2 : ¬ t ≤ 5 := fun q => h1 (Or.inr q)
    rw [if_neg a1, if_neg a2]
    by_cases h2 : t = 16 ∨ t = 17
    · rw [if_pos h2] at h ⊢
      by_cases h3 : st.length = 0
      · rw [if_pos h3] at h; cases h
      · rw [if_neg h3] at h
        match st, h3, h with
        | a :: s, _, h => exact ⟨Or.inr (Or.inr (Or.inl ⟨h2, by simp⟩)), h, by simp⟩
        | [], h3, _ => exact absurd rfl h3
    · rw [if_neg h2] at h ⊢
      by_cases h3 : st.length < 2
      · rw [if_pos h3] at h; cases h
      · rw [if_neg h3] at h
        match st, h3, h with
        | b :: a :: s, _, h => exact ⟨Or.inr (Or.inr (Or.inr (by simp))), by simpa using h, by simp⟩
        | [_], h3, _ => exact absurd (by simp) h3
        | [], h3, _ => exact absurd (by simp) h3
theorem evL_len {nm : Nat → Int32} : ∀ (code st : List Int32) (e : Nat), lwWf code st.length = some e → (evL nm code st).length = e
  | [], st, e, h => by
    unfold lwWf at h
    unfold evL
    exact Option.some.inj h
  | t :: r, st, e, h => by
    unfold evL
    exact evL_len r _ e (wf_step h).2.1
theorem segC {Q : Int32 → rfS → Prop} {kx : Int32 → rfS → Prop} {nm : Nat → Int32} {S : Nat} (hS2 : S ≤ 121) : ∀ (code st : List Int32) (e p f : Nat) (c : rfS), (∀ t ∈ code, lwOk t) → lwWf code st.length = some e → gI c 6 1 = nI S → p + code.length ≤ S → seg (gF c 7) p (code.map lwTok) → (∀ i, i < 6 → gF c 11 i = nm i) → stk (gF c 8) st → st.length + code.length ≤ 121 → (∀ c2, Fr1 8 c c2 → stk (gF c2 8) (evL nm code st) → wl_X3_workOut_4 Q kx f (nI (evL nm code st).length) (nI (p + code.length)) c2) → wl_X3_workOut_4 Q kx (f + code.length) (nI st.length) (nI p) c
  | [], st, e, p, f, c, _, _, _, _, _, _, hs, _, hk => hk c (Fr1.rf 8 c) hs
  | t :: r, st, e, p, f, c, ho, hw, hS, hp, hsg, hnm, hs, hl, hk => by
    obtain ⟨w1, w2, w3⟩ := wf_step (nm := nm) hw
    simp only [List.length_cons] at hp hl hk
    have e1 : f + (t :: r).length = (f + r.length) + 1 := by simp; omega
    rw [e1]
    refine tokC (nm := nm) (S := S) (ho t List.mem_cons_self) hS (by omega) hS2 hsg.1 hnm hs (by omega) w1 (fun c2 h1 h2 => ?_)
    refine segC (nm := nm) hS2 r (evT nm t st) e (p + 1) f c2 (fun x hx => ho x (List.mem_cons_of_mem _ hx)) w2 (by rw [h1.2.1]; exact hS) (by omega) (by rw [h1.1 7 (by decide)]; exact hsg.2) (fun i hi => by rw [h1.1 11 (by decide)]; exact hnm i hi) h2 (by omega) (fun c3 g1 g2 => ?_)
    have := hk c3 (h1.tr g1) g2
    rw [show p + (r.length + 1) = p + 1 + r.length by omega] at this
    exact this
theorem eolC {c : rfS} {S e : Nat} (hS : gI c 6 1 = nI S) (hS2 : S ≤ 121) (he : e < S) (h59 : gF c 7 e = -59) {Q : Int32 → rfS → Prop} (hq : Q (nI e) c) : ∀ (k i : Nat), i + k = e → (∀ j, i ≤ j → j < e → ¬ gF c 7 j = -59) → wl_X3_endOfLine_2 Q (k + 1) (nI i) c := by
  intro k
  induction k with
  | zero =>
    intro i hi hn
    have : i = e := by omega
    subst this
    unfold wl_X3_endOfLine_2
    rw [hS, cl i, h59]
    exact ⟨fun q => by have := (nI_leI (by omega) (by omega)).mp q; omega, fun _ => ⟨vin (by omega), fun _ => hq, fun q => absurd rfl q⟩⟩
  | succ k ih =>
    intro i hi hn
    unfold wl_X3_endOfLine_2
    rw [hS, cl i, nI_1]
    exact ⟨fun q => by have := (nI_leI (by omega) (by omega)).mp q; omega, fun _ => ⟨vin (by omega), fun q => absurd q (hn i (by omega) (by omega)), fun _ => ih (i + 1) (by omega) (fun j j1 j2 => hn j (by omega) j2)⟩⟩
theorem tok59 {t : Int32} (h : lwOk t) : ¬ lwTok t = -59 := by
  rcases lwTk h with ⟨k, hk, rfl⟩ | ⟨j, hj, rfl⟩
  · have e18 : (18 : Int32) ≤ nI (18 + k) := nI_le (a := 18) (by omega) (by omega)
    unfold lwTok
    rw [if_pos e18, show (18 : Int32) = nI 18 from rfl, pk_sub (by omega)]
    intro q
    have h1 : (nI (18 + k - 18)).toInt = (-59 : Int32).toInt := by rw [q]
    rw [nI_toInt (by omega)] at h1
    have h2 : (-59 : Int32).toInt = -59 := by decide
    omega
  · rcases j17 hj with rfl | rfl | rfl | rfl | rfl | rfl | rfl | rfl | rfl | rfl | rfl | rfl | rfl | rfl | rfl | rfl | rfl | rfl <;> decide
theorem map59 {code : List Int32} (h : ∀ t ∈ code, lwOk t) {f : Nat → Int32} : ∀ (p : Nat), seg f p (code.map lwTok) → ∀ j, p ≤ j → j < p + code.length → ¬ f j = -59 := by
  induction code with
  | nil => intro p _ j h1 h2; simp at h2; omega
  | cons t r ih =>
    intro p hs j h1 h2
    by_cases e : j = p
    · subst e
      rw [hs.1]
      exact tok59 (h t List.mem_cons_self)
    · exact ih (fun x hx => h x (List.mem_cons_of_mem _ hx)) (p + 1) hs.2 j (by omega) (by simp at h2; omega)
def lawV (nm : Nat → Int32) : List (Option (List Int32) × List Int32) → Int32
  | [] => 0
  | q :: r => match q.1 with
    | some a => if (evL nm a []).headD 0 = 0 then lawV nm r else (evL nm q.2 []).headD 0
    | none => (evL nm q.2 []).headD 0
theorem ev1 {nm : Nat → Int32} {code : List Int32} (h : lwWf code 0 = some 1) : ∃ v, evL nm code [] = [v] := by
  have := evL_len (nm := nm) code [] 1 h
  match hv : evL nm code [], this with
  | [v], _ => exact ⟨v, rfl⟩
theorem linesC {Q : Int32 → rfS → Prop} {nm : Nat → Int32} {S : Nat} (hS2 : S ≤ 121) : ∀ (L : List (Option (List Int32) × List Int32)) (p f : Nat) (c : rfS), (∀ q ∈ L, lwGood q) → gI c 6 1 = nI S → p + (L.flatMap lwLine).length = S → seg (gF c 7) p (L.flatMap lwLine) → (∀ i, i < 6 → gF c 11 i = nm i) → S - p + 1 ≤ f → (∀ c2, Fr1 8 c c2 → Q (lawV nm L) c2) → wl_X3_workOut_4 Q (fun (x2_25 : Int32) (σ26 : rfS) => vp_in (x2_25 - 1) 121 ∧ Q (gF σ26 8 ((x2_25 - 1).toNatClampNeg)) σ26) f (nI 0) (nI p) c
  | [], p, f, c, _, hS, hp, _, _, hf, hk => by
    obtain ⟨g, rfl⟩ : ∃ g, f = g + 1 := ⟨f - 1, by omega⟩
    simp at hp
    unfold wl_X3_workOut_4
    rw [hS]
    exact ⟨fun _ => hk c (Fr1.rf 8 c), fun q => absurd (nI_le (by omega) (by omega)) q⟩
  | (qa, qb) :: r, p, f, c, hg, hS, hp, hsg, hnm, hf, hk => by
    have gq := hg (qa, qb) List.mem_cons_self
    rw [List.flatMap_cons] at hp hsg
    rw [List.length_append] at hp
    rw [seg_app] at hsg
    obtain ⟨s1, s2⟩ := hsg
    obtain ⟨g1, g2, g3⟩ := gq
    have g1 : ∀ a, qa = some a → a ≠ [] ∧ lwWf a 0 = some 1 ∧ ∀ t ∈ a, lwOk t := g1
    have g2 : lwWf qb 0 = some 1 := g2
    have g3 : ∀ t ∈ qb, lwOk t := g3
    -- the end of a line: what it says
    have last : ∀ (p1 f1 : Nat) (c1 : rfS), Fr1 8 c c1 → p1 + qb.length + 1 + (r.flatMap lwLine).length = S → seg (gF c1 7) p1 (qb.map lwTok ++ [-59]) → qb.length + 1 ≤ f1 → (∀ c2, Fr1 8 c c2 → Q ((evL nm qb []).headD 0) c2) → wl_X3_workOut_4 Q (fun (x2_25 : Int32) (σ26 : rfS) => vp_in (x2_25 - 1) 121 ∧ Q (gF σ26 8 ((x2_25 - 1).toNatClampNeg)) σ26) f1 (nI 0) (nI p1) c1 := by
      intro p1 f1 c1 hfr hp1 hsg1 hf1 hq
      rw [seg_app] at hsg1
      obtain ⟨t1, t2, -⟩ := hsg1
      obtain ⟨g, rfl⟩ : ∃ g, f1 = (g + 1) + qb.length := ⟨f1 - 1 - qb.length, by omega⟩
      obtain ⟨v, hv⟩ := ev1 (nm := nm) g2
      refine segC (nm := nm) hS2 qb [] 1 p1 (g + 1) c1 g3 g2 (by rw [hfr.2.1]; exact hS) (by omega) t1 (fun i hi => by rw [hfr.1 11 (by decide)]; exact hnm i hi) trivial (by simp; omega) (fun c2 h1 h2 => ?_)
      rw [hv] at h2 ⊢
      unfold wl_X3_workOut_4
      have e59 : gF c2 7 (p1 + qb.length) = -59 := by rw [h1.1 7 (by decide)]; simpa using t2
      rw [h1.2.1, hfr.2.1, hS, cl (p1 + qb.length), e59]
      refine ⟨fun q => by have := (nI_leI (by omega) (by omega)).mp q; omega, fun _ => ⟨vin (by omega), fun _ => ⟨fun q => absurd rfl q, fun _ => ?_⟩, fun q => absurd (by decide) q⟩⟩
      show vp_in (nI 1 - 1) 121 ∧ Q (gF c2 8 (nI 1 - 1).toNatClampNeg) c2
      have h2v : gF c2 8 0 = v := h2.1
      rw [show nI 1 - 1 = nI 0 from rfl, cl 0, h2v]
      refine ⟨vin (by decide), ?_⟩
      have := hq c2 (hfr.tr h1)
      rw [hv] at this
      exact this
    cases qa with
    | none =>
      have e : lwLine (none, qb) = qb.map lwTok ++ [-59] := by simp [lwLine]
      rw [e] at s1 s2 hp
      simp only [List.length_append, List.length_map, List.length_cons, List.length_nil] at hp
      exact last p f c (Fr1.rf 8 c) (by omega) s1 (by omega) (fun c2 h2 => hk c2 h2)
    | some a =>
      have e : lwLine (some a, qb) = a.map lwTok ++ ([-63] ++ (qb.map lwTok ++ [-59])) := by simp [lwLine]
      rw [e] at s1 s2 hp
      simp only [List.length_append, List.length_map, List.length_cons, List.length_nil] at hp s2
      rw [seg_app, seg_app] at s1
      obtain ⟨t1, t2, t3⟩ := s1
      simp only [List.length_map, List.length_cons, List.length_nil] at t2 t3
      obtain ⟨ga1, ga2, ga3⟩ := g1 a rfl
      obtain ⟨v, hv⟩ := ev1 (nm := nm) ga2
      obtain ⟨g, rfl⟩ : ∃ g, f = (g + 1) + a.length := ⟨f - 1 - a.length, by omega⟩
      refine segC (nm := nm) hS2 a [] 1 p (g + 1) c ga3 ga2 hS (by omega) t1 hnm trivial (by simp; omega) (fun c2 h1 h2 => ?_)
      rw [hv] at h2 ⊢
      unfold wl_X3_workOut_4
      have e63 : gF c2 7 (p + a.length) = -63 := by rw [h1.1 7 (by decide)]; simpa using t2.1
      rw [h1.2.1, hS, cl (p + a.length), e63]
      refine ⟨fun q => by have := (nI_leI (by omega) (by omega)).mp q; omega, fun _ => ⟨vin (by omega), fun _ => ⟨fun _ => ⟨fun q => absurd rfl q, fun _ => ?_⟩, fun q => absurd q (by decide)⟩, fun q => absurd (by decide) q⟩⟩
      have h2v : gF c2 8 0 = v := h2.1
      rw [show (nI [v].length + -1 : Int32) = nI 0 from pk_m1 0, cl 0, h2v]
      have t3' : seg (gF c2 7) (p + a.length + 1) (qb.map lwTok ++ [-59]) := by rw [h1.1 7 (by decide)]; exact t3
      refine ⟨vin (by decide), fun hz => ?_, fun hz => ?_⟩
      · unfold wp_X3_endOfLine
        have t4 := (seg_app (qb.map lwTok) [-59] (p + a.length + 1)).mp t3'
        have end59 : gF c2 7 (p + a.length + 1 + qb.length) = -59 := by simpa using t4.2.1
        refine ⟨qb.length + 1 + 1, eolC (e := p + a.length + 1 + qb.length) (S := S) (by rw [h1.2.1]; exact hS) hS2 (by omega) end59 ?_ (qb.length + 1) (p + a.length) (by omega) (fun j j1 j2 => ?_)⟩
        · rw [nI_1]
          refine linesC (nm := nm) hS2 r (p + a.length + 1 + qb.length + 1) g c2 (fun x hx => hg x (List.mem_cons_of_mem _ hx)) (by rw [h1.2.1]; exact hS) (by omega) ?_ (fun i hi => by rw [h1.1 11 (by decide)]; exact hnm i hi) (by omega) (fun c3 h3 => ?_)
          · rw [h1.1 7 (by decide)]
            have := s2
            rw [show p + (a.length + (0 + 1 + (qb.length + (0 + 1)))) = p + a.length + 1 + qb.length + 1 by omega] at this
            exact this
          · have := hk c3 (h1.tr h3)
            have this : Q (if (evL nm a []).headD 0 = 0 then lawV nm r else (evL nm qb []).headD 0) c3 := this
            rw [if_pos (show (evL nm a []).headD 0 = 0 by rw [hv]; exact hz)] at this
            exact this
        · by_cases ej : j = p + a.length
          · rw [ej, e63]; decide
          · exact map59 g3 (p + a.length + 1) t4.1 j (by omega) (by omega)
      · rw [nI_1]
        refine last (p + a.length + 1) g c2 h1 (by omega) t3' (by omega) (fun c3 h3 => ?_)
        have := hk c3 h3
        have this : Q (if (evL nm a []).headD 0 = 0 then lawV nm r else (evL nm qb []).headD 0) c3 := this
        rw [if_neg (show ¬ (evL nm a []).headD 0 = 0 by rw [hv]; exact hz)] at this
        exact this

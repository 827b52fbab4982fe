/-! law: lines on both sides -/
def lwHead (q : lwQ) : List Int32 := (match q.1 with
  | some a => a.map lwTok ++ [-63]
  | none => []) ++ q.2.map lwTok
theorem lwLine_head (q : lwQ) : lwLine q = lwHead q ++ [-59] := rfl
def lwCq (q : lwQ) : List Int32 := q.1.getD [] ++ q.2
def lwCl (L : List lwQ) : List Int32 := L.flatMap lwCq
theorem lwCl_app (A B : List lwQ) : lwCl (A ++ B) = lwCl A ++ lwCl B := List.flatMap_append ..
theorem lwCl_one (q : lwQ) : lwCl [q] = q.1.getD [] ++ q.2 := by
  unfold lwCl lwCq
  simp
theorem flat_one (L : List lwQ) (q : lwQ) : (L ++ [q]).flatMap lwLine = L.flatMap lwLine ++ lwHead q ++ [-59] := by
  rw [List.flatMap_append, List.flatMap_cons, List.flatMap_nil, List.append_nil, lwLine_head, List.append_assoc]
section LawLines
variable {t : Nat → Int32} {len : Nat}
theorem lwLn_gd {a : Nat} (ha : a ≤ len) : a ≤ (lwLn t len a).2.1 ∧ (lwLn t len a).2.1 ≤ len ∧ ((lwLn t len a).1 = true → a < (lwLn t len a).2.1 ∧ (lwHead (lwLn t len a).2.2).length + a ≤ (lwLn t len a).2.1 ∧ (lwCq (lwLn t len a).2.2).length + a ≤ (lwLn t len a).2.1 ∧ lwGood (lwLn t len a).2.2) := by
  obtain ⟨g1, g2, g3, g4, g5⟩ := lwE_gd (t := t) (len := len) a ha
  unfold lwLn
  by_cases hf : (lwE t len a).1 = false
  · rw [if_pos hf]
    exact ⟨g1, g2, fun q => absurd (show false = true from q) ft⟩
  rw [if_neg hf]
  obtain ⟨g6, g7⟩ := g4 (by simpa using hf)
  by_cases h63 : lwSg t len (lwE t len a).2.1 = 63
  · rw [if_pos h63]
    have hlt : (lwE t len a).2.1 < len := lwSg_lt (fun q => by rw [q] at h63; exact absurd h63 (by decide))
    obtain ⟨k1, k2, k3, k4, k5⟩ := lwE_gd (t := t) (len := len) ((lwE t len a).2.1 + 1) hlt
    by_cases hf2 : (lwE t len ((lwE t len a).2.1 + 1)).1 = false
    · rw [if_pos hf2]
      exact ⟨by show a ≤ (lwE t len ((lwE t len a).2.1 + 1)).2.1; omega, k2, fun q => absurd (show false = true from q) ft⟩
    · rw [if_neg hf2]
      obtain ⟨k6, k7⟩ := k4 (by simpa using hf2)
      refine ⟨by show a ≤ (lwE t len ((lwE t len a).2.1 + 1)).2.1; omega, k2, fun _ => ⟨by show a < (lwE t len ((lwE t len a).2.1 + 1)).2.1; omega, ?_, ?_, ?_, g7 0 |> fun _ => k7 0, k5⟩⟩
      · show (((lwE t len a).2.2.map lwTok ++ [-63]) ++ (lwE t len ((lwE t len a).2.1 + 1)).2.2.map lwTok).length + a ≤ (lwE t len ((lwE t len a).2.1 + 1)).2.1
        simp only [List.length_append, List.length_map, List.length_singleton]
        omega
      · show ((lwE t len a).2.2 ++ (lwE t len ((lwE t len a).2.1 + 1)).2.2).length + a ≤ (lwE t len ((lwE t len a).2.1 + 1)).2.1
        simp only [List.length_append]
        omega
      · intro x hx
        cases hx
        refine ⟨fun q => ?_, g7 0, g5⟩
        have := g7 0
        rw [q] at this
        cases this
  · rw [if_neg h63]
    refine ⟨g1, g2, fun _ => ⟨g6, ?_, ?_, ?_, g7 0, g5⟩⟩
    · show ([] ++ (lwE t len a).2.2.map lwTok).length + a ≤ (lwE t len a).2.1
      rw [List.nil_append, List.length_map]
      exact g3
    · show ([] ++ (lwE t len a).2.2).length + a ≤ (lwE t len a).2.1
      rw [List.nil_append]
      exact g3
    · intro x hx
      cases hx
theorem lnC {σ0 : rfS} (hT : TC σ0 t len) {a : Nat} {L : List Int32} {σ : rfS} {Q : Int32 → rfS → Prop} (ha : a ≤ len) (hL : L.length ≤ a) (h : SC σ0 a L σ) (h1 : (lwLn t len a).1 = true → ∀ σ2, SC σ0 (lwLn t len a).2.1 (L ++ lwHead (lwLn t len a).2.2) σ2 → Q 1 σ2) (h0 : (lwLn t len a).1 = false → ∀ L2 σ2, SC σ0 (lwLn t len a).2.1 L2 σ2 → Q 0 σ2) : wp_X3_readLine (RCO 49).1 σ Q := by
  have hlen := hT.1
  obtain ⟨g1, g2, g3, g4, g5⟩ := lwE_gd (t := t) (len := len) a ha
  unfold wp_X3_readLine
  refine eC hT a L σ _ ha hL h (fun σ2 h2 => ?_)
  rw [bI_0]
  unfold lwLn at h1 h0
  by_cases hf : (lwE t len a).1 = false
  · rw [if_pos hf] at h0
    exact ⟨fun q => absurd (by rw [hf]; exact ft) q, fun _ => h0 rfl _ _ h2⟩
  rw [if_neg hf] at h1 h0
  obtain ⟨g6, g7⟩ := g4 (by simpa using hf)
  refine ⟨fun _ => accC hT h2 g2 (fun e63 σ3 h3 => ?_) (fun n63 => ?_), fun q => absurd (by simpa using hf) q⟩
  · rw [if_pos e63] at h1 h0
    have hlt : (lwE t len a).2.1 < len := lwSg_lt (fun q => by rw [q] at e63; exact absurd e63 (by decide))
    refine ⟨fun _ => addS h3 (by rw [List.length_append, List.length_map]; omega) (fun σ4 h4 => ?_), fun q => absurd q (by decide)⟩
    refine eC hT _ _ σ4 _ hlt (by simp only [List.length_append, List.length_map, List.length_singleton]; omega) h4 (fun σ5 h5 => ⟨bI_Z, ?_⟩)
    by_cases hf2 : (lwE t len ((lwE t len a).2.1 + 1)).1 = false
    · rw [if_pos hf2] at h0
      rw [bI_f (by rw [hf2]; exact ft)]
      exact h0 rfl _ _ h5
    · rw [if_neg hf2] at h1
      rw [bI_t (by simpa using hf2)]
      refine h1 rfl σ5 ?_
      have e : L ++ lwHead (some (lwE t len a).2.2, (lwE t len ((lwE t len a).2.1 + 1)).2.2) = L ++ (lwE t len a).2.2.map lwTok ++ [-63] ++ (lwE t len ((lwE t len a).2.1 + 1)).2.2.map lwTok := by
        unfold lwHead
        simp only [List.append_assoc]
      rw [e]
      exact h5
  · rw [if_neg n63] at h1
    refine ⟨fun q => absurd rfl q, fun _ => h1 rfl σ2 ?_⟩
    exact h2
theorem lsC {σ0 : rfS} (hT : TC σ0 t len) {Q : Int32 → rfS → Prop} : ∀ (n k a : Nat) (L : List lwQ) (σ : rfS), k + n = len + 1 → k ≤ a → a ≤ len → (L.flatMap lwLine).length ≤ a → SC σ0 a (L.flatMap lwLine) σ → ((lwLs t len n a L).1 = true → ∀ σ2, SC σ0 (lwLs t len n a L).2.1 ((lwLs t len n a L).2.2.flatMap lwLine) σ2 → ((lwLs t len n a L).2.2.flatMap lwLine).length ≤ 121 → Q 1 σ2) → ((lwLs t len n a L).1 = false → ∀ L2 σ2, SC σ0 (lwLs t len n a L).2.1 L2 σ2 → Q 0 σ2) → wl_X3_readLines_2 (wp_X3_readLine (RCO 49).1) Q n (nI k) σ
  | 0, k, a, L, σ, hk, hka, ha, hL, h, h1, h0 => absurd hk (by omega)
  | n + 1, k, a, L, σ, hk, hka, ha, hL, h, h1, h0 => by
    have hT2 := hT
    obtain ⟨t1, t2, t3⟩ := hT2
    have e : gI σ 6 4 = nI len := (h.1 6 4 (by decide)).trans t2
    unfold wl_X3_readLines_2
    rw [e]
    have nlt : ¬ nI len < nI k := by
      rw [i_lt, nI_toInt (by omega), nI_toInt (by omega)]
      omega
    obtain ⟨g1, g2, g3⟩ := lwLn_gd (t := t) ha
    unfold lwLs at h1 h0
    refine ⟨fun q => absurd q nlt, fun _ => lnC hT ha hL h (fun ok σ2 h2 => ⟨fun _ => ?_, fun q => absurd q (by decide)⟩) (fun bad L2 σ2 h2 => ⟨fun q => absurd rfl q, fun _ => ?_⟩)⟩
    · obtain ⟨g4, g5, g6, g7⟩ := g3 ok
      have nf : ¬ (lwLn t len a).1 = false := by rw [ok]; decide
      rw [if_neg nf] at h1 h0
      have hl : (L.flatMap lwLine ++ lwHead (lwLn t len a).2.2).length ≤ (lwLn t len a).2.1 := by
        rw [List.length_append]
        omega
      refine addS h2 (by omega) (fun σ3 h3 => ?_)
      rw [← flat_one] at h3
      have hl3 : ((L ++ [(lwLn t len a).2.2]).flatMap lwLine).length ≤ (lwLn t len a).2.1 + 1 := by
        rw [flat_one, List.length_append, List.length_singleton]
        omega
      rw [h3.2.2.2.1, h3.1 6 4 (by decide), t2]
      by_cases hend : (lwLn t len a).2.1 = len
      · rw [if_pos hend] at h1
        rw [hend] at h3 hl3 ⊢
        exact ⟨fun q => absurd rfl q, fun _ => h1 rfl σ3 h3 (by show ((L ++ [(lwLn t len a).2.2]).flatMap lwLine).length ≤ 121; omega)⟩
      · rw [if_neg hend] at h1 h0
        refine ⟨fun _ => accC hT h3 g2 (fun e59 σ4 h4 => ?_) (fun n59 => ?_), fun q => absurd ?_ hend⟩
        · rw [if_pos e59] at h1 h0
          have hlt : (lwLn t len a).2.1 < len := lwSg_lt (fun q => by rw [q] at e59; exact absurd e59 (by decide))
          refine ⟨fun _ => ?_, fun q => absurd q (by decide)⟩
          rw [nI_1]
          exact lsC hT n (k + 1) _ _ σ4 (by omega) (by omega) hlt hl3 h4 h1 h0
        · rw [if_neg n59] at h0
          exact ⟨fun q => absurd rfl q, fun _ => h0 rfl _ _ h3⟩
        · have := congrArg Int32.toInt q
          rw [nI_toInt (by omega), nI_toInt (by omega)] at this
          omega
    · rw [if_pos bad] at h0
      exact h0 rfl _ _ h2
/-! the model -/
def AG (σ0 σ : rfS) : Prop := (∀ k j, ¬ (k = 0 ∧ 11 ≤ j ∧ j ≤ 14) → gI σ k j = gI σ0 k j) ∧ (∀ k, ¬ (8 ≤ k ∧ k ≤ 11) → gF σ k = gF σ0 k) ∧ ∀ k, gL σ k = gL σ0 k
theorem AG.rf (σ : rfS) : AG σ σ := ⟨fun _ _ _ => rfl, fun _ _ => rfl, fun _ => rfl⟩
theorem AG.tr {a b c : rfS} (h : AG a b) (k : AG b c) : AG a c := ⟨fun x y z => (k.1 x y z).trans (h.1 x y z), fun x y => (k.2.1 x y).trans (h.2.1 x y), fun x => (k.2.2 x).trans (h.2.2 x)⟩
theorem AG.sF {a b : rfS} (h : AG a b) {k j : Nat} {v : Int32} (hk : 8 ≤ k ∧ k ≤ 11) : AG a (sF b k j v) := ⟨fun x y z => h.1 x y z, fun x y => (gF_sF_ne (by omega)).trans (h.2.1 x y), fun x => h.2.2 x⟩
theorem AG.sI {a b : rfS} (h : AG a b) {j : Nat} {v : Int32} (hk : 11 ≤ j ∧ j ≤ 14) : AG a (sI b 0 j v) := ⟨fun x y z => by rw [gI_sI, if_neg (by omega)]; exact h.1 x y z, fun x y => h.2.1 x y, fun x => h.2.2 x⟩
theorem SM.ag {σ0 σ : rfS} {a o : Nat} {L : List Int32} (h : SM σ0 a o L σ) : AG σ0 σ := ⟨fun k j q => h.1 k j (by omega), fun k q => h.2.1 k (by omega), h.2.2.1⟩
theorem TM.ag {σ0 σ : rfS} (h : TM σ0 t len) (g : AG σ0 σ) : TM σ t len := ⟨h.1, (g.1 0 3 (by decide)).trans h.2.1, fun i hi => by rw [g.2.1 3 (by decide)]; exact h.2.2 i hi⟩
def SR (a : Nat) (L : List Int32) (σ : rfS) : Prop := gI σ 0 11 = nI a ∧ gI σ 0 12 = nI 0 ∧ gI σ 0 13 = nI L.length ∧ ∀ i, i < L.length → gF σ 11 i = L.getD i 0
theorem SR.sm {a : Nat} {L : List Int32} {σ : rfS} (h : SR a L σ) : SM σ a 0 L σ := ⟨fun _ _ _ => rfl, fun _ _ => rfl, fun _ => rfl, h⟩
theorem SM.sr {σ0 : rfS} {a : Nat} {L : List Int32} {σ : rfS} (h : SM σ0 a 0 L σ) : SR a L σ := h.2.2.2
theorem SR.sF {a : Nat} {L : List Int32} {σ : rfS} (h : SR a L σ) {k j : Nat} {v : Int32} (hk : k ≠ 11) : SR a L (sF σ k j v) := ⟨h.1, h.2.1, h.2.2.1, fun i hi => by rw [gF_sF, if_neg (fun q => hk q.1.symm)]; exact h.2.2.2 i hi⟩
def Tb (σ : rfS) (L : List lwQ) : Prop := ∀ k q, L[k]? = some q → gF σ 8 k = nI (lwCl (L.take k)).length ∧ gF σ 9 k = nI ((lwCl (L.take k)).length + (q.1.getD []).length) ∧ gF σ 10 k = nI ((lwCl (L.take k)).length + (q.1.getD []).length + q.2.length)
theorem Tb.fr {σ σ2 : rfS} {L : List lwQ} (h : Tb σ L) (h1 : ∀ k, k < L.length → gF σ2 8 k = gF σ 8 k ∧ gF σ2 9 k = gF σ 9 k ∧ gF σ2 10 k = gF σ 10 k) : Tb σ2 L := by
  intro k q hq
  have hk : k < L.length := (List.getElem?_eq_some_iff.mp hq).1
  obtain ⟨e1, e2, e3⟩ := h1 k hk
  rw [e1, e2, e3]
  exact h k q hq
theorem Tb.snoc {σ : rfS} {L : List lwQ} {q : lwQ} (h : Tb σ L) (h1 : gF σ 8 L.length = nI (lwCl L).length) (h2 : gF σ 9 L.length = nI ((lwCl L).length + (q.1.getD []).length)) (h3 : gF σ 10 L.length = nI ((lwCl L).length + (q.1.getD []).length + q.2.length)) : Tb σ (L ++ [q]) := by
  intro k q2 hq
  rcases Nat.lt_or_ge k L.length with hk | hk
  · rw [List.getElem?_append_left hk] at hq
    rw [List.take_append_of_le_length (Nat.le_of_lt hk)]
    exact h k q2 hq
  · rw [List.getElem?_append_right hk] at hq
    have hk2 : k = L.length := by
      rcases Nat.eq_or_lt_of_le hk with e | e
      · exact e.symm
      · rw [List.getElem?_eq_none (by simp; omega)] at hq
        cases hq
    subst hk2
    rw [Nat.sub_self] at hq
    cases hq
    rw [List.take_append_of_le_length (Nat.le_refl _), List.take_length]
    exact ⟨h1, h2, h3⟩
theorem lnM {σ : rfS} (hT : TM σ t len) {a : Nat} {L : List lwQ} {Q : Int32 → rfS → Prop} (ha : a ≤ len) (hL2 : 2 * L.length ≤ a) (hc : (lwCl L).length ≤ a) (hS : SR a (lwCl L) σ) (ht : Tb σ L) (hn : gI σ 0 14 = nI L.length)
    (h1 : (lwLn t len a).1 = true → ∀ σ2, AG σ σ2 → SR (lwLn t len a).2.1 (lwCl (L ++ [(lwLn t len a).2.2])) σ2 → Tb σ2 (L ++ [(lwLn t len a).2.2]) → gI σ2 0 14 = nI (L.length + 1) → Q 1 σ2) (h0 : (lwLn t len a).1 = false → ∀ σ2, AG σ σ2 → gI σ2 0 11 = nI (lwLn t len a).2.1 → Q 0 σ2) : wp_X8_isLine (MIE 42).2.2.2.2.2 σ Q := by
  have hlen := hT.1
  have l61 : L.length < 61 := by omega
  obtain ⟨g1, g2, g3, g4, g5⟩ := lwE_gd (t := t) (len := len) a ha
  have cg : ∀ {k : Nat}, (nI L.length = nI k) → True := fun _ => trivial
  unfold wp_X8_isLine
  rw [hn, cl L.length, hS.2.2.1]
  refine ⟨vin l61, ?_⟩
  have A1 : AG σ (sF σ 8 L.length (nI (lwCl L).length)) := (AG.rf σ).sF (by decide)
  have S1 := (hS.sF (k := 8) (j := L.length) (v := nI (lwCl L).length) (by decide)).sm
  refine eM (hT.ag A1) a _ _ _ ha hc S1 (fun σ2 h2 => ?_)
  have A2 : AG σ σ2 := A1.tr h2.ag
  have f2 : ∀ k, k = 9 ∨ k = 10 → gF σ2 k = gF σ k := fun k hk => (h2.2.1 k (by omega)).trans (gF_sF_ne (by omega))
  have f8 : gF σ2 8 = gF (sF σ 8 L.length (nI (lwCl L).length)) 8 := h2.2.1 8 (by decide)
  have n2 : gI σ2 0 14 = nI L.length := (h2.1 0 14 (by decide)).trans hn
  have t2 : Tb σ2 L := ht.fr (fun k hk => ⟨by rw [f8, gF_sF, if_neg (by omega)], by rw [f2 9 (by decide)], by rw [f2 10 (by decide)]⟩)
  have v8 : gF σ2 8 L.length = nI (lwCl L).length := by rw [f8, gF_sF, if_pos ⟨rfl, rfl⟩]
  rw [bI_0]
  unfold lwLn at h1 h0
  by_cases hf : (lwE t len a).1 = false
  · rw [if_pos hf] at h0
    exact ⟨fun q => absurd (by rw [hf]; exact ft) q, fun _ => h0 rfl σ2 A2 h2.2.2.2.1⟩
  rw [if_neg hf] at h1 h0
  obtain ⟨g6, g7⟩ := g4 (by simpa using hf)
  refine ⟨fun _ => ?_, fun q => absurd (by simpa using hf) q⟩
  rw [n2, cl L.length, v8]
  refine ⟨vin l61, vin l61, ?_⟩
  have A3 : AG σ (sF σ2 9 L.length (nI (lwCl L).length)) := A2.sF (by decide)
  have S3 := (h2.sr.sF (k := 9) (j := L.length) (v := nI (lwCl L).length) (by decide)).sm
  -- the end of a line
  have fin : ∀ (σ4 : rfS) (b : Nat) (q : lwQ), AG σ σ4 → SR b (lwCl (L ++ [q])) σ4 → (∀ k, k < L.length → gF σ4 8 k = gF σ2 8 k ∧ gF σ4 9 k = gF σ2 9 k ∧ gF σ4 10 k = gF σ2 10 k) → gF σ4 8 L.length = nI (lwCl L).length → gF σ4 9 L.length = nI ((lwCl L).length + (q.1.getD []).length) → gI σ4 0 14 = nI L.length → (∀ σ5, AG σ σ5 → SR b (lwCl (L ++ [q])) σ5 → Tb σ5 (L ++ [q]) → gI σ5 0 14 = nI (L.length + 1) → Q 1 σ5) → wj_X8_isLine_71 (MIE 42).2.2.2.2.2 Q σ4 := by
    intro σ4 b q A4 S4 T4 w8 w9 n4 hq
    unfold wj_X8_isLine_71
    rw [n4, cl L.length, S4.2.2.1, nI_1]
    have e10 : (lwCl (L ++ [q])).length = (lwCl L).length + (q.1.getD []).length + q.2.length := by
      rw [lwCl_app, lwCl_one, List.length_append, List.length_append]
      omega
    refine ⟨vin l61, hq _ ((A4.sI (by decide)).sF (by decide)) ⟨?_, ?_, ?_, fun i hi => ?_⟩ (Tb.snoc (t2.fr (fun k hk => ?_)) ?_ ?_ ?_) ?_⟩
    · rw [gI_sF, gI_sI, if_neg (by decide)]; exact S4.1
    · rw [gI_sF, gI_sI, if_neg (by decide)]; exact S4.2.1
    · rw [gI_sF, gI_sI, if_neg (by decide)]; exact S4.2.2.1
    · rw [gF_sF, if_neg (by omega), gF_sI]; exact S4.2.2.2 i hi
    · refine ⟨?_, ?_, ?_⟩
      · rw [gF_sF, if_neg (by omega), gF_sI]; exact (T4 k hk).1
      · rw [gF_sF, if_neg (by omega), gF_sI]; exact (T4 k hk).2.1
      · rw [gF_sF, if_neg (by omega), gF_sI]; exact (T4 k hk).2.2
    · rw [gF_sF, if_neg (by omega), gF_sI]; exact w8
    · rw [gF_sF, if_neg (by omega), gF_sI]; exact w9
    · rw [gF_sF, if_pos ⟨rfl, rfl⟩, e10]
    · rw [gI_sF, gI_sI, if_pos ⟨rfl, rfl⟩]
  have T3 : ∀ (v : Int32) (k : Nat), k < L.length → gF (sF σ2 9 L.length v) 8 k = gF σ2 8 k ∧ gF (sF σ2 9 L.length v) 9 k = gF σ2 9 k ∧ gF (sF σ2 9 L.length v) 10 k = gF σ2 10 k := by
    intro v k hk
    refine ⟨?_, ?_, ?_⟩ <;> rw [gF_sF, if_neg (by omega)]
  refine isM (hT.ag A3) S3 g2 (fun e63 σ3 h3 => ?_) (fun n63 => ?_)
  · rw [if_pos e63] at h1 h0
    refine ⟨fun q => absurd q (by decide), fun _ => ?_⟩
    have n3 : gI σ3 0 14 = nI L.length := (h3.1 0 14 (by decide)).trans n2
    have hlt : (lwE t len a).2.1 < len := lwSg_lt (fun q => by rw [q] at e63; exact absurd e63 (by decide))
    obtain ⟨k1, k2, k3, k4, k5⟩ := lwE_gd (t := t) (len := len) ((lwE t len a).2.1 + 1) hlt
    rw [n3, cl L.length, h3.2.2.2.2.2.1]
    refine ⟨vin l61, ?_⟩
    have A4 : AG σ (sF σ3 9 L.length (nI (lwCl L ++ (lwE t len a).2.2).length)) := (A3.tr h3.ag).sF (by decide)
    have S4 := (h3.sr.sF (k := 9) (j := L.length) (v := nI (lwCl L ++ (lwE t len a).2.2).length) (by decide)).sm
    refine eM (hT.ag A4) _ _ _ _ hlt (by rw [List.length_append]; omega) S4 (fun σ5 h5 => ?_)
    rw [bI_0]
    by_cases hf2 : (lwE t len ((lwE t len a).2.1 + 1)).1 = false
    · rw [if_pos hf2] at h0
      exact ⟨fun q => absurd (by rw [hf2]; exact ft) q, fun _ => h0 rfl σ5 (A4.tr h5.ag) h5.2.2.2.1⟩
    · rw [if_neg hf2] at h1
      refine ⟨fun _ => fin σ5 _ (some (lwE t len a).2.2, (lwE t len ((lwE t len a).2.1 + 1)).2.2) (A4.tr h5.ag) ?_ ?_ ?_ ?_ ?_ (h1 rfl), fun q => absurd (by simpa using hf2) q⟩
      · rw [lwCl_app, lwCl_one, ← List.append_assoc]
        exact h5.sr
      · intro k hk
        rw [h5.2.1 8 (by decide), h5.2.1 9 (by decide), h5.2.1 10 (by decide)]
        refine ⟨?_, ?_, ?_⟩
        · rw [gF_sF, if_neg (by omega), h3.2.1 8 (by decide)]; exact (T3 _ k hk).1
        · rw [gF_sF, if_neg (by omega), h3.2.1 9 (by decide)]; exact (T3 _ k hk).2.1
        · rw [gF_sF, if_neg (by omega), h3.2.1 10 (by decide)]; exact (T3 _ k hk).2.2
      · rw [h5.2.1 8 (by decide), gF_sF, if_neg (by omega), h3.2.1 8 (by decide), gF_sF, if_neg (by omega)]
        exact v8
      · rw [h5.2.1 9 (by decide), gF_sF, if_pos ⟨rfl, rfl⟩, List.length_append]
        rfl
      · exact (h5.1 0 14 (by decide)).trans n3
  · rw [if_neg n63] at h1
    refine ⟨fun _ => fin _ _ (none, (lwE t len a).2.2) A3 ?_ (T3 _) ?_ ?_ n2 (h1 rfl), fun q => absurd rfl q⟩
    · rw [lwCl_app, lwCl_one]
      exact S3.sr
    · rw [gF_sF, if_neg (by omega)]
      exact v8
    · rw [gF_sF, if_pos ⟨rfl, rfl⟩]
      rfl
theorem lsM {Q : Int32 → rfS → Prop} : ∀ (n a : Nat) (L : List lwQ) (σ : rfS), TM σ t len → a ≤ len → len < a + n → 2 * L.length ≤ a → (lwCl L).length ≤ a → SR a (lwCl L) σ → Tb σ L → gI σ 0 14 = nI L.length →
    ((lwLs t len n a L).1 = true → ∀ σ2, AG σ σ2 → SR len (lwCl (lwLs t len n a L).2.2) σ2 → Tb σ2 (lwLs t len n a L).2.2 → gI σ2 0 14 = nI (lwLs t len n a L).2.2.length → wj_X8_law_66 (wp_X8_isLine (MIE 42).2.2.2.2.2) Q 1 σ2) →
    ((lwLs t len n a L).1 = false → ∀ σ2, AG σ σ2 → gI σ2 0 11 = nI (lwLs t len n a L).2.1 → Q (-100 - nI (lwLs t len n a L).2.1) (sI σ2 0 3 0)) →
    ∀ K : Int32 → rfS → Prop, (∀ r σ1, wl_X8_law_25 (wp_X8_isLine (MIE 42).2.2.2.2.2) Q (fun (x1_10 : Int32) (σ11 : rfS) => wj_X8_law_46 (wp_X8_isLine (MIE 42).2.2.2.2.2) Q x1_10 σ11) n r σ1 → K r σ1) → wp_X8_isLine (MIE 42).2.2.2.2.2 σ K
  | 0, a, L, σ, hT, ha, hn, _, _, _, _, _, _, _, _, _ => absurd hn (by omega)
  | n + 1, a, L, σ, hT, ha, hn, hL2, hc, hS, ht, h14, h1, h0, K, hK => by
    have hlen := hT.1
    obtain ⟨g1, g2, g3⟩ := lwLn_gd (t := t) ha
    have bads : ∀ (σ2 : rfS) (b : Nat), gI σ2 0 11 = nI b → Q (-100 - nI b) (sI σ2 0 3 0) → wj_X8_law_65 (wp_X8_isLine (MIE 42).2.2.2.2.2) Q σ2 := by
      intro σ2 b hb hq
      unfold wj_X8_law_65 wj_X8_law_66
      rw [hb]
      exact ⟨fun q => absurd rfl q, fun _ => hq⟩
    unfold lwLs at h1 h0
    refine lnM hT ha hL2 hc hS ht h14 (fun ok σ2 A2 S2 T2 n2 => hK _ _ ?_) (fun bad σ2 A2 at2 => hK _ _ ?_)
    · obtain ⟨g4, g5, g6, g7⟩ := g3 ok
      have nf : ¬ (lwLn t len a).1 = false := by rw [ok]; decide
      rw [if_neg nf] at h1 h0
      unfold wl_X8_law_25
      refine ⟨fun q => absurd q (by decide), fun _ => isM (hT.ag A2) S2.sm g2 (fun e59 σ3 h3 => ?_) (fun n59 => ?_)⟩
      · have hlt : (lwLn t len a).2.1 < len := lwSg_lt (fun q => by rw [q] at e59; exact absurd e59 (by decide))
        rw [if_neg (by omega), if_pos e59] at h1 h0
        refine ⟨fun q => absurd q (by decide), fun _ => ?_⟩
        refine lsM n _ _ σ3 (hT.ag (A2.tr h3.ag)) hlt (by omega) ?_ ?_ h3.sr (T2.fr (fun k hk => ⟨by rw [h3.2.1 8 (by decide)], by rw [h3.2.1 9 (by decide)], by rw [h3.2.1 10 (by decide)]⟩)) ?_ (fun ok2 σ4 A4 => h1 ok2 σ4 ((A2.tr h3.ag).tr A4)) (fun bad2 σ4 A4 => h0 bad2 σ4 ((A2.tr h3.ag).tr A4)) _ (fun _ _ w => w)
        · rw [List.length_append, List.length_singleton]
          omega
        · rw [lwCl_app, List.length_append]
          have : (lwCl [(lwLn t len a).2.2]).length = (lwCq (lwLn t len a).2.2).length := by rw [lwCl_one]; rfl
          omega
        · rw [List.length_append, List.length_singleton]
          exact (h3.1 0 14 (by decide)).trans n2
      · refine ⟨fun _ => ?_, fun q => absurd rfl q⟩
        unfold wj_X8_law_46
        rw [S2.1, A2.1 0 3 (by decide), hT.2.1]
        refine ⟨fun q => absurd q (by decide), fun _ => ⟨fun ne => ?_, fun e => ?_⟩⟩
        · have hne : ¬ (lwLn t len a).2.1 = len := fun q => ne (by rw [q])
          rw [if_neg hne, if_neg n59] at h0
          exact bads σ2 _ S2.1 (h0 rfl σ2 A2 S2.1)
        · have he : (lwLn t len a).2.1 = len := by
            have := congrArg Int32.toInt e
            rw [nI_toInt (by omega), nI_toInt (by omega)] at this
            omega
          rw [if_pos he] at h1
          rw [he] at S2
          exact h1 rfl σ2 A2 S2 T2 (by rw [List.length_append, List.length_singleton]; exact n2)
    · rw [if_pos bad] at h0
      unfold wl_X8_law_25 wj_X8_law_46
      exact ⟨fun _ => ⟨fun _ => bads σ2 _ at2 (h0 rfl σ2 A2 at2), fun q => absurd rfl q⟩, fun q => absurd rfl q⟩
end LawLines

/-! law: the class reads as the pure reader does -/
def RCO : Nat → (rfS → Int32 → Int32 → (Int32 → rfS → Prop) → Prop) × (rfS → Int32 → (Int32 → rfS → Prop) → Prop)
  | 0 => (fun _ _ _ _ => False, fun _ _ _ => False)
  | k + 1 => (wp_X3_readChain (RCO k).1 (RCO k).2, wp_X3_readOperand (RCO k).1 (RCO k).2)
theorem RCO_k : ∀ k, (∀ (σ : rfS) (x1 x2 : Int32) (Q : Int32 → rfS → Prop), (RCO k).1 σ x1 x2 Q → RM ΛC (1 + k) yX3_readChain cX3_readChain 5 (some .boolean) [.ref 6, .int x1, .int x2] σ (qi Q)) ∧ ∀ (σ : rfS) (x1 : Int32) (Q : Int32 → rfS → Prop), (RCO k).2 σ x1 Q → RM ΛC (1 + k) yX3_readOperand cX3_readOperand 5 (some .boolean) [.ref 6, .int x1] σ (qi Q)
  | 0 => ⟨fun _ _ _ _ h => False.elim h, fun _ _ _ h => False.elim h⟩
  | k + 1 => ⟨fun _ _ _ _ h => k_X3_readChain (d := 1 + k) (RCO_k k).1 (RCO_k k).2 (by omega) h, fun _ _ _ h => k_X3_readOperand (d := 1 + k) (RCO_k k).1 (RCO_k k).2 (by omega) h⟩
/-- the class's state behind a bytes read, with these steps drafted -/
def SC (σ0 : rfS) (a : Nat) (L : List Int32) (σ : rfS) : Prop := (∀ k j, ¬ (k = 6 ∧ (j = 5 ∨ j = 7)) → gI σ k j = gI σ0 k j) ∧ (∀ k, k ≠ 10 → gF σ k = gF σ0 k) ∧ (∀ k, gL σ k = gL σ0 k) ∧ gI σ 6 5 = nI a ∧ gI σ 6 7 = nI L.length ∧ ∀ i, i < L.length → gF σ 10 i = L.getD i 0
def TC (σ0 : rfS) (t : Nat → Int32) (len : Nat) : Prop := len ≤ 120 ∧ gI σ0 6 4 = nI len ∧ ∀ i, i < len → gF σ0 9 i = t i
theorem SC.step {σ0 σ : rfS} {a : Nat} {L : List Int32} (h : SC σ0 a L σ) : SC σ0 (a + 1) L (sI σ 6 5 (gI σ 6 5 + 1)) := by
  obtain ⟨h1, h2, h3, h4, h5, h6⟩ := h
  refine ⟨fun k j hk => ?_, h2, h3, ?_, ?_, h6⟩
  · rw [gI_sI, if_neg (fun q => hk ⟨q.2, Or.inl q.1⟩)]
    exact h1 k j hk
  · rw [gI_sI, if_pos ⟨rfl, rfl⟩, h4, nI_1]
  · rw [gI_sI, if_neg (by decide)]
    exact h5
theorem getD_app1 {L : List Int32} {x : Int32} {i : Nat} (h : i < L.length) : (L ++ [x]).getD i 0 = L.getD i 0 := by
  simp [List.getD_eq_getElem?_getD, List.getElem?_append_left h]
theorem getD_app2 {L : List Int32} {x : Int32} : (L ++ [x]).getD L.length 0 = x := by
  simp [List.getD_eq_getElem?_getD]
theorem addS {σ0 σ : rfS} {a : Nat} {L : List Int32} {s : Int32} {Q : rfS → Prop} (h : SC σ0 a L σ) (hl : L.length < 121) (hq : ∀ σ2, SC σ0 a (L ++ [s]) σ2 → Q σ2) : wp_X3_addStep σ s Q := by
  obtain ⟨h1, h2, h3, h4, h5, h6⟩ := h
  unfold wp_X3_addStep
  rw [h5, cl L.length]
  refine ⟨vin hl, hq _ ⟨fun k j hk => ?_, fun k hk => ?_, h3, ?_, ?_, fun i hi => ?_⟩⟩
  · rw [gI_sI, if_neg (fun q => hk ⟨q.2, Or.inr q.1⟩), gI_sF]
    exact h1 k j hk
  · rw [gF_sI_f, gF_sF_ne hk]
    exact h2 k hk
  · rw [gI_sI, if_neg (by decide), gI_sF]
    exact h4
  · rw [gI_sI, if_pos ⟨rfl, rfl⟩, nI_1, List.length_append, List.length_singleton]
  · rw [gF_sI, gF_sF]
    rw [List.length_append, List.length_singleton] at hi
    by_cases e : i = L.length
    · rw [if_pos ⟨rfl, e⟩, e, getD_app2]
    · rw [if_neg (fun q => e q.2), getD_app1 (by omega)]
      exact h6 i (by omega)
section LawClass
variable {σ0 : rfS} {t : Nat → Int32} {len : Nat}
theorem sgC (hT : TC σ0 t len) {a : Nat} {L : List Int32} {σ : rfS} {Q : Int32 → rfS → Prop} (h : SC σ0 a L σ) (ha : a ≤ len) (hq : Q (lwSg t len a) σ) : wp_X3_sign σ Q := by
  obtain ⟨t1, t2, t3⟩ := hT
  obtain ⟨h1, h2, h3, h4, h5, h6⟩ := h
  unfold wp_X3_sign
  rw [h1 6 4 (by decide), t2, h4, cl a, h2 9 (by decide)]
  unfold lwSg at hq
  by_cases e : a < len
  · rw [if_pos e, ← t3 a e] at hq
    refine ⟨fun q => ?_, fun _ => ⟨vin (by omega), hq⟩⟩
    rw [i_le, nI_toInt (by omega), nI_toInt (by omega)] at q
    omega
  · rw [if_neg e] at hq
    refine ⟨fun _ => hq, fun q => absurd ?_ q⟩
    rw [i_le, nI_toInt (by omega), nI_toInt (by omega)]
    omega
theorem accC (hT : TC σ0 t len) {a : Nat} {L : List Int32} {σ : rfS} {x : Int32} {Q : Int32 → rfS → Prop} (h : SC σ0 a L σ) (ha : a ≤ len) (h1 : lwSg t len a = x → ∀ σ2, SC σ0 (a + 1) L σ2 → Q 1 σ2) (h0 : ¬ lwSg t len a = x → Q 0 σ) : wp_X3_isAccepted σ x Q := by
  unfold wp_X3_isAccepted
  exact sgC hT h ha ⟨fun e => h1 e _ h.step, h0⟩
theorem w_isDigit (σ : rfS) (x : Int32) (Q : Int32 → rfS → Prop) : wp_X3_isDigit σ x Q = Q (bI (48 ≤ x ∧ x ≤ 57)) σ := by
  unfold wp_X3_isDigit
  by_cases h1 : x < 48
  · rw [bI_f (fun q => Int32.not_lt.mpr q.1 h1)]; simp [h1]
  · by_cases h2 : 57 < x
    · rw [bI_f (fun q => Int32.not_lt.mpr q.2 h2)]; simp [h1, h2]
    · rw [bI_t ⟨Int32.not_lt.mp h1, Int32.not_lt.mp h2⟩]; simp [h1, h2]
theorem w_nameOf {σ : rfS} {x : Int32} {Q : Int32 → rfS → Prop} (hq : Q (lwNm x) σ) : wp_X3_nameOf σ x Q := by
  unfold lwNm at hq
  unfold wp_X3_nameOf
  by_cases e100 : x = 100
  · rw [if_pos e100] at hq
    exact ⟨fun _ => hq, fun q => absurd e100 q⟩
  rw [if_neg e100] at hq
  refine ⟨fun q => absurd q e100, fun _ => ?_⟩
  by_cases e102 : x = 102
  · rw [if_pos e102] at hq
    exact ⟨fun _ => hq, fun q => absurd e102 q⟩
  rw [if_neg e102] at hq
  refine ⟨fun q => absurd q e102, fun _ => ?_⟩
  by_cases e107 : x = 107
  · rw [if_pos e107] at hq
    exact ⟨fun _ => hq, fun q => absurd e107 q⟩
  rw [if_neg e107] at hq
  refine ⟨fun q => absurd q e107, fun _ => ?_⟩
  by_cases e111 : x = 111
  · rw [if_pos e111] at hq
    exact ⟨fun _ => hq, fun q => absurd e111 q⟩
  rw [if_neg e111] at hq
  refine ⟨fun q => absurd q e111, fun _ => ?_⟩
  by_cases e118 : x = 118
  · rw [if_pos e118] at hq
    exact ⟨fun _ => hq, fun q => absurd e118 q⟩
  rw [if_neg e118] at hq
  refine ⟨fun q => absurd q e118, fun _ => ?_⟩
  by_cases e119 : x = 119
  · rw [if_pos e119] at hq
    exact ⟨fun _ => hq, fun q => absurd e119 q⟩
  rw [if_neg e119] at hq
  refine ⟨fun q => absurd q e119, fun _ => ?_⟩
  exact hq
def lwLv (x : Int32) : Int32 := if x = 37 then 4 else if x = 38 then 1 else if x = 42 then 4 else if x = 43 then 3 else if x = 45 then 3 else if x = 47 then 4 else if x = 60 then 2 else if x = 61 then 2 else if x = 62 then 2 else if x = 124 then 0 else -1
theorem w_levelOf {σ : rfS} {x : Int32} {Q : Int32 → rfS → Prop} (hq : Q (lwLv x) σ) : wp_X3_levelOf σ x Q := by
  unfold lwLv at hq
  unfold wp_X3_levelOf
  by_cases e37 : x = 37
  · rw [if_pos e37] at hq
    exact ⟨fun _ => hq, fun q => absurd e37 q⟩
  rw [if_neg e37] at hq
  refine ⟨fun q => absurd q e37, fun _ => ?_⟩
  by_cases e38 : x = 38
  · rw [if_pos e38] at hq
    exact ⟨fun _ => hq, fun q => absurd e38 q⟩
  rw [if_neg e38] at hq
  refine ⟨fun q => absurd q e38, fun _ => ?_⟩
  by_cases e42 : x = 42
  · rw [if_pos e42] at hq
    exact ⟨fun _ => hq, fun q => absurd e42 q⟩
  rw [if_neg e42] at hq
  refine ⟨fun q => absurd q e42, fun _ => ?_⟩
  by_cases e43 : x = 43
  · rw [if_pos e43] at hq
    exact ⟨fun _ => hq, fun q => absurd e43 q⟩
  rw [if_neg e43] at hq
  refine ⟨fun q => absurd q e43, fun _ => ?_⟩
  by_cases e45 : x = 45
  · rw [if_pos e45] at hq
    exact ⟨fun _ => hq, fun q => absurd e45 q⟩
  rw [if_neg e45] at hq
  refine ⟨fun q => absurd q e45, fun _ => ?_⟩
  by_cases e47 : x = 47
  · rw [if_pos e47] at hq
    exact ⟨fun _ => hq, fun q => absurd e47 q⟩
  rw [if_neg e47] at hq
  refine ⟨fun q => absurd q e47, fun _ => ?_⟩
  by_cases e60 : x = 60
  · rw [if_pos e60] at hq
    exact ⟨fun _ => hq, fun q => absurd e60 q⟩
  rw [if_neg e60] at hq
  refine ⟨fun q => absurd q e60, fun _ => ?_⟩
  by_cases e61 : x = 61
  · rw [if_pos e61] at hq
    exact ⟨fun _ => hq, fun q => absurd e61 q⟩
  rw [if_neg e61] at hq
  refine ⟨fun q => absurd q e61, fun _ => ?_⟩
  by_cases e62 : x = 62
  · rw [if_pos e62] at hq
    exact ⟨fun _ => hq, fun q => absurd e62 q⟩
  rw [if_neg e62] at hq
  refine ⟨fun q => absurd q e62, fun _ => ?_⟩
  by_cases e124 : x = 124
  · rw [if_pos e124] at hq
    exact ⟨fun _ => hq, fun q => absurd e124 q⟩
  rw [if_neg e124] at hq
  refine ⟨fun q => absurd q e124, fun _ => ?_⟩
  exact hq
theorem lv5 {l : Nat} (h : l < 5) : l = 0 ∨ l = 1 ∨ l = 2 ∨ l = 3 ∨ l = 4 := by omega
theorem lwLv_op {l : Nat} {x : Int32} (hl : l < 5) : lwLv x = nI l ↔ ¬ lwOp l x = -1 := by
  unfold lwLv
  by_cases a1 : x = 37
  · subst a1; rcases lv5 hl with rfl | rfl | rfl | rfl | rfl <;> decide
  by_cases a2 : x = 38
  · subst a2; rcases lv5 hl with rfl | rfl | rfl | rfl | rfl <;> decide
  by_cases a3 : x = 42
  · subst a3; rcases lv5 hl with rfl | rfl | rfl | rfl | rfl <;> decide
  by_cases a4 : x = 43
  · subst a4; rcases lv5 hl with rfl | rfl | rfl | rfl | rfl <;> decide
  by_cases a5 : x = 45
  · subst a5; rcases lv5 hl with rfl | rfl | rfl | rfl | rfl <;> decide
  by_cases a6 : x = 47
  · subst a6; rcases lv5 hl with rfl | rfl | rfl | rfl | rfl <;> decide
  by_cases a7 : x = 60
  · subst a7; rcases lv5 hl with rfl | rfl | rfl | rfl | rfl <;> decide
  by_cases a8 : x = 61
  · subst a8; rcases lv5 hl with rfl | rfl | rfl | rfl | rfl <;> decide
  by_cases a9 : x = 62
  · subst a9; rcases lv5 hl with rfl | rfl | rfl | rfl | rfl <;> decide
  by_cases a0 : x = 124
  · subst a0; rcases lv5 hl with rfl | rfl | rfl | rfl | rfl <;> decide
  rw [if_neg a1, if_neg a2, if_neg a3, if_neg a4, if_neg a5, if_neg a6, if_neg a7, if_neg a8, if_neg a9, if_neg a0]
  constructor
  · intro q
    exfalso
    rcases lv5 hl with rfl | rfl | rfl | rfl | rfl <;> revert q <;> decide
  · intro q
    refine absurd ?_ q
    rcases lv5 hl with rfl | rfl | rfl | rfl | rfl <;> simp [lwOp, *]
theorem bQ1 {c : Prop} [Decidable c] {Q : Int32 → rfS → Prop} {σ : rfS} (hc : c) (h : Q (bI c) σ) : Q 1 σ := by rwa [bI_t hc] at h
theorem bQ0 {c : Prop} [Decidable c] {Q : Int32 → rfS → Prop} {σ : rfS} (hc : ¬ c) (h : Q (bI c) σ) : Q 0 σ := by rwa [bI_f hc] at h
theorem ft : ¬ false = true := by decide
/-- reads as the pure reader -/
def cOK (σ0 : rfS) (len : Nat) (κ : rfS → (Int32 → rfS → Prop) → Prop) (p : Nat → lwR) : Prop := ∀ (a : Nat) (L : List Int32) (σ : rfS) (Q : Int32 → rfS → Prop), a ≤ len → L.length ≤ a → SC σ0 a L σ → (∀ σ2, SC σ0 (p a).2.1 (L ++ (p a).2.2.map lwTok) σ2 → Q (bI ((p a).1 = true)) σ2) → κ σ Q
theorem lwNumC (hT : TC σ0 t len) {Q : rfS → Prop} {L : List Int32} : ∀ (r a w : Nat) (σ : rfS), r ≤ 4 → a ≤ len → SC σ0 a L σ → (∀ σ2, SC σ0 (lwNum t len r a (nI w)).2 L σ2 → wp_X3_addStep σ2 (lwNum t len r a (nI w)).1 Q) → wl_X3_readNumber_4 Q (fun (x1_10 : Int32) (σ11 : rfS) => wj_X3_readNumber_48 Q x1_10 σ11) (r + 1) (nI w) (nI (4 - r)) σ
  | 0, a, w, σ, hr, ha, h, hq => by
    refine ⟨fun _ => hq σ h, fun q => absurd (by decide) q⟩
  | r + 1, a, w, σ, hr, ha, h, hq => by
    have n4 : ¬ (4 : Int32) ≤ nI (4 - (r + 1)) := by
      rw [i_le, nI_toInt (by omega), show (4 : Int32).toInt = 4 from rfl]
      omega
    refine ⟨fun q => absurd q n4, fun _ => sgC hT h ha ?_⟩
    rw [w_isDigit, bI_0, Classical.not_not]
    unfold lwNum at hq
    by_cases hd : 48 ≤ lwSg t len a ∧ lwSg t len a ≤ 57
    · rw [if_pos hd] at hq
      have hlt : a < len := lwSg_lt (fun q => by rw [q] at hd; exact absurd hd.1 (by decide))
      refine ⟨fun q => absurd hd q, fun _ => sgC hT h ha ?_⟩
      obtain ⟨s, hs, e⟩ : ∃ s, s < 58 ∧ lwSg t len a = nI s := by
        refine i_ix (by decide) (Int32.le_trans (by decide) hd.1) ?_
        exact Int32.lt_of_le_of_lt hd.2 (by decide)
      have hs48 : 48 ≤ s := by
        have := hd.1
        rw [e, i_le, nI_toInt (by omega), show (48 : Int32).toInt = 48 from rfl] at this
        omega
      have e2 : 10 * nI w + lwSg t len a - 48 = nI (10 * w + (s - 48)) := by
        rw [e, show (10 : Int32) = nI 10 from rfl, show (48 : Int32) = nI 48 from rfl, nIm, nI_add, pk_sub (by omega)]
        congr 1
        omega
      rw [e2] at hq ⊢
      rw [nI_1, show 4 - (r + 1) + 1 = 4 - r by omega]
      exact lwNumC hT r (a + 1) _ _ (by omega) hlt h.step hq
    · rw [if_neg hd] at hq
      exact ⟨fun _ => hq σ h, fun q => absurd q hd⟩
theorem lkC (hT : TC σ0 t len) {κc : rfS → Int32 → Int32 → (Int32 → rfS → Prop) → Prop} {κo : rfS → Int32 → (Int32 → rfS → Prop) → Prop} {Q : Int32 → rfS → Prop} {p : Nat → lwR} {l : Nat} {o : Int32} (hl : l < 5) (hg : lwGd len p) (hp : cOK σ0 len (fun σ Q => κc σ (nI (l + 1)) o Q) p) {L : List Int32} : ∀ (n a k : Nat) (cs : List Int32) (σ : rfS), a ≤ len → L.length + cs.length ≤ a → k + n = len → SC σ0 a (L ++ cs.map lwTok) σ → (∀ σ2, SC σ0 (lwLk t len p l n a cs).2.1 (L ++ (lwLk t len p l n a cs).2.2.map lwTok) σ2 → Q (bI ((lwLk t len p l n a cs).1 = true)) σ2) → wl_X3_readChain_26 κc κo Q (n + 1) (nI l) o (nI k) σ
  | 0, a, k, cs, σ, ha, hL, hk, h, hq => by
    obtain ⟨t1, t2, t3⟩ := hT
    have e : gI σ 6 4 = nI len := (h.1 6 4 (by decide)).trans t2
    unfold wl_X3_readChain_26
    rw [e]
    refine ⟨fun _ => ?_, fun q => absurd ?_ q⟩
    · exact bQ1 rfl (hq σ h)
    · rw [show k = len by omega]
      exact Int32.le_refl _
  | n + 1, a, k, cs, σ, ha, hL, hk, h, hq => by
    have hT2 := hT
    obtain ⟨t1, t2, t3⟩ := hT2
    have e : gI σ 6 4 = nI len := (h.1 6 4 (by decide)).trans t2
    have nle : ¬ nI len ≤ nI k := by
      rw [i_le, nI_toInt (by omega), nI_toInt (by omega)]
      omega
    unfold wl_X3_readChain_26
    rw [e]
    refine ⟨fun q => absurd q nle, fun _ => sgC hT h ha (w_levelOf ?_)⟩
    unfold lwLk at hq
    by_cases ho : lwOp l (lwSg t len a) = -1
    · rw [if_pos ho] at hq
      refine ⟨fun _ => ?_, fun q => absurd ho ((lwLv_op hl).mp q)⟩
      exact bQ1 rfl (hq σ h)
    · rw [if_neg ho] at hq
      have hlt : a < len := lwSg_lt (fun q => ho (by rw [q]; exact lwOp_m1 l))
      obtain ⟨g1, g2, g3, g4, g5⟩ := hg (a + 1) hlt
      refine ⟨fun q => absurd ((lwLv_op hl).mpr ho) q, fun _ => sgC hT h ha ?_⟩
      rw [nI_1]
      refine hp (a + 1) _ _ _ hlt (by rw [List.length_append, List.length_map]; omega) h.step (fun σ2 h2 => ?_)
      rw [bI_0]
      by_cases hf : (p (a + 1)).1 = false
      · rw [if_pos hf] at hq
        refine ⟨fun q => absurd (by rw [hf]; decide) q, fun _ => ?_⟩
        exact bQ0 ft (hq σ2 (by rw [List.map_append, ← List.append_assoc]; exact h2))
      · rw [if_neg hf] at hq
        refine ⟨fun _ => addS h2 (by simp only [List.length_append, List.length_map]; omega) (fun σ3 h3 => ?_), fun q => absurd (by simpa using hf) q⟩
        have h3 : SC σ0 (p (a + 1)).2.1 (L ++ (cs ++ (p (a + 1)).2.2 ++ [lwOp l (lwSg t len a)]).map lwTok) σ3 := by
          have e3 : L ++ (cs ++ (p (a + 1)).2.2 ++ [lwOp l (lwSg t len a)]).map lwTok = L ++ cs.map lwTok ++ (p (a + 1)).2.2.map lwTok ++ [-(lwSg t len a)] := by
            simp [List.append_assoc, (lwOp_ok ho).2.2.2.2]
          rw [e3]
          exact h3
        by_cases h2l : l = 2
        · rw [if_pos h2l] at hq
          refine ⟨fun q => absurd (by rw [h2l]; rfl) q, fun _ => ?_⟩
          exact bQ1 rfl (hq σ3 h3)
        · rw [if_neg h2l] at hq
          refine ⟨fun _ => ?_, fun q => absurd ?_ h2l⟩
          · rw [nI_1]
            exact lkC hT hl hg hp n _ (k + 1) _ _ g2 (by simp only [List.length_append, List.length_singleton]; omega) (by omega) h3 hq
          · have := congrArg Int32.toInt q
            rw [nI_toInt (by omega), show (2 : Int32).toInt = 2 from rfl] at this
            omega
theorem chC (hT : TC σ0 t len) {κc : rfS → Int32 → Int32 → (Int32 → rfS → Prop) → Prop} {κo : rfS → Int32 → (Int32 → rfS → Prop) → Prop} {p : Nat → lwR} {l : Nat} {o : Int32} (hl : l < 5) (hg : lwGd len p) (hp : cOK σ0 len (fun σ Q => κc σ (nI (l + 1)) o Q) p) : cOK σ0 len (fun σ Q => wp_X3_readChain κc κo σ (nI l) o Q) (lwCh t len p l) := by
  intro a L σ Q ha hL h hq
  show wp_X3_readChain κc κo σ (nI l) o Q
  unfold wp_X3_readChain
  have l5 : nI l < (5 : Int32) := by
    rw [i_lt, nI_toInt (by omega), show (5 : Int32).toInt = 5 from rfl]
    omega
  refine ⟨fun _ => ?_, fun q => absurd l5 q⟩
  rw [nI_1]
  obtain ⟨g1, g2, g3, g4, g5⟩ := hg a ha
  refine hp a L σ _ ha hL h (fun σ2 h2 => ?_)
  rw [bI_0]
  unfold lwCh at hq
  by_cases hf : (p a).1 = false
  · rw [if_pos hf] at hq
    refine ⟨fun q => absurd (by rw [hf]; decide) q, fun _ => ?_⟩
    exact bQ0 (by rw [hf]; exact ft) (hq σ2 h2)
  · rw [if_neg hf] at hq
    refine ⟨fun _ => ⟨len + 1, ?_⟩, fun q => absurd (by simpa using hf) q⟩
    exact lkC hT hl hg hp len _ 0 _ _ g2 (by omega) (by omega) h2 hq
theorem ch5C {κc : rfS → Int32 → Int32 → (Int32 → rfS → Prop) → Prop} {κo : rfS → Int32 → (Int32 → rfS → Prop) → Prop} {p : Nat → lwR} {o : Int32} (hp : cOK σ0 len (fun σ Q => κo σ o Q) p) : cOK σ0 len (fun σ Q => wp_X3_readChain κc κo σ (nI 5) o Q) p := by
  intro a L σ Q ha hL h hq
  show wp_X3_readChain κc κo σ (nI 5) o Q
  unfold wp_X3_readChain
  refine ⟨fun q => absurd q (by decide), fun _ => ?_⟩
  exact hp a L σ _ ha hL h (fun σ2 h2 => ⟨bI_Z, hq σ2 h2⟩)
/-- an operand: what opens is read by p, if it may -/
theorem opnC (hT : TC σ0 t len) {κc : rfS → Int32 → Int32 → (Int32 → rfS → Prop) → Prop} {κo : rfS → Int32 → (Int32 → rfS → Prop) → Prop} {q : Option (Nat → lwR)} {o : Nat} (ho : o ≤ 6) (hn : q = none → o = 6) (hs : ∀ p, q = some p → o < 6 ∧ lwGd len p ∧ cOK σ0 len (fun σ Q => κo σ (nI (o + 1)) Q) p ∧ cOK σ0 len (fun σ Q => κc σ 0 (nI (o + 1)) Q) (lwChs t len 5 p)) : cOK σ0 len (fun σ Q => wp_X3_readOperand κc κo σ (nI o) Q) (lwOpn t len q) := by
  intro a L σ Q ha hL h hq
  show wp_X3_readOperand κc κo σ (nI o) Q
  have hlen := hT.1
  unfold wp_X3_readOperand
  refine sgC hT h ha ?_
  rw [w_isDigit, bI_0, Classical.not_not]
  unfold lwOpn at hq
  by_cases hd : 48 ≤ lwSg t len a ∧ lwSg t len a ≤ 57
  · rw [if_pos hd] at hq
    refine ⟨fun z => absurd hd z, fun _ => ?_⟩
    obtain ⟨w, k1, k2, k3, k4⟩ := lwNum_gd ha hd
    unfold wp_X3_readNumber
    refine ⟨5, lwNumC hT 4 a 0 σ (by decide) ha h (fun σ2 h2 => addS h2 (by omega) (fun σ3 h3 => ?_))⟩
    have := hq σ3 (by
      show SC σ0 (lwNum t len 4 a 0).2 (L ++ [18 + (lwNum t len 4 a 0).1].map lwTok) σ3
      have e : lwTok (18 + (lwNum t len 4 a 0).1) = (lwNum t len 4 a 0).1 := by
        rw [k2, show (18 : Int32) = nI 18 from rfl, nI_add]
        unfold lwTok
        have : (18 : Int32) ≤ nI (18 + w) := by
          rw [i_le, nI_toInt (by omega), show (18 : Int32).toInt = 18 from rfl]
          omega
        rw [if_pos this, show (18 : Int32) = nI 18 from rfl, pk_sub (by omega)]
        congr 1
        omega
      rw [List.map_singleton, e]
      exact h3)
    exact bQ1 rfl this
  · rw [if_neg hd] at hq
    refine ⟨fun _ => w_nameOf ?_, fun z => absurd z hd⟩
    by_cases hnm : lwNm (lwSg t len a) = -1
    · rw [if_neg (not_not_intro hnm)] at hq
      refine ⟨fun _ => ?_, fun z => absurd hnm z⟩
      have bad : (q = none ∨ (¬ lwSg t len a = 40 ∧ ¬ lwSg t len a = 33 ∧ ¬ lwSg t len a = 45)) → Q 0 σ := by
        intro hb
        have e : lwBra t len q a = (false, a, []) := by
          rcases hb with hb | ⟨b1, b2, b3⟩
          · subst hb
            rfl
          · cases q with
            | none => rfl
            | some p =>
              unfold lwBra
              dsimp only
              rw [if_neg b2, if_neg b3, if_neg b1]
        rw [e] at hq
        exact bQ0 ft (hq σ (by rw [List.map_nil, List.append_nil]; exact h))
      -- what opens
      have opens : (lwSg t len a = 40 ∨ lwSg t len a = 33 ∨ lwSg t len a = 45) → wj_X3_readOperand_65 κc κo Q (nI o) (lwSg t len a) σ := by
        intro hb
        have hlt : a < len := lwSg_lt (fun z => by rw [z] at hb; revert hb; decide)
        unfold wj_X3_readOperand_65 wj_X3_readOperand_70
        refine ⟨fun z => absurd z (by decide), fun _ => ?_⟩
        cases q with
        | none =>
          rw [hn rfl]
          exact ⟨fun z => absurd z (by decide), fun _ => bad (Or.inl rfl)⟩
        | some p =>
          obtain ⟨o6, hg, hpo, hpc⟩ := hs p rfl
          have o6' : nI o < (6 : Int32) := by
            rw [i_lt, nI_toInt (by omega), show (6 : Int32).toInt = 6 from rfl]
            omega
          refine ⟨fun _ => ⟨fun n40 => ?_, fun e40 => ?_⟩, fun z => absurd o6' z⟩
          · -- ! or -
            rw [nI_1]
            obtain ⟨g1, g2, g3, g4, g5⟩ := hg (a + 1) hlt
            have unop : ∀ (cd s : Int32), lwTok cd = s → (∀ σ2, SC σ0 (lwUn p a cd).2.1 (L ++ (lwUn p a cd).2.2.map lwTok) σ2 → Q (bI ((lwUn p a cd).1 = true)) σ2) → ∀ σ2, SC σ0 (p (a + 1)).2.1 (L ++ (p (a + 1)).2.2.map lwTok) σ2 → (¬ (p (a + 1)).1 = false → wj_X3_readOperand_153 κc κo Q s σ2) ∧ ((p (a + 1)).1 = false → Q 0 σ2) := by
              intro cd s hcd hqq σ2 h2
              unfold lwUn at hqq
              refine ⟨fun hf => ?_, fun hf => ?_⟩
              · rw [if_neg hf] at hqq
                unfold wj_X3_readOperand_153
                refine addS h2 (by rw [List.length_append, List.length_map]; omega) (fun σ3 h3 => ?_)
                have := hqq σ3 (by
                  show SC σ0 (p (a + 1)).2.1 (L ++ ((p (a + 1)).2.2 ++ [cd]).map lwTok) σ3
                  rw [List.map_append, List.map_singleton, hcd, ← List.append_assoc]
                  exact h3)
                exact bQ1 rfl this
              · rw [if_pos hf] at hqq
                exact bQ0 (by rw [hf]; exact ft) (hqq σ2 h2)
            refine hpo (a + 1) L _ _ hlt (by omega) h.step (fun σ2 h2 => ?_)
            rw [bI_0]
            have ff : (¬ ¬ (p (a + 1)).1 = true) ↔ ¬ (p (a + 1)).1 = false := by
              cases (p (a + 1)).1 <;> simp
            by_cases e33 : lwSg t len a = 33
            · have hq2 := hq
              unfold lwBra at hq2
              simp only [if_pos e33] at hq2
              have u := unop 16 (-33) (by decide) hq2 σ2 h2
              refine ⟨fun z => ⟨fun y => absurd e33 y, fun _ => u.1 (ff.mp z)⟩, fun z => u.2 (by simpa using z)⟩
            · have e45 : lwSg t len a = 45 := by
                rcases hb with hb | hb | hb
                · exact absurd hb n40
                · exact absurd hb e33
                · exact hb
              have hq2 := hq
              unfold lwBra at hq2
              simp only [if_neg e33, if_pos e45] at hq2
              have u := unop 17 (-126) (by decide) hq2 σ2 h2
              refine ⟨fun z => ⟨fun _ => u.1 (ff.mp z), fun y => absurd y e33⟩, fun z => u.2 (by simpa using z)⟩
          · -- (
            have n33 : ¬ lwSg t len a = 33 := by rw [e40]; decide
            have n45 : ¬ lwSg t len a = 45 := by rw [e40]; decide
            have hq2 := hq
            unfold lwBra at hq2
            simp only [if_neg n33, if_neg n45, if_pos e40] at hq2
            rw [nI_1]
            obtain ⟨g1, g2, g3, g4, g5⟩ := lwChs_gd (t := t) hg 5 (a + 1) hlt
            refine hpc (a + 1) L _ _ hlt (by omega) h.step (fun σ2 h2 => ?_)
            unfold lwPar at hq2
            rw [bI_0]
            by_cases hf : (lwChs t len 5 p (a + 1)).1 = false
            · rw [if_pos hf] at hq2
              refine ⟨fun _ => ?_, fun z => absurd (by rw [hf]; decide) z⟩
              exact bQ0 (by rw [hf]; exact ft) (hq2 σ2 h2)
            · rw [if_neg hf] at hq2
              refine ⟨fun z => absurd (by simpa using hf) z, fun _ => accC hT h2 g2 (fun e41 σ3 h3 => ?_) (fun n41 => ?_)⟩
              · rw [if_pos e41] at hq2
                refine ⟨fun z => absurd z (by decide), fun _ => ?_⟩
                exact bQ1 rfl (hq2 σ3 h3)
              · rw [if_neg n41] at hq2
                refine ⟨fun _ => ?_, fun z => absurd rfl z⟩
                exact bQ0 ft (hq2 σ2 h2)
      refine ⟨fun e => opens (Or.inl e), fun n40 => ⟨fun e => opens (Or.inr (Or.inl e)), fun n33 => ⟨fun n45 => ?_, fun e => opens (Or.inr (Or.inr e))⟩⟩⟩
      unfold wj_X3_readOperand_70
      exact ⟨fun _ => bad (Or.inr ⟨n40, n33, n45⟩), fun z => absurd rfl z⟩
    · rw [if_pos hnm] at hq
      refine ⟨fun z => absurd z hnm, fun _ => ?_⟩
      refine addS h.step (by omega) (fun σ2 h2 => ?_)
      have := hq σ2 (by
        rw [List.map_singleton, (lwNm_ok hnm).2.2.2]
        exact h2)
      exact bQ1 rfl this
/-- the levels by fuel -/
theorem levC (hT : TC σ0 t len) {p : Nat → lwR} {o : Int32} (hg : lwGd len p) {f : Nat} (hp : ∀ k, f ≤ k → cOK σ0 len (fun σ Q => (RCO k).2 σ o Q) p) : ∀ m, m ≤ 5 → ∀ k, f + 1 + m ≤ k → cOK σ0 len (fun σ Q => (RCO k).1 σ (nI (5 - m)) o Q) (lwChs t len m p)
  | 0, _, 0, hk => absurd hk (by omega)
  | 0, _, k + 1, hk => ch5C (hp k (by omega))
  | m + 1, hm, 0, hk => absurd hk (by omega)
  | m + 1, hm, k + 1, hk => by
    have ih := levC hT hg hp m (by omega) k (by omega)
    rw [show 5 - m = (4 - m) + 1 by omega] at ih
    rw [show 5 - (m + 1) = 4 - m by omega]
    exact chC hT (by omega) (lwChs_gd hg m) ih
theorem ooC (hT : TC σ0 t len) : ∀ n, n ≤ 6 → ∀ k, 7 * n + 1 ≤ k → cOK σ0 len (fun σ Q => (RCO k).2 σ (nI (6 - n)) Q) (lwOo t len n)
  | 0, _, 0, hk => absurd hk (by omega)
  | 0, _, k + 1, hk => opnC hT (by decide) (fun _ => rfl) (fun p h => by cases h)
  | n + 1, hn, 0, hk => absurd hk (by omega)
  | n + 1, hn, k + 1, hk => by
    refine opnC hT (by omega) (fun h => by cases h) (fun p h => ?_)
    cases h
    have ih := ooC hT n (by omega)
    rw [show 6 - (n + 1) + 1 = 6 - n by omega]
    refine ⟨by omega, lwOo_gd n, ih k (by omega), ?_⟩
    exact levC hT (lwOo_gd n) ih 5 (Nat.le_refl _) k (by omega)
theorem eC (hT : TC σ0 t len) : cOK σ0 len (fun σ Q => (RCO 49).1 σ 0 0 Q) (lwE t len) :=
  levC hT (lwOo_gd 6) (ooC hT 6 (Nat.le_refl _)) 5 (Nat.le_refl _) 49 (by omega)
end LawClass

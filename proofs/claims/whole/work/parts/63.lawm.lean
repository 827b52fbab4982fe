/-! law: the model reads as the pure reader does -/
def MIE : Nat → (rfS → (Int32 → rfS → Prop) → Prop) × (rfS → (Int32 → rfS → Prop) → Prop) × (rfS → (Int32 → rfS → Prop) → Prop) × (rfS → (Int32 → rfS → Prop) → Prop) × (rfS → (Int32 → rfS → Prop) → Prop) × (rfS → (Int32 → rfS → Prop) → Prop)
  | 0 => (fun _ _ => False, fun _ _ => False, fun _ _ => False, fun _ _ => False, fun _ _ => False, fun _ _ => False)
  | k + 1 => (wp_X8_isO (MIE k).2.2.2.2.2 (MIE k).1, wp_X8_isP (MIE k).1, wp_X8_isS (MIE k).2.1, wp_X8_isB (MIE k).2.2.1, wp_X8_isA (MIE k).2.2.2.1, wp_X8_isE (MIE k).2.2.2.2.1)
theorem MIE_k : ∀ k, (∀ (σ : rfS) (Q : Int32 → rfS → Prop), (MIE k).1 σ Q → RM ΛM (1 + k) yX8_isO cX8_isO 3 (some .boolean) [.ref 0] σ (qi Q)) ∧ (∀ (σ : rfS) (Q : Int32 → rfS → Prop), (MIE k).2.1 σ Q → RM ΛM (1 + k) yX8_isP cX8_isP 2 (some .boolean) [.ref 0] σ (qi Q)) ∧ (∀ (σ : rfS) (Q : Int32 → rfS → Prop), (MIE k).2.2.1 σ Q → RM ΛM (1 + k) yX8_isS cX8_isS 2 (some .boolean) [.ref 0] σ (qi Q)) ∧ (∀ (σ : rfS) (Q : Int32 → rfS → Prop), (MIE k).2.2.2.1 σ Q → RM ΛM (1 + k) yX8_isB cX8_isB 2 (some .boolean) [.ref 0] σ (qi Q)) ∧ (∀ (σ : rfS) (Q : Int32 → rfS → Prop), (MIE k).2.2.2.2.1 σ Q → RM ΛM (1 + k) yX8_isA cX8_isA 1 (some .boolean) [.ref 0] σ (qi Q)) ∧ (∀ (σ : rfS) (Q : Int32 → rfS → Prop), (MIE k).2.2.2.2.2 σ Q → RM ΛM (1 + k) yX8_isE cX8_isE 1 (some .boolean) [.ref 0] σ (qi Q))
  | 0 => ⟨fun _ _ h => False.elim h, fun _ _ h => False.elim h, fun _ _ h => False.elim h, fun _ _ h => False.elim h, fun _ _ h => False.elim h, fun _ _ h => False.elim h⟩
  | k + 1 => by
    obtain ⟨h1, h2, h3, h4, h5, h6⟩ := MIE_k k
    exact ⟨fun _ _ h => k_X8_isO (d := 1 + k) h6 h1 (by omega) h, fun _ _ h => k_X8_isP (d := 1 + k) h1 (by omega) h, fun _ _ h => k_X8_isS (d := 1 + k) h2 (by omega) h, fun _ _ h => k_X8_isB (d := 1 + k) h3 (by omega) h, fun _ _ h => k_X8_isA (d := 1 + k) h4 (by omega) h, fun _ _ h => k_X8_isE (d := 1 + k) h5 (by omega) h⟩
/-- the model's state behind a bytes read, o open, with these codes -/
def SM (σ0 : rfS) (a o : Nat) (L : List Int32) (σ : rfS) : Prop := (∀ k j, ¬ (k = 0 ∧ (j = 11 ∨ j = 12 ∨ j = 13)) → gI σ k j = gI σ0 k j) ∧ (∀ k, k ≠ 11 → gF σ k = gF σ0 k) ∧ (∀ k, gL σ k = gL σ0 k) ∧ gI σ 0 11 = nI a ∧ gI σ 0 12 = nI o ∧ gI σ 0 13 = nI L.length ∧ ∀ i, i < L.length → gF σ 11 i = L.getD i 0
def TM (σ0 : rfS) (t : Nat → Int32) (len : Nat) : Prop := len ≤ 120 ∧ gI σ0 0 3 = nI len ∧ ∀ i, i < len → gF σ0 3 i = t i
theorem SM.step {σ0 σ : rfS} {a o : Nat} {L : List Int32} (h : SM σ0 a o L σ) : SM σ0 (a + 1) o L (sI σ 0 11 (gI σ 0 11 + 1)) := by
  obtain ⟨h1, h2, h3, h4, h5, h6, h7⟩ := h
  refine ⟨fun k j hk => ?_, h2, h3, ?_, ?_, ?_, h7⟩
  · rw [gI_sI, if_neg (fun q => hk ⟨q.2, Or.inl q.1⟩)]
    exact h1 k j hk
  · rw [gI_sI, if_pos ⟨rfl, rfl⟩, h4, nI_1]
  · rw [gI_sI, if_neg (by decide)]
    exact h5
  · rw [gI_sI, if_neg (by decide)]
    exact h6
theorem SM.opn {σ0 σ : rfS} {a o : Nat} {L : List Int32} (h : SM σ0 a o L σ) : SM σ0 a (o + 1) L (sI σ 0 12 (gI σ 0 12 + 1)) := by
  obtain ⟨h1, h2, h3, h4, h5, h6, h7⟩ := h
  refine ⟨fun k j hk => ?_, h2, h3, ?_, ?_, ?_, h7⟩
  · rw [gI_sI, if_neg (fun q => hk ⟨q.2, Or.inr (Or.inl q.1)⟩)]
    exact h1 k j hk
  · rw [gI_sI, if_neg (by decide)]
    exact h4
  · rw [gI_sI, if_pos ⟨rfl, rfl⟩, h5, nI_1]
  · rw [gI_sI, if_neg (by decide)]
    exact h6
theorem SM.cls {σ0 σ : rfS} {a o : Nat} {L : List Int32} (h : SM σ0 a (o + 1) L σ) : SM σ0 a o L (sI σ 0 12 (gI σ 0 12 - 1)) := by
  obtain ⟨h1, h2, h3, h4, h5, h6, h7⟩ := h
  refine ⟨fun k j hk => ?_, h2, h3, ?_, ?_, ?_, h7⟩
  · rw [gI_sI, if_neg (fun q => hk ⟨q.2, Or.inr (Or.inl q.1)⟩)]
    exact h1 k j hk
  · rw [gI_sI, if_neg (by decide)]
    exact h4
  · rw [gI_sI, if_pos ⟨rfl, rfl⟩, h5, nI_pred]
  · rw [gI_sI, if_neg (by decide)]
    exact h6
theorem codM {σ0 σ : rfS} {a o : Nat} {L : List Int32} {s : Int32} {Q : Int32 → rfS → Prop} (h : SM σ0 a o L σ) (hl : L.length < 200) (hq : ∀ σ2, SM σ0 a o (L ++ [s]) σ2 → Q 1 σ2) : wp_X8_codes σ s Q := by
  obtain ⟨h1, h2, h3, h4, h5, h6, h7⟩ := h
  unfold wp_X8_codes
  rw [h6, cl L.length]
  refine ⟨vin hl, hq _ ⟨fun k j hk => ?_, fun k hk => ?_, h3, ?_, ?_, ?_, fun i hi => ?_⟩⟩
  · rw [gI_sF, gI_sI, if_neg (fun q => hk ⟨q.2, Or.inr (Or.inr q.1)⟩)]
    exact h1 k j hk
  · rw [gF_sF_ne hk, gF_sI_f]
    exact h2 k hk
  · rw [gI_sF, gI_sI, if_neg (by decide)]
    exact h4
  · rw [gI_sF, gI_sI, if_neg (by decide)]
    exact h5
  · rw [gI_sF, gI_sI, if_pos ⟨rfl, rfl⟩, nI_1, List.length_append, List.length_singleton]
  · rw [gF_sF, gF_sI]
    rw [List.length_append, List.length_singleton] at hi
    by_cases e : i = L.length
    · rw [if_pos ⟨rfl, e⟩, e, getD_app2]
    · rw [if_neg (fun q => e q.2), getD_app1 (by omega)]
      exact h7 i (by omega)
section LawModel
variable {σ0 : rfS} {t : Nat → Int32} {len : Nat}
theorem sgM (hT : TM σ0 t len) {a o : Nat} {L : List Int32} {σ : rfS} {Q : Int32 → rfS → Prop} (h : SM σ0 a o L σ) (ha : a ≤ len) (hq : Q (lwSg t len a) σ) : wp_X8_sign σ Q := by
  obtain ⟨t1, t2, t3⟩ := hT
  obtain ⟨h1, h2, h3, h4, h5, h6⟩ := h
  unfold wp_X8_sign
  rw [h1 0 3 (by decide), t2, h4, cl a, h2 3 (by decide)]
  unfold lwSg at hq
  by_cases e : a < len
  · rw [if_pos e, ← t3 a e] at hq
    refine ⟨fun q => ?_, fun _ => ⟨vin (by omega), hq⟩⟩
    rw [i_le, nI_toInt (by omega), nI_toInt (by omega)] at q
    omega
  · rw [if_neg e] at hq
    refine ⟨fun _ => hq, fun q => absurd ?_ q⟩
    rw [i_le, nI_toInt (by omega), nI_toInt (by omega)]
    omega
theorem isM (hT : TM σ0 t len) {a o : Nat} {L : List Int32} {σ : rfS} {x : Int32} {Q : Int32 → rfS → Prop} (h : SM σ0 a o L σ) (ha : a ≤ len) (h1 : lwSg t len a = x → ∀ σ2, SM σ0 (a + 1) o L σ2 → Q 1 σ2) (h0 : ¬ lwSg t len a = x → Q 0 σ) : wp_X8_is σ x Q := by
  unfold wp_X8_is
  exact sgM hT h ha ⟨fun e => h1 e _ h.step, h0⟩
theorem digM (hT : TM σ0 t len) {a o : Nat} {L : List Int32} {σ : rfS} {Q : Int32 → rfS → Prop} (h : SM σ0 a o L σ) (ha : a ≤ len) (hq : Q (bI (48 ≤ lwSg t len a ∧ lwSg t len a ≤ 57)) σ) : wp_X8_isDigit σ Q := by
  unfold wp_X8_isDigit
  refine sgM hT h ha ?_
  by_cases h1 : lwSg t len a < 48
  · rw [bI_f (fun q => Int32.not_lt.mpr q.1 h1)] at hq
    exact ⟨fun _ => hq, fun q => absurd h1 q⟩
  · refine ⟨fun q => absurd q h1, fun _ => sgM hT h ha ?_⟩
    by_cases h2 : 57 < lwSg t len a
    · rw [bI_f (fun q => Int32.not_lt.mpr q.2 h2)] at hq
      exact ⟨fun _ => hq, fun q => absurd h2 q⟩
    · rw [bI_t ⟨Int32.not_lt.mp h1, Int32.not_lt.mp h2⟩] at hq
      exact ⟨fun q => absurd q h2, fun _ => hq⟩
theorem w_nameM {σ : rfS} {x : Int32} {Q : Int32 → rfS → Prop} (hq : Q (lwNm x) σ) : wp_X8_nameOf σ x Q := by
  unfold lwNm at hq
  unfold wp_X8_nameOf
  by_cases e100 : x = 100
  · rw [if_pos e100] at hq
    exact ⟨fun _ => hq, fun q => absurd e100 q⟩
  rw [if_neg e100] at hq
  refine ⟨fun q => absurd q e100, fun _ => ?_⟩
  by_cases e102 : x = 102
  · rw [if_pos e102] at hq
    exact ⟨fun _ => hq, fun q => absurd e102 q⟩
  rw [if_neg e102] at hq
  refine ⟨fun q => absurd q e102, fun _ => ?_⟩
  by_cases e107 : x = 107
  · rw [if_pos e107] at hq
    exact ⟨fun _ => hq, fun q => absurd e107 q⟩
  rw [if_neg e107] at hq
  refine ⟨fun q => absurd q e107, fun _ => ?_⟩
  by_cases e111 : x = 111
  · rw [if_pos e111] at hq
    exact ⟨fun _ => hq, fun q => absurd e111 q⟩
  rw [if_neg e111] at hq
  refine ⟨fun q => absurd q e111, fun _ => ?_⟩
  by_cases e118 : x = 118
  · rw [if_pos e118] at hq
    exact ⟨fun _ => hq, fun q => absurd e118 q⟩
  rw [if_neg e118] at hq
  refine ⟨fun q => absurd q e118, fun _ => ?_⟩
  by_cases e119 : x = 119
  · rw [if_pos e119] at hq
    exact ⟨fun _ => hq, fun q => absurd e119 q⟩
  rw [if_neg e119] at hq
  refine ⟨fun q => absurd q e119, fun _ => ?_⟩
  exact hq
/-- reads as the pure reader -/
def mOK (σ0 : rfS) (len o : Nat) (κ : rfS → (Int32 → rfS → Prop) → Prop) (p : Nat → lwR) : Prop := ∀ (a : Nat) (L : List Int32) (σ : rfS) (Q : Int32 → rfS → Prop), a ≤ len → L.length ≤ a → SM σ0 a o L σ → (∀ σ2, SM σ0 (p a).2.1 o (L ++ (p a).2.2) σ2 → Q (bI ((p a).1 = true)) σ2) → κ σ Q
theorem lwNumM (hT : TM σ0 t len) {κe κo : rfS → (Int32 → rfS → Prop) → Prop} {Q : Int32 → rfS → Prop} {L : List Int32} {o : Nat} : ∀ (r a w : Nat) (σ : rfS), r ≤ 4 → a ≤ len → SM σ0 a o L σ → (∀ σ2, SM σ0 (lwNum t len r a (nI w)).2 o L σ2 → wj_X8_isO_57 κe κo Q (lwNum t len r a (nI w)).1 σ2) → wl_X8_isO_11 κe κo Q (fun (x1_46 : Int32) (σ47 : rfS) => wj_X8_isO_57 κe κo Q x1_46 σ47) (r + 1) (nI w) (nI (4 - r)) σ
  | 0, a, w, σ, hr, ha, h, hq => by
    refine ⟨fun _ => hq σ h, fun q => absurd (by decide) q⟩
  | r + 1, a, w, σ, hr, ha, h, hq => by
    have n4 : ¬ (4 : Int32) ≤ nI (4 - (r + 1)) := by
      rw [i_le, nI_toInt (by omega), show (4 : Int32).toInt = 4 from rfl]
      omega
    refine ⟨fun q => absurd q n4, fun _ => digM hT h ha ?_⟩
    rw [bI_0, Classical.not_not]
    unfold lwNum at hq
    by_cases hd : 48 ≤ lwSg t len a ∧ lwSg t len a ≤ 57
    · rw [if_pos hd] at hq
      have hlt : a < len := lwSg_lt (fun q => by rw [q] at hd; exact absurd hd.1 (by decide))
      obtain ⟨s, hs, e⟩ : ∃ s, s < 58 ∧ lwSg t len a = nI s := by
        refine i_ix (by decide) (Int32.le_trans (by decide) hd.1) ?_
        exact Int32.lt_of_le_of_lt hd.2 (by decide)
      have hs48 : 48 ≤ s := by
        have := hd.1
        rw [e, i_le, nI_toInt (by omega), show (48 : Int32).toInt = 48 from rfl] at this
        omega
      have e2 : 10 * nI w + lwSg t len a - 48 = nI (10 * w + (s - 48)) := by
        rw [e, show (10 : Int32) = nI 10 from rfl, show (48 : Int32) = nI 48 from rfl, nIm, nI_add, pk_sub (by omega)]
        congr 1
        omega
      have h120 := hT.1
      have e3 : gF σ 3 (gI σ 0 11).toNatClampNeg = lwSg t len a := by
        rw [h.2.2.2.1, cl a, h.2.1 3 (by decide), hT.2.2 a hlt]
        unfold lwSg
        rw [if_pos hlt]
      refine ⟨fun q => absurd hd q, fun _ => ⟨by rw [h.2.2.2.1]; exact vin (by omega), ?_⟩⟩
      rw [e3]
      rw [e2] at hq ⊢
      rw [nI_1, show 4 - (r + 1) + 1 = 4 - r by omega]
      exact lwNumM hT r (a + 1) _ _ (by omega) hlt h.step hq
    · rw [if_neg hd] at hq
      exact ⟨fun _ => hq σ h, fun q => absurd q hd⟩
/-- one link more, whatever the loop: what the next one is, is told -/
theorem lk1M {p : Nat → lwR} {l : Nat} {κ : rfS → (Int32 → rfS → Prop) → Prop} {Q : Int32 → rfS → Prop} {kb : rfS → Prop} {L : List Int32} {o n a : Nat} {cs : List Int32} {σ : rfS} (hlen : len ≤ 120) (hg : lwGd len p) (hp : mOK σ0 len o κ p) (h2l : l ≠ 2) (ho : ¬ lwOp l (lwSg t len a) = -1) (hL : L.length + cs.length ≤ a) (h : SM σ0 (a + 1) o (L ++ cs) σ)
    (hq : ∀ σ2, SM σ0 (lwLk t len p l (n + 1) a cs).2.1 o (L ++ (lwLk t len p l (n + 1) a cs).2.2) σ2 → Q (bI ((lwLk t len p l (n + 1) a cs).1 = true)) σ2)
    (hk : a + 1 < (p (a + 1)).2.1 → (p (a + 1)).2.1 ≤ len → L.length + (cs ++ (p (a + 1)).2.2 ++ [lwOp l (lwSg t len a)]).length ≤ (p (a + 1)).2.1 → ∀ σ2, SM σ0 (p (a + 1)).2.1 o (L ++ (cs ++ (p (a + 1)).2.2 ++ [lwOp l (lwSg t len a)])) σ2 → (∀ σ3, SM σ0 (lwLk t len p l n (p (a + 1)).2.1 (cs ++ (p (a + 1)).2.2 ++ [lwOp l (lwSg t len a)])).2.1 o (L ++ (lwLk t len p l n (p (a + 1)).2.1 (cs ++ (p (a + 1)).2.2 ++ [lwOp l (lwSg t len a)])).2.2) σ3 → Q (bI ((lwLk t len p l n (p (a + 1)).2.1 (cs ++ (p (a + 1)).2.2 ++ [lwOp l (lwSg t len a)])).1 = true)) σ3) → kb σ2) :
    κ σ (fun (r10 : Int32) (σ9 : rfS) => ((¬ r10 = 0 → wp_X8_codes σ9 (lwOp l (lwSg t len a)) (fun (_ : Int32) (σ11 : rfS) => kb σ11)) ∧ (r10 = 0 → Q 0 σ9))) := by
  have hlt : a < len := lwSg_lt (fun q => ho (by rw [q]; exact lwOp_m1 l))
  obtain ⟨g1, g2, g3, g4, g5⟩ := hg (a + 1) hlt
  unfold lwLk at hq
  rw [if_neg ho] at hq
  refine hp (a + 1) _ _ _ hlt (by rw [List.length_append]; omega) h (fun σ2 h2 => ?_)
  rw [bI_0]
  by_cases hf : (p (a + 1)).1 = false
  · rw [if_pos hf] at hq
    refine ⟨fun q => absurd (by rw [hf]; decide) q, fun _ => ?_⟩
    exact bQ0 ft (hq σ2 (by rw [← List.append_assoc]; exact h2))
  · rw [if_neg hf, if_neg h2l] at hq
    refine ⟨fun _ => codM h2 (by simp only [List.length_append]; omega) (fun σ3 h3 => ?_), fun q => absurd (by simpa using hf) q⟩
    refine hk (g4 (by simpa using hf)).1 g2 ?_ σ3 (by rw [← List.append_assoc, ← List.append_assoc]; exact h3) hq
    simp only [List.length_append, List.length_singleton]
    omega
theorem lk0M {p : Nat → lwR} {l : Nat} {Q : Int32 → rfS → Prop} {L : List Int32} {o n a : Nat} {cs : List Int32} {σ : rfS} (ho : lwOp l (lwSg t len a) = -1) (h : SM σ0 a o (L ++ cs) σ) (hq : ∀ σ2, SM σ0 (lwLk t len p l n a cs).2.1 o (L ++ (lwLk t len p l n a cs).2.2) σ2 → Q (bI ((lwLk t len p l n a cs).1 = true)) σ2) : Q 1 σ := by
  cases n with
  | zero => exact bQ1 rfl (hq σ h)
  | succ n =>
    unfold lwLk at hq
    rw [if_pos ho] at hq
    exact bQ1 rfl (hq σ h)
theorem lwSg_end {a : Nat} (h : len ≤ a) : lwSg t len a = -1 := if_neg (by omega)
theorem lkP (hT : TM σ0 t len) {κ : rfS → (Int32 → rfS → Prop) → Prop} {Q : Int32 → rfS → Prop} {p : Nat → lwR} {o : Nat} (hg : lwGd len p) (hp : mOK σ0 len o κ p) {L : List Int32} : ∀ (n a : Nat) (cs : List Int32) (σ : rfS), a ≤ len → L.length + cs.length ≤ a → len ≤ a + n → SM σ0 a o (L ++ cs) σ → (∀ σ2, SM σ0 (lwLk t len p 4 n a cs).2.1 o (L ++ (lwLk t len p 4 n a cs).2.2) σ2 → Q (bI ((lwLk t len p 4 n a cs).1 = true)) σ2) → wl_X8_isP_9 κ Q (n + 1) σ := by
  intro n
  induction n with
  | zero =>
    intro a cs σ ha hL hn h hq
    have e0 : lwSg t len a = -1 := lwSg_end (by omega)
    have fin : Q 1 σ := lk0M (by rw [e0]; exact lwOp_m1 _) h hq
    unfold wl_X8_isP_9
    refine sgM hT h ha ⟨fun _ => sgM hT h ha ⟨fun _ => sgM hT h ha ⟨fun _ => ⟨fun q => absurd q (by decide), fun _ => fin⟩, fun q => absurd (e0.symm.trans q) (by decide)⟩, fun q => absurd (e0.symm.trans q) (by decide)⟩, fun q => absurd (e0.symm.trans q) (by decide)⟩
  | succ n ih =>
    intro a cs σ ha hL hn h hq
    unfold wl_X8_isP_9
    have go : ∀ c, lwOp 4 (lwSg t len a) = c → ¬ c = -1 → 0 ≤ c → wj_X8_isP_52 κ Q (wl_X8_isP_9 κ Q (n + 1)) c σ := by
      intro c hc hne h0
      unfold wj_X8_isP_52
      refine ⟨fun _ => ?_, fun q => absurd h0 q⟩
      rw [← hc] at hne ⊢
      exact lk1M hT.1 hg hp (by decide) hne hL h.step hq (fun k1 k2 k3 σ2 h2 hq2 => ih _ _ σ2 k2 k3 (by omega) h2 hq2)
    refine sgM hT h ha ?_
    by_cases e0 : lwSg t len a = 42
    · exact ⟨fun q => absurd e0 q, fun _ => go 13 (by rw [e0]; decide) (by decide) (by decide)⟩
    refine ⟨fun _ => sgM hT h ha ?_, fun q => absurd q e0⟩
    by_cases e1 : lwSg t len a = 47
    · exact ⟨fun q => absurd e1 q, fun _ => go 14 (by rw [e1]; decide) (by decide) (by decide)⟩
    refine ⟨fun _ => sgM hT h ha ?_, fun q => absurd q e1⟩
    by_cases e2 : lwSg t len a = 37
    · exact ⟨fun q => absurd e2 q, fun _ => go 15 (by rw [e2]; decide) (by decide) (by decide)⟩
    refine ⟨fun _ => ?_, fun q => absurd q e2⟩
    refine ⟨fun q => absurd q (by decide), fun _ => lk0M (n := n + 1) ?_ h hq⟩
    unfold lwOp
    rw [if_neg e0, if_neg e1, if_neg e2]
    rfl
theorem lkS (hT : TM σ0 t len) {κ : rfS → (Int32 → rfS → Prop) → Prop} {Q : Int32 → rfS → Prop} {p : Nat → lwR} {o : Nat} (hg : lwGd len p) (hp : mOK σ0 len o κ p) {L : List Int32} : ∀ (n a : Nat) (cs : List Int32) (σ : rfS), a ≤ len → L.length + cs.length ≤ a → len ≤ a + n → SM σ0 a o (L ++ cs) σ → (∀ σ2, SM σ0 (lwLk t len p 3 n a cs).2.1 o (L ++ (lwLk t len p 3 n a cs).2.2) σ2 → Q (bI ((lwLk t len p 3 n a cs).1 = true)) σ2) → wl_X8_isS_9 κ Q (n + 1) σ := by
  intro n
  induction n with
  | zero =>
    intro a cs σ ha hL hn h hq
    have e0 : lwSg t len a = -1 := lwSg_end (by omega)
    have fin : Q 1 σ := lk0M (by rw [e0]; exact lwOp_m1 _) h hq
    unfold wl_X8_isS_9
    refine sgM hT h ha ⟨fun _ => sgM hT h ha ⟨fun _ => ⟨fun q => absurd q (by decide), fun _ => fin⟩, fun q => absurd (e0.symm.trans q) (by decide)⟩, fun q => absurd (e0.symm.trans q) (by decide)⟩
  | succ n ih =>
    intro a cs σ ha hL hn h hq
    unfold wl_X8_isS_9
    have go : ∀ c, lwOp 3 (lwSg t len a) = c → ¬ c = -1 → 0 ≤ c → wj_X8_isS_38 κ Q (wl_X8_isS_9 κ Q (n + 1)) c σ := by
      intro c hc hne h0
      unfold wj_X8_isS_38
      refine ⟨fun _ => ?_, fun q => absurd h0 q⟩
      rw [← hc] at hne ⊢
      exact lk1M hT.1 hg hp (by decide) hne hL h.step hq (fun k1 k2 k3 σ2 h2 hq2 => ih _ _ σ2 k2 k3 (by omega) h2 hq2)
    refine sgM hT h ha ?_
    by_cases e0 : lwSg t len a = 43
    · exact ⟨fun q => absurd e0 q, fun _ => go 11 (by rw [e0]; decide) (by decide) (by decide)⟩
    refine ⟨fun _ => sgM hT h ha ?_, fun q => absurd q e0⟩
    by_cases e1 : lwSg t len a = 45
    · exact ⟨fun q => absurd e1 q, fun _ => go 12 (by rw [e1]; decide) (by decide) (by decide)⟩
    refine ⟨fun _ => ?_, fun q => absurd q e1⟩
    refine ⟨fun q => absurd q (by decide), fun _ => lk0M (n := n + 1) ?_ h hq⟩
    unfold lwOp
    rw [if_neg e0, if_neg e1]
    rfl
theorem lkA (hT : TM σ0 t len) {κ : rfS → (Int32 → rfS → Prop) → Prop} {Q : Int32 → rfS → Prop} {p : Nat → lwR} {o : Nat} (hg : lwGd len p) (hp : mOK σ0 len o κ p) {L : List Int32} : ∀ (n a : Nat) (cs : List Int32) (σ : rfS), a ≤ len → L.length + cs.length ≤ a → len ≤ a + n → SM σ0 a o (L ++ cs) σ → (∀ σ2, SM σ0 (lwLk t len p 1 n a cs).2.1 o (L ++ (lwLk t len p 1 n a cs).2.2) σ2 → Q (bI ((lwLk t len p 1 n a cs).1 = true)) σ2) → wl_X8_isA_9 κ Q (n + 1) σ := by
  intro n
  induction n with
  | zero =>
    intro a cs σ ha hL hn h hq
    have e0 : lwSg t len a = -1 := lwSg_end (by omega)
    have fin : Q 1 σ := lk0M (by rw [e0]; exact lwOp_m1 _) h hq
    unfold wl_X8_isA_9
    refine isM hT h ha (fun q => absurd (e0.symm.trans q) (by decide)) (fun _ => ⟨fun _ => fin, fun q => absurd rfl q⟩)
  | succ n ih =>
    intro a cs σ ha hL hn h hq
    unfold wl_X8_isA_9
    refine isM hT h ha (fun e σ2 h2 => ⟨fun q => absurd q (by decide), fun _ => ?_⟩) (fun e => ⟨fun _ => lk0M (n := n + 1) (by unfold lwOp; rw [if_neg e]; rfl) h hq, fun q => absurd rfl q⟩)
    have hc : lwOp 1 (lwSg t len a) = 7 := by rw [e]; decide
    have r := lk1M (kb := wl_X8_isA_9 κ Q (n + 1)) hT.1 hg hp (l := 1) (by decide) (by rw [hc]; decide) hL h2 hq (fun k1 k2 k3 σ2 h2 hq2 => ih _ _ σ2 k2 k3 (by omega) h2 hq2)
    rw [hc] at r
    exact r
theorem lkE (hT : TM σ0 t len) {κ : rfS → (Int32 → rfS → Prop) → Prop} {Q : Int32 → rfS → Prop} {p : Nat → lwR} {o : Nat} (hg : lwGd len p) (hp : mOK σ0 len o κ p) {L : List Int32} : ∀ (n a : Nat) (cs : List Int32) (σ : rfS), a ≤ len → L.length + cs.length ≤ a → len ≤ a + n → SM σ0 a o (L ++ cs) σ → (∀ σ2, SM σ0 (lwLk t len p 0 n a cs).2.1 o (L ++ (lwLk t len p 0 n a cs).2.2) σ2 → Q (bI ((lwLk t len p 0 n a cs).1 = true)) σ2) → wl_X8_isE_9 κ Q (n + 1) σ := by
  intro n
  induction n with
  | zero =>
    intro a cs σ ha hL hn h hq
    have e0 : lwSg t len a = -1 := lwSg_end (by omega)
    have fin : Q 1 σ := lk0M (by rw [e0]; exact lwOp_m1 _) h hq
    unfold wl_X8_isE_9
    refine isM hT h ha (fun q => absurd (e0.symm.trans q) (by decide)) (fun _ => ⟨fun _ => fin, fun q => absurd rfl q⟩)
  | succ n ih =>
    intro a cs σ ha hL hn h hq
    unfold wl_X8_isE_9
    refine isM hT h ha (fun e σ2 h2 => ⟨fun q => absurd q (by decide), fun _ => ?_⟩) (fun e => ⟨fun _ => lk0M (n := n + 1) (by unfold lwOp; rw [if_neg e]; rfl) h hq, fun q => absurd rfl q⟩)
    have hc : lwOp 0 (lwSg t len a) = 6 := by rw [e]; decide
    have r := lk1M (kb := wl_X8_isE_9 κ Q (n + 1)) hT.1 hg hp (l := 0) (by decide) (by rw [hc]; decide) hL h2 hq (fun k1 k2 k3 σ2 h2 hq2 => ih _ _ σ2 k2 k3 (by omega) h2 hq2)
    rw [hc] at r
    exact r
theorem chPM (hT : TM σ0 t len) {κ : rfS → (Int32 → rfS → Prop) → Prop} {p : Nat → lwR} {o : Nat} (hg : lwGd len p) (hp : mOK σ0 len o κ p) : mOK σ0 len o (wp_X8_isP κ) (lwCh t len p 4) := by
  intro a L σ Q ha hL h hq
  unfold wp_X8_isP
  obtain ⟨g1, g2, g3, g4, g5⟩ := hg a ha
  refine hp a L σ _ ha hL h (fun σ2 h2 => ?_)
  rw [bI_0]
  unfold lwCh at hq
  by_cases hf : (p a).1 = false
  · rw [if_pos hf] at hq
    exact ⟨fun q => absurd (by rw [hf]; decide) q, fun _ => bQ0 (by rw [hf]; exact ft) (hq σ2 h2)⟩
  · rw [if_neg hf] at hq
    exact ⟨fun _ => ⟨len + 1, lkP hT hg hp len _ _ _ g2 (by omega) (by omega) h2 hq⟩, fun q => absurd (by simpa using hf) q⟩
theorem chSM (hT : TM σ0 t len) {κ : rfS → (Int32 → rfS → Prop) → Prop} {p : Nat → lwR} {o : Nat} (hg : lwGd len p) (hp : mOK σ0 len o κ p) : mOK σ0 len o (wp_X8_isS κ) (lwCh t len p 3) := by
  intro a L σ Q ha hL h hq
  unfold wp_X8_isS
  obtain ⟨g1, g2, g3, g4, g5⟩ := hg a ha
  refine hp a L σ _ ha hL h (fun σ2 h2 => ?_)
  rw [bI_0]
  unfold lwCh at hq
  by_cases hf : (p a).1 = false
  · rw [if_pos hf] at hq
    exact ⟨fun q => absurd (by rw [hf]; decide) q, fun _ => bQ0 (by rw [hf]; exact ft) (hq σ2 h2)⟩
  · rw [if_neg hf] at hq
    exact ⟨fun _ => ⟨len + 1, lkS hT hg hp len _ _ _ g2 (by omega) (by omega) h2 hq⟩, fun q => absurd (by simpa using hf) q⟩
theorem chAM (hT : TM σ0 t len) {κ : rfS → (Int32 → rfS → Prop) → Prop} {p : Nat → lwR} {o : Nat} (hg : lwGd len p) (hp : mOK σ0 len o κ p) : mOK σ0 len o (wp_X8_isA κ) (lwCh t len p 1) := by
  intro a L σ Q ha hL h hq
  unfold wp_X8_isA
  obtain ⟨g1, g2, g3, g4, g5⟩ := hg a ha
  refine hp a L σ _ ha hL h (fun σ2 h2 => ?_)
  rw [bI_0]
  unfold lwCh at hq
  by_cases hf : (p a).1 = false
  · rw [if_pos hf] at hq
    exact ⟨fun q => absurd (by rw [hf]; decide) q, fun _ => bQ0 (by rw [hf]; exact ft) (hq σ2 h2)⟩
  · rw [if_neg hf] at hq
    exact ⟨fun _ => ⟨len + 1, lkA hT hg hp len _ _ _ g2 (by omega) (by omega) h2 hq⟩, fun q => absurd (by simpa using hf) q⟩
theorem chEM (hT : TM σ0 t len) {κ : rfS → (Int32 → rfS → Prop) → Prop} {p : Nat → lwR} {o : Nat} (hg : lwGd len p) (hp : mOK σ0 len o κ p) : mOK σ0 len o (wp_X8_isE κ) (lwCh t len p 0) := by
  intro a L σ Q ha hL h hq
  unfold wp_X8_isE
  obtain ⟨g1, g2, g3, g4, g5⟩ := hg a ha
  refine hp a L σ _ ha hL h (fun σ2 h2 => ?_)
  rw [bI_0]
  unfold lwCh at hq
  by_cases hf : (p a).1 = false
  · rw [if_pos hf] at hq
    exact ⟨fun q => absurd (by rw [hf]; decide) q, fun _ => bQ0 (by rw [hf]; exact ft) (hq σ2 h2)⟩
  · rw [if_neg hf] at hq
    exact ⟨fun _ => ⟨len + 1, lkE hT hg hp len _ _ _ g2 (by omega) (by omega) h2 hq⟩, fun q => absurd (by simpa using hf) q⟩
theorem chBM (hT : TM σ0 t len) {κ : rfS → (Int32 → rfS → Prop) → Prop} {p : Nat → lwR} {o : Nat} (hg : lwGd len p) (hp : mOK σ0 len o κ p) : mOK σ0 len o (wp_X8_isB κ) (lwCh t len p 2) := by
  intro a L σ Q ha hL h hq
  have hlen := hT.1
  unfold wp_X8_isB
  obtain ⟨g1, g2, g3, g4, g5⟩ := hg a ha
  refine hp a L σ _ ha hL h (fun σ2 h2 => ?_)
  rw [bI_0]
  unfold lwCh at hq
  by_cases hf : (p a).1 = false
  · rw [if_pos hf] at hq
    exact ⟨fun q => absurd (by rw [hf]; decide) q, fun _ => bQ0 (by rw [hf]; exact ft) (hq σ2 h2)⟩
  · rw [if_neg hf] at hq
    refine ⟨fun _ => sgM hT h2 g2 ?_, fun q => absurd (by simpa using hf) q⟩
    generalize (p a).2.1 = b at *
    generalize (p a).2.2 = cs at *
    have go : ∀ c, lwOp 2 (lwSg t len b) = c → ¬ c = -1 → 0 ≤ c → wj_X8_isB_52 κ Q c σ2 := by
      intro c hc hne h0
      have hlt : b < len := lwSg_lt (fun q => hne (by rw [← hc, q]; exact lwOp_m1 _))
      obtain ⟨m1, m2, m3, m4, m5⟩ := hg (b + 1) hlt
      unfold wj_X8_isB_52
      refine ⟨fun _ => ?_, fun q => absurd h0 q⟩
      have hq2 : ∀ n, len = n + 1 → (∀ σ2, SM σ0 (lwLk t len p 2 (n + 1) b cs).2.1 o (L ++ (lwLk t len p 2 (n + 1) b cs).2.2) σ2 → Q (bI ((lwLk t len p 2 (n + 1) b cs).1 = true)) σ2) := by
        intro n hn
        rw [← hn]
        exact hq
      have hq2 := hq2 (len - 1) (by omega)
      unfold lwLk at hq2
      rw [hc, if_neg hne] at hq2
      refine hp (b + 1) _ _ _ hlt (by rw [List.length_append]; omega) h2.step (fun σ3 h3 => ?_)
      rw [bI_0]
      by_cases hf2 : (p (b + 1)).1 = false
      · rw [if_pos hf2] at hq2
        exact ⟨fun _ => bQ0 ft (hq2 σ3 (by rw [← List.append_assoc]; exact h3)), fun q => absurd (by rw [hf2]; decide) q⟩
      · rw [if_neg hf2, if_pos rfl] at hq2
        refine ⟨fun q => absurd (by simpa using hf2) q, fun _ => codM h3 (by simp only [List.length_append]; omega) (fun σ4 h4 => ?_)⟩
        exact ⟨fun q => absurd q (by decide), fun _ => bQ1 rfl (hq2 σ4 (by rw [← List.append_assoc, ← List.append_assoc]; exact h4))⟩
    by_cases e0 : lwSg t len b = 60
    · exact ⟨fun q => absurd e0 q, fun _ => go 8 (by rw [e0]; decide) (by decide) (by decide)⟩
    refine ⟨fun _ => sgM hT h2 g2 ?_, fun q => absurd q e0⟩
    by_cases e1 : lwSg t len b = 61
    · exact ⟨fun q => absurd e1 q, fun _ => go 9 (by rw [e1]; decide) (by decide) (by decide)⟩
    refine ⟨fun _ => sgM hT h2 g2 ?_, fun q => absurd q e1⟩
    by_cases e2 : lwSg t len b = 62
    · exact ⟨fun q => absurd e2 q, fun _ => go 10 (by rw [e2]; decide) (by decide) (by decide)⟩
    refine ⟨fun _ => ?_, fun q => absurd q e2⟩
    unfold wj_X8_isB_52
    refine ⟨fun q => absurd q (by decide), fun _ => lk0M (n := len) ?_ h2 hq⟩
    unfold lwOp
    rw [if_neg e0, if_neg e1, if_neg e2]
    rfl
/-- an operand -/
theorem endM {κe κo : rfS → (Int32 → rfS → Prop) → Prop} {Q : Int32 → rfS → Prop} {a o : Nat} {L : List Int32} {σ : rfS} {r : lwR} {x : Int32} (h : SM σ0 a (o + 1) L σ) (hx : bI (r.1 = true) = x) (hr : r.2.1 = a) (hq : ∀ σ2, SM σ0 a o L σ2 → Q (bI (r.1 = true)) σ2) : wj_X8_isO_214 κe κo Q x σ := by
  unfold wj_X8_isO_214
  rw [← hx]
  exact ⟨bI_Z, hq _ h.cls⟩
theorem bra33 {p : Nat → lwR} {a : Nat} (e : lwSg t len a = 33) : lwBra t len (some p) a = lwUn p a 16 := by
  show (if _ then _ else _) = _
  rw [if_pos e]
theorem bra45 {p : Nat → lwR} {a : Nat} (n : ¬ lwSg t len a = 33) (e : lwSg t len a = 45) : lwBra t len (some p) a = lwUn p a 17 := by
  show (if _ then _ else _) = _
  rw [if_neg n, if_pos e]
theorem bra40 {p : Nat → lwR} {a : Nat} (n : ¬ lwSg t len a = 33) (n2 : ¬ lwSg t len a = 45) (e : lwSg t len a = 40) : lwBra t len (some p) a = lwPar t len p a := by
  show (if _ then _ else _) = _
  rw [if_neg n, if_neg n2, if_pos e]
theorem bra0 {p : Nat → lwR} {a : Nat} (n : ¬ lwSg t len a = 33) (n2 : ¬ lwSg t len a = 45) (e : ¬ lwSg t len a = 40) : lwBra t len (some p) a = (false, a, []) := by
  show (if _ then _ else _) = _
  rw [if_neg n, if_neg n2, if_neg e]
theorem opnM (hT : TM σ0 t len) {κe κo : rfS → (Int32 → rfS → Prop) → Prop} {q : Option (Nat → lwR)} {o : Nat} (ho : o ≤ 6) (hn : q = none → o = 6) (hs : ∀ p, q = some p → o < 6 ∧ lwGd len p ∧ mOK σ0 len (o + 1) κo p ∧ mOK σ0 len (o + 1) κe (lwChs t len 5 p)) : mOK σ0 len o (wp_X8_isO κe κo) (lwOpn t len q) := by
  intro a L σ Q ha hL h hq
  have hlen := hT.1
  unfold wp_X8_isO
  refine digM hT h ha ?_
  rw [bI_0, Classical.not_not]
  unfold lwOpn at hq
  by_cases hd : 48 ≤ lwSg t len a ∧ lwSg t len a ≤ 57
  · rw [if_pos hd] at hq
    refine ⟨fun z => absurd hd z, fun _ => ⟨5, lwNumM hT 4 a 0 σ (by decide) ha h (fun σ2 h2 => ?_)⟩⟩
    unfold wj_X8_isO_57
    exact codM h2 (by omega) (fun σ3 h3 => ⟨Or.inr rfl, bQ1 rfl (hq σ3 h3)⟩)
  · rw [if_neg hd] at hq
    refine ⟨fun _ => sgM hT h ha (w_nameM ?_), fun z => absurd z hd⟩
    by_cases hnm : lwNm (lwSg t len a) = -1
    · rw [if_neg (not_not_intro hnm)] at hq
      rw [hnm]
      refine ⟨fun _ => ?_, fun z => absurd (by decide) z⟩
      rw [h.2.2.2.2.1]
      cases q with
      | none =>
        rw [hn rfl]
        exact ⟨fun z => absurd rfl z, fun _ => bQ0 ft (hq σ (by show SM σ0 a o (L ++ []) σ; rw [List.append_nil]; exact h))⟩
      | some p =>
        obtain ⟨o6, hg, hpo, hpe⟩ := hs p rfl
        have o6' : ¬ nI o = (6 : Int32) := by
          intro z
          have := congrArg Int32.toInt z
          rw [nI_toInt (by omega), show (6 : Int32).toInt = 6 from rfl] at this
          omega
        refine ⟨fun _ => ?_, fun z => absurd z o6'⟩
        have h1 : SM σ0 a (o + 1) L (sI σ 0 12 (nI o + 1)) := by
          have := h.opn
          rwa [h.2.2.2.2.1] at this
        have unop : ∀ (cd : Int32) (kz : rfS → Prop) (ky : rfS → Prop), a < len → (∀ σ2, SM σ0 (lwUn p a cd).2.1 o (L ++ (lwUn p a cd).2.2) σ2 → Q (bI ((lwUn p a cd).1 = true)) σ2) → (∀ σ, wj_X8_isO_214 κe κo Q 0 σ → kz σ) → (∀ σ, wj_X8_isO_214 κe κo Q 1 σ → ky σ) → ∀ σ2, SM σ0 (a + 1) (o + 1) L σ2 → κo σ2 (fun (r22 : Int32) (σ21 : rfS) => ((r22 = 0 → kz σ21) ∧ (¬ r22 = 0 → wp_X8_codes σ21 cd (fun (r24 : Int32) (σ23 : rfS) => ((r24 = 0 → kz σ23) ∧ (¬ r24 = 0 → ky σ23)))))) := by
          intro cd kz ky hlt hqq hz hy σ2 h2
          obtain ⟨g1, g2, g3, g4, g5⟩ := hg (a + 1) hlt
          refine hpo (a + 1) L σ2 _ hlt (by omega) h2 (fun σ3 h3 => ?_)
          rw [bI_0]
          unfold lwUn at hqq
          by_cases hf : (p (a + 1)).1 = false
          · rw [if_pos hf] at hqq
            exact ⟨fun _ => hz _ (endM h3 (bI_f (by rw [hf]; exact ft)) rfl hqq), fun z => absurd (by rw [hf]; exact ft) z⟩
          · rw [if_neg hf] at hqq
            refine ⟨fun z => absurd (by simpa using hf) z, fun _ => codM h3 (by rw [List.length_append]; omega) (fun σ4 h4 => ?_)⟩
            rw [List.append_assoc] at h4
            exact ⟨fun z => absurd z (by decide), fun _ => hy _ (endM (r := (true, (p (a + 1)).2.1, (p (a + 1)).2.2 ++ [cd])) h4 (bI_t rfl) rfl hqq)⟩
        refine isM hT h1 ha (fun e33 σ2 h2 => ?_) (fun n33 => ?_)
        · rw [bra33 e33] at hq
          have hlt : a < len := lwSg_lt (fun z => by rw [z] at e33; exact absurd e33 (by decide))
          exact ⟨fun z => absurd z (by decide), fun _ => unop 16 _ _ hlt hq (fun _ w => w) (fun _ w => w) σ2 h2⟩
        · refine ⟨fun _ => isM hT h1 ha (fun e45 σ2 h2 => ?_) (fun n45 => ?_), fun z => absurd rfl z⟩
          · rw [bra45 n33 e45] at hq
            have hlt : a < len := lwSg_lt (fun z => by rw [z] at e45; exact absurd e45 (by decide))
            exact ⟨fun z => absurd z (by decide), fun _ => unop 17 _ _ hlt hq (fun _ w => w) (fun _ w => w) σ2 h2⟩
          · refine ⟨fun _ => isM hT h1 ha (fun e40 σ2 h2 => ?_) (fun n40 => ?_), fun z => absurd rfl z⟩
            · rw [bra40 n33 n45 e40] at hq
              have hlt : a < len := lwSg_lt (fun z => by rw [z] at e40; exact absurd e40 (by decide))
              obtain ⟨g1, g2, g3, g4, g5⟩ := lwChs_gd (t := t) hg 5 (a + 1) hlt
              refine ⟨fun z => absurd z (by decide), fun _ => ?_⟩
              refine hpe (a + 1) L σ2 _ hlt (by omega) h2 (fun σ3 h3 => ?_)
              rw [bI_0]
              unfold lwPar at hq
              by_cases hf : (lwChs t len 5 p (a + 1)).1 = false
              · rw [if_pos hf] at hq
                exact ⟨fun _ => endM (κe := κe) (κo := κo) h3 (bI_f (by rw [hf]; exact ft)) rfl hq, fun z => absurd (by rw [hf]; exact ft) z⟩
              · rw [if_neg hf] at hq
                refine ⟨fun z => absurd (by simpa using hf) z, fun _ => isM hT h3 g2 (fun e41 σ4 h4 => ?_) (fun n41 => ?_)⟩
                · rw [if_pos e41] at hq
                  exact ⟨fun z => absurd z (by decide), fun _ => endM (κe := κe) (κo := κo) (r := (true, (lwChs t len 5 p (a + 1)).2.1 + 1, (lwChs t len 5 p (a + 1)).2.2)) h4 (bI_t rfl) rfl hq⟩
                · rw [if_neg n41] at hq
                  exact ⟨fun _ => endM (κe := κe) (κo := κo) (r := (false, (lwChs t len 5 p (a + 1)).2.1, (lwChs t len 5 p (a + 1)).2.2)) h3 (bI_f ft) rfl hq, fun z => absurd rfl z⟩
            · rw [bra0 n33 n45 n40] at hq
              exact ⟨fun _ => endM (κe := κe) (κo := κo) (r := (false, a, [])) h1 (bI_f ft) rfl (fun σ2 h2 => hq σ2 (by rw [List.append_nil]; exact h2)), fun z => absurd rfl z⟩
    · rw [if_pos hnm] at hq
      obtain ⟨k1, k2, k3, k4⟩ := lwNm_ok hnm
      refine ⟨fun z => absurd z k3, fun _ => codM h.step (by omega) (fun σ3 h3 => ⟨Or.inr rfl, bQ1 rfl (hq σ3 h3)⟩)⟩
/-- the levels by fuel -/
theorem levM (hT : TM σ0 t len) {p : Nat → lwR} {o : Nat} (hg : lwGd len p) {f : Nat} (hp : ∀ k, f ≤ k → mOK σ0 len o (MIE k).1 p) : ∀ k, f + 5 ≤ k → mOK σ0 len o (MIE k).2.2.2.2.2 (lwChs t len 5 p) := by
  intro k hk
  obtain ⟨j, rfl⟩ : ∃ j, k = j + 5 := ⟨k - 5, by omega⟩
  have g1 := lwChs_gd (t := t) hg
  have h0 := hp j (by omega)
  have h1 : mOK σ0 len o (MIE (j + 1)).2.1 (lwChs t len 1 p) := chPM hT hg h0
  have h2 : mOK σ0 len o (MIE (j + 2)).2.2.1 (lwChs t len 2 p) := chSM hT (g1 1) h1
  have h3 : mOK σ0 len o (MIE (j + 3)).2.2.2.1 (lwChs t len 3 p) := chBM hT (g1 2) h2
  have h4 : mOK σ0 len o (MIE (j + 4)).2.2.2.2.1 (lwChs t len 4 p) := chAM hT (g1 3) h3
  exact chEM hT (g1 4) h4
theorem ooM (hT : TM σ0 t len) : ∀ n, n ≤ 6 → ∀ k, 6 * n + 1 ≤ k → mOK σ0 len (6 - n) (MIE k).1 (lwOo t len n)
  | 0, _, 0, hk => absurd hk (by omega)
  | 0, _, k + 1, hk => opnM hT (by decide) (fun _ => rfl) (fun p h => by cases h)
  | n + 1, hn, 0, hk => absurd hk (by omega)
  | n + 1, hn, k + 1, hk => by
    refine opnM hT (by omega) (fun h => by cases h) (fun p h => ?_)
    cases h
    have ih := ooM hT n (by omega)
    rw [show 6 - (n + 1) + 1 = 6 - n by omega]
    exact ⟨by omega, lwOo_gd n, ih k (by omega), levM hT (lwOo_gd n) ih k (by omega)⟩
theorem eM (hT : TM σ0 t len) : mOK σ0 len 0 (MIE 42).2.2.2.2.2 (lwE t len) :=
  levM hT (lwOo_gd 6) (ooM hT 6 (Nat.le_refl _)) 42 (by omega)
end LawModel

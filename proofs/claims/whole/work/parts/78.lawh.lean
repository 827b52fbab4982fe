/-! THE CLAIM OUT OF ONE WALK OF THE LAW'S BODY. Your part is whole_start (and what it stands on); all else here is the same for every law, but numbers. -/
def R_law : String := "OneLegLaw"
def lw_P (b : Addr) (xs : List Int32) (args : Array Value) (s : State) : Prop := args = #[.ref b] ∧ s.IntsAt b xs ∧ xs.length ≤ 3072 ∧ (Jvm.Cond.and given_1 narrow_1).before args s = true
def lw_Q (_ : Array Value) (s : State) (o : Outcome) (t : State) : Prop := o = .returned (some (.int 1)) ∧ Framed s o t [] 600000 7302250
def lw_Z (below : List Frame) (a : Array Value) (s : State) : State → Prop := fun t => ∃ o, t.status = .running ∧ Ended t below o ∧ lw_Q a s o t
/-- the law's own end, with 1 on the stack, nothing written that was there before, its room as the claim has it -/
theorem lw_ret {p : Program} {l : Launch} {e : Env} {s : State} {m : MethodId} {below : List Frame} {meth : Method} {c : Code} {b : Nat} (hx : p.tables.exec = Jvm.exec) (hb : c.code = code) (hr : meth.sig.returnType = ret) (hlocks : meth.locks = false) {pc : Nat} {H : Heap} {ls : Array Slot} (hdg : decode code pc = .ok (.ireturn, 1)) : W p l e room_1 s m #[Value.ref b] below meth c H [] 600000 7302250 (lw_Z below #[Value.ref b] s) (F0 m pc ls [.int 1]) := by
  intro T hT X
  obtain ⟨fs, hret, hrun, hended, hW, hframe⟩ := X.leave (v := some (.int 1)) (hlocks := hlocks) (fun h => by rw [hr] at h; cases h)
  have hmeth' : T.vm.method? m = some meth := X.method'
  refine ⟨T.setFrames fs, ?_, .returned (some (.int 1)), hrun, hended, rfl, ⟨_, rfl⟩, hW, hframe⟩
  jvm_step X.here [X.here.top, hx, hb, hdg, hmeth', hr, ret, narrow_b1]
  (try refine ⟨rfl, ?_⟩); (try refine ⟨rfl, ?_⟩)
  first | (intro acts; rw [hret _ acts rfl rfl rfl]) | rw [hret _ _ rfl rfl rfl]
  exact Steps.refl _
/-- what holds at the law's entry: the machine, the code, the tables' words (any of lw_tbl by 'hts w (by decide +kernel)'), the script of L ints xs at the cell b, what the Statement gives of the start (any of its parts by flat_of_before) -/
def lw_At (p : Program) (s : State) (m : MethodId) (meth : Method) (c : Code) (b L : Nat) (xs : Nat → Int32) : Prop :=
  p.tables.exec = Jvm.exec ∧ c.code = code ∧ meth.sig.returnType = ret ∧ c.maxLocals = 4 ∧ s.vm.findClass R_law = some m.cls ∧ (∀ w ∈ lw_tbl, w.before #[Value.ref b] s = true) ∧ va_X b L xs s s.heap ∧ b < s.heap.size ∧ meth.locks = false ∧ (Jvm.Cond.and given_1 narrow_1).before #[Value.ref b] s = true

/-! the law's method: both worlds in one heap -/
abbrev lzE : Type := Program × Launch × Env × State × MethodId × List Frame × Method × Code × va_G × (Nat → ClassId)
def lwX (E : lzE) (b L : Nat) (xs : Nat → Int32) (aC aM : Nat → Nat) : Prop := match E with
  | (p, _, _, s, m, _, meth, c, D, tc) => p.tables.exec = Jvm.exec ∧ c.code = code ∧ meth.sig.returnType = ret ∧ c.maxLocals = 4 ∧ s.vm.findClass R_law = some m.cls ∧ (∀ w ∈ rfG, w.before #[Value.ref b] s = true) ∧ meth.locks = false ∧ va_K D vwCl (rfT tc) s ∧ va_X b L xs s s.heap ∧ b < s.heap.size ∧ L ≤ 3072 ∧ rfInj ΛC aC s.heap.size ∧ rfInj ΛM aM s.heap.size ∧ (∀ i j, i < ΛC.1 → j < ΛM.1 → aC i ≠ aM j) ∧ rfSt aC s.heap.size s s.heap ∧ rfSt aM s.heap.size s s.heap
def Lw (E : lzE) (b : Nat) (aC aM : Nat → Nat) (pc : Nat) (ls : List (Nat × Value)) (st : List Value) (sC sM : rfS) : Prop := match E with
  | (p, l, e, s, m, below, meth, c, D, tc) => ∀ (H : Heap) (locs : List Loc) (la : Array Slot), va_P D vwCl (rfW ΛC tc aC sC) H → va_P D vwCl (rfW ΛM tc aM sM) H → va_S (fun q : Nat => s.heap.size ≤ q) s.heap H locs → lv_has la 4 ls → W p l e room_1 s m #[Value.ref b] below meth c H locs 600000 7302250 (lw_Z below #[Value.ref b] s) (F0 m pc la st)
def lls (b : Nat) (aC aM : Nat → Nat) (i : Nat) : List (Nat × Value) := [(0, .ref b), (1, .ref (aC 0)), (2, .ref (aM 0)), (3, .int (nI i))]
section LwRules
variable {E : lzE} {b L : Nat} {xs : Nat → Int32} {aC aM : Nat → Nat} {pc pc2 i : Nat} {ls ls2 : List (Nat × Value)} {st : List Value} {sC sM : rfS}

theorem Lw_aload_n (X : lwX E b L xs aC aM) {t : Fin 4} {i j x : Nat} (hi : (t : Nat) = i) (hj : ls[j]? = some (i, .ref x)) (hd : decode code pc = .ok (.aload_n t, 1)) (hp : pc + 1 = pc2) (kk : Lw E b aC aM pc2 ls (.ref x :: st) sC sM) : Lw E b aC aM pc ls (st) sC sM := by
  subst hp
  obtain ⟨p, l, e, s, m, below, meth, c, D, tc⟩ := E
  intro H locs la hC hM hS hl
  exact lv_aload_n X.1 X.2.1 hd hi (lv_at hl j hj) (kk H locs la hC hM hS hl)
theorem Lw_bipush (X : lwX E b L xs aC aM) {z : Int} {v : Int32} (hv : (Int8.ofInt z).toInt32 = v) (hd : decode code pc = .ok (.bipush z, 2)) (hp : pc + 2 = pc2) (kk : Lw E b aC aM pc2 ls (.int v :: st) sC sM) : Lw E b aC aM pc ls (st) sC sM := by
  subst hp
  obtain ⟨p, l, e, s, m, below, meth, c, D, tc⟩ := E
  intro H locs la hC hM hS hl
  exact lv_bipush X.1 X.2.1 hd hv (kk H locs la hC hM hS hl)
theorem Lw_iconst (X : lwX E b L xs aC aM) {z : Int} {v : Int32} (hv : Int32.ofInt z = v) (hd : decode code pc = .ok (.iconst z, 1)) (hp : pc + 1 = pc2) (kk : Lw E b aC aM pc2 ls (.int v :: st) sC sM) : Lw E b aC aM pc ls (st) sC sM := by
  subst hp
  obtain ⟨p, l, e, s, m, below, meth, c, D, tc⟩ := E
  intro H locs la hC hM hS hl
  exact lv_iconst X.1 X.2.1 hd hv (kk H locs la hC hM hS hl)
theorem Lw_i2l (X : lwX E b L xs aC aM) {x : Int32} (hd : decode code pc = .ok (.i2l, 1)) (hp : pc + 1 = pc2) (kk : Lw E b aC aM pc2 ls (.long x.toInt64 :: st) sC sM) : Lw E b aC aM pc ls (.int x :: st) sC sM := by
  subst hp
  obtain ⟨p, l, e, s, m, below, meth, c, D, tc⟩ := E
  intro H locs la hC hM hS hl
  exact lv_i2l X.1 X.2.1 hd rfl (kk H locs la hC hM hS hl)
theorem Lw_lshl (X : lwX E b L xs aC aM) {x : Int64} {z : Int32} (hd : decode code pc = .ok (.lshl, 1)) (hp : pc + 1 = pc2) (kk : Lw E b aC aM pc2 ls (.long (x <<< (z.toInt64 &&& 63)) :: st) sC sM) : Lw E b aC aM pc ls (.int z :: .long x :: st) sC sM := by
  subst hp
  obtain ⟨p, l, e, s, m, below, meth, c, D, tc⟩ := E
  intro H locs la hC hM hS hl
  exact lv_lshl X.1 X.2.1 hd rfl (kk H locs la hC hM hS hl)
theorem Lw_land (X : lwX E b L xs aC aM) {x z : Int64} (hd : decode code pc = .ok (.land, 1)) (hp : pc + 1 = pc2) (kk : Lw E b aC aM pc2 ls (.long (x &&& z) :: st) sC sM) : Lw E b aC aM pc ls (.long z :: .long x :: st) sC sM := by
  subst hp
  obtain ⟨p, l, e, s, m, below, meth, c, D, tc⟩ := E
  intro H locs la hC hM hS hl
  exact lv_land X.1 X.2.1 hd (kk H locs la hC hM hS hl)
theorem Lw_lor (X : lwX E b L xs aC aM) {x z : Int64} (hd : decode code pc = .ok (.lor, 1)) (hp : pc + 1 = pc2) (kk : Lw E b aC aM pc2 ls (.long (x ||| z) :: st) sC sM) : Lw E b aC aM pc ls (.long z :: .long x :: st) sC sM := by
  subst hp
  obtain ⟨p, l, e, s, m, below, meth, c, D, tc⟩ := E
  intro H locs la hC hM hS hl
  exact lv_lor X.1 X.2.1 hd (kk H locs la hC hM hS hl)
theorem Lw_iand (X : lwX E b L xs aC aM) {x z : Int32} (hd : decode code pc = .ok (.iand, 1)) (hp : pc + 1 = pc2) (kk : Lw E b aC aM pc2 ls (.int (x &&& z) :: st) sC sM) : Lw E b aC aM pc ls (.int z :: .int x :: st) sC sM := by
  subst hp
  obtain ⟨p, l, e, s, m, below, meth, c, D, tc⟩ := E
  intro H locs la hC hM hS hl
  exact lv_iand X.1 X.2.1 hd (kk H locs la hC hM hS hl)
theorem Lw_isub (X : lwX E b L xs aC aM) {x z : Int32} (hd : decode code pc = .ok (.isub, 1)) (hp : pc + 1 = pc2) (kk : Lw E b aC aM pc2 ls (.int (x - z) :: st) sC sM) : Lw E b aC aM pc ls (.int z :: .int x :: st) sC sM := by
  subst hp
  obtain ⟨p, l, e, s, m, below, meth, c, D, tc⟩ := E
  intro H locs la hC hM hS hl
  exact lv_isub X.1 X.2.1 hd (kk H locs la hC hM hS hl)
theorem Lw_ldc2 (X : lwX E b L xs aC aM) {ix : Nat} {v : Int64} (hw : Cond.constantLong R_law ix v ∈ rfG) (hd : decode code pc = .ok (.ldc2_w ix, 3)) (hp : pc + 3 = pc2) (kk : Lw E b aC aM pc2 ls (.long v :: st) sC sM) : Lw E b aC aM pc ls st sC sM := by
  subst hp
  obtain ⟨p, l, e, s, m, below, meth, c, D, tc⟩ := E
  intro H locs la hC hM hS hl
  exact lv_ldc2 X.1 X.2.1 X.2.2.2.2.1 (X.2.2.2.2.2.1 _ hw) hd (kk H locs la hC hM hS hl)
theorem Lw_len (X : lwX E b L xs aC aM) (hd : decode code pc = .ok (.arraylength, 1)) (hp : pc + 1 = pc2) (kk : Lw E b aC aM pc2 ls (.int (nI L) :: st) sC sM) : Lw E b aC aM pc ls (.ref b :: st) sC sM := by
  subst hp
  obtain ⟨p, l, e, s, m, below, meth, c, D, tc⟩ := E
  intro H locs la hC hM hS hl
  obtain ⟨hx, hb, hr, hml, hown, hts, hlk, hK, hX, hbl, -⟩ := X
  exact va_slen hx hb hX hbl (Nat.not_le.mpr hbl) hS hd (kk H locs la hC hM hS hl)
theorem Lw_ld (X : lwX E b L xs aC aM) {j : Nat} {v : Int32} (hj : j < L) (hv : v = nI j) (hd : decode code pc = .ok (.iaload, 1)) (hp : pc + 1 = pc2) (kk : Lw E b aC aM pc2 ls (.int (xs j) :: st) sC sM) : Lw E b aC aM pc ls (.int v :: .ref b :: st) sC sM := by
  subst hv
  subst hp
  obtain ⟨p, l, e, s, m, below, meth, c, D, tc⟩ := E
  intro H locs la hC hM hS hl
  obtain ⟨hx, hb, hr, hml, hown, hts, hlk, hK, hX, hbl, hL, -⟩ := X
  refine va_sld (xs := xs) (i := nI j) hx hb hX hbl (Nat.not_le.mpr hbl) hS (vin (a := j) (N := L) hj (by omega)) hd ?_
  rw [cl j (by omega)]
  exact kk H locs la hC hM hS hl
/-- one number of the script -/
theorem Lw_arg (X : lwX E b L xs aC aM) {t : Nat} {z : Int} (hi : i + 6 ≤ L) (ht : t < 6) (hz : Int32.ofInt z = nI t) (d0 : decode code pc = .ok (.aload_n 0, 1)) (d1 : decode code (pc + 1) = .ok (.iload_n 3, 1)) (d2 : decode code (pc + 2) = .ok (.iconst z, 1)) (d3 : decode code (pc + 3) = .ok (.iadd, 1)) (d4 : decode code (pc + 4) = .ok (.iaload, 1)) (hp : pc + 5 = pc2) (kk : Lw E b aC aM pc2 (lls b aC aM i) (.int (xs (i + t)) :: st) sC sM) : Lw E b aC aM pc (lls b aC aM i) st sC sM := by
  have hld : Lw E b aC aM (pc + 4) (lls b aC aM i) (.int (nI i + nI t) :: .ref b :: st) sC sM := Lw_ld X (j := i + t) (by omega) (nI_add _ _) d4 hp kk
  obtain ⟨p, l, e, s, m, below, meth, c, D, tc⟩ := E
  intro H locs la hC hM hS hl
  refine lv_aload_n X.1 X.2.1 d0 rfl (lv_at hl 0 rfl) ?_
  refine lv_iload_n X.1 X.2.1 d1 rfl (lv_at hl 3 rfl) ?_
  refine lv_iconst X.1 X.2.1 d2 hz ?_
  refine lv_iadd X.1 X.2.1 d3 ?_
  exact hld H locs la hC hM hS hl
theorem Lw_goto (X : lwX E b L xs aC aM) {off : Int} {tgt : Nat} (hd : decode code pc = .ok (.goto off, 3)) (ht : (pc : Int) + off = (tgt : Int)) (kk : Lw E b aC aM tgt ls st sC sM) : Lw E b aC aM pc ls st sC sM := by
  obtain ⟨p, l, e, s, m, below, meth, c, D, tc⟩ := E
  intro H locs la hC hM hS hl
  exact lv_goto X.1 X.2.1 hd ht (kk H locs la hC hM hS hl)
theorem Lw_eq (X : lwX E b L xs aC aM) {x z : Int32} {off : Int} {tgt : Nat} (h : x = z) (hd : decode code pc = .ok (.if_icmp .eq off, 3)) (ht : (pc : Int) + off = (tgt : Int)) (kk : Lw E b aC aM tgt ls st sC sM) : Lw E b aC aM pc ls (.int z :: .int x :: st) sC sM := by
  obtain ⟨p, l, e, s, m, below, meth, c, D, tc⟩ := E
  intro H locs la hC hM hS hl
  exact lv_icmp_eq X.1 X.2.1 hd ht (fun _ => kk H locs la hC hM hS hl) (fun q => absurd h q)
theorem Lw_leq (X : lwX E b L xs aC aM) {x : Int64} {off : Int} {tgt : Nat} (hd : decode code pc = .ok (.lcmp, 1)) (hd2 : decode code (pc + 1) = .ok (.ifCond .eq off, 3)) (ht : ((pc + 1 : Nat) : Int) + off = (tgt : Int)) (kk : Lw E b aC aM tgt ls st sC sM) : Lw E b aC aM pc ls (.long x :: .long x :: st) sC sM := by
  obtain ⟨p, l, e, s, m, below, meth, c, D, tc⟩ := E
  intro H locs la hC hM hS hl
  refine W.lcmp X.1 X.2.1 hd ?_
  have z : lg_cmp x x = 0 := by
    unfold lg_cmp
    simp [Int64.lt_irrefl]
  rw [z]
  exact lv_if_eq X.1 X.2.1 hd2 ht (fun _ => kk H locs la hC hM hS hl) (fun q => absurd rfl q)
theorem Lw_gt (X : lwX E b L xs aC aM) {x z : Int32} {off : Int} {tgt : Nat} (hd : decode code pc = .ok (.if_icmp .gt off, 3)) (ht : (pc : Int) + off = (tgt : Int)) (hp : pc + 3 = pc2) (kt : z < x → Lw E b aC aM tgt ls st sC sM) (kf : ¬ z < x → Lw E b aC aM pc2 ls st sC sM) : Lw E b aC aM pc ls (.int z :: .int x :: st) sC sM := by
  subst hp
  obtain ⟨p, l, e, s, m, below, meth, c, D, tc⟩ := E
  intro H locs la hC hM hS hl
  exact lv_icmp_gt X.1 X.2.1 hd ht (fun q => kt q H locs la hC hM hS hl) (fun q => kf q H locs la hC hM hS hl)
theorem Lw_iload_n (X : lwX E b L xs aC aM) {t : Fin 4} {i j : Nat} {x : Int32} (hi : (t : Nat) = i) (hj : ls[j]? = some (i, .int x)) (hd : decode code pc = .ok (.iload_n t, 1)) (hp : pc + 1 = pc2) (kk : Lw E b aC aM pc2 ls (.int x :: st) sC sM) : Lw E b aC aM pc ls st sC sM := by
  subst hp
  obtain ⟨p, l, e, s, m, below, meth, c, D, tc⟩ := E
  intro H locs la hC hM hS hl
  exact lv_iload_n X.1 X.2.1 hd hi (lv_at hl j hj) (kk H locs la hC hM hS hl)
theorem Lw_inc6 (X : lwX E b L xs aC aM) (hd : decode code pc = .ok (.iinc 3 6, 3)) (hp : pc + 3 = pc2) (kk : Lw E b aC aM pc2 (lls b aC aM (i + 6)) st sC sM) : Lw E b aC aM pc (lls b aC aM i) st sC sM := by
  subst hp
  obtain ⟨p, l, e, s, m, below, meth, c, D, tc⟩ := E
  intro H locs la hC hM hS hl
  refine lv_iinc X.1 X.2.1 hd hl (k := 3) rfl (v := nI (i + 6)) (nI_add i 6) (by decide) (lv' := [(3, .int (nI (i + 6))), (0, .ref b), (1, .ref (aC 0)), (2, .ref (aM 0))]) rfl (fun la2 hl2 => kk H locs la2 hC hM hS (lv_sub hl2 [1, 2, 3, 0] rfl))
theorem Lw_tsw (X : lwX E b L xs aC aM) {dflt lo hi : Int} {offs : Array Int} {len dt : Nat} {x : Int32} (sw : List (Int32 × Nat)) (hd : decode code pc = .ok (.tableswitch dflt lo hi offs, len)) (hdt : (pc : Int) + dflt = dt) (hsz : hi - lo + 1 = offs.size) (hin : (List.range offs.size).all (fun i => offs[i]? == some ((rfTg sw dt (lo + i) : Int) - pc)) = true) (hout : sw.all (fun q => decide (lo ≤ q.1.toInt) && decide (q.1.toInt ≤ hi)) = true) (k : rfSw sw dt x (fun t => Lw E b aC aM t ls st sC sM)) : Lw E b aC aM pc ls (.int x :: st) sC sM := by
  have k2 := rfSw_tg k
  obtain ⟨p, l, e, s, m, below, meth, c, D, tc⟩ := E
  intro H locs la hC hM hS hl
  have hx := X.1
  have hb := X.2.1
  by_cases h : x.toInt < lo ∨ hi < x.toInt
  · have e : rfTg sw dt x.toInt = dt := by
      unfold rfTg
      rw [List.find?_eq_none.mpr]
      · rfl
      · intro q hq
        have h3 := List.all_eq_true.mp hout q hq
        simp only [Bool.and_eq_true, decide_eq_true_eq] at h3
        simp only [beq_iff_eq]
        omega
    rw [e] at k2
    exact lv_tableOut hx hb hd h hdt (k2 H locs la hC hM hS hl)
  · have h1 : ¬ x.toInt < lo := fun q => h (Or.inl q)
    have h2 : ¬ hi < x.toInt := fun q => h (Or.inr q)
    have hi2 : (x.toInt - lo).toNat < offs.size := by omega
    have h3 := List.all_eq_true.mp hin (x.toInt - lo).toNat (List.mem_range.mpr hi2)
    have e2 : lo + ((x.toInt - lo).toNat : Int) = x.toInt := by omega
    rw [e2] at h3
    exact lv_tableIn hx hb hd h1 h2 (beq_iff_eq.mp h3) (tgt := rfTg sw dt x.toInt) (by omega) (k2 H locs la hC hM hS hl)
theorem Lw_end (X : lwX E b L xs aC aM) (hd : decode code pc = .ok (.ireturn, 1)) : Lw E b aC aM pc ls [.int 1] sC sM := by
  obtain ⟨p, l, e, s, m, below, meth, c, D, tc⟩ := E
  intro H locs la hC hM hS hl
  obtain ⟨hx, hb, hr, hml, hown, hts, hlk, hK, hX, hbl, -⟩ := X
  exact va_forget (fun q hq => hS.2.2 q hq) (lw_ret hx hb hr hlk hd)
end LwRules
theorem Lw_callC {E : lzE} {b L : Nat} {xs : Nat → Int32} {aC aM : Nat → Nat} {pc pc2 : Nat} {ls : List (Nat × Value)} {st : List Value} {sC sM : rfS} (X : lwX E b L xs aC aM) {ix n2 d2 nL2 : Nat} {y2 : MethodName} {cc2 : ByteArray} {ret2 : Option FieldType} {as stk : List Value} {Q2 : Option Value → rfS → Prop} (hR : RM ΛC d2 y2 cc2 nL2 ret2 (.ref 0 :: as) sC Q2) (has : ∀ ad : Nat → Nat, as.map (rfV ad) = as) (hdd : d2 ≤ 900) (hw : Cond.methodLink R_law ix y2 ∈ rfG) (mi : rfMi RX7 y2 cc2 nL2 ret2 n2) (hlen : as.length = n2) (hstk : stk = as.reverse ++ .ref (aC 0) :: st) (hst : (st.map fun v => v.category).sum ≤ 8) (hd : decode code pc = .ok (.invokevirtual ix, 3)) (hp : pc + 3 = pc2) (kk : ∀ r σ3, Q2 r σ3 → Lw E b aC aM pc2 ls ((r.map (rfV aC)).toList ++ st) σ3 sM) : Lw E b aC aM pc ls stk sC sM := by
  subst hp
  subst hstk
  obtain ⟨p, l, e, s, m, below, meth, c, D, tc⟩ := E
  intro H locs la hC hM hS hl
  obtain ⟨hx, hb, hr, hml, hown, hts, hlk, hK, hX, hbl, hL, hIC, hIM, hdj, hSC, hSM⟩ := X
  obtain ⟨m1, m2, m3, m4, m5, m6⟩ := mi
  have hblind : FrameBlind (va_Pc ((Value.ref 0 :: as).map (rfV aC)) (fun U => U.heap.size = H.size ∧ rfB ΛC D tc aC s.heap.size sC U)) := by
    intro v U g mk q
    obtain ⟨q0, q1, qP, qK, qI, qz, qS⟩ := q
    exact ⟨q0, q1, qP, va_K.moved (u := U) (U := U.calling g mk v) (Vm.Alike.refl U.vm) qK, qI, qz, rfSt.moved (s := U) (t := U.calling g mk v) (Vm.Alike.refl U.vm) qS⟩
  have hB : ∀ U : State, U.heap = H → s.WarmedH U.vm → U.heap.size = H.size ∧ rfB ΛC D tc aC s.heap.size sC U := by
    intro U hU hW
    refine ⟨by rw [hU], by rw [hU]; exact hC, va_K.moved hW.alike hK, hIC, by rw [hU]; exact hS.1, ?_⟩
    rw [hU]
    exact (hSC.kept (fun q h1 h2 => hS.2.1 q h1 h2)).moved hW.alike
  have hG : GoodIn rfG (Cond.code y2 cc2 nL2 ret2 :: rfG) := rf_good (fun w hw => by
    rcases List.mem_cons.mp hw with h | h
    · rw [h]; exact m5
    · exact h)
  have hroom : (rfR d2).frames + 1 ≤ room_1.frames ∧ 8 + (nL2 + 11) + (rfR d2).locals ≤ room_1.locals := ⟨by show d2 + 1 ≤ 2048; omega, by show 8 + (nL2 + 11) + 64 * d2 ≤ 84000; omega⟩
  have hpre := hR l D tc aC s.heap.size H.size
  rw [List.map_cons, has aC] at hpre hblind
  have hrun := va_runV (p := p) (l := l) (e := e) (R := room_1) (below := below) (meth := meth) (H := H) (locs := locs) (cells := 600000) (slots := 7302250) (g := F0 m pc la (as.reverse ++ .ref (aC 0) :: st)) (As := as) (rest := st) (C := RX7) (b := aC 0) ⟨hx, hb, hml, hown, hts⟩ hpre (cwV n2 hts (C := RX7) (index := ix) (rf_good (fun w hw9 => by
    unfold wsV at hw9
    rcases List.mem_append.mp hw9 with h | h
    · simp only [List.mem_cons, List.not_mem_nil, or_false] at h
      rcases h with h | h | h | h
      · rw [h]; exact hw
      · rw [h]; exact m2
      · rw [h]; exact m3
      · rw [h]; exact m4
    · exact (hG w h).1)) rfl rfl rfl m6 hroom) ⟨hblind, va_recv hK hC (ci := 7) (q0 := 0) rfl (by rw [rfW_at (by decide), rfCell_obj (ci := 7) rfl]), fun U hU hW => ⟨rfl, hB U hU hW⟩⟩ rfl hlen hl.1 rfl (lv_room hst) hd ⟨Nat.le_refl _, Nat.le_refl _⟩
  intro T hT XX
  obtain ⟨v, st₀, t, T', Lx, h0, X', hL9, e1, e2, ⟨⟨r, σ3, hv, hq, hB9⟩, hz, hk⟩, st9⟩ := hrun T hT XX
  cases hv
  rw [h0] at hz hk
  have hP1 : va_P D vwCl (rfW ΛC tc aC σ3) T'.heap := by rw [e1]; exact hB9.1
  have hfar : ∀ x : Nat, rfA ΛC aC H.size x → s.heap.size ≤ x := by
    intro x hx1
    rcases hx1 with ⟨k, h1, rfl⟩ | h1
    · exact hIC.2 k h1
    · exact Nat.le_trans hS.1 h1
  have hP2 : va_P D vwCl (rfW ΛM tc aM sM) T'.heap := by
    refine hM.kept (fun k x hx9 => ?_)
    have hlt := (hM k x hx9).lt
    have hk28 : k < ΛM.1 := by
      have := (List.getElem?_eq_some_iff.mp hx9).1
      simpa [rfW] using this
    rw [rfW_at hk28] at hx9
    cases hx9
    rw [e1]
    refine hk _ hlt (fun z => ?_)
    rcases z with ⟨j, h1, h2⟩ | h1
    · exact hdj j k h1 hk28 h2.symm
    · exact absurd hlt (Nat.not_lt.mpr h1)
  have hS2 : va_S (fun q : Nat => s.heap.size ≤ q) s.heap T'.heap (locs ++ Lx) := ⟨Nat.le_trans hS.1 (by rw [e1]; exact hz), fun q h1 h2 => by rw [e1, hk q (Nat.lt_of_lt_of_le h1 hS.1) (fun z => h2 (hfar q z))]; exact hS.2.1 q h1 h2, fun q hq2 => by
    rcases List.mem_append.mp hq2 with h | h
    · exact hS.2.2 q h
    · exact hfar _ (hL9 q h)⟩
  obtain ⟨t2, a1, b1⟩ := kk r σ3 hq T'.heap (locs ++ Lx) la hP1 hP2 hS2 hl T' rfl X'
  exact ⟨t2, st9 t2 a1, b1⟩
theorem Lw_callM {E : lzE} {b L : Nat} {xs : Nat → Int32} {aC aM : Nat → Nat} {pc pc2 : Nat} {ls : List (Nat × Value)} {st : List Value} {sC sM : rfS} (X : lwX E b L xs aC aM) {ix n2 d2 nL2 : Nat} {y2 : MethodName} {cc2 : ByteArray} {ret2 : Option FieldType} {as stk : List Value} {Q2 : Option Value → rfS → Prop} (hR : RM ΛM d2 y2 cc2 nL2 ret2 (.ref 0 :: as) sM Q2) (has : ∀ ad : Nat → Nat, as.map (rfV ad) = as) (hdd : d2 ≤ 900) (hw : Cond.methodLink R_law ix y2 ∈ rfG) (mi : rfMi RX8 y2 cc2 nL2 ret2 n2) (hlen : as.length = n2) (hstk : stk = as.reverse ++ .ref (aM 0) :: st) (hst : (st.map fun v => v.category).sum ≤ 8) (hd : decode code pc = .ok (.invokevirtual ix, 3)) (hp : pc + 3 = pc2) (kk : ∀ r σ3, Q2 r σ3 → Lw E b aC aM pc2 ls ((r.map (rfV aM)).toList ++ st) sC σ3) : Lw E b aC aM pc ls stk sC sM := by
  subst hp
  subst hstk
  obtain ⟨p, l, e, s, m, below, meth, c, D, tc⟩ := E
  intro H locs la hC hM hS hl
  obtain ⟨hx, hb, hr, hml, hown, hts, hlk, hK, hX, hbl, hL, hIC, hIM, hdj, hSC, hSM⟩ := X
  obtain ⟨m1, m2, m3, m4, m5, m6⟩ := mi
  have hblind : FrameBlind (va_Pc ((Value.ref 0 :: as).map (rfV aM)) (fun U => U.heap.size = H.size ∧ rfB ΛM D tc aM s.heap.size sM U)) := by
    intro v U g mk q
    obtain ⟨q0, q1, qP, qK, qI, qz, qS⟩ := q
    exact ⟨q0, q1, qP, va_K.moved (u := U) (U := U.calling g mk v) (Vm.Alike.refl U.vm) qK, qI, qz, rfSt.moved (s := U) (t := U.calling g mk v) (Vm.Alike.refl U.vm) qS⟩
  have hB : ∀ U : State, U.heap = H → s.WarmedH U.vm → U.heap.size = H.size ∧ rfB ΛM D tc aM s.heap.size sM U := by
    intro U hU hW
    refine ⟨by rw [hU], by rw [hU]; exact hM, va_K.moved hW.alike hK, hIM, by rw [hU]; exact hS.1, ?_⟩
    rw [hU]
    exact (hSM.kept (fun q h1 h2 => hS.2.1 q h1 h2)).moved hW.alike
  have hG : GoodIn rfG (Cond.code y2 cc2 nL2 ret2 :: rfG) := rf_good (fun w hw => by
    rcases List.mem_cons.mp hw with h | h
    · rw [h]; exact m5
    · exact h)
  have hroom : (rfR d2).frames + 1 ≤ room_1.frames ∧ 8 + (nL2 + 11) + (rfR d2).locals ≤ room_1.locals := ⟨by show d2 + 1 ≤ 2048; omega, by show 8 + (nL2 + 11) + 64 * d2 ≤ 84000; omega⟩
  have hpre := hR l D tc aM s.heap.size H.size
  rw [List.map_cons, has aM] at hpre hblind
  have hrun := va_runV (p := p) (l := l) (e := e) (R := room_1) (below := below) (meth := meth) (H := H) (locs := locs) (cells := 600000) (slots := 7302250) (g := F0 m pc la (as.reverse ++ .ref (aM 0) :: st)) (As := as) (rest := st) (C := RX8) (b := aM 0) ⟨hx, hb, hml, hown, hts⟩ hpre (cwV n2 hts (C := RX8) (index := ix) (rf_good (fun w hw9 => by
    unfold wsV at hw9
    rcases List.mem_append.mp hw9 with h | h
    · simp only [List.mem_cons, List.not_mem_nil, or_false] at h
      rcases h with h | h | h | h
      · rw [h]; exact hw
      · rw [h]; exact m2
      · rw [h]; exact m3
      · rw [h]; exact m4
    · exact (hG w h).1)) rfl rfl rfl m6 hroom) ⟨hblind, va_recv hK hM (ci := 8) (q0 := 0) rfl (by rw [rfW_at (by decide), rfCell_obj (ci := 8) rfl]), fun U hU hW => ⟨rfl, hB U hU hW⟩⟩ rfl hlen hl.1 rfl (lv_room hst) hd ⟨Nat.le_refl _, Nat.le_refl _⟩
  intro T hT XX
  obtain ⟨v, st₀, t, T', Lx, h0, X', hL9, e1, e2, ⟨⟨r, σ3, hv, hq, hB9⟩, hz, hk⟩, st9⟩ := hrun T hT XX
  cases hv
  rw [h0] at hz hk
  have hP1 : va_P D vwCl (rfW ΛM tc aM σ3) T'.heap := by rw [e1]; exact hB9.1
  have hfar : ∀ x : Nat, rfA ΛM aM H.size x → s.heap.size ≤ x := by
    intro x hx1
    rcases hx1 with ⟨k, h1, rfl⟩ | h1
    · exact hIM.2 k h1
    · exact Nat.le_trans hS.1 h1
  have hP2 : va_P D vwCl (rfW ΛC tc aC sC) T'.heap := by
    refine hC.kept (fun k x hx9 => ?_)
    have hlt := (hC k x hx9).lt
    have hk28 : k < ΛC.1 := by
      have := (List.getElem?_eq_some_iff.mp hx9).1
      simpa [rfW] using this
    rw [rfW_at hk28] at hx9
    cases hx9
    rw [e1]
    refine hk _ hlt (fun z => ?_)
    rcases z with ⟨j, h1, h2⟩ | h1
    · exact hdj k j hk28 h1 h2
    · exact absurd hlt (Nat.not_lt.mpr h1)
  have hS2 : va_S (fun q : Nat => s.heap.size ≤ q) s.heap T'.heap (locs ++ Lx) := ⟨Nat.le_trans hS.1 (by rw [e1]; exact hz), fun q h1 h2 => by rw [e1, hk q (Nat.lt_of_lt_of_le h1 hS.1) (fun z => h2 (hfar q z))]; exact hS.2.1 q h1 h2, fun q hq2 => by
    rcases List.mem_append.mp hq2 with h | h
    · exact hS.2.2 q h
    · exact hfar _ (hL9 q h)⟩
  obtain ⟨t2, a1, b1⟩ := kk r σ3 hq T'.heap (locs ++ Lx) la hP2 hP1 hS2 hl T' rfl X'
  exact ⟨t2, st9 t2 a1, b1⟩

/-! constructors: words, worlds -/
set_option maxRecDepth 40000 in
theorem oi_i : Cond.instanceMethod objectInit ∈ rfG := rf_gl 102 rfl rfl
set_option maxRecDepth 40000 in
theorem oi_c : Cond.code objectInit ⟨#[0xb1]⟩ 1 none ∈ rfG := rf_gl 103 rfl rfl
set_option maxRecDepth 40000 in
theorem ac_i : Cond.arrayClass .int ∈ rfG := rf_gl 142 rfl rfl
set_option maxRecDepth 40000 in
theorem ac_l : Cond.arrayClass .long ∈ rfG := rf_gl 325 rfl rfl
set_option maxRecDepth 40000 in
theorem ci_i0 : Cond.instanceMethod yX0_init ∈ rfG := rf_gl 279 rfl rfl
set_option maxRecDepth 40000 in
theorem ci_c0 : Cond.code yX0_init cX0_init 1 none ∈ rfG := rf_gl 280 rfl rfl
set_option maxRecDepth 40000 in
theorem ci_n0 : Cond.initialized RX0 ∈ rfG := rf_gl 90 rfl rfl
set_option maxRecDepth 40000 in
theorem ci_s0 : Cond.instantiable RX0 4 ∈ rfG := rf_gl 277 rfl rfl
set_option maxRecDepth 40000 in
theorem ci_i1 : Cond.instanceMethod yX1_init ∈ rfG := rf_gl 248 rfl rfl
set_option maxRecDepth 40000 in
theorem ci_c1 : Cond.code yX1_init cX1_init 1 none ∈ rfG := rf_gl 249 rfl rfl
set_option maxRecDepth 40000 in
theorem ci_n1 : Cond.initialized RX1 ∈ rfG := rf_gl 89 rfl rfl
set_option maxRecDepth 40000 in
theorem ci_s1 : Cond.instantiable RX1 6 ∈ rfG := rf_gl 246 rfl rfl
set_option maxRecDepth 40000 in
theorem ci_i2 : Cond.instanceMethod yX2_init ∈ rfG := rf_gl 107 rfl rfl
set_option maxRecDepth 40000 in
theorem ci_c2 : Cond.code yX2_init cX2_init 1 none ∈ rfG := rf_gl 108 rfl rfl
set_option maxRecDepth 40000 in
theorem ci_n2 : Cond.initialized RX2 ∈ rfG := rf_gl 85 rfl rfl
set_option maxRecDepth 40000 in
theorem ci_s2 : Cond.instantiable RX2 7 ∈ rfG := rf_gl 105 rfl rfl
set_option maxRecDepth 40000 in
theorem ci_i3 : Cond.instanceMethod yX3_init ∈ rfG := rf_gl 113 rfl rfl
set_option maxRecDepth 40000 in
theorem ci_c3 : Cond.code yX3_init cX3_init 1 none ∈ rfG := rf_gl 114 rfl rfl
set_option maxRecDepth 40000 in
theorem ci_n3 : Cond.initialized RX3 ∈ rfG := rf_gl 86 rfl rfl
set_option maxRecDepth 40000 in
theorem ci_s3 : Cond.instantiable RX3 8 ∈ rfG := rf_gl 111 rfl rfl
set_option maxRecDepth 40000 in
theorem ci_i4 : Cond.instanceMethod yX4_init ∈ rfG := rf_gl 303 rfl rfl
set_option maxRecDepth 40000 in
theorem ci_c4 : Cond.code yX4_init cX4_init 1 none ∈ rfG := rf_gl 304 rfl rfl
set_option maxRecDepth 40000 in
theorem ci_n4 : Cond.initialized RX4 ∈ rfG := rf_gl 91 rfl rfl
set_option maxRecDepth 40000 in
theorem ci_s4 : Cond.instantiable RX4 4 ∈ rfG := rf_gl 301 rfl rfl
set_option maxRecDepth 40000 in
theorem ci_i5 : Cond.instanceMethod yX5_init ∈ rfG := rf_gl 177 rfl rfl
set_option maxRecDepth 40000 in
theorem ci_c5 : Cond.code yX5_init cX5_init 1 none ∈ rfG := rf_gl 178 rfl rfl
set_option maxRecDepth 40000 in
theorem ci_n5 : Cond.initialized RX5 ∈ rfG := rf_gl 87 rfl rfl
set_option maxRecDepth 40000 in
theorem ci_s5 : Cond.instantiable RX5 4 ∈ rfG := rf_gl 175 rfl rfl
set_option maxRecDepth 40000 in
theorem ci_i6 : Cond.instanceMethod yX6_init ∈ rfG := rf_gl 204 rfl rfl
set_option maxRecDepth 40000 in
theorem ci_c6 : Cond.code yX6_init cX6_init 3 none ∈ rfG := rf_gl 205 rfl rfl
set_option maxRecDepth 40000 in
theorem ci_n6 : Cond.initialized RX6 ∈ rfG := rf_gl 88 rfl rfl
set_option maxRecDepth 40000 in
theorem ci_s6 : Cond.instantiable RX6 10 ∈ rfG := rf_gl 202 rfl rfl
set_option maxRecDepth 40000 in
theorem ci_i7 : Cond.instanceMethod yX7_init ∈ rfG := rf_gl 99 rfl rfl
set_option maxRecDepth 40000 in
theorem ci_c7 : Cond.code yX7_init cX7_init 2 none ∈ rfG := rf_gl 100 rfl rfl
set_option maxRecDepth 40000 in
theorem ci_n7 : Cond.initialized RX7 ∈ rfG := rf_gl 84 rfl rfl
set_option maxRecDepth 40000 in
theorem ci_s7 : Cond.instantiable RX7 11 ∈ rfG := rf_gl 97 rfl rfl
set_option maxRecDepth 40000 in
theorem ci_i8 : Cond.instanceMethod yX8_init ∈ rfG := rf_gl 840 rfl rfl
set_option maxRecDepth 40000 in
theorem ci_c8 : Cond.code yX8_init cX8_init 2 none ∈ rfG := rf_gl 841 rfl rfl
set_option maxRecDepth 40000 in
theorem ci_n8 : Cond.initialized RX8 ∈ rfG := rf_gl 92 rfl rfl
set_option maxRecDepth 40000 in
theorem ci_s8 : Cond.instantiable RX8 43 ∈ rfG := rf_gl 838 rfl rfl
set_option maxRecDepth 40000 in
theorem li_X7_1 : Cond.methodLink "OneLeg" 1 objectInit ∈ rfG := rf_gl 101 rfl rfl
set_option maxRecDepth 40000 in
theorem lk_X7_7 : Cond.classLink "OneLeg" 7 RX2 ∈ rfG := rf_gl 104 rfl rfl
set_option maxRecDepth 40000 in
theorem lk_X7_16 : Cond.classLink "OneLeg" 16 RX5 ∈ rfG := rf_gl 174 rfl rfl
set_option maxRecDepth 40000 in
theorem lk_X7_33 : Cond.classLink "OneLeg" 33 RX6 ∈ rfG := rf_gl 201 rfl rfl
set_option maxRecDepth 40000 in
theorem li_X7_35 : Cond.methodLink "OneLeg" 35 yX6_init ∈ rfG := rf_gl 203 rfl rfl
set_option maxRecDepth 40000 in
theorem lk_X7_42 : Cond.classLink "OneLeg" 42 RX1 ∈ rfG := rf_gl 245 rfl rfl
set_option maxRecDepth 40000 in
theorem lk_X7_49 : Cond.classLink "OneLeg" 49 RX0 ∈ rfG := rf_gl 276 rfl rfl
set_option maxRecDepth 40000 in
theorem lk_X7_56 : Cond.classLink "OneLeg" 56 RX4 ∈ rfG := rf_gl 299 rfl rfl
set_option maxRecDepth 40000 in
theorem li_X0_1 : Cond.methodLink "OneLeg$Boots" 1 objectInit ∈ rfG := rf_gl 281 rfl rfl
set_option maxRecDepth 40000 in
theorem li_X1_3 : Cond.methodLink "OneLeg$Changes" 3 objectInit ∈ rfG := rf_gl 250 rfl rfl
set_option maxRecDepth 40000 in
theorem li_X2_3 : Cond.methodLink "OneLeg$House" 3 objectInit ∈ rfG := rf_gl 109 rfl rfl
set_option maxRecDepth 40000 in
theorem lk_X2_24 : Cond.classLink "OneLeg$House" 24 RX3 ∈ rfG := rf_gl 110 rfl rfl
set_option maxRecDepth 40000 in
theorem li_X3_3 : Cond.methodLink "OneLeg$Law" 3 objectInit ∈ rfG := rf_gl 115 rfl rfl
set_option maxRecDepth 40000 in
theorem li_X4_3 : Cond.methodLink "OneLeg$Shelf" 3 objectInit ∈ rfG := rf_gl 305 rfl rfl
set_option maxRecDepth 40000 in
theorem li_X5_3 : Cond.methodLink "OneLeg$Standing" 3 objectInit ∈ rfG := rf_gl 179 rfl rfl
set_option maxRecDepth 40000 in
theorem li_X6_3 : Cond.methodLink "OneLeg$Thought" 3 objectInit ∈ rfG := rf_gl 206 rfl rfl
set_option maxRecDepth 40000 in
theorem lk_X6_15 : Cond.classLink "OneLeg$Thought" 15 RX5 ∈ rfG := rf_gl 207 rfl rfl
set_option maxRecDepth 40000 in
theorem lk_L_7 : Cond.classLink "OneLegLaw" 7 RX7 ∈ rfG := rf_gl 96 rfl rfl
set_option maxRecDepth 40000 in
theorem li_L_9 : Cond.methodLink "OneLegLaw" 9 yX7_init ∈ rfG := rf_gl 98 rfl rfl
set_option maxRecDepth 40000 in
theorem lk_L_10 : Cond.classLink "OneLegLaw" 10 RX8 ∈ rfG := rf_gl 837 rfl rfl
set_option maxRecDepth 40000 in
theorem li_L_12 : Cond.methodLink "OneLegLaw" 12 yX8_init ∈ rfG := rf_gl 839 rfl rfl
set_option maxRecDepth 40000 in
theorem li_X8_3 : Cond.methodLink "OneLegModel" 3 objectInit ∈ rfG := rf_gl 842 rfl rfl
def WX5 (tc : Nat → ClassId) (h : Nat) (u : Nat → Nat) : va_W := [(h, .inr (5, [.ref (u 1), .ref (u 2), .int 0, .int 0])), (u 1, .inl (tc 0, 7, .inl (fun _ => 0))), (u 2, .inl (tc 0, 7, .inl (fun _ => 0)))]
def WX4 (tc : Nat → ClassId) (h : Nat) (u : Nat → Nat) : va_W := [(h, .inr (4, [.int (-2), .int 0, .int 0, .ref (u 1)])), (u 1, .inl (tc 1, 60, .inr (.inl (fun _ => 0))))]
def WX0 (tc : Nat → ClassId) (h : Nat) (u : Nat → Nat) : va_W := [(h, .inr (0, [.ref (u 1), .int 0, .ref (u 2), .int 0])), (u 1, .inl (tc 0, 50, .inl (fun _ => 0))), (u 2, .inl (tc 0, 24, .inl (fun _ => 0)))]
def WX1 (tc : Nat → ClassId) (h : Nat) (u : Nat → Nat) : va_W := [(h, .inr (1, [.ref (u 1), .ref (u 2), .ref (u 3), .ref (u 4), .int 0, .int 0])), (u 1, .inl (tc 0, 40, .inl (fun _ => 0))), (u 2, .inl (tc 0, 40, .inl (fun _ => 0))), (u 3, .inl (tc 0, 40, .inl (fun _ => 0))), (u 4, .inl (tc 0, 40, .inl (fun _ => 0)))]
def WX3 (tc : Nat → ClassId) (h : Nat) (u : Nat → Nat) : va_W := [(h, .inr (3, [.ref (u 1), .int 0, .ref (u 2), .ref (u 3), .int 0, .int 0, .ref (u 4), .int 0])), (u 1, .inl (tc 0, 121, .inl (fun _ => 0))), (u 2, .inl (tc 0, 121, .inl (fun _ => 0))), (u 3, .inl (tc 0, 120, .inl (fun _ => 0))), (u 4, .inl (tc 0, 121, .inl (fun _ => 0)))]
def WX2 (tc : Nat → ClassId) (h : Nat) (u : Nat → Nat) : va_W := [(h, .inr (2, [.int 0, .ref (u 1), .ref (u 2), .ref (u 3), .ref (u 4), .ref (u 5), .ref (u 10)])), (u 1, .inl (tc 0, 7, .inl (fun _ => 0))), (u 2, .inl (tc 0, 7, .inl (fun _ => 0))), (u 3, .inl (tc 0, 7, .inl (fun _ => 0))), (u 4, .inl (tc 0, 7, .inl (fun _ => 0))), (u 5, .inr (3, [.ref (u 6), .int 0, .ref (u 7), .ref (u 8), .int 0, .int 0, .ref (u 9), .int 0])), (u 6, .inl (tc 0, 121, .inl (fun _ => 0))), (u 7, .inl (tc 0, 121, .inl (fun _ => 0))), (u 8, .inl (tc 0, 120, .inl (fun _ => 0))), (u 9, .inl (tc 0, 121, .inl (fun _ => 0))), (u 10, .inl (tc 0, 6, .inl (fun _ => 0)))]
def WX6 (hh : Nat) (tc : Nat → ClassId) (h : Nat) (u : Nat → Nat) : va_W := [(h, .inr (6, [.int 0, .int 0, .ref (u 1), .int 0, .ref hh, .ref (u 2), .ref (u 3), .int 0, .ref (u 4), .ref (u 5)])), (u 1, .inl (tc 0, 4, .inl (fun _ => 0))), (u 2, .inl (tc 2, 6, .inr (.inr (.inr (.inr (fun j => some (u (6 + 3 * j)))))))), (u 3, .inl (tc 0, 4, .inl (fun _ => 0))), (u 4, .inl (tc 0, 1024, .inl (fun _ => 0))), (u 5, .inl (tc 0, 7, .inl (fun _ => 0))), (u 6, .inr (5, [.ref (u 7), .ref (u 8), .int 0, .int 0])), (u 7, .inl (tc 0, 7, .inl (fun _ => 0))), (u 8, .inl (tc 0, 7, .inl (fun _ => 0))), (u 9, .inr (5, [.ref (u 10), .ref (u 11), .int 0, .int 0])), (u 10, .inl (tc 0, 7, .inl (fun _ => 0))), (u 11, .inl (tc 0, 7, .inl (fun _ => 0))), (u 12, .inr (5, [.ref (u 13), .ref (u 14), .int 0, .int 0])), (u 13, .inl (tc 0, 7, .inl (fun _ => 0))), (u 14, .inl (tc 0, 7, .inl (fun _ => 0))), (u 15, .inr (5, [.ref (u 16), .ref (u 17), .int 0, .int 0])), (u 16, .inl (tc 0, 7, .inl (fun _ => 0))), (u 17, .inl (tc 0, 7, .inl (fun _ => 0))), (u 18, .inr (5, [.ref (u 19), .ref (u 20), .int 0, .int 0])), (u 19, .inl (tc 0, 7, .inl (fun _ => 0))), (u 20, .inl (tc 0, 7, .inl (fun _ => 0))), (u 21, .inr (5, [.ref (u 22), .ref (u 23), .int 0, .int 0])), (u 22, .inl (tc 0, 7, .inl (fun _ => 0))), (u 23, .inl (tc 0, 7, .inl (fun _ => 0)))]
def iC : rfS := (fun k j => if j = 0 ∧ 53 ≤ k then -2 else 0, fun _ _ => 0, fun _ _ => 0)
def iMh : Nat → Int32 := upd (upd (upd (upd (upd (upd (fun _ => 0) (0 : Int32).toNatClampNeg (-1)) (1 : Int32).toNatClampNeg (-1)) (2 : Int32).toNatClampNeg (-1)) (3 : Int32).toNatClampNeg (-1)) (4 : Int32).toNatClampNeg (-1)) (5 : Int32).toNatClampNeg (-1)
def iM : rfS := (fun _ _ => 0, fun k => if k = 20 then iMh else fun _ => 0, fun _ _ => 0)
def adX (n : Nat) (w : Nat → Nat) (h : Nat) (u : Nat → Nat) (k : Nat) : Nat := if k = 0 then h else if k < n then u k else w k
def WX7 (w : Nat → Nat) (tc : Nat → ClassId) (h : Nat) (u : Nat → Nat) : va_W := rfW ΛC tc (adX 65 w h u) iC
def WX8 (w : Nat → Nat) (tc : Nat → ClassId) (h : Nat) (u : Nat → Nat) : va_W := rfW ΛM tc (adX 28 w h u) iM

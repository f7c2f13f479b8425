/-! ===== the start again, with the strings ===== -/
def y_w25 : List Int32 := [99, 111, 117, 110, 116, 101, 114, 32, 110, 111, 100, 101, 32, 117, 112, 32, 122, 101, 114, 111, 32, 103, 111, 32, 97, 114, 103, 32, 99, 111, 117, 110, 116, 32, 110, 111, 116, 32, 97, 110, 121, 32, 108, 101, 115, 115, 32, 115, 97, 109, 101, 32, 109, 111, 114, 101, 32]
set_option maxRecDepth 100000 in
theorem y_el25 (j : Nat) (hj : j < 57) : Cond.eq (.elem (.field (.string "GuardForge$Tokens" 25) "java/lang/String" "value" "[B") (.int (Int32.ofNat j))) (.int (y_w25.getD j 0)) ∈ flatC (Jvm.Cond.and given_1 narrow_1) := by
  match j, hj with
  | 0, _ => exact (List.mem_of_getElem? (i := 52) rfl)
  | 1, _ => exact (List.mem_of_getElem? (i := 53) rfl)
  | 2, _ => exact (List.mem_of_getElem? (i := 54) rfl)
  | 3, _ => exact (List.mem_of_getElem? (i := 55) rfl)
  | 4, _ => exact (List.mem_of_getElem? (i := 56) rfl)
  | 5, _ => exact (List.mem_of_getElem? (i := 57) rfl)
  | 6, _ => exact (List.mem_of_getElem? (i := 58) rfl)
  | 7, _ => exact (List.mem_of_getElem? (i := 59) rfl)
  | 8, _ => exact (List.mem_of_getElem? (i := 60) rfl)
  | 9, _ => exact (List.mem_of_getElem? (i := 61) rfl)
  | 10, _ => exact (List.mem_of_getElem? (i := 62) rfl)
  | 11, _ => exact (List.mem_of_getElem? (i := 63) rfl)
  | 12, _ => exact (List.mem_of_getElem? (i := 64) rfl)
  | 13, _ => exact (List.mem_of_getElem? (i := 65) rfl)
  | 14, _ => exact (List.mem_of_getElem? (i := 66) rfl)
  | 15, _ => exact (List.mem_of_getElem? (i := 67) rfl)
  | 16, _ => exact (List.mem_of_getElem? (i := 68) rfl)
  | 17, _ => exact (List.mem_of_getElem? (i := 69) rfl)
  | 18, _ => exact (List.mem_of_getElem? (i := 70) rfl)
  | 19, _ => exact (List.mem_of_getElem? (i := 71) rfl)
  | 20, _ => exact (List.mem_of_getElem? (i := 72) rfl)
  | 21, _ => exact (List.mem_of_getElem? (i := 73) rfl)
  | 22, _ => exact (List.mem_of_getElem? (i := 74) rfl)
  | 23, _ => exact (List.mem_of_getElem? (i := 75) rfl)
  | 24, _ => exact (List.mem_of_getElem? (i := 76) rfl)
  | 25, _ => exact (List.mem_of_getElem? (i := 77) rfl)
  | 26, _ => exact (List.mem_of_getElem? (i := 78) rfl)
  | 27, _ => exact (List.mem_of_getElem? (i := 79) rfl)
  | 28, _ => exact (List.mem_of_getElem? (i := 80) rfl)
  | 29, _ => exact (List.mem_of_getElem? (i := 81) rfl)
  | 30, _ => exact (List.mem_of_getElem? (i := 82) rfl)
  | 31, _ => exact (List.mem_of_getElem? (i := 83) rfl)
  | 32, _ => exact (List.mem_of_getElem? (i := 84) rfl)
  | 33, _ => exact (List.mem_of_getElem? (i := 85) rfl)
  | 34, _ => exact (List.mem_of_getElem? (i := 86) rfl)
  | 35, _ => exact (List.mem_of_getElem? (i := 87) rfl)
  | 36, _ => exact (List.mem_of_getElem? (i := 88) rfl)
  | 37, _ => exact (List.mem_of_getElem? (i := 89) rfl)
  | 38, _ => exact (List.mem_of_getElem? (i := 90) rfl)
  | 39, _ => exact (List.mem_of_getElem? (i := 91) rfl)
  | 40, _ => exact (List.mem_of_getElem? (i := 92) rfl)
  | 41, _ => exact (List.mem_of_getElem? (i := 93) rfl)
  | 42, _ => exact (List.mem_of_getElem? (i := 94) rfl)
  | 43, _ => exact (List.mem_of_getElem? (i := 95) rfl)
  | 44, _ => exact (List.mem_of_getElem? (i := 96) rfl)
  | 45, _ => exact (List.mem_of_getElem? (i := 97) rfl)
  | 46, _ => exact (List.mem_of_getElem? (i := 98) rfl)
  | 47, _ => exact (List.mem_of_getElem? (i := 99) rfl)
  | 48, _ => exact (List.mem_of_getElem? (i := 100) rfl)
  | 49, _ => exact (List.mem_of_getElem? (i := 101) rfl)
  | 50, _ => exact (List.mem_of_getElem? (i := 102) rfl)
  | 51, _ => exact (List.mem_of_getElem? (i := 103) rfl)
  | 52, _ => exact (List.mem_of_getElem? (i := 104) rfl)
  | 53, _ => exact (List.mem_of_getElem? (i := 105) rfl)
  | 54, _ => exact (List.mem_of_getElem? (i := 106) rfl)
  | 55, _ => exact (List.mem_of_getElem? (i := 107) rfl)
  | 56, _ => exact (List.mem_of_getElem? (i := 108) rfl)
  | k + 57, hk => exact absurd hk (by omega)
def y_w245 : List Int32 := [40, 110, 111, 100, 101, 32, 97, 32, 40, 103, 111, 32, 97, 110, 121, 32, 97, 41, 41]
set_option maxRecDepth 100000 in
theorem y_el245 (j : Nat) (hj : j < 19) : Cond.eq (.elem (.field (.string "GuardForgeModel" 245) "java/lang/String" "value" "[B") (.int (Int32.ofNat j))) (.int (y_w245.getD j 0)) ∈ flatC (Jvm.Cond.and given_1 narrow_1) := by
  match j, hj with
  | 0, _ => exact (List.mem_of_getElem? (i := 113) rfl)
  | 1, _ => exact (List.mem_of_getElem? (i := 114) rfl)
  | 2, _ => exact (List.mem_of_getElem? (i := 115) rfl)
  | 3, _ => exact (List.mem_of_getElem? (i := 116) rfl)
  | 4, _ => exact (List.mem_of_getElem? (i := 117) rfl)
  | 5, _ => exact (List.mem_of_getElem? (i := 118) rfl)
  | 6, _ => exact (List.mem_of_getElem? (i := 119) rfl)
  | 7, _ => exact (List.mem_of_getElem? (i := 120) rfl)
  | 8, _ => exact (List.mem_of_getElem? (i := 121) rfl)
  | 9, _ => exact (List.mem_of_getElem? (i := 122) rfl)
  | 10, _ => exact (List.mem_of_getElem? (i := 123) rfl)
  | 11, _ => exact (List.mem_of_getElem? (i := 124) rfl)
  | 12, _ => exact (List.mem_of_getElem? (i := 125) rfl)
  | 13, _ => exact (List.mem_of_getElem? (i := 126) rfl)
  | 14, _ => exact (List.mem_of_getElem? (i := 127) rfl)
  | 15, _ => exact (List.mem_of_getElem? (i := 128) rfl)
  | 16, _ => exact (List.mem_of_getElem? (i := 129) rfl)
  | 17, _ => exact (List.mem_of_getElem? (i := 130) rfl)
  | 18, _ => exact (List.mem_of_getElem? (i := 131) rfl)
  | k + 19, hk => exact absurd hk (by omega)
set_option maxRecDepth 100000 in
theorem y_el339 (j : Nat) (hj : j < 7) : Cond.eq (.elem (.field (.string "GuardForgeModel" 339) "java/lang/String" "value" "[B") (.int (Int32.ofNat j))) (.int (y_w339.getD j 0)) ∈ flatC (Jvm.Cond.and given_1 narrow_1) := by
  match j, hj with
  | 0, _ => exact (List.mem_of_getElem? (i := 137) rfl)
  | 1, _ => exact (List.mem_of_getElem? (i := 138) rfl)
  | 2, _ => exact (List.mem_of_getElem? (i := 139) rfl)
  | 3, _ => exact (List.mem_of_getElem? (i := 140) rfl)
  | 4, _ => exact (List.mem_of_getElem? (i := 141) rfl)
  | 5, _ => exact (List.mem_of_getElem? (i := 142) rfl)
  | 6, _ => exact (List.mem_of_getElem? (i := 143) rfl)
  | k + 7, hk => exact absurd hk (by omega)
set_option maxRecDepth 100000 in
theorem y_el345 (j : Nat) (hj : j < 2) : Cond.eq (.elem (.field (.string "GuardForgeModel" 345) "java/lang/String" "value" "[B") (.int (Int32.ofNat j))) (.int (y_w345.getD j 0)) ∈ flatC (Jvm.Cond.and given_1 narrow_1) := by
  match j, hj with
  | 0, _ => exact (List.mem_of_getElem? (i := 150) rfl)
  | 1, _ => exact (List.mem_of_getElem? (i := 151) rfl)
  | k + 2, hk => exact absurd hk (by omega)
set_option maxRecDepth 100000 in
theorem y_el347 (j : Nat) (hj : j < 4) : Cond.eq (.elem (.field (.string "GuardForgeModel" 347) "java/lang/String" "value" "[B") (.int (Int32.ofNat j))) (.int (y_w347.getD j 0)) ∈ flatC (Jvm.Cond.and given_1 narrow_1) := by
  match j, hj with
  | 0, _ => exact (List.mem_of_getElem? (i := 159) rfl)
  | 1, _ => exact (List.mem_of_getElem? (i := 160) rfl)
  | 2, _ => exact (List.mem_of_getElem? (i := 161) rfl)
  | 3, _ => exact (List.mem_of_getElem? (i := 162) rfl)
  | k + 4, hk => exact absurd hk (by omega)
set_option maxRecDepth 100000 in
theorem y_el349 (j : Nat) (hj : j < 4) : Cond.eq (.elem (.field (.string "GuardForgeModel" 349) "java/lang/String" "value" "[B") (.int (Int32.ofNat j))) (.int (y_w349.getD j 0)) ∈ flatC (Jvm.Cond.and given_1 narrow_1) := by
  match j, hj with
  | 0, _ => exact (List.mem_of_getElem? (i := 171) rfl)
  | 1, _ => exact (List.mem_of_getElem? (i := 172) rfl)
  | 2, _ => exact (List.mem_of_getElem? (i := 173) rfl)
  | 3, _ => exact (List.mem_of_getElem? (i := 174) rfl)
  | k + 4, hk => exact absurd hk (by omega)
set_option maxRecDepth 100000 in
theorem y_el351 (j : Nat) (hj : j < 2) : Cond.eq (.elem (.field (.string "GuardForgeModel" 351) "java/lang/String" "value" "[B") (.int (Int32.ofNat j))) (.int (y_w351.getD j 0)) ∈ flatC (Jvm.Cond.and given_1 narrow_1) := by
  match j, hj with
  | 0, _ => exact (List.mem_of_getElem? (i := 184) rfl)
  | 1, _ => exact (List.mem_of_getElem? (i := 185) rfl)
  | k + 2, hk => exact absurd hk (by omega)
set_option maxRecDepth 100000 in
theorem y_el353 (j : Nat) (hj : j < 3) : Cond.eq (.elem (.field (.string "GuardForgeModel" 353) "java/lang/String" "value" "[B") (.int (Int32.ofNat j))) (.int (y_w353.getD j 0)) ∈ flatC (Jvm.Cond.and given_1 narrow_1) := by
  match j, hj with
  | 0, _ => exact (List.mem_of_getElem? (i := 196) rfl)
  | 1, _ => exact (List.mem_of_getElem? (i := 197) rfl)
  | 2, _ => exact (List.mem_of_getElem? (i := 198) rfl)
  | k + 3, hk => exact absurd hk (by omega)
set_option maxRecDepth 100000 in
theorem y_el355 (j : Nat) (hj : j < 5) : Cond.eq (.elem (.field (.string "GuardForgeModel" 355) "java/lang/String" "value" "[B") (.int (Int32.ofNat j))) (.int (y_w355.getD j 0)) ∈ flatC (Jvm.Cond.and given_1 narrow_1) := by
  match j, hj with
  | 0, _ => exact (List.mem_of_getElem? (i := 210) rfl)
  | 1, _ => exact (List.mem_of_getElem? (i := 211) rfl)
  | 2, _ => exact (List.mem_of_getElem? (i := 212) rfl)
  | 3, _ => exact (List.mem_of_getElem? (i := 213) rfl)
  | 4, _ => exact (List.mem_of_getElem? (i := 214) rfl)
  | k + 5, hk => exact absurd hk (by omega)
set_option maxRecDepth 100000 in
theorem y_el357 (j : Nat) (hj : j < 3) : Cond.eq (.elem (.field (.string "GuardForgeModel" 357) "java/lang/String" "value" "[B") (.int (Int32.ofNat j))) (.int (y_w357.getD j 0)) ∈ flatC (Jvm.Cond.and given_1 narrow_1) := by
  match j, hj with
  | 0, _ => exact (List.mem_of_getElem? (i := 227) rfl)
  | 1, _ => exact (List.mem_of_getElem? (i := 228) rfl)
  | 2, _ => exact (List.mem_of_getElem? (i := 229) rfl)
  | k + 3, hk => exact absurd hk (by omega)
set_option maxRecDepth 100000 in
theorem y_el359 (j : Nat) (hj : j < 3) : Cond.eq (.elem (.field (.string "GuardForgeModel" 359) "java/lang/String" "value" "[B") (.int (Int32.ofNat j))) (.int (y_w359.getD j 0)) ∈ flatC (Jvm.Cond.and given_1 narrow_1) := by
  match j, hj with
  | 0, _ => exact (List.mem_of_getElem? (i := 243) rfl)
  | 1, _ => exact (List.mem_of_getElem? (i := 244) rfl)
  | 2, _ => exact (List.mem_of_getElem? (i := 245) rfl)
  | k + 3, hk => exact absurd hk (by omega)
set_option maxRecDepth 100000 in
theorem y_el361 (j : Nat) (hj : j < 4) : Cond.eq (.elem (.field (.string "GuardForgeModel" 361) "java/lang/String" "value" "[B") (.int (Int32.ofNat j))) (.int (y_w361.getD j 0)) ∈ flatC (Jvm.Cond.and given_1 narrow_1) := by
  match j, hj with
  | 0, _ => exact (List.mem_of_getElem? (i := 260) rfl)
  | 1, _ => exact (List.mem_of_getElem? (i := 261) rfl)
  | 2, _ => exact (List.mem_of_getElem? (i := 262) rfl)
  | 3, _ => exact (List.mem_of_getElem? (i := 263) rfl)
  | k + 4, hk => exact absurd hk (by omega)
set_option maxRecDepth 100000 in
theorem y_el363 (j : Nat) (hj : j < 4) : Cond.eq (.elem (.field (.string "GuardForgeModel" 363) "java/lang/String" "value" "[B") (.int (Int32.ofNat j))) (.int (y_w363.getD j 0)) ∈ flatC (Jvm.Cond.and given_1 narrow_1) := by
  match j, hj with
  | 0, _ => exact (List.mem_of_getElem? (i := 279) rfl)
  | 1, _ => exact (List.mem_of_getElem? (i := 280) rfl)
  | 2, _ => exact (List.mem_of_getElem? (i := 281) rfl)
  | 3, _ => exact (List.mem_of_getElem? (i := 282) rfl)
  | k + 4, hk => exact absurd hk (by omega)
set_option maxRecDepth 100000 in
theorem y_el365 (j : Nat) (hj : j < 4) : Cond.eq (.elem (.field (.string "GuardForgeModel" 365) "java/lang/String" "value" "[B") (.int (Int32.ofNat j))) (.int (y_w365.getD j 0)) ∈ flatC (Jvm.Cond.and given_1 narrow_1) := by
  match j, hj with
  | 0, _ => exact (List.mem_of_getElem? (i := 299) rfl)
  | 1, _ => exact (List.mem_of_getElem? (i := 300) rfl)
  | 2, _ => exact (List.mem_of_getElem? (i := 301) rfl)
  | 3, _ => exact (List.mem_of_getElem? (i := 302) rfl)
  | k + 4, hk => exact absurd hk (by omega)
def xStr (own : String) (k : Nat) (tx : String) (bs : List Int32) (q v : Nat) (A : Nat → Prop) (U : State) (H : Heap) : Prop := vk_R own k tx q U ∧ vk_S 1 [bs.length] [bs] (fun _ => q) (fun _ => v) A U H
theorem xStr.moved {own tx : String} {k q v : Nat} {bs : List Int32} {A : Nat → Prop} {u U : State} {H H1 : Heap} (hv : xV u U) (hq : ∀ a : Nat, a < H.size → ¬ A a → H1[a]? = H[a]?) (h : xStr own k tx bs q v A u H) : xStr own k tx bs q v A U H1 := by
  refine ⟨?_, (h.2.moved hv.alike).kept hq⟩
  rcases hv with hv | hv
  · exact h.1.warm hv
  · exact h.1.same hv.symm
theorem xStr_of {s : State} {b : Nat} {own tx : String} {k : Nat} {bs : List Int32} {A : Nat → Prop} (hN : bs.length < 2 ^ 31) (hr : (Cond.stringRef own k tx).before #[Value.ref b] s = true) (hex : (Cond.exactly (.string own k) "java/lang/String").before #[Value.ref b] s = true) (hco : (Cond.eq (.field (.string own k) "java/lang/String" "coder" "B") (.int 0)).before #[Value.ref b] s = true)
    (har : (Cond.arrayOf (.field (.string own k) "java/lang/String" "value" "[B") .byte).before #[Value.ref b] s = true) (hle : (Cond.eq (.length (.field (.string own k) "java/lang/String" "value" "[B")) (.int (Int32.ofNat bs.length))).before #[Value.ref b] s = true)
    (hel : ∀ j : Nat, j < bs.length → (Cond.eq (.elem (.field (.string own k) "java/lang/String" "value" "[B") (.int (Int32.ofNat j))) (.int (bs.getD j 0))).before #[Value.ref b] s = true) (hA : ∀ a : Nat, a < s.heap.size → ¬ A a) : ∃ q v : Nat, xStr own k tx bs q v A s s.heap := by
  obtain ⟨adK, adV, hS, hev⟩ := vk_Sof (args := #[Value.ref b]) (s := s) (N := 1) (tm := fun _ => .string own k) (len := [bs.length]) (byt := [bs]) (A := A) (fun i hi => by
      obtain rfl : i = 0 := by omega
      exact hN) (fun _ _ => hex) (fun _ _ => hco) (fun _ _ => har) (fun i hi => by
      obtain rfl : i = 0 := by omega
      exact hle) (fun i hi j hj => by
      obtain rfl : i = 0 := by omega
      exact hel j hj) (fun i j hi hj hij => absurd (show i = j by omega) hij) hA
  refine ⟨adK 0, adV 0, vk_R.of hr (hev 0 (by omega)), ?_, fun i j hi hj _ => by omega⟩
  intro i hi
  obtain rfl : i = 0 := by omega
  exact hS.1 0 hi
theorem xStr.y {G : xG} {own tx : String} {k q v : Nat} {bs : List Int32} (hn : bs.length < 2 ^ 31) (hb : ∀ b ∈ bs, ∃ k : Nat, k < 128 ∧ b = nI k) (h : ∀ (U : State) (H : Heap), q_X G U H → xStr own k tx bs q v (x_A G) U H) : (∀ (U : State) (H : Heap), q_X G U H → vk_R own k tx q U) ∧ y_S G q v bs :=
  ⟨fun U H hx => (h U H hx).1, fun U H hx => ((h U H hx).2.1 0 (by omega)).1, fun U H hx => ((h U H hx).2.1 0 (by omega)).2.1, fun U H hx => ((h U H hx).2.1 0 (by omega)).2.2.1, fun U H hx => ((h U H hx).2.1 0 (by omega)).2.2.2, hn, hb⟩
theorem y_asc {bs : List Int32} (h : bs.all (fun b => (List.range 128).any (fun k => decide (b = nI k))) = true) : ∀ b ∈ bs, ∃ k : Nat, k < 128 ∧ b = nI k := by
  intro b hb
  have := List.all_eq_true.mp h b hb
  obtain ⟨k, hk, e⟩ := List.any_eq_true.mp this
  exact ⟨k, List.mem_range.mp hk, of_decide_eq_true e⟩
def xX (q v : Nat → Nat) (A : Nat → Prop) (fm : Value) (U : State) (H : Heap) : Prop := va_Z "java/lang/String" "COMPACT_STRINGS" "Z" (.int 1) A U H ∧ va_Z "jdk/internal/util/Preconditions" "SIOOBE_FORMATTER" "Ljava/util/function/BiFunction;" fm A U H ∧ xStr "GuardForge$Tokens" 25 "counter node up zero go arg count not any less same more " y_w25 (q 25) (v 25) A U H ∧ xStr "GuardForgeModel" 245 "(node a (go any a))" y_w245 (q 245) (v 245) A U H ∧ xStr "GuardForgeModel" 339 "counter" y_w339 (q 339) (v 339) A U H ∧ xStr "GuardForgeModel" 345 "up" y_w345 (q 345) (v 345) A U H ∧ xStr "GuardForgeModel" 347 "zero" y_w347 (q 347) (v 347) A U H ∧ xStr "GuardForgeModel" 349 "node" y_w349 (q 349) (v 349) A U H ∧ xStr "GuardForgeModel" 351 "go" y_w351 (q 351) (v 351) A U H ∧ xStr "GuardForgeModel" 353 "arg" y_w353 (q 353) (v 353) A U H ∧ xStr "GuardForgeModel" 355 "count" y_w355 (q 355) (v 355) A U H ∧ xStr "GuardForgeModel" 357 "not" y_w357 (q 357) (v 357) A U H ∧ xStr "GuardForgeModel" 359 "any" y_w359 (q 359) (v 359) A U H ∧ xStr "GuardForgeModel" 361 "less" y_w361 (q 361) (v 361) A U H ∧ xStr "GuardForgeModel" 363 "same" y_w363 (q 363) (v 363) A U H ∧ xStr "GuardForgeModel" 365 "more" y_w365 (q 365) (v 365) A U H
theorem xX.moved {q v : Nat → Nat} {A : Nat → Prop} {fm : Value} {u U : State} {H H1 : Heap} (hv : xV u U) (hq : ∀ a : Nat, a < H.size → ¬ A a → H1[a]? = H[a]?) (h : xX q v A fm u H) : xX q v A fm U H1 := by
  obtain ⟨hz, hf, h25, h245, h339, h345, h347, h349, h351, h353, h355, h357, h359, h361, h363, h365⟩ := h
  exact ⟨(hz.moved hv.alike).kept hq, (hf.moved hv.alike).kept hq, h25.moved hv hq, h245.moved hv hq, h339.moved hv hq, h345.moved hv hq, h347.moved hv hq, h349.moved hv hq, h351.moved hv hq, h353.moved hv hq, h355.moved hv hq, h357.moved hv hq, h359.moved hv hq, h361.moved hv hq, h363.moved hv hq, h365.moved hv hq⟩
/-- what is known besides -/
def xStart (G : xG) : Prop := yG G ∧ (∀ (U : State) (H : Heap), q_X G U H → ∀ w ∈ nestW, va_Nw w U) ∧ ∃ qT vT qM vM : Nat, ((∀ (U : State) (H : Heap), q_X G U H → vk_R "GuardForge$Tokens" 25 "counter node up zero go arg count not any less same more " qT U) ∧ y_S G qT vT y_w25) ∧ (∀ (U : State) (H : Heap), q_X G U H → vk_R "GuardForgeModel" 245 "(node a (go any a))" qM U) ∧ y_S G qM vM y_w245
set_option maxRecDepth 100000 in
set_option maxHeartbeats 4000000 in
theorem law_G2 {p : Program} {s : State} {m : MethodId} {meth : Method} {c : Code} {b L : Nat} {xs : Nat → Int32} (hL : L ≤ 2560) (C0 : lw_At p s m meth c b L xs) : ∃ G : xG, xGo G b L xs ∧ xStart G ∧ q_b G = s.heap.size ∧ xK G s ∧ xZ G s s.heap := by
  obtain ⟨G, hG, hGb, hK, hZ⟩ := law_G hL C0
  obtain ⟨hx, hb, hr, hml, hown, hts0, hX, hbl, hlocks, hgv⟩ := C0
  have hfl := flat_of_before _ hgv
  have hA : ∀ a : Nat, a < s.heap.size → ¬ x_A G a := fun a h h2 => by
    have h2 : q_b G ≤ a := h2
    rw [hGb] at h2
    exact absurd h (Nat.not_lt.mpr h2)
  obtain ⟨q25, v25, h25⟩ := xStr_of (s := s) (b := b) (own := "GuardForge$Tokens") (tx := "counter node up zero go arg count not any less same more ") (k := 25) (bs := y_w25) (A := x_A G) (Nat.lt_of_le_of_lt (m := 64) (by decide) (by decide)) (hts0 _ (jt2 _ (List.mem_of_getElem? (i := 58) rfl))) (hfl (Cond.exactly (.string "GuardForge$Tokens" 25) "java/lang/String") (List.mem_of_getElem? (i := 48) rfl)) (hfl (Cond.eq (.field (.string "GuardForge$Tokens" 25) "java/lang/String" "coder" "B") (.int 0)) (List.mem_of_getElem? (i := 49) rfl)) (hfl (Cond.arrayOf (.field (.string "GuardForge$Tokens" 25) "java/lang/String" "value" "[B") .byte) (List.mem_of_getElem? (i := 50) rfl)) (hfl (Cond.eq (.length (.field (.string "GuardForge$Tokens" 25) "java/lang/String" "value" "[B")) (.int (Int32.ofNat 57))) (List.mem_of_getElem? (i := 51) rfl)) (fun j hj => hfl _ (y_el25 j hj)) hA
  obtain ⟨q245, v245, h245⟩ := xStr_of (s := s) (b := b) (own := "GuardForgeModel") (tx := "(node a (go any a))") (k := 245) (bs := y_w245) (A := x_A G) (Nat.lt_of_le_of_lt (m := 64) (by decide) (by decide)) (hts0 _ (jt6 _ (List.mem_of_getElem? (i := 212) rfl))) (hfl (Cond.exactly (.string "GuardForgeModel" 245) "java/lang/String") (List.mem_of_getElem? (i := 109) rfl)) (hfl (Cond.eq (.field (.string "GuardForgeModel" 245) "java/lang/String" "coder" "B") (.int 0)) (List.mem_of_getElem? (i := 110) rfl)) (hfl (Cond.arrayOf (.field (.string "GuardForgeModel" 245) "java/lang/String" "value" "[B") .byte) (List.mem_of_getElem? (i := 111) rfl)) (hfl (Cond.eq (.length (.field (.string "GuardForgeModel" 245) "java/lang/String" "value" "[B")) (.int (Int32.ofNat 19))) (List.mem_of_getElem? (i := 112) rfl)) (fun j hj => hfl _ (y_el245 j hj)) hA
  obtain ⟨q339, v339, h339⟩ := xStr_of (s := s) (b := b) (own := "GuardForgeModel") (tx := "counter") (k := 339) (bs := y_w339) (A := x_A G) (Nat.lt_of_le_of_lt (m := 64) (by decide) (by decide)) (hts0 _ (jt7 _ (List.mem_of_getElem? (i := 19) rfl))) (hfl (Cond.exactly (.string "GuardForgeModel" 339) "java/lang/String") (List.mem_of_getElem? (i := 133) rfl)) (hfl (Cond.eq (.field (.string "GuardForgeModel" 339) "java/lang/String" "coder" "B") (.int 0)) (List.mem_of_getElem? (i := 134) rfl)) (hfl (Cond.arrayOf (.field (.string "GuardForgeModel" 339) "java/lang/String" "value" "[B") .byte) (List.mem_of_getElem? (i := 135) rfl)) (hfl (Cond.eq (.length (.field (.string "GuardForgeModel" 339) "java/lang/String" "value" "[B")) (.int (Int32.ofNat 7))) (List.mem_of_getElem? (i := 136) rfl)) (fun j hj => hfl _ (y_el339 j hj)) hA
  obtain ⟨q345, v345, h345⟩ := xStr_of (s := s) (b := b) (own := "GuardForgeModel") (tx := "up") (k := 345) (bs := y_w345) (A := x_A G) (Nat.lt_of_le_of_lt (m := 64) (by decide) (by decide)) (hts0 _ (jt7 _ (List.mem_of_getElem? (i := 35) rfl))) (hfl (Cond.exactly (.string "GuardForgeModel" 345) "java/lang/String") (List.mem_of_getElem? (i := 146) rfl)) (hfl (Cond.eq (.field (.string "GuardForgeModel" 345) "java/lang/String" "coder" "B") (.int 0)) (List.mem_of_getElem? (i := 147) rfl)) (hfl (Cond.arrayOf (.field (.string "GuardForgeModel" 345) "java/lang/String" "value" "[B") .byte) (List.mem_of_getElem? (i := 148) rfl)) (hfl (Cond.eq (.length (.field (.string "GuardForgeModel" 345) "java/lang/String" "value" "[B")) (.int (Int32.ofNat 2))) (List.mem_of_getElem? (i := 149) rfl)) (fun j hj => hfl _ (y_el345 j hj)) hA
  obtain ⟨q347, v347, h347⟩ := xStr_of (s := s) (b := b) (own := "GuardForgeModel") (tx := "zero") (k := 347) (bs := y_w347) (A := x_A G) (Nat.lt_of_le_of_lt (m := 64) (by decide) (by decide)) (hts0 _ (jt7 _ (List.mem_of_getElem? (i := 36) rfl))) (hfl (Cond.exactly (.string "GuardForgeModel" 347) "java/lang/String") (List.mem_of_getElem? (i := 155) rfl)) (hfl (Cond.eq (.field (.string "GuardForgeModel" 347) "java/lang/String" "coder" "B") (.int 0)) (List.mem_of_getElem? (i := 156) rfl)) (hfl (Cond.arrayOf (.field (.string "GuardForgeModel" 347) "java/lang/String" "value" "[B") .byte) (List.mem_of_getElem? (i := 157) rfl)) (hfl (Cond.eq (.length (.field (.string "GuardForgeModel" 347) "java/lang/String" "value" "[B")) (.int (Int32.ofNat 4))) (List.mem_of_getElem? (i := 158) rfl)) (fun j hj => hfl _ (y_el347 j hj)) hA
  obtain ⟨q349, v349, h349⟩ := xStr_of (s := s) (b := b) (own := "GuardForgeModel") (tx := "node") (k := 349) (bs := y_w349) (A := x_A G) (Nat.lt_of_le_of_lt (m := 64) (by decide) (by decide)) (hts0 _ (jt7 _ (List.mem_of_getElem? (i := 37) rfl))) (hfl (Cond.exactly (.string "GuardForgeModel" 349) "java/lang/String") (List.mem_of_getElem? (i := 167) rfl)) (hfl (Cond.eq (.field (.string "GuardForgeModel" 349) "java/lang/String" "coder" "B") (.int 0)) (List.mem_of_getElem? (i := 168) rfl)) (hfl (Cond.arrayOf (.field (.string "GuardForgeModel" 349) "java/lang/String" "value" "[B") .byte) (List.mem_of_getElem? (i := 169) rfl)) (hfl (Cond.eq (.length (.field (.string "GuardForgeModel" 349) "java/lang/String" "value" "[B")) (.int (Int32.ofNat 4))) (List.mem_of_getElem? (i := 170) rfl)) (fun j hj => hfl _ (y_el349 j hj)) hA
  obtain ⟨q351, v351, h351⟩ := xStr_of (s := s) (b := b) (own := "GuardForgeModel") (tx := "go") (k := 351) (bs := y_w351) (A := x_A G) (Nat.lt_of_le_of_lt (m := 64) (by decide) (by decide)) (hts0 _ (jt7 _ (List.mem_of_getElem? (i := 38) rfl))) (hfl (Cond.exactly (.string "GuardForgeModel" 351) "java/lang/String") (List.mem_of_getElem? (i := 180) rfl)) (hfl (Cond.eq (.field (.string "GuardForgeModel" 351) "java/lang/String" "coder" "B") (.int 0)) (List.mem_of_getElem? (i := 181) rfl)) (hfl (Cond.arrayOf (.field (.string "GuardForgeModel" 351) "java/lang/String" "value" "[B") .byte) (List.mem_of_getElem? (i := 182) rfl)) (hfl (Cond.eq (.length (.field (.string "GuardForgeModel" 351) "java/lang/String" "value" "[B")) (.int (Int32.ofNat 2))) (List.mem_of_getElem? (i := 183) rfl)) (fun j hj => hfl _ (y_el351 j hj)) hA
  obtain ⟨q353, v353, h353⟩ := xStr_of (s := s) (b := b) (own := "GuardForgeModel") (tx := "arg") (k := 353) (bs := y_w353) (A := x_A G) (Nat.lt_of_le_of_lt (m := 64) (by decide) (by decide)) (hts0 _ (jt7 _ (List.mem_of_getElem? (i := 39) rfl))) (hfl (Cond.exactly (.string "GuardForgeModel" 353) "java/lang/String") (List.mem_of_getElem? (i := 192) rfl)) (hfl (Cond.eq (.field (.string "GuardForgeModel" 353) "java/lang/String" "coder" "B") (.int 0)) (List.mem_of_getElem? (i := 193) rfl)) (hfl (Cond.arrayOf (.field (.string "GuardForgeModel" 353) "java/lang/String" "value" "[B") .byte) (List.mem_of_getElem? (i := 194) rfl)) (hfl (Cond.eq (.length (.field (.string "GuardForgeModel" 353) "java/lang/String" "value" "[B")) (.int (Int32.ofNat 3))) (List.mem_of_getElem? (i := 195) rfl)) (fun j hj => hfl _ (y_el353 j hj)) hA
  obtain ⟨q355, v355, h355⟩ := xStr_of (s := s) (b := b) (own := "GuardForgeModel") (tx := "count") (k := 355) (bs := y_w355) (A := x_A G) (Nat.lt_of_le_of_lt (m := 64) (by decide) (by decide)) (hts0 _ (jt7 _ (List.mem_of_getElem? (i := 40) rfl))) (hfl (Cond.exactly (.string "GuardForgeModel" 355) "java/lang/String") (List.mem_of_getElem? (i := 206) rfl)) (hfl (Cond.eq (.field (.string "GuardForgeModel" 355) "java/lang/String" "coder" "B") (.int 0)) (List.mem_of_getElem? (i := 207) rfl)) (hfl (Cond.arrayOf (.field (.string "GuardForgeModel" 355) "java/lang/String" "value" "[B") .byte) (List.mem_of_getElem? (i := 208) rfl)) (hfl (Cond.eq (.length (.field (.string "GuardForgeModel" 355) "java/lang/String" "value" "[B")) (.int (Int32.ofNat 5))) (List.mem_of_getElem? (i := 209) rfl)) (fun j hj => hfl _ (y_el355 j hj)) hA
  obtain ⟨q357, v357, h357⟩ := xStr_of (s := s) (b := b) (own := "GuardForgeModel") (tx := "not") (k := 357) (bs := y_w357) (A := x_A G) (Nat.lt_of_le_of_lt (m := 64) (by decide) (by decide)) (hts0 _ (jt7 _ (List.mem_of_getElem? (i := 41) rfl))) (hfl (Cond.exactly (.string "GuardForgeModel" 357) "java/lang/String") (List.mem_of_getElem? (i := 223) rfl)) (hfl (Cond.eq (.field (.string "GuardForgeModel" 357) "java/lang/String" "coder" "B") (.int 0)) (List.mem_of_getElem? (i := 224) rfl)) (hfl (Cond.arrayOf (.field (.string "GuardForgeModel" 357) "java/lang/String" "value" "[B") .byte) (List.mem_of_getElem? (i := 225) rfl)) (hfl (Cond.eq (.length (.field (.string "GuardForgeModel" 357) "java/lang/String" "value" "[B")) (.int (Int32.ofNat 3))) (List.mem_of_getElem? (i := 226) rfl)) (fun j hj => hfl _ (y_el357 j hj)) hA
  obtain ⟨q359, v359, h359⟩ := xStr_of (s := s) (b := b) (own := "GuardForgeModel") (tx := "any") (k := 359) (bs := y_w359) (A := x_A G) (Nat.lt_of_le_of_lt (m := 64) (by decide) (by decide)) (hts0 _ (jt7 _ (List.mem_of_getElem? (i := 42) rfl))) (hfl (Cond.exactly (.string "GuardForgeModel" 359) "java/lang/String") (List.mem_of_getElem? (i := 239) rfl)) (hfl (Cond.eq (.field (.string "GuardForgeModel" 359) "java/lang/String" "coder" "B") (.int 0)) (List.mem_of_getElem? (i := 240) rfl)) (hfl (Cond.arrayOf (.field (.string "GuardForgeModel" 359) "java/lang/String" "value" "[B") .byte) (List.mem_of_getElem? (i := 241) rfl)) (hfl (Cond.eq (.length (.field (.string "GuardForgeModel" 359) "java/lang/String" "value" "[B")) (.int (Int32.ofNat 3))) (List.mem_of_getElem? (i := 242) rfl)) (fun j hj => hfl _ (y_el359 j hj)) hA
  obtain ⟨q361, v361, h361⟩ := xStr_of (s := s) (b := b) (own := "GuardForgeModel") (tx := "less") (k := 361) (bs := y_w361) (A := x_A G) (Nat.lt_of_le_of_lt (m := 64) (by decide) (by decide)) (hts0 _ (jt7 _ (List.mem_of_getElem? (i := 43) rfl))) (hfl (Cond.exactly (.string "GuardForgeModel" 361) "java/lang/String") (List.mem_of_getElem? (i := 256) rfl)) (hfl (Cond.eq (.field (.string "GuardForgeModel" 361) "java/lang/String" "coder" "B") (.int 0)) (List.mem_of_getElem? (i := 257) rfl)) (hfl (Cond.arrayOf (.field (.string "GuardForgeModel" 361) "java/lang/String" "value" "[B") .byte) (List.mem_of_getElem? (i := 258) rfl)) (hfl (Cond.eq (.length (.field (.string "GuardForgeModel" 361) "java/lang/String" "value" "[B")) (.int (Int32.ofNat 4))) (List.mem_of_getElem? (i := 259) rfl)) (fun j hj => hfl _ (y_el361 j hj)) hA
  obtain ⟨q363, v363, h363⟩ := xStr_of (s := s) (b := b) (own := "GuardForgeModel") (tx := "same") (k := 363) (bs := y_w363) (A := x_A G) (Nat.lt_of_le_of_lt (m := 64) (by decide) (by decide)) (hts0 _ (jt7 _ (List.mem_of_getElem? (i := 44) rfl))) (hfl (Cond.exactly (.string "GuardForgeModel" 363) "java/lang/String") (List.mem_of_getElem? (i := 275) rfl)) (hfl (Cond.eq (.field (.string "GuardForgeModel" 363) "java/lang/String" "coder" "B") (.int 0)) (List.mem_of_getElem? (i := 276) rfl)) (hfl (Cond.arrayOf (.field (.string "GuardForgeModel" 363) "java/lang/String" "value" "[B") .byte) (List.mem_of_getElem? (i := 277) rfl)) (hfl (Cond.eq (.length (.field (.string "GuardForgeModel" 363) "java/lang/String" "value" "[B")) (.int (Int32.ofNat 4))) (List.mem_of_getElem? (i := 278) rfl)) (fun j hj => hfl _ (y_el363 j hj)) hA
  obtain ⟨q365, v365, h365⟩ := xStr_of (s := s) (b := b) (own := "GuardForgeModel") (tx := "more") (k := 365) (bs := y_w365) (A := x_A G) (Nat.lt_of_le_of_lt (m := 64) (by decide) (by decide)) (hts0 _ (jt7 _ (List.mem_of_getElem? (i := 45) rfl))) (hfl (Cond.exactly (.string "GuardForgeModel" 365) "java/lang/String") (List.mem_of_getElem? (i := 295) rfl)) (hfl (Cond.eq (.field (.string "GuardForgeModel" 365) "java/lang/String" "coder" "B") (.int 0)) (List.mem_of_getElem? (i := 296) rfl)) (hfl (Cond.arrayOf (.field (.string "GuardForgeModel" 365) "java/lang/String" "value" "[B") .byte) (List.mem_of_getElem? (i := 297) rfl)) (hfl (Cond.eq (.length (.field (.string "GuardForgeModel" 365) "java/lang/String" "value" "[B")) (.int (Int32.ofNat 4))) (List.mem_of_getElem? (i := 298) rfl)) (fun j hj => hfl _ (y_el365 j hj)) hA
  have hzc := va_Zof (v := .int 1) (A := x_A G) (hts0 (.laysStatic "java/lang/String" "COMPACT_STRINGS" "Z") (jt2 _ (List.mem_of_getElem? (i := 68) rfl))) (hts0 (.initialized "java/lang/String") (jt1 _ (List.mem_of_getElem? (i := 7) rfl))) (va_eqt (hfl (Cond.eq (.static "java/lang/String" "COMPACT_STRINGS" "Z") (.int 1)) (List.mem_of_getElem? (i := 4) rfl))) hA
  have hzf := va_Zqof (A := x_A G) (hts0 (.laysStatic "jdk/internal/util/Preconditions" "SIOOBE_FORMATTER" "Ljava/util/function/BiFunction;") (jt2 _ (List.mem_of_getElem? (i := 84) rfl))) (hts0 (.initialized "jdk/internal/util/Preconditions") (jt1 _ (List.mem_of_getElem? (i := 9) rfl))) (hfl (Cond.isRef (.static "jdk/internal/util/Preconditions" "SIOOBE_FORMATTER" "Ljava/util/function/BiFunction;")) (List.mem_of_getElem? (i := 5) rfl)) hA
  obtain ⟨fm, hfm, hzf⟩ : ∃ fm : Value, (fm = .null ∨ ∃ a, fm = .ref a) ∧ va_Z "jdk/internal/util/Preconditions" "SIOOBE_FORMATTER" "Ljava/util/function/BiFunction;" fm (x_A G) s s.heap := by
    rcases hzf with h | ⟨t, h⟩
    · exact ⟨.null, Or.inl rfl, h⟩
    · exact ⟨.ref t, Or.inr ⟨t, rfl⟩, h⟩
  let q : Nat → Nat := fun n => if n = 25 then q25 else if n = 245 then q245 else if n = 339 then q339 else if n = 345 then q345 else if n = 347 then q347 else if n = 349 then q349 else if n = 351 then q351 else if n = 353 then q353 else if n = 355 then q355 else if n = 357 then q357 else if n = 359 then q359 else if n = 361 then q361 else if n = 363 then q363 else if n = 365 then q365 else 0
  let v : Nat → Nat := fun n => if n = 25 then v25 else if n = 245 then v245 else if n = 339 then v339 else if n = 345 then v345 else if n = 347 then v347 else if n = 349 then v349 else if n = 351 then v351 else if n = 353 then v353 else if n = 355 then v355 else if n = 357 then v357 else if n = 359 then v359 else if n = 361 then v361 else if n = 363 then v363 else if n = 365 then v365 else 0
  have hxx : xX q v (x_A G) fm s s.heap := ⟨hzc, hzf, by simpa [q, v] using h25, by simpa [q, v] using h245, by simpa [q, v] using h339, by simpa [q, v] using h345, by simpa [q, v] using h347, by simpa [q, v] using h349, by simpa [q, v] using h351, by simpa [q, v] using h353, by simpa [q, v] using h355, by simpa [q, v] using h357, by simpa [q, v] using h359, by simpa [q, v] using h361, by simpa [q, v] using h363, by simpa [q, v] using h365⟩
  clear_value q v
  clear h25 h245 h339 h345 h347 h349 h351 h353 h355 h357 h359 h361 h363 h365
  obtain ⟨g1, g2, g3, g4, g5, g6, g7⟩ := hG
  let G2 : xG := (G.1, G.2.1, G.2.2.1, G.2.2.2.1, G.2.2.2.2.1, G.2.2.2.2.2.1, G.2.2.2.2.2.2.1, G.2.2.2.2.2.2.2.1, fun U H => q_X G U H ∧ xX q v (x_A G) fm U H)
  have hW2 : xW G2 := ⟨fun u U H H1 hv hq h => ⟨g1.1 u U H H1 hv hq h.1, h.2.moved hv hq⟩, g1.2⟩
  have st : ∀ (U : State) (H : Heap), q_X G2 U H → xX q v (x_A G2) fm U H := fun U H h => h.2
  refine ⟨G2, ⟨hW2, g2, g3, g4, g5, g6, fun U H h => g7 U H h.1⟩, ⟨⟨hW2, g2, g3, g5, ⟨fun U H h => (st U H h).1, fm, hfm, fun U H h => (st U H h).2.1⟩, q, v, ?_⟩, fun U H h => g7 U H h.1, q 25, v 25, q 245, v 245, ?_, ?_⟩, hGb, hK, hZ.1, hZ.2.1, hZ.2.2, hxx⟩
  · have w : ∀ {A B C : Prop}, A ∧ B → C → A ∧ B ∧ C := fun h c => ⟨h.1, h.2, c⟩
    exact w (xStr.y (G := G2) (by decide) (y_asc (by decide +kernel)) (fun U H h => (st U H h).2.2.2.2.1)) (w (xStr.y (G := G2) (by decide) (y_asc (by decide +kernel)) (fun U H h => (st U H h).2.2.2.2.2.1)) (w (xStr.y (G := G2) (by decide) (y_asc (by decide +kernel)) (fun U H h => (st U H h).2.2.2.2.2.2.1)) (w (xStr.y (G := G2) (by decide) (y_asc (by decide +kernel)) (fun U H h => (st U H h).2.2.2.2.2.2.2.1)) (w (xStr.y (G := G2) (by decide) (y_asc (by decide +kernel)) (fun U H h => (st U H h).2.2.2.2.2.2.2.2.1)) (w (xStr.y (G := G2) (by decide) (y_asc (by decide +kernel)) (fun U H h => (st U H h).2.2.2.2.2.2.2.2.2.1)) (w (xStr.y (G := G2) (by decide) (y_asc (by decide +kernel)) (fun U H h => (st U H h).2.2.2.2.2.2.2.2.2.2.1)) (w (xStr.y (G := G2) (by decide) (y_asc (by decide +kernel)) (fun U H h => (st U H h).2.2.2.2.2.2.2.2.2.2.2.1)) (w (xStr.y (G := G2) (by decide) (y_asc (by decide +kernel)) (fun U H h => (st U H h).2.2.2.2.2.2.2.2.2.2.2.2.1)) (w (xStr.y (G := G2) (by decide) (y_asc (by decide +kernel)) (fun U H h => (st U H h).2.2.2.2.2.2.2.2.2.2.2.2.2.1)) (w (xStr.y (G := G2) (by decide) (y_asc (by decide +kernel)) (fun U H h => (st U H h).2.2.2.2.2.2.2.2.2.2.2.2.2.2.1)) (xStr.y (G := G2) (by decide) (y_asc (by decide +kernel)) (fun U H h => (st U H h).2.2.2.2.2.2.2.2.2.2.2.2.2.2.2))))))))))))
  · exact xStr.y (G := G2) (by decide) (y_asc (by decide +kernel)) (fun U H h => (st U H h).2.2.1)
  · exact xStr.y (G := G2) (by decide) (y_asc (by decide +kernel)) (fun U H h => (st U H h).2.2.2.1)
/-- THE CLAIM'S WALK out of a run of the law over the pure layer -/
theorem whole_open2 (hyp : ∀ (G : xG) (b L : Nat) (xs : Nat → Int32), xGo G b L xs → xStart G → L ≤ 2560 → xEx G mL_law 0 [(0, .ref b)] [] (fun _ => none) (q_b G) 600000 7302250 (fun v _ _ => v = some (.int 1)))
    {p : Program} {e : Env} {s : State} {m : MethodId} {below : List Frame} {meth : Method} {c : Code} (l : Launch) {b L : Nat} {xs : Nat → Int32} (hL : L ≤ 2560) (C0 : lw_At p s m meth c b L xs) : W p l e room_1 s m #[Value.ref b] below meth c s.heap [] 0 0 (lw_Z below #[Value.ref b] s) (entryFrame m ([Value.ref b] : List Value).toArray 4) := by
  obtain ⟨G, hG, hSt, hGb, hK, hZ⟩ := law_G2 hL C0
  obtain ⟨hx, hb, hr, hml, hown, hts0, hX, hbl, hlocks, hgv⟩ := C0
  have hts : ∀ w ∈ wsL_law, w.before #[Value.ref b] s = true := fun w h => hts0 w (wsL_law_in w h)
  have hl := lv_entry ([.ref b]) (n := 4) (Nat.le_of_ble_eq_true rfl)
  rw [lg_entry_eq]
  have k := hyp G b L xs hG hSt hL p l e room_1 s m #[Value.ref b] below meth c s.heap [] 0 0 600000 7302250 _ ⟨hx, hb, hr, hlocks, hml, hown, (fun h9 => absurd h9 (by decide)), (fun w hw => (List.mem_cons.mp hw).elim (fun e => by rw [e]; exact hts _ (ir1 _ (List.mem_of_getElem? (i := 0) rfl))) (hts w)), hK, hZ, hG.1⟩ (by decide) (by decide) rfl rfl (by decide) (by decide) hl ⟨hGb.symm, Nat.le_refl _, fun a e he => by cases he⟩ (by
    have h9 : va_S (x_A G) s.heap s.heap [] := va_S.rf
    exact h9)
  intro T hT X
  obtain ⟨t, a1, o, b1, b2, ⟨⟨v, h', z', hv, hq, -⟩, -⟩, Lc, hF, hLc⟩ := k T hT X
  refine ⟨t, a1, o, b1, b2, by rw [hv, hq], hF.1, hF.2.1, sbn_forget hF.2.2 (fun q hq => ?_)⟩
  have h8 : q_b G ≤ q.base := hLc q hq
  rw [hGb] at h8
  exact h8


/-! ===== String constants: rules over the other facts of the start (q_X) ===== -/
section XStr
variable {G : xG} {M : xM} {P : xP} {T : xT} {Q : xQ} {pc nx : Nat} {ts : List Nat} {l : List (Nat × Value)} {st rest : List Value} {h : xH} {z kc ks : Nat}
theorem s_ldcS {idx q : Nat} {tx : String} (hX : ∀ (U : State) (H : Heap), q_X G U H → vk_R (m_y M).cls idx tx q U) (hO : xO G M T P) (hl : T.lookup pc = some (.ldc idx, 2, ts)) (hp : pc + 2 = nx) (k : xEx G M nx l (.ref q :: st) h z kc ks Q) : xEx G M pc l st h z kc ks Q := by
  subst hp
  intro p la e R s m args below meth c H locs cells slots mc ms ls F a1 a2 a3 a4 a5 a6 hl' hR hS
  obtain ⟨hx, hb, hr, hlo, hml, hown, hnm, hts, hK, hZ, hW⟩ := id F
  exact va_ldcS hx hb hown (hX s _ hZ.2.2) (hO.d hl) (k p la e R s m args below meth c H locs cells slots mc ms ls F a1 a2 a3 a4 a5 a6 hl' hR hS)
theorem s_ldcwS {idx q : Nat} {tx : String} (hX : ∀ (U : State) (H : Heap), q_X G U H → vk_R (m_y M).cls idx tx q U) (hO : xO G M T P) (hl : T.lookup pc = some (.ldc_w idx, 3, ts)) (hp : pc + 3 = nx) (k : xEx G M nx l (.ref q :: st) h z kc ks Q) : xEx G M pc l st h z kc ks Q := by
  subst hp
  intro p la e R s m args below meth c H locs cells slots mc ms ls F a1 a2 a3 a4 a5 a6 hl' hR hS
  obtain ⟨hx, hb, hr, hlo, hml, hown, hnm, hts, hK, hZ, hW⟩ := id F
  have k := k p la e R s m args below meth c H locs cells slots mc ms ls F a1 a2 a3 a4 a5 a6 hl' hR hS
  have hd := hO.d hl
  obtain ⟨hc1, hc2⟩ := hX s _ hZ.2.2
  intro U hU X
  obtain ⟨t, b1, b2⟩ := k U hU X
  exact ⟨t, X.ldcStringW hx hown (text := tx) (a := q) hc1 hc2 (g := F0 m pc ls st) rfl (by rw [hb]; exact hd) t b1, b2⟩
theorem s_getX {idx q : Nat} {o n d : String} {v : Value} (hX : ∀ (U : State) (H : Heap), q_X G U H → va_OF o n d v q (x_A G) U H) (hO : xO G M T P) (hl : T.lookup pc = some (.getfield idx, 3, ts)) (hlk : Cond.fieldLink (m_y M).cls idx o n d ∈ m_w M) (hp : pc + 3 = nx) (k : xEx G M nx l (v :: rest) h z kc ks Q) : xEx G M pc l (.ref q :: rest) h z kc ks Q := by
  subst hp
  intro p la e R s m args below meth c H locs cells slots mc ms ls F a1 a2 a3 a4 a5 a6 hl' hR hS
  obtain ⟨hx, hb, hr, hlo, hml, hown, hnm, hts, hK, hZ, hW⟩ := id F
  exact vk_getf hx hb (hX s _ hZ.2.2) hS hown (hts _ hlk) (fun _ h9 => h9) (hO.d hl) (k p la e R s m args below meth c H locs cells slots mc ms ls F a1 a2 a3 a4 a5 a6 hl' hR hS)
theorem s_getsX {idx : Nat} {C n d : String} {v : Value} (hX : ∀ (U : State) (H : Heap), q_X G U H → va_Z C n d v (x_A G) U H) (hO : xO G M T P) (hl : T.lookup pc = some (.getstatic idx, 3, ts)) (hlk : Cond.fieldLink (m_y M).cls idx C n d ∈ m_w M) (hp : pc + 3 = nx) (k : xEx G M nx l (v :: rest) h z kc ks Q) : xEx G M pc l rest h z kc ks Q := by
  subst hp
  intro p la e R s m args below meth c H locs cells slots mc ms ls F a1 a2 a3 a4 a5 a6 hl' hR hS
  obtain ⟨hx, hb, hr, hlo, hml, hown, hnm, hts, hK, hZ, hW⟩ := id F
  exact va_gets hx hb (hX s _ hZ.2.2) hS hown (hts _ hlk) (fun _ h9 => h9) (hO.d hl) (k p la e R s m args below meth c H locs cells slots mc ms ls F a1 a2 a3 a4 a5 a6 hl' hR hS)
theorem s_roX {t N : Nat} {i : Int32} {v : Value} {f : Nat → Value} (hX : ∀ (U : State) (H : Heap), q_X G U H → va_T .byte t N f (x_A G) U H) (hO : xO G M T P) (hl : T.lookup pc = some (.baload, 1, ts)) (hi : vp_in i N) (hv : f i.toNatClampNeg = v) (hp : pc + 1 = nx) (k : xEx G M nx l (v :: rest) h z kc ks Q) : xEx G M pc l (.int i :: .ref t :: rest) h z kc ks Q := by
  subst hp
  intro p la e R s m args below meth c H locs cells slots mc ms ls F a1 a2 a3 a4 a5 a6 hl' hR hS
  obtain ⟨hx, hb, hr, hlo, hml, hown, hnm, hts, hK, hZ, hW⟩ := id F
  exact va_tb hx hb (hX s _ hZ.2.2) hS hi hv (hO.d hl) (k p la e R s m args below meth c H locs cells slots mc ms ls F a1 a2 a3 a4 a5 a6 hl' hR hS)
theorem s_lenX {t N : Nat} {ty : FieldType} {f : Nat → Value} (hX : ∀ (U : State) (H : Heap), q_X G U H → va_T ty t N f (x_A G) U H) (hO : xO G M T P) (hl : T.lookup pc = some (.arraylength, 1, ts)) (hp : pc + 1 = nx) (k : xEx G M nx l (.int (nI N) :: rest) h z kc ks Q) : xEx G M pc l (.ref t :: rest) h z kc ks Q := by
  subst hp
  intro p la e R s m args below meth c H locs cells slots mc ms ls F a1 a2 a3 a4 a5 a6 hl' hR hS
  obtain ⟨hx, hb, hr, hlo, hml, hown, hnm, hts, hK, hZ, hW⟩ := id F
  exact va_tlen hx hb (hX s _ hZ.2.2) hS rfl (hO.d hl) (k p la e R s m args below meth c H locs cells slots mc ms ls F a1 a2 a3 a4 a5 a6 hl' hR hS)
theorem s_i2c {x : Int32} (hO : xO G M T P) (hl : T.lookup pc = some (.i2c, 1, ts)) (hp : pc + 1 = nx) (k : xEx G M nx l (.int (x.toUInt32 % 65536).toInt32 :: rest) h z kc ks Q) : xEx G M pc l (.int x :: rest) h z kc ks Q := by
  subst hp
  exact x_go (fun hx hb _ _ hv kk => lv_i2c hx hb (hO.d hl) rfl (kk _ hv)) k
/-- a call on a constant object -/
theorem s_callX {idx n b c' s' : Nat} {J : xM} (As : List Value) {Q' : xQ} (hX : ∀ (U : State) (H : Heap), q_X G U H → va_O (m_y J).cls b (x_A G) U H) (hO : xO G M T P) (hl : T.lookup pc = some (.invokevirtual idx, 3, ts)) (hC : xCv M idx J n) (hJ : xC G J (.ref b :: As) h z c' s' Q') (hn : As.length = n) (hst : st = As.reverse ++ .ref b :: rest) (hrm : (rest.map fun v => v.category).sum ≤ 8) (h1 : c' ≤ kc) (h2 : s' ≤ ks) (hp : pc + 3 = nx)
    (k : ∀ (v : Option Value) (h' : xH) (z' : Nat), Q' v h' z' → xEx G M nx l (v.toList ++ rest) h' z' (kc - c') (ks - s') Q) : xEx G M pc l st h z kc ks Q := by
  subst hp
  subst hst
  intro p la e R s m args below meth c H locs cells slots mc ms ls F a1 a2 a3 a4 a5 a6 hl' hR hS
  obtain ⟨hx, hcode, hr, hlo, hml, hown, hnm, hts, hK, hZ, hW⟩ := id F
  obtain ⟨hG, ⟨ws', hw⟩, hd, hf1, hf2⟩ := hC
  refine x_run (a := (Value.ref b :: As).toArray) (va_runV (As := As) (rest := rest) ⟨hx, hcode, hml, hown, hts⟩ (hJ la) (cwV n hts hG hw rfl rfl ⟨rfl, hd⟩ ⟨Nat.le_trans hf1 a1, Nat.le_trans hf2 a2⟩) ⟨x_blind hW, ?_, x_pre F hR hS⟩ rfl hn hl'.1 rfl (lv_room hrm) (hO.d hl) ⟨by omega, by omega⟩) hS (fun v h' z' H1 locs1 hq hR1 hS1 => ?_)
  · obtain ⟨cell, g1, g2, g3, -⟩ := (hX s _ hZ.2.2).kept hS.2.1
    exact ⟨cell, g1, g2, g3⟩
  · exact k v h' z' hq p la e R s m args below meth c H1 locs1 _ _ mc ms ls F a1 a2 a3 a4 (by omega) (by omega) hl' hR1 hS1
end XStr
/-- what is known of a String constant at q, its bytes bs -/
def y_S (G : xG) (q v : Nat) (bs : List Int32) : Prop := (∀ (U : State) (H : Heap), q_X G U H → va_O "java/lang/String" q (x_A G) U H) ∧ (∀ (U : State) (H : Heap), q_X G U H → va_OF "java/lang/String" "coder" "B" (.int 0) q (x_A G) U H) ∧ (∀ (U : State) (H : Heap), q_X G U H → va_OF "java/lang/String" "value" "[B" (.ref v) q (x_A G) U H) ∧ (∀ (U : State) (H : Heap), q_X G U H → va_T .byte v bs.length (fun j => .int (bs.getD j 0)) (x_A G) U H) ∧ bs.length < 2 ^ 31 ∧ ∀ b ∈ bs, ∃ k : Nat, k < 128 ∧ b = nI k
/-- the JDK's statics that the way through String asks -/
def y_J (G : xG) : Prop := (∀ (U : State) (H : Heap), q_X G U H → va_Z "java/lang/String" "COMPACT_STRINGS" "Z" (.int 1) (x_A G) U H) ∧ ∃ v : Value, (v = .null ∨ ∃ a, v = .ref a) ∧ ∀ (U : State) (H : Heap), q_X G U H → va_Z "jdk/internal/util/Preconditions" "SIOOBE_FORMATTER" "Ljava/util/function/BiFunction;" v (x_A G) U H
section XStrC
variable {G : xG} {h : xH} {z : Nat}
set_option maxRecDepth 100000 in
set_option maxHeartbeats 4000000 in
theorem c_J0_coder (hW : xW G) (hcl : q_cl G = vwCl) (hJ : y_J G) {q v : Nat} {bs : List Int32} (hq : y_S G q v bs) : xC G mJ0_coder_7d493 [.ref q] h z 0 0 (fun r h' z' => z' = z ∧ h' = h ∧ r = some (.int 0)) := by
  have hO : xO G mJ0_coder_7d493 tbJ0_coder_7d493 ptJ0_coder_7d493 := ⟨tkJ0_coder_7d493, pkJ0_coder_7d493 hcl⟩
  refine xC.of hW (by decide) rfl (Nat.le_of_ble_eq_true rfl) ?_
  refine s_getsX (nx := 3) hJ.1 hO rfl (List.mem_cons_of_mem _ (ir6 _ (List.mem_of_getElem? (i := 21) rfl))) rfl ?_
  refine s_if_eq (nx := 6) hO rfl rfl (fun c => absurd c (by decide)) (fun c => ?_)
  refine s_aload_n (nx := 7) hO rfl rfl rfl ?_
  refine s_getX (nx := 10) hq.2.1 hO rfl (List.mem_cons_of_mem _ (ir6 _ (List.mem_of_getElem? (i := 22) rfl))) rfl ?_
  refine s_goto hO rfl ?_
  exact s_iret hO rfl rfl rfl ⟨rfl, rfl, rfl⟩
set_option maxRecDepth 100000 in
set_option maxHeartbeats 4000000 in
theorem c_J0_isLatin1 (hW : xW G) (hcl : q_cl G = vwCl) (hJ : y_J G) {q v : Nat} {bs : List Int32} (hq : y_S G q v bs) : xC G mJ0_isLatin1_aae02 [.ref q] h z 0 0 (fun r h' z' => z' = z ∧ h' = h ∧ r = some (.int 1)) := by
  have hO : xO G mJ0_isLatin1_aae02 tbJ0_isLatin1_aae02 ptJ0_isLatin1_aae02 := ⟨tkJ0_isLatin1_aae02, pkJ0_isLatin1_aae02 hcl⟩
  refine xC.of hW (by decide) rfl (Nat.le_of_ble_eq_true rfl) ?_
  refine s_getsX (nx := 3) hJ.1 hO rfl (List.mem_cons_of_mem _ (ir6 _ (List.mem_of_getElem? (i := 21) rfl))) rfl ?_
  refine s_if_eq (nx := 6) hO rfl rfl (fun c => absurd c (by decide)) (fun c => ?_)
  refine s_aload_n (nx := 7) hO rfl rfl rfl ?_
  refine s_getX (nx := 10) hq.2.1 hO rfl (List.mem_cons_of_mem _ (ir6 _ (List.mem_of_getElem? (i := 22) rfl))) rfl ?_
  refine s_if_ne (nx := 13) hO rfl rfl (fun c => absurd rfl c) (fun c => ?_)
  refine s_iconst (x := 1) (nx := 14) hO rfl (by decide) rfl ?_
  refine s_goto hO rfl ?_
  exact s_iret hO rfl rfl rfl ⟨rfl, rfl, rfl⟩
set_option maxRecDepth 100000 in
set_option maxHeartbeats 4000000 in
/-- String.length() -/
theorem c_J0_length (hW : xW G) (hcl : q_cl G = vwCl) (hJ : y_J G) {q v : Nat} {bs : List Int32} (hq : y_S G q v bs) : xC G mJ0_length_8abf5 [.ref q] h z 0 0 (fun r h' z' => z' = z ∧ h' = h ∧ r = some (.int (nI bs.length))) := by
  have hO : xO G mJ0_length_8abf5 tbJ0_length_8abf5 ptJ0_length_8abf5 := ⟨tkJ0_length_8abf5, pkJ0_length_8abf5 hcl⟩
  refine xC.of hW (by decide) rfl (Nat.le_of_ble_eq_true rfl) ?_
  refine s_aload_n (nx := 1) hO rfl rfl rfl ?_
  refine s_getX (nx := 4) hq.2.2.1 hO rfl (List.mem_cons_of_mem _ (ir6 _ (List.mem_of_getElem? (i := 16) rfl))) rfl ?_
  refine s_lenX (nx := 5) hq.2.2.2.1 hO rfl rfl ?_
  refine s_aload_n (nx := 6) hO rfl rfl rfl ?_
  refine s_callX [] (nx := 9) hq.1 hO rfl kJ0_length_8abf5_335 (c_J0_coder hW hcl hJ hq) rfl rfl (Nat.le_of_ble_eq_true rfl) (by decide) (by decide) rfl (fun w h' z' q9 => ?_)
  obtain ⟨rfl, rfl, rfl⟩ := q9
  refine s_ishr (nx := 10) hO rfl rfl ?_
  rw [sb_shr0]
  exact s_iret hO rfl rfl rfl ⟨rfl, rfl, rfl⟩
set_option maxRecDepth 100000 in
set_option maxHeartbeats 4000000 in
theorem c_J3_checkIndex (hW : xW G) (hcl : q_cl G = vwCl) {i n : Nat} {v : Value} (hv : v = .null ∨ ∃ a, v = .ref a) (hi : i < n) (hn : n < 2 ^ 31) : xC G mJ3_checkIndex_8e157 [.int (nI i), .int (nI n), v] h z 0 0 (fun r h' z' => z' = z ∧ h' = h ∧ r = some (.int (nI i))) := by
  have hO : xO G mJ3_checkIndex_8e157 tbJ3_checkIndex_8e157 ptJ3_checkIndex_8e157 := ⟨tkJ3_checkIndex_8e157, pkJ3_checkIndex_8e157 hcl⟩
  refine xC.of hW (by decide) rfl (by rcases hv with rfl | ⟨a, rfl⟩ <;> exact Nat.le_of_ble_eq_true rfl) ?_
  refine s_iload_n (nx := 1) hO rfl rfl rfl ?_
  refine s_if_lt (nx := 4) hO rfl rfl (fun c => absurd c (nI_pos (by omega))) (fun c => ?_)
  refine s_iload_n (nx := 5) hO rfl rfl rfl ?_
  refine s_iload_n (nx := 6) hO rfl rfl rfl ?_
  refine s_icmp_lt (nx := 9) hO rfl rfl (fun c => ?_) (fun c => absurd (nI_lt hi hn) c)
  refine s_iload_n (nx := 17) hO rfl rfl rfl ?_
  exact s_iret hO rfl rfl rfl ⟨rfl, rfl, rfl⟩
set_option maxRecDepth 100000 in
set_option maxHeartbeats 4000000 in
theorem c_J0_checkIndex (hW : xW G) (hcl : q_cl G = vwCl) (hJ : y_J G) {i n : Nat} (hi : i < n) (hn : n < 2 ^ 31) : xC G mJ0_checkIndex_df160 [.int (nI i), .int (nI n)] h z 0 0 (fun r h' z' => z' = z ∧ h' = h ∧ r = none) := by
  obtain ⟨-, v, hv, hX⟩ := hJ
  have hcat : v.category = 1 := by rcases hv with rfl | ⟨a, rfl⟩ <;> rfl
  have hO : xO G mJ0_checkIndex_df160 tbJ0_checkIndex_df160 ptJ0_checkIndex_df160 := ⟨tkJ0_checkIndex_df160, pkJ0_checkIndex_df160 hcl⟩
  refine xC.of hW (by decide) rfl (Nat.le_of_ble_eq_true rfl) ?_
  refine s_iload_n (nx := 1) hO rfl rfl rfl ?_
  refine s_iload_n (nx := 2) hO rfl rfl rfl ?_
  refine s_getsX (nx := 5) hX hO rfl (List.mem_cons_of_mem _ (ir7 _ (List.mem_of_getElem? (i := 14) rfl))) rfl ?_
  refine s_callS [.int (nI i), .int (nI n), v] (nx := 8) hO rfl kJ0_checkIndex_df160_1059 (c_J3_checkIndex hW hcl hv hi hn) rfl rfl (by decide) (by decide) (by decide) rfl (fun w h' z' q9 => ?_)
  obtain ⟨rfl, rfl, rfl⟩ := q9
  refine s_pop (nx := 9) hO rfl rfl rfl ?_
  exact s_vret hO rfl rfl ⟨rfl, rfl, rfl⟩
theorem y_chr : ∀ k : Nat, k < 128 → (((nI k &&& nI 255).toUInt32 % 65536).toInt32 = nI k ∧ narrow .char (.int (nI k)) = .int (nI k)) := by decide +kernel
set_option maxRecDepth 100000 in
set_option maxHeartbeats 4000000 in
theorem c_J1_charAt (hW : xW G) (hcl : q_cl G = vwCl) (hJ : y_J G) {q v : Nat} {bs : List Int32} (hq : y_S G q v bs) {i : Nat} (hi : i < bs.length) : xC G mJ1_charAt_3b067 [.ref v, .int (nI i)] h z 0 0 (fun r h' z' => z' = z ∧ h' = h ∧ r = some (.int (bs.getD i 0))) := by
  have hO : xO G mJ1_charAt_3b067 tbJ1_charAt_3b067 ptJ1_charAt_3b067 := ⟨tkJ1_charAt_3b067, pkJ1_charAt_3b067 hcl⟩
  refine xC.of hW (by decide) rfl (Nat.le_of_ble_eq_true rfl) ?_
  have hb : ∃ k : Nat, k < 128 ∧ bs.getD i 0 = nI k := by
    refine hq.2.2.2.2.2 _ ?_
    rw [List.getD_eq_getElem?_getD, List.getElem?_eq_getElem hi]
    exact List.getElem_mem hi
  obtain ⟨k, hk, ek⟩ := hb
  have hn := hq.2.2.2.2.1
  refine s_iload_n (nx := 1) hO rfl rfl rfl ?_
  refine s_aload_n (nx := 2) hO rfl rfl rfl ?_
  refine s_lenX (nx := 3) hq.2.2.2.1 hO rfl rfl ?_
  refine s_callS [.int (nI i), .int (nI bs.length)] (nx := 6) hO rfl kJ1_charAt_3b067_9 (c_J0_checkIndex hW hcl hJ hi hn) rfl rfl (by decide) (by decide) (by decide) rfl (fun w h' z' q9 => ?_)
  obtain ⟨rfl, rfl, rfl⟩ := q9
  refine s_aload_n (nx := 7) hO rfl rfl rfl ?_
  refine s_iload_n (nx := 8) hO rfl rfl rfl ?_
  refine s_roX (v := .int (nI k)) (nx := 9) hq.2.2.2.1 hO rfl (vp_in_nI hi hn) (by rw [nI_clamp (by omega), ek]) rfl ?_
  refine s_sipush (x := nI 255) (nx := 12) hO rfl (by decide) rfl ?_
  refine s_iand (nx := 13) hO rfl rfl ?_
  refine s_i2c (nx := 14) hO rfl rfl ?_
  rw [(y_chr k hk).1, ek]
  exact s_iret hO rfl rfl (y_chr k hk).2 ⟨rfl, rfl, rfl⟩
set_option maxRecDepth 100000 in
set_option maxHeartbeats 4000000 in
/-- String.charAt(int) -/
theorem c_J0_charAt (hW : xW G) (hcl : q_cl G = vwCl) (hJ : y_J G) {q v : Nat} {bs : List Int32} (hq : y_S G q v bs) {i : Nat} (hi : i < bs.length) : xC G mJ0_charAt_5068e [.ref q, .int (nI i)] h z 0 0 (fun r h' z' => z' = z ∧ h' = h ∧ r = some (.int (bs.getD i 0))) := by
  have hO : xO G mJ0_charAt_5068e tbJ0_charAt_5068e ptJ0_charAt_5068e := ⟨tkJ0_charAt_5068e, pkJ0_charAt_5068e hcl⟩
  have hb : ∃ k : Nat, k < 128 ∧ bs.getD i 0 = nI k := by
    refine hq.2.2.2.2.2 _ ?_
    rw [List.getD_eq_getElem?_getD, List.getElem?_eq_getElem hi]
    exact List.getElem_mem hi
  obtain ⟨k, hk, ek⟩ := hb
  refine xC.of hW (by decide) rfl (Nat.le_of_ble_eq_true rfl) ?_
  refine s_aload_n (nx := 1) hO rfl rfl rfl ?_
  refine s_callX [] (nx := 4) hq.1 hO rfl kJ0_charAt_5068e_492 (c_J0_isLatin1 hW hcl hJ hq) rfl rfl (by decide) (by decide) (by decide) rfl (fun w h' z' q9 => ?_)
  obtain ⟨rfl, rfl, rfl⟩ := q9
  refine s_if_eq (nx := 7) hO rfl rfl (fun c => absurd c (by decide)) (fun c => ?_)
  refine s_aload_n (nx := 8) hO rfl rfl rfl ?_
  refine s_getX (nx := 11) hq.2.2.1 hO rfl (List.mem_cons_of_mem _ (ir6 _ (List.mem_of_getElem? (i := 16) rfl))) rfl ?_
  refine s_iload_n (nx := 12) hO rfl rfl rfl ?_
  refine s_callS [.ref v, .int (nI i)] (nx := 15) hO rfl kJ0_charAt_5068e_495 (c_J1_charAt hW hcl hJ hq hi) rfl rfl (by decide) (by decide) (by decide) rfl (fun w h' z' q9 => ?_)
  obtain ⟨rfl, rfl, rfl⟩ := q9
  refine s_iret hO rfl rfl ?_ ⟨rfl, rfl, rfl⟩
  rw [ek]
  exact (y_chr k hk).2
end XStrC

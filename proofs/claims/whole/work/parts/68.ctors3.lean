/-! ===== constructors of the rest, 2 ===== -/
def wlT (v : Int64) (c : Int32) : Int64 := (v <<< (((nI 5)).toInt64 &&& 63)) ||| (((c - (nI 97)) + 1)).toInt64
set_option maxRecDepth 100000 in
set_option maxHeartbeats 4000000 in
theorem c_X8_wl {G : xG} (hW : xW G) (hcl : q_cl G = vwCl) {h : xH} {z : Nat} {v1 : Int64} {v2 : Int32} : xC G mX8_withLetter [.long v1, .int v2] h z 0 0 (fun w h' z' => z' = z ∧ h' = h ∧ w = some (.long (wlT v1 v2))) := by
  have hO : xO G mX8_withLetter tbX8_withLetter ptX8_withLetter := ⟨tkX8_withLetter, pkX8_withLetter hcl⟩
  refine xC.of hW (by decide) rfl (Nat.le_of_ble_eq_true rfl) ?_
  refine s_lload_n (nx := 1) hO rfl rfl rfl ?_
  refine s_iconst (x := (nI 5)) (nx := 2) hO rfl (by decide) rfl ?_
  refine s_lshl (nx := 3) hO rfl rfl ?_
  refine s_iload_n (nx := 4) hO rfl rfl rfl ?_
  refine s_bipush (x := (nI 97)) (nx := 6) hO rfl (by decide) rfl ?_
  refine s_isub (nx := 7) hO rfl rfl ?_
  refine s_iconst (x := 1) (nx := 8) hO rfl (by decide) rfl ?_
  refine s_iadd (nx := 9) hO rfl rfl ?_
  refine s_i2l (nx := 10) hO rfl rfl ?_
  refine s_lor (nx := 11) hO rfl rfl ?_
  exact s_lret hO rfl rfl ⟨rfl, rfl, rfl⟩
def tkF : Nat → Nat × (Nat → Int64)
  | 0 => (0, fun _ => 0)
  | k + 1 => if y_w25.getD k 0 = nI 32 then ((tkF k).1 + 1, (tkF k).2) else ((tkF k).1, vp_updL (tkF k).2 (tkF k).1 (wlT ((tkF k).2 (tkF k).1) (y_w25.getD k 0)))
theorem tkF_lt : ∀ k, k < 57 → (tkF k).1 < 12 := by
  intro k hk
  have : ∀ k ∈ List.range 57, (tkF k).1 < 12 := by decide +kernel
  exact this k (List.mem_range.mpr hk)
theorem tkF_ok : ∀ w, w < 12 → (tkF 57).2 w = Int64.ofInt (cN 32 0 (wdL.getD w [])) := by
  intro w hw
  have : ∀ w ∈ List.range 12, (tkF 57).2 w = Int64.ofInt (cN 32 0 (wdL.getD w [])) := by decide +kernel
  exact this w (List.mem_range.mpr hw)
def vX8 (h : xH) (z a : Nat) (g : Nat → Int64) : xH := va_up (x_adds h z [.inl (.int, 8193, .inl (fun _ => 0)), .inl (.int, 8193, .inl (fun _ => 0)), .inl (.long, 8193, .inr (.inl (fun _ => 0))), .inl (.long, 12, .inr (.inl g))]) a (some (.inr (8, [.ref z, .ref (z + 1), .ref (z + 2), .int 0, .ref (z + 3)])))
section LX8
variable {h : xH} {z a : Nat} {g : Nat → Int64}
theorem vX8_o : vX8 h z a g a = some (.inr (8, [.ref z, .ref (z + 1), .ref (z + 2), .int 0, .ref (z + 3)])) := va_up_self _ _ _
theorem vX8_1 (ha : a < z) : vX8 h z a g (z + 3) = some (.inl (.long, 12, .inr (.inl g))) := g_rdA (i := 3) ha rfl
theorem vX8_u1 (ha : a < z) {g' : Nat → Int64} : va_up (vX8 h z a g) (z + 3) (some (.inl (.long, 12, .inr (.inl g')))) = vX8 h z a g' := g_upA (i := 3) ha (Nat.le_of_ble_eq_true rfl)
end LX8
set_option maxRecDepth 100000 in
set_option maxHeartbeats 8000000 in
theorem l_X8 {G : xG} (hW : xW G) (hcl : q_cl G = vwCl) (hJ : y_J G) {qT vT : Nat} (hR : ∀ (U : State) (H : Heap), q_X G U H → vk_R "GuardForge$Tokens" 25 "counter node up zero go arg count not any less same more " qT U) (hq : y_S G qT vT y_w25) {h : xH} {z z1 a kc ks : Nat} {Q : xQ} (haz : a < z) (hO : xO G mX8_init tbX8_init ptX8_init) (hQ : Q none (vX8 h z a (tkF 57).2) z1) : ∀ (r k : Nat), k + r = 57 → xEx G mX8_init 49 [(3, .int (nI k)), (2, .int (nI 57)), (1, .int (nI (tkF k).1)), (0, .ref a)] [] (vX8 h z a (tkF k).2) z1 kc ks Q := by
  intro r
  induction r with
  | zero =>
    intro k hk
    obtain rfl : k = 57 := by omega
    refine s_iload_n (nx := 50) hO rfl rfl rfl ?_
    refine s_iload_n (nx := 51) hO rfl rfl rfl ?_
    refine s_icmp_ge (nx := 54) hO rfl rfl (fun c => ?_) (fun c => absurd (by decide) c)
    exact s_vret hO rfl rfl hQ
  | succ r ih =>
    intro k hk
    have hk57 : k < 57 := by omega
    have hw := tkF_lt k hk57
    have K := ih (k + 1) (by omega)
    have hst : tkF (k + 1) = if y_w25.getD k 0 = nI 32 then ((tkF k).1 + 1, (tkF k).2) else ((tkF k).1, vp_updL (tkF k).2 (tkF k).1 (wlT ((tkF k).2 (tkF k).1) (y_w25.getD k 0))) := rfl
    rw [hst] at K
    clear hst
    generalize tkF k = p at *
    refine s_iload_n (nx := 50) hO rfl rfl rfl ?_
    refine s_iload_n (nx := 51) hO rfl rfl rfl ?_
    refine s_icmp_ge (nx := 54) hO rfl rfl (fun c => absurd c (nI_ge (by omega) (by decide))) (fun c => ?_)
    refine s_iload_n (nx := 55) hO rfl rfl rfl ?_
    refine s_bipush (x := nI 12) (nx := 57) hO rfl (by decide) rfl ?_
    refine s_icmp_ge (nx := 60) hO rfl rfl (fun c => absurd c (nI_ge (by omega) (by decide))) (fun c => ?_)
    refine s_ldcS (nx := 62) hR hO rfl rfl ?_
    refine s_iload_n (nx := 63) hO rfl rfl rfl ?_
    refine s_callX [.int (nI k)] (nx := 66) hq.1 hO rfl kX8_init_33 (c_J0_charAt hW hcl hJ hq (i := k) hk57) rfl rfl (Nat.le_of_ble_eq_true rfl) (Nat.zero_le _) (Nat.zero_le _) rfl (fun v9 h9 z9 q9 => ?_)
    obtain ⟨rfl, rfl, rfl⟩ := q9
    refine s_istore (nx := 68) (l' := [(4, _), (3, _), (2, _), (1, _), (0, _)]) hO rfl (by decide) rfl rfl ?_
    refine s_iload (nx := 70) hO rfl rfl rfl ?_
    refine s_bipush (x := nI 32) (nx := 72) hO rfl (by decide) rfl ?_
    refine s_icmp_ne (nx := 75) hO rfl rfl (fun c72 => ?_) (fun c72 => ?_)
    · rw [if_neg c72] at K
      refine s_aload_n (nx := 82) hO rfl rfl rfl ?_
      refine s_getf (nx := 85) hO rfl rfl vX8_o rfl rfl ?_
      refine s_iload_n (nx := 86) hO rfl rfl rfl ?_
      refine s_aload_n (nx := 87) hO rfl rfl rfl ?_
      refine s_getf (nx := 90) hO rfl rfl vX8_o rfl rfl ?_
      refine s_iload_n (nx := 91) hO rfl rfl rfl ?_
      refine s_lald (nx := 92) hO rfl (vX8_1 haz) (vp_in_nI (by omega) (by decide)) rfl ?_
      rw [nI_clamp (show p.1 < 2 ^ 31 by omega)]
      refine s_iload (nx := 94) hO rfl rfl rfl ?_
      refine s_callS [.long (p.2 p.1), .int (y_w25.getD k 0)] (nx := 97) hO rfl kX8_init_37 (c_X8_wl hW hcl) rfl rfl (Nat.le_of_ble_eq_true rfl) (Nat.zero_le _) (Nat.zero_le _) rfl (fun v9 h9 z9 q9 => ?_)
      obtain ⟨rfl, rfl, rfl⟩ := q9
      refine s_last (nx := 98) hO rfl (vX8_1 haz) (vp_in_nI (by omega) (by decide)) rfl ?_
      rw [nI_clamp (show p.1 < 2 ^ 31 by omega), vX8_u1 haz]
      refine s_iinc (nx := 101) (y := nI (k + 1)) (l' := [(3, _), (4, _), (2, _), (1, _), (0, _)]) hO rfl (by decide) rfl (nI_succ k).symm rfl rfl ?_
      refine s_goto hO rfl ?_
      exact xEx.loc (fun q hq => by
        simp only [List.mem_cons, List.not_mem_nil, or_false] at hq ⊢
        rcases hq with rfl | rfl | rfl | rfl
        · exact Or.inl rfl
        · exact Or.inr (Or.inr (Or.inl rfl))
        · exact Or.inr (Or.inr (Or.inr (Or.inl rfl)))
        · exact Or.inr (Or.inr (Or.inr (Or.inr rfl)))) K
    · rw [if_pos c72] at K
      refine s_iinc (nx := 78) (y := nI (p.1 + 1)) (l' := [(1, _), (4, _), (3, _), (2, _), (0, _)]) hO rfl (by decide) rfl (nI_succ p.1).symm rfl rfl ?_
      refine s_goto hO rfl ?_
      refine s_iinc (nx := 101) (y := nI (k + 1)) (l' := [(3, _), (1, _), (4, _), (2, _), (0, _)]) hO rfl (by decide) rfl (nI_succ k).symm rfl rfl ?_
      refine s_goto hO rfl ?_
      exact xEx.loc (fun q hq => by
        simp only [List.mem_cons, List.not_mem_nil, or_false] at hq ⊢
        rcases hq with rfl | rfl | rfl | rfl
        · exact Or.inl rfl
        · exact Or.inr (Or.inr (Or.inr (Or.inl rfl)))
        · exact Or.inr (Or.inl rfl)
        · exact Or.inr (Or.inr (Or.inr (Or.inr rfl)))) K
set_option maxRecDepth 100000 in
set_option maxHeartbeats 8000000 in
/-- GuardForge$Tokens() -/
theorem c_X8_init {G : xG} (hS : xStart G) {h : xH} {z a : Nat} (haz : a < z) (ha : h a = some (.inr (8, [.null, .null, .null, .int 0, .null]))) :
    xC G mX8_init [.ref a] h z 4 24591 (fun v h' z' => v = none ∧ z' = z + 4 ∧ h' = va_up (x_adds h z [.inl (.int, 8193, .inl (fun _ => 0)), .inl (.int, 8193, .inl (fun _ => 0)), .inl (.long, 8193, .inr (.inl (fun _ => 0))), .inl (.long, 12, .inr (.inl (tkF 57).2))]) a (some (.inr (8, [.ref z, .ref (z + 1), .ref (z + 2), .int 0, .ref (z + 3)])))) := by
  have hW := hS.1.1
  have hcl := hS.1.2.1
  have hty := hS.1.2.2.1
  obtain ⟨qT, vT, qM, vM, ⟨hR, hq⟩, -⟩ := hS.2.2
  have hJ := hS.1.2.2.2.2.1
  have hO : xO G mX8_init tbX8_init ptX8_init := ⟨tkX8_init, pkX8_init hcl⟩
  refine xC.of hW (by decide) rfl (Nat.le_of_ble_eq_true rfl) ?_
  refine s_aload_n (nx := 1) hO rfl rfl rfl ?_
  refine s_obj (nx := 4) hO rfl (List.mem_cons_of_mem _ (ir6 _ (List.mem_of_getElem? (i := 6) rfl))) (List.mem_cons_of_mem _ (ir1 _ (List.mem_of_getElem? (i := 11) rfl))) (List.mem_cons_of_mem _ (ir1 _ (List.mem_of_getElem? (i := 12) rfl))) (by decide) (by decide) rfl ?_
  refine x_start ha ?_
  refine s_aload_n (nx := 5) hO rfl rfl rfl ?_
  refine s_sipush (x := nI 8193) (nx := 8) hO rfl (by decide) rfl ?_
  refine g_arrI (nx := 13) hO rfl rfl rfl (Nat.le_of_ble_eq_true rfl) (Nat.le_of_ble_eq_true rfl) (Nat.le_of_ble_eq_true rfl) (Nat.le_of_ble_eq_true rfl) (by rw [hty]; rfl) (by rw [hty]; rfl) haz rfl rfl ?_
  refine s_aload_n (nx := 14) hO rfl rfl rfl ?_
  refine s_sipush (x := nI 8193) (nx := 17) hO rfl (by decide) rfl ?_
  refine g_arrI (nx := 22) hO rfl rfl rfl (Nat.le_of_ble_eq_true rfl) (Nat.le_of_ble_eq_true rfl) (Nat.le_of_ble_eq_true rfl) (Nat.le_of_ble_eq_true rfl) (by rw [hty]; rfl) (by rw [hty]; rfl) haz rfl rfl ?_
  refine s_aload_n (nx := 23) hO rfl rfl rfl ?_
  refine s_sipush (x := nI 8193) (nx := 26) hO rfl (by decide) rfl ?_
  refine g_arrJ (nx := 31) hO rfl rfl rfl (Nat.le_of_ble_eq_true rfl) (Nat.le_of_ble_eq_true rfl) (Nat.le_of_ble_eq_true rfl) (Nat.le_of_ble_eq_true rfl) (by rw [hty]; rfl) (by rw [hty]; rfl) haz rfl rfl ?_
  refine s_aload_n (nx := 32) hO rfl rfl rfl ?_
  refine s_bipush (x := nI 12) (nx := 34) hO rfl (by decide) rfl ?_
  refine g_arrJ (nx := 39) hO rfl rfl rfl (Nat.le_of_ble_eq_true rfl) (Nat.le_of_ble_eq_true rfl) (Nat.le_of_ble_eq_true rfl) (Nat.le_of_ble_eq_true rfl) (by rw [hty]; rfl) (by rw [hty]; rfl) haz rfl rfl ?_
  refine s_iconst (x := 0) (nx := 40) hO rfl (by decide) rfl ?_
  refine s_istore_n (nx := 41) (l' := [(1, _), (0, _)]) hO rfl (by decide) rfl rfl ?_
  refine s_ldcS (nx := 43) hR hO rfl rfl ?_
  refine s_callX [] (nx := 46) hq.1 hO rfl kX8_init_27 (c_J0_length hW hcl hJ hq) rfl rfl (Nat.le_of_ble_eq_true rfl) (Nat.zero_le _) (Nat.zero_le _) rfl (fun v9 h9 z9 q9 => ?_)
  obtain ⟨rfl, rfl, rfl⟩ := q9
  refine s_istore_n (nx := 47) (l' := [(2, _), (1, _), (0, _)]) hO rfl (by decide) rfl rfl ?_
  refine s_iconst (x := 0) (nx := 48) hO rfl (by decide) rfl ?_
  refine s_istore_n (nx := 49) (l' := [(3, _), (2, _), (1, _), (0, _)]) hO rfl (by decide) rfl rfl ?_
  exact l_X8 hW hcl hJ hR hq haz hO ⟨rfl, rfl, rfl⟩ 57 0 rfl
set_option maxRecDepth 100000 in
set_option maxHeartbeats 8000000 in
/-- GuardForge$Machine() -/
theorem c_X2_init {G : xG} (hS : xStart G) {h : xH} {z a : Nat} (haz : a < z) (ha : h a = some (.inr (2, [.null, .null, .int 0, .null, .null, .null, .null, .null, .null, .null, .null, .null, .null, .int 0, .int 0, .int 0, .int 0, .int 0]))) :
    xC G mX2_init [.ref a] h z 12 6898 (fun v h' z' => v = none ∧ z' = z + 12 ∧ h' = va_up (x_adds h z [.inl (.int, 8, .inl (upd (fun _ => 0) 0 (-1))), .inr (10, [.int 0, .ref (z + 2), .ref (z + 3)]), .inl (.int, 6, .inl (fun _ => 0)), .inl (.int, 9, .inl (fun _ => 0)), .inl (.int, 256, .inl (fun _ => 0)), .inl (.int, 1280, .inl (fun _ => 0)), .inl (.int, 4096, .inl (fun _ => 0)), .inl (.int, 640, .inl (fun _ => 0)), .inl (.int, 480, .inl (fun _ => 0)), .inl (.int, 40, .inl (fun _ => 0)), .inl (.int, 40, .inl (fun _ => 0)), .inl (.int, 40, .inl (fun _ => 0))]) a (some (.inr (2, [.ref z, .ref (z + 1), .int 0, .ref (z + 4), .ref (z + 5), .ref (z + 6), .ref (z + 7), .ref (z + 8), .ref (z + 9), .ref (z + 10), .ref (z + 11), .null, .null, .int 0, .int 0, .int 0, .int 0, .int 0])))) := by
  have hW := hS.1.1
  have hcl := hS.1.2.1
  have hty := hS.1.2.2.1
  have hO : xO G mX2_init tbX2_init ptX2_init := ⟨tkX2_init, pkX2_init hcl⟩
  refine xC.of hW (by decide) rfl (Nat.le_of_ble_eq_true rfl) ?_
  refine s_aload_n (nx := 1) hO rfl rfl rfl ?_
  refine s_obj (nx := 4) hO rfl (List.mem_cons_of_mem _ (ir10 _ (List.mem_of_getElem? (i := 3) rfl))) (List.mem_cons_of_mem _ (ir1 _ (List.mem_of_getElem? (i := 11) rfl))) (List.mem_cons_of_mem _ (ir1 _ (List.mem_of_getElem? (i := 12) rfl))) (by decide) (by decide) rfl ?_
  refine x_start ha ?_
  refine s_aload_n (nx := 5) hO rfl rfl rfl ?_
  refine s_bipush (x := nI 8) (nx := 7) hO rfl (by decide) rfl ?_
  refine g_arrI (nx := 12) hO rfl rfl rfl (Nat.le_of_ble_eq_true rfl) (Nat.le_of_ble_eq_true rfl) (Nat.le_of_ble_eq_true rfl) (Nat.le_of_ble_eq_true rfl) (by rw [hty]; rfl) (by rw [hty]; rfl) haz rfl rfl ?_
  refine s_aload_n (nx := 13) hO rfl rfl rfl ?_
  refine s_new (nx := 16) (fs := [.int 0, .null, .null]) hO rfl rfl (by rw [hcl]; rfl) (Nat.le_of_ble_eq_true rfl) (Nat.le_of_ble_eq_true rfl) (fun j hj => by
      rw [hty]
      match j, hj with
      | 0, _ => rfl
      | 1, _ => rfl
      | 2, _ => rfl
      | k + 3, hk => exact absurd hk (by omega)) rfl ?_
  refine s_dup (nx := 17) hO rfl rfl rfl ?_
  refine s_callN [] (nx := 20) (host := "GuardForge") hO rfl kX2_init_17 (fun U H hX => hS.2.1 U H hX _ (List.mem_of_getElem? (i := 5) rfl)) (c_X10_init hW hcl hty (Nat.lt_succ_self _) (va_up_self _ _ _)) rfl rfl (Nat.le_of_ble_eq_true rfl) (Nat.le_of_ble_eq_true rfl) (Nat.le_of_ble_eq_true rfl) rfl (fun v9 h9 z9 q9 => ?_)
  obtain ⟨rfl, rfl, rfl⟩ := q9
  refine g_nestK haz rfl ?_
  refine g_put (nx := 23) hO rfl rfl (Nat.le_of_ble_eq_true rfl) (by rw [hty]; rfl) (by rw [hty]; rfl) rfl ?_
  refine s_aload_n (nx := 24) hO rfl rfl rfl ?_
  refine s_sipush (x := nI 256) (nx := 27) hO rfl (by decide) rfl ?_
  refine g_arrI (nx := 32) hO rfl rfl rfl (Nat.le_of_ble_eq_true rfl) (Nat.le_of_ble_eq_true rfl) (Nat.le_of_ble_eq_true rfl) (Nat.le_of_ble_eq_true rfl) (by rw [hty]; rfl) (by rw [hty]; rfl) haz rfl rfl ?_
  refine s_aload_n (nx := 33) hO rfl rfl rfl ?_
  refine s_sipush (x := nI 1280) (nx := 36) hO rfl (by decide) rfl ?_
  refine g_arrI (nx := 41) hO rfl rfl rfl (Nat.le_of_ble_eq_true rfl) (Nat.le_of_ble_eq_true rfl) (Nat.le_of_ble_eq_true rfl) (Nat.le_of_ble_eq_true rfl) (by rw [hty]; rfl) (by rw [hty]; rfl) haz rfl rfl ?_
  refine s_aload_n (nx := 42) hO rfl rfl rfl ?_
  refine s_sipush (x := nI 4096) (nx := 45) hO rfl (by decide) rfl ?_
  refine g_arrI (nx := 50) hO rfl rfl rfl (Nat.le_of_ble_eq_true rfl) (Nat.le_of_ble_eq_true rfl) (Nat.le_of_ble_eq_true rfl) (Nat.le_of_ble_eq_true rfl) (by rw [hty]; rfl) (by rw [hty]; rfl) haz rfl rfl ?_
  refine s_aload_n (nx := 51) hO rfl rfl rfl ?_
  refine s_sipush (x := nI 640) (nx := 54) hO rfl (by decide) rfl ?_
  refine g_arrI (nx := 59) hO rfl rfl rfl (Nat.le_of_ble_eq_true rfl) (Nat.le_of_ble_eq_true rfl) (Nat.le_of_ble_eq_true rfl) (Nat.le_of_ble_eq_true rfl) (by rw [hty]; rfl) (by rw [hty]; rfl) haz rfl rfl ?_
  refine s_aload_n (nx := 60) hO rfl rfl rfl ?_
  refine s_sipush (x := nI 480) (nx := 63) hO rfl (by decide) rfl ?_
  refine g_arrI (nx := 68) hO rfl rfl rfl (Nat.le_of_ble_eq_true rfl) (Nat.le_of_ble_eq_true rfl) (Nat.le_of_ble_eq_true rfl) (Nat.le_of_ble_eq_true rfl) (by rw [hty]; rfl) (by rw [hty]; rfl) haz rfl rfl ?_
  refine s_aload_n (nx := 69) hO rfl rfl rfl ?_
  refine s_bipush (x := nI 40) (nx := 71) hO rfl (by decide) rfl ?_
  refine g_arrI (nx := 76) hO rfl rfl rfl (Nat.le_of_ble_eq_true rfl) (Nat.le_of_ble_eq_true rfl) (Nat.le_of_ble_eq_true rfl) (Nat.le_of_ble_eq_true rfl) (by rw [hty]; rfl) (by rw [hty]; rfl) haz rfl rfl ?_
  refine s_aload_n (nx := 77) hO rfl rfl rfl ?_
  refine s_bipush (x := nI 40) (nx := 79) hO rfl (by decide) rfl ?_
  refine g_arrI (nx := 84) hO rfl rfl rfl (Nat.le_of_ble_eq_true rfl) (Nat.le_of_ble_eq_true rfl) (Nat.le_of_ble_eq_true rfl) (Nat.le_of_ble_eq_true rfl) (by rw [hty]; rfl) (by rw [hty]; rfl) haz rfl rfl ?_
  refine s_aload_n (nx := 85) hO rfl rfl rfl ?_
  refine s_bipush (x := nI 40) (nx := 87) hO rfl (by decide) rfl ?_
  refine g_arrI (nx := 92) hO rfl rfl rfl (Nat.le_of_ble_eq_true rfl) (Nat.le_of_ble_eq_true rfl) (Nat.le_of_ble_eq_true rfl) (Nat.le_of_ble_eq_true rfl) (by rw [hty]; rfl) (by rw [hty]; rfl) haz rfl rfl ?_
  refine s_aload_n (nx := 93) hO rfl rfl rfl ?_
  refine s_getf (nx := 96) hO rfl rfl (va_up_self _ _ _) rfl rfl ?_
  refine s_iconst (x := 0) (nx := 97) hO rfl (by decide) rfl ?_
  refine s_iconst (x := -1) (nx := 98) hO rfl (by decide) rfl ?_
  refine s_iast (nx := 99) hO rfl (g_rdA (i := 0) haz rfl) (show vp_in (nI 0) 8 from vp_in_nI (by omega) (by decide)) rfl ?_
  refine Eq.mpr (congrArg (fun hh => xEx G mX2_init 99 _ _ hh _ _ _ _) (g_upA (i := 0) haz (Nat.le_of_ble_eq_true rfl))) ?_
  exact s_vret hO rfl rfl ⟨rfl, rfl, rfl⟩
set_option maxRecDepth 100000 in
set_option maxHeartbeats 8000000 in
/-- GuardForge$PolicyReader() -/
theorem c_X4_init {G : xG} (hS : xStart G) {h : xH} {z a : Nat} (haz : a < z) (ha : h a = some (.inr (4, [.int 0, .int 0, .int 0, .int 0, .null, .null, .null, .null, .null, .null, .null, .null]))) :
    xC G mX4_init [.ref a] h z 11 26786 (fun v h' z' => v = none ∧ z' = z + 11 ∧ h' = va_up (x_adds h z [.inr (8, [.ref (z + 1), .ref (z + 2), .ref (z + 3), .int 0, .ref (z + 4)]), .inl (.int, 8193, .inl (fun _ => 0)), .inl (.int, 8193, .inl (fun _ => 0)), .inl (.long, 8193, .inr (.inl (fun _ => 0))), .inl (.long, 12, .inr (.inl (tkF 57).2)), .inl (.long, 6, .inr (.inl (fun _ => 0))), .inl (.long, 24, .inr (.inl (fun _ => 0))), .inl (.long, 216, .inr (.inl (fun _ => 0))), .inl (.int, 216, .inl (fun _ => 0)), .inl (.long, 864, .inr (.inl (fun _ => 0))), .inl (.int, 864, .inl (fun _ => 0))]) a (some (.inr (4, [.int 0, .int 0, .int 0, .int 0, .null, .ref z, .ref (z + 5), .ref (z + 6), .ref (z + 7), .ref (z + 8), .ref (z + 9), .ref (z + 10)])))) := by
  have hW := hS.1.1
  have hcl := hS.1.2.1
  have hty := hS.1.2.2.1
  have hO : xO G mX4_init tbX4_init ptX4_init := ⟨tkX4_init, pkX4_init hcl⟩
  refine xC.of hW (by decide) rfl (Nat.le_of_ble_eq_true rfl) ?_
  refine s_aload_n (nx := 1) hO rfl rfl rfl ?_
  refine s_obj (nx := 4) hO rfl (List.mem_cons_of_mem _ (ir5 _ (List.mem_of_getElem? (i := 16) rfl))) (List.mem_cons_of_mem _ (ir1 _ (List.mem_of_getElem? (i := 11) rfl))) (List.mem_cons_of_mem _ (ir1 _ (List.mem_of_getElem? (i := 12) rfl))) (by decide) (by decide) rfl ?_
  refine x_start ha ?_
  refine s_aload_n (nx := 5) hO rfl rfl rfl ?_
  refine s_new (nx := 8) (fs := [.null, .null, .null, .int 0, .null]) hO rfl rfl (by rw [hcl]; rfl) (Nat.le_of_ble_eq_true rfl) (Nat.le_of_ble_eq_true rfl) (fun j hj => by
      rw [hty]
      match j, hj with
      | 0, _ => rfl
      | 1, _ => rfl
      | 2, _ => rfl
      | 3, _ => rfl
      | 4, _ => rfl
      | k + 5, hk => exact absurd hk (by omega)) rfl ?_
  refine s_dup (nx := 9) hO rfl rfl rfl ?_
  refine s_callI [] (nx := 12) hO rfl kX4_init_11 (c_X8_init hS (Nat.lt_succ_self _) (va_up_self _ _ _)) rfl rfl (Nat.le_of_ble_eq_true rfl) (Nat.le_of_ble_eq_true rfl) (Nat.le_of_ble_eq_true rfl) rfl (fun v9 h9 z9 q9 => ?_)
  obtain ⟨rfl, rfl, rfl⟩ := q9
  refine g_nestK haz rfl ?_
  refine g_put (nx := 15) hO rfl rfl (Nat.le_of_ble_eq_true rfl) (by rw [hty]; rfl) (by rw [hty]; rfl) rfl ?_
  refine s_aload_n (nx := 16) hO rfl rfl rfl ?_
  refine s_bipush (x := nI 6) (nx := 18) hO rfl (by decide) rfl ?_
  refine g_arrJ (nx := 23) hO rfl rfl rfl (Nat.le_of_ble_eq_true rfl) (Nat.le_of_ble_eq_true rfl) (Nat.le_of_ble_eq_true rfl) (Nat.le_of_ble_eq_true rfl) (by rw [hty]; rfl) (by rw [hty]; rfl) haz rfl rfl ?_
  refine s_aload_n (nx := 24) hO rfl rfl rfl ?_
  refine s_bipush (x := nI 24) (nx := 26) hO rfl (by decide) rfl ?_
  refine g_arrJ (nx := 31) hO rfl rfl rfl (Nat.le_of_ble_eq_true rfl) (Nat.le_of_ble_eq_true rfl) (Nat.le_of_ble_eq_true rfl) (Nat.le_of_ble_eq_true rfl) (by rw [hty]; rfl) (by rw [hty]; rfl) haz rfl rfl ?_
  refine s_aload_n (nx := 32) hO rfl rfl rfl ?_
  refine s_sipush (x := nI 216) (nx := 35) hO rfl (by decide) rfl ?_
  refine g_arrJ (nx := 40) hO rfl rfl rfl (Nat.le_of_ble_eq_true rfl) (Nat.le_of_ble_eq_true rfl) (Nat.le_of_ble_eq_true rfl) (Nat.le_of_ble_eq_true rfl) (by rw [hty]; rfl) (by rw [hty]; rfl) haz rfl rfl ?_
  refine s_aload_n (nx := 41) hO rfl rfl rfl ?_
  refine s_sipush (x := nI 216) (nx := 44) hO rfl (by decide) rfl ?_
  refine g_arrI (nx := 49) hO rfl rfl rfl (Nat.le_of_ble_eq_true rfl) (Nat.le_of_ble_eq_true rfl) (Nat.le_of_ble_eq_true rfl) (Nat.le_of_ble_eq_true rfl) (by rw [hty]; rfl) (by rw [hty]; rfl) haz rfl rfl ?_
  refine s_aload_n (nx := 50) hO rfl rfl rfl ?_
  refine s_sipush (x := nI 864) (nx := 53) hO rfl (by decide) rfl ?_
  refine g_arrJ (nx := 58) hO rfl rfl rfl (Nat.le_of_ble_eq_true rfl) (Nat.le_of_ble_eq_true rfl) (Nat.le_of_ble_eq_true rfl) (Nat.le_of_ble_eq_true rfl) (by rw [hty]; rfl) (by rw [hty]; rfl) haz rfl rfl ?_
  refine s_aload_n (nx := 59) hO rfl rfl rfl ?_
  refine s_sipush (x := nI 864) (nx := 62) hO rfl (by decide) rfl ?_
  refine g_arrI (nx := 67) hO rfl rfl rfl (Nat.le_of_ble_eq_true rfl) (Nat.le_of_ble_eq_true rfl) (Nat.le_of_ble_eq_true rfl) (Nat.le_of_ble_eq_true rfl) (by rw [hty]; rfl) (by rw [hty]; rfl) haz rfl rfl ?_
  exact s_vret hO rfl rfl ⟨rfl, rfl, rfl⟩
set_option maxRecDepth 100000 in
set_option maxHeartbeats 8000000 in
/-- GuardForge() -/
theorem c_X11_init {G : xG} (hS : xStart G) {h : xH} {z a : Nat} (haz : a < z) (ha : h a = some (.inr (11, [.null, .null, .int 0, .int 0, .int 0, .int 0, .null, .null, .null, .null, .null, .int 0, .int 0, .null, .null, .null, .null, .null, .null, .null]))) :
    xC G mX11_init [.ref a] h z 138 279646 (fun v h' z' => v = none ∧ z' = z + 138 ∧ h' = va_up (x_adds h z [.inl (.byte, 8192, .inl (fun _ => 0)), .inl (.byte, 8192, .inl (fun _ => 0)), .inr (3, [.int 0, .int 1, .int 1, .int 1, .int 0, .int 0, .int 0, .ref (z + 3), .ref (z + 4), .ref (z + 5), .ref (z + 6), .ref (z + 7), .ref (z + 8), .ref (z + 9), .ref (z + 10), .ref (z + 11), .ref (z + 12), .ref (z + 16), .ref (z + 17), .ref (z + 18)]), .inl (.int, 6, .inl (fun _ => 0)), .inl (.int, 31, .inl (fun _ => 0)), .inl (.int, 216, .inl (fun _ => 0)), .inl (.int, 216, .inl (fun _ => 0)), .inl (.int, 217, .inl (fun _ => 0)), .inl (.int, 864, .inl (fun _ => 0)), .inl (.int, 864, .inl (fun _ => 0)), .inl (.int, 864, .inl (fun _ => 0)), .inl (.boolean, 864, .inl (fun _ => 0)), .inr (1, [.ref (z + 13), .ref (z + 14), .ref (z + 15)]), .inl (.int, 1168, .inl (fL1 144)), .inl (.int, 145, .inl (fL2 144)), .inl (.int, 17, .inl (fL2 16)), .inl (.int, 32256, .inl (fun _ => 0)), .inl (.long, 1008, .inr (.inl (gP1 16))), .inl (.long, 16, .inr (.inl (gP2 16))), .inr (3, [.int 0, .int 1, .int 1, .int 1, .int 0, .int 0, .int 0, .ref (z + 20), .ref (z + 21), .ref (z + 22), .ref (z + 23), .ref (z + 24), .ref (z + 25), .ref (z + 26), .ref (z + 27), .ref (z + 28), .ref (z + 29), .ref (z + 33), .ref (z + 34), .ref (z + 35)]), .inl (.int, 6, .inl (fun _ => 0)), .inl (.int, 31, .inl (fun _ => 0)), .inl (.int, 216, .inl (fun _ => 0)), .inl (.int, 216, .inl (fun _ => 0)), .inl (.int, 217, .inl (fun _ => 0)), .inl (.int, 864, .inl (fun _ => 0)), .inl (.int, 864, .inl (fun _ => 0)), .inl (.int, 864, .inl (fun _ => 0)), .inl (.boolean, 864, .inl (fun _ => 0)), .inr (1, [.ref (z + 30), .ref (z + 31), .ref (z + 32)]), .inl (.int, 1168, .inl (fL1 144)), .inl (.int, 145, .inl (fL2 144)), .inl (.int, 17, .inl (fL2 16)), .inl (.int, 32256, .inl (fun _ => 0)), .inl (.long, 1008, .inr (.inl (gP1 16))), .inl (.long, 16, .inr (.inl (gP2 16))), .inr (5, [.int 0, .ref (z + 37), .ref (z + 38), .ref (z + 39), .ref (z + 40), .ref (z + 41), .ref (z + 42), .ref (z + 43), .ref (z + 44), .ref (z + 45), .ref (z + 46), .ref (z + 47), .ref (z + 48), .int 0, .ref (z + 49), .ref (z + 50), .ref (z + 51), .ref (z + 52), .ref (z + 53)]), .inl (.int, 12, .inl (fun _ => 0)), .inl (.int, 12, .inl (fun _ => 0)), .inl (.int, 12, .inl (fun _ => 0)), .inl (.int, 12, .inl (fun _ => 0)), .inl (.int, 12, .inl (fun _ => 0)), .inl (.int, 12, .inl (fun _ => 0)), .inl (.int, 4800, .inl (fun _ => 0)), .inl (.int, 4800, .inl (fun _ => 0)), .inl (.int, 4800, .inl (fun _ => 0)), .inl (.int, 4800, .inl (fun _ => 0)), .inl (.boolean, 4800, .inl (fun _ => 0)), .inl (.long, 4800, .inr (.inl (fun _ => 0))), .inl (.int, 72, .inl (fun _ => 0)), .inl (.int, 72, .inl (fun _ => 0)), .inl (.int, 72, .inl (fun _ => 0)), .inl (.boolean, 72, .inl (fun _ => 0)), .inl (.int, 72, .inl (fun _ => 0)), .inr (5, [.int 0, .ref (z + 55), .ref (z + 56), .ref (z + 57), .ref (z + 58), .ref (z + 59), .ref (z + 60), .ref (z + 61), .ref (z + 62), .ref (z + 63), .ref (z + 64), .ref (z + 65), .ref (z + 66), .int 0, .ref (z + 67), .ref (z + 68), .ref (z + 69), .ref (z + 70), .ref (z + 71)]), .inl (.int, 12, .inl (fun _ => 0)), .inl (.int, 12, .inl (fun _ => 0)), .inl (.int, 12, .inl (fun _ => 0)), .inl (.int, 12, .inl (fun _ => 0)), .inl (.int, 12, .inl (fun _ => 0)), .inl (.int, 12, .inl (fun _ => 0)), .inl (.int, 4800, .inl (fun _ => 0)), .inl (.int, 4800, .inl (fun _ => 0)), .inl (.int, 4800, .inl (fun _ => 0)), .inl (.int, 4800, .inl (fun _ => 0)), .inl (.boolean, 4800, .inl (fun _ => 0)), .inl (.long, 4800, .inr (.inl (fun _ => 0))), .inl (.int, 72, .inl (fun _ => 0)), .inl (.int, 72, .inl (fun _ => 0)), .inl (.int, 72, .inl (fun _ => 0)), .inl (.boolean, 72, .inl (fun _ => 0)), .inl (.int, 72, .inl (fun _ => 0)), .inr (5, [.int 0, .ref (z + 73), .ref (z + 74), .ref (z + 75), .ref (z + 76), .ref (z + 77), .ref (z + 78), .ref (z + 79), .ref (z + 80), .ref (z + 81), .ref (z + 82), .ref (z + 83), .ref (z + 84), .int 0, .ref (z + 85), .ref (z + 86), .ref (z + 87), .ref (z + 88), .ref (z + 89)]), .inl (.int, 12, .inl (fun _ => 0)), .inl (.int, 12, .inl (fun _ => 0)), .inl (.int, 12, .inl (fun _ => 0)), .inl (.int, 12, .inl (fun _ => 0)), .inl (.int, 12, .inl (fun _ => 0)), .inl (.int, 12, .inl (fun _ => 0)), .inl (.int, 4800, .inl (fun _ => 0)), .inl (.int, 4800, .inl (fun _ => 0)), .inl (.int, 4800, .inl (fun _ => 0)), .inl (.int, 4800, .inl (fun _ => 0)), .inl (.boolean, 4800, .inl (fun _ => 0)), .inl (.long, 4800, .inr (.inl (fun _ => 0))), .inl (.int, 72, .inl (fun _ => 0)), .inl (.int, 72, .inl (fun _ => 0)), .inl (.int, 72, .inl (fun _ => 0)), .inl (.boolean, 72, .inl (fun _ => 0)), .inl (.int, 72, .inl (fun _ => 0)), .inr (4, [.int 0, .int 0, .int 0, .int 0, .null, .ref (z + 91), .ref (z + 96), .ref (z + 97), .ref (z + 98), .ref (z + 99), .ref (z + 100), .ref (z + 101)]), .inr (8, [.ref (z + 92), .ref (z + 93), .ref (z + 94), .int 0, .ref (z + 95)]), .inl (.int, 8193, .inl (fun _ => 0)), .inl (.int, 8193, .inl (fun _ => 0)), .inl (.long, 8193, .inr (.inl (fun _ => 0))), .inl (.long, 12, .inr (.inl (tkF 57).2)), .inl (.long, 6, .inr (.inl (fun _ => 0))), .inl (.long, 24, .inr (.inl (fun _ => 0))), .inl (.long, 216, .inr (.inl (fun _ => 0))), .inl (.int, 216, .inl (fun _ => 0)), .inl (.long, 864, .inr (.inl (fun _ => 0))), .inl (.int, 864, .inl (fun _ => 0)), .inr (7, [.null, .int 0, .int 0, .ref (z + 103), .ref (z + 104), .ref (z + 105), .ref (z + 106), .ref (z + 107), .ref (z + 108), .ref (z + 109), .ref (z + 110), .ref (z + 111)]), .inl (.int, 9, .inl (fun _ => 0)), .inl (.int, 12288, .inl (fun _ => 0)), .inl (.int, 63, .inl (fun _ => 0)), .inl (.int, 32256, .inl (fun _ => 0)), .inl (.int, 63, .inl (fun _ => 0)), .inl (.int, 63, .inl (fun _ => 0)), .inl (.int, 4096, .inl fK7), .inl (.int, 63, .inl (fun _ => 0)), .inl (.int, 63, .inl (fun _ => 0)), .inr (6, [.int 0, .int 0, .null, .int 0, .int 0, .int 0, .null]), .inr (9, [.int 0, .int 0, .null, .int 0, .int 0, .int 0, .int 0, .ref (z + 114)]), .inl (.boolean, 400, .inl (fun _ => 0)), .inr (0, [.null, .null, .ref (z + 116), .ref (z + 117), .int 0, .int 0, .ref (z + 118), .ref (z + 119), .ref (z + 120), .int 0, .ref (z + 121)]), .inl (.int, 4800, .inl (fun _ => 0)), .inl (.boolean, 4800, .inl (fun _ => 0)), .inl (.long, 12, .inr (.inl (fun _ => 0))), .inl (.long, 12, .inr (.inl (fun _ => 0))), .inl (.int, 4800, .inl (fun _ => 0)), .inl (.int, 401, .inl (fun _ => 0)), .inr (2, [.ref (z + 123), .ref (z + 124), .int 0, .ref (z + 127), .ref (z + 128), .ref (z + 129), .ref (z + 130), .ref (z + 131), .ref (z + 132), .ref (z + 133), .ref (z + 134), .null, .null, .int 0, .int 0, .int 0, .int 0, .int 0]), .inl (.int, 8, .inl (upd (fun _ => 0) 0 (-1))), .inr (10, [.int 0, .ref (z + 125), .ref (z + 126)]), .inl (.int, 6, .inl (fun _ => 0)), .inl (.int, 9, .inl (fun _ => 0)), .inl (.int, 256, .inl (fun _ => 0)), .inl (.int, 1280, .inl (fun _ => 0)), .inl (.int, 4096, .inl (fun _ => 0)), .inl (.int, 640, .inl (fun _ => 0)), .inl (.int, 480, .inl (fun _ => 0)), .inl (.int, 40, .inl (fun _ => 0)), .inl (.int, 40, .inl (fun _ => 0)), .inl (.int, 40, .inl (fun _ => 0)), .inr (10, [.int 0, .ref (z + 136), .ref (z + 137)]), .inl (.int, 6, .inl (fun _ => 0)), .inl (.int, 9, .inl (fun _ => 0))]) a (some (.inr (11, [.ref z, .ref (z + 1), .int 0, .int 0, .int 0, .int (-1), .ref (z + 2), .ref (z + 19), .ref (z + 36), .ref (z + 54), .ref (z + 72), .int 0, .int 0, .ref (z + 90), .ref (z + 102), .ref (z + 112), .ref (z + 113), .ref (z + 115), .ref (z + 122), .ref (z + 135)])))) := by
  have hW := hS.1.1
  have hcl := hS.1.2.1
  have hty := hS.1.2.2.1
  have hO : xO G mX11_init tbX11_init ptX11_init := ⟨tkX11_init, pkX11_init hcl⟩
  refine xC.of hW (by decide) rfl (Nat.le_of_ble_eq_true rfl) ?_
  refine s_aload_n (nx := 1) hO rfl rfl rfl ?_
  refine s_obj (nx := 4) hO rfl (List.mem_cons_of_mem _ (ir1 _ (List.mem_of_getElem? (i := 10) rfl))) (List.mem_cons_of_mem _ (ir1 _ (List.mem_of_getElem? (i := 11) rfl))) (List.mem_cons_of_mem _ (ir1 _ (List.mem_of_getElem? (i := 12) rfl))) (by decide) (by decide) rfl ?_
  refine x_start ha ?_
  refine s_aload_n (nx := 5) hO rfl rfl rfl ?_
  refine s_sipush (x := nI 8192) (nx := 8) hO rfl (by decide) rfl ?_
  refine g_arrB (nx := 13) hO rfl rfl rfl (Nat.le_of_ble_eq_true rfl) (Nat.le_of_ble_eq_true rfl) (Nat.le_of_ble_eq_true rfl) (Nat.le_of_ble_eq_true rfl) (by rw [hty]; rfl) (by rw [hty]; rfl) haz rfl rfl ?_
  refine s_aload_n (nx := 14) hO rfl rfl rfl ?_
  refine s_sipush (x := nI 8192) (nx := 17) hO rfl (by decide) rfl ?_
  refine g_arrB (nx := 22) hO rfl rfl rfl (Nat.le_of_ble_eq_true rfl) (Nat.le_of_ble_eq_true rfl) (Nat.le_of_ble_eq_true rfl) (Nat.le_of_ble_eq_true rfl) (by rw [hty]; rfl) (by rw [hty]; rfl) haz rfl rfl ?_
  refine s_aload_n (nx := 23) hO rfl rfl rfl ?_
  refine s_iconst (x := -1) (nx := 24) hO rfl (by decide) rfl ?_
  refine g_put (nx := 27) hO rfl rfl (Nat.le_of_ble_eq_true rfl) (by rw [hty]; rfl) (by rw [hty]; rfl) rfl ?_
  refine s_aload_n (nx := 28) hO rfl rfl rfl ?_
  refine s_new (nx := 31) (fs := [.int 0, .int 0, .int 0, .int 0, .int 0, .int 0, .int 0, .null, .null, .null, .null, .null, .null, .null, .null, .null, .null, .null, .null, .null]) hO rfl rfl (by rw [hcl]; rfl) (Nat.le_of_ble_eq_true rfl) (Nat.le_of_ble_eq_true rfl) (fun j hj => by
      rw [hty]
      match j, hj with
      | 0, _ => rfl
      | 1, _ => rfl
      | 2, _ => rfl
      | 3, _ => rfl
      | 4, _ => rfl
      | 5, _ => rfl
      | 6, _ => rfl
      | 7, _ => rfl
      | 8, _ => rfl
      | 9, _ => rfl
      | 10, _ => rfl
      | 11, _ => rfl
      | 12, _ => rfl
      | 13, _ => rfl
      | 14, _ => rfl
      | 15, _ => rfl
      | 16, _ => rfl
      | 17, _ => rfl
      | 18, _ => rfl
      | 19, _ => rfl
      | k + 20, hk => exact absurd hk (by omega)) rfl ?_
  refine s_dup (nx := 32) hO rfl rfl rfl ?_
  refine s_callI [] (nx := 35) hO rfl kX11_init_22 (c_X3_init hW hcl hty (Nat.lt_succ_self _) (va_up_self _ _ _)) rfl rfl (Nat.le_of_ble_eq_true rfl) (Nat.le_of_ble_eq_true rfl) (Nat.le_of_ble_eq_true rfl) rfl (fun v9 h9 z9 q9 => ?_)
  obtain ⟨rfl, rfl, rfl⟩ := q9
  refine g_nestK haz rfl ?_
  refine g_put (nx := 38) hO rfl rfl (Nat.le_of_ble_eq_true rfl) (by rw [hty]; rfl) (by rw [hty]; rfl) rfl ?_
  refine s_aload_n (nx := 39) hO rfl rfl rfl ?_
  refine s_new (nx := 42) (fs := [.int 0, .int 0, .int 0, .int 0, .int 0, .int 0, .int 0, .null, .null, .null, .null, .null, .null, .null, .null, .null, .null, .null, .null, .null]) hO rfl rfl (by rw [hcl]; rfl) (Nat.le_of_ble_eq_true rfl) (Nat.le_of_ble_eq_true rfl) (fun j hj => by
      rw [hty]
      match j, hj with
      | 0, _ => rfl
      | 1, _ => rfl
      | 2, _ => rfl
      | 3, _ => rfl
      | 4, _ => rfl
      | 5, _ => rfl
      | 6, _ => rfl
      | 7, _ => rfl
      | 8, _ => rfl
      | 9, _ => rfl
      | 10, _ => rfl
      | 11, _ => rfl
      | 12, _ => rfl
      | 13, _ => rfl
      | 14, _ => rfl
      | 15, _ => rfl
      | 16, _ => rfl
      | 17, _ => rfl
      | 18, _ => rfl
      | 19, _ => rfl
      | k + 20, hk => exact absurd hk (by omega)) rfl ?_
  refine s_dup (nx := 43) hO rfl rfl rfl ?_
  refine s_callI [] (nx := 46) hO rfl kX11_init_22 (c_X3_init hW hcl hty (Nat.lt_succ_self _) (va_up_self _ _ _)) rfl rfl (Nat.le_of_ble_eq_true rfl) (Nat.le_of_ble_eq_true rfl) (Nat.le_of_ble_eq_true rfl) rfl (fun v9 h9 z9 q9 => ?_)
  obtain ⟨rfl, rfl, rfl⟩ := q9
  refine g_nestK haz rfl ?_
  refine g_put (nx := 49) hO rfl rfl (Nat.le_of_ble_eq_true rfl) (by rw [hty]; rfl) (by rw [hty]; rfl) rfl ?_
  refine s_aload_n (nx := 50) hO rfl rfl rfl ?_
  refine s_new (nx := 53) (fs := [.int 0, .null, .null, .null, .null, .null, .null, .null, .null, .null, .null, .null, .null, .int 0, .null, .null, .null, .null, .null]) hO rfl rfl (by rw [hcl]; rfl) (Nat.le_of_ble_eq_true rfl) (Nat.le_of_ble_eq_true rfl) (fun j hj => by
      rw [hty]
      match j, hj with
      | 0, _ => rfl
      | 1, _ => rfl
      | 2, _ => rfl
      | 3, _ => rfl
      | 4, _ => rfl
      | 5, _ => rfl
      | 6, _ => rfl
      | 7, _ => rfl
      | 8, _ => rfl
      | 9, _ => rfl
      | 10, _ => rfl
      | 11, _ => rfl
      | 12, _ => rfl
      | 13, _ => rfl
      | 14, _ => rfl
      | 15, _ => rfl
      | 16, _ => rfl
      | 17, _ => rfl
      | 18, _ => rfl
      | k + 19, hk => exact absurd hk (by omega)) rfl ?_
  refine s_dup (nx := 54) hO rfl rfl rfl ?_
  refine s_callN [] (nx := 57) (host := "GuardForge") hO rfl kX11_init_32 (fun U H hX => hS.2.1 U H hX _ (List.mem_of_getElem? (i := 0) rfl)) (c_X5_init hW hcl hty (Nat.lt_succ_self _) (va_up_self _ _ _)) rfl rfl (Nat.le_of_ble_eq_true rfl) (Nat.le_of_ble_eq_true rfl) (Nat.le_of_ble_eq_true rfl) rfl (fun v9 h9 z9 q9 => ?_)
  obtain ⟨rfl, rfl, rfl⟩ := q9
  refine g_nestK haz rfl ?_
  refine g_put (nx := 60) hO rfl rfl (Nat.le_of_ble_eq_true rfl) (by rw [hty]; rfl) (by rw [hty]; rfl) rfl ?_
  refine s_aload_n (nx := 61) hO rfl rfl rfl ?_
  refine s_new (nx := 64) (fs := [.int 0, .null, .null, .null, .null, .null, .null, .null, .null, .null, .null, .null, .null, .int 0, .null, .null, .null, .null, .null]) hO rfl rfl (by rw [hcl]; rfl) (Nat.le_of_ble_eq_true rfl) (Nat.le_of_ble_eq_true rfl) (fun j hj => by
      rw [hty]
      match j, hj with
      | 0, _ => rfl
      | 1, _ => rfl
      | 2, _ => rfl
      | 3, _ => rfl
      | 4, _ => rfl
      | 5, _ => rfl
      | 6, _ => rfl
      | 7, _ => rfl
      | 8, _ => rfl
      | 9, _ => rfl
      | 10, _ => rfl
      | 11, _ => rfl
      | 12, _ => rfl
      | 13, _ => rfl
      | 14, _ => rfl
      | 15, _ => rfl
      | 16, _ => rfl
      | 17, _ => rfl
      | 18, _ => rfl
      | k + 19, hk => exact absurd hk (by omega)) rfl ?_
  refine s_dup (nx := 65) hO rfl rfl rfl ?_
  refine s_callN [] (nx := 68) (host := "GuardForge") hO rfl kX11_init_32 (fun U H hX => hS.2.1 U H hX _ (List.mem_of_getElem? (i := 0) rfl)) (c_X5_init hW hcl hty (Nat.lt_succ_self _) (va_up_self _ _ _)) rfl rfl (Nat.le_of_ble_eq_true rfl) (Nat.le_of_ble_eq_true rfl) (Nat.le_of_ble_eq_true rfl) rfl (fun v9 h9 z9 q9 => ?_)
  obtain ⟨rfl, rfl, rfl⟩ := q9
  refine g_nestK haz rfl ?_
  refine g_put (nx := 71) hO rfl rfl (Nat.le_of_ble_eq_true rfl) (by rw [hty]; rfl) (by rw [hty]; rfl) rfl ?_
  refine s_aload_n (nx := 72) hO rfl rfl rfl ?_
  refine s_new (nx := 75) (fs := [.int 0, .null, .null, .null, .null, .null, .null, .null, .null, .null, .null, .null, .null, .int 0, .null, .null, .null, .null, .null]) hO rfl rfl (by rw [hcl]; rfl) (Nat.le_of_ble_eq_true rfl) (Nat.le_of_ble_eq_true rfl) (fun j hj => by
      rw [hty]
      match j, hj with
      | 0, _ => rfl
      | 1, _ => rfl
      | 2, _ => rfl
      | 3, _ => rfl
      | 4, _ => rfl
      | 5, _ => rfl
      | 6, _ => rfl
      | 7, _ => rfl
      | 8, _ => rfl
      | 9, _ => rfl
      | 10, _ => rfl
      | 11, _ => rfl
      | 12, _ => rfl
      | 13, _ => rfl
      | 14, _ => rfl
      | 15, _ => rfl
      | 16, _ => rfl
      | 17, _ => rfl
      | 18, _ => rfl
      | k + 19, hk => exact absurd hk (by omega)) rfl ?_
  refine s_dup (nx := 76) hO rfl rfl rfl ?_
  refine s_callN [] (nx := 79) (host := "GuardForge") hO rfl kX11_init_32 (fun U H hX => hS.2.1 U H hX _ (List.mem_of_getElem? (i := 0) rfl)) (c_X5_init hW hcl hty (Nat.lt_succ_self _) (va_up_self _ _ _)) rfl rfl (Nat.le_of_ble_eq_true rfl) (Nat.le_of_ble_eq_true rfl) (Nat.le_of_ble_eq_true rfl) rfl (fun v9 h9 z9 q9 => ?_)
  obtain ⟨rfl, rfl, rfl⟩ := q9
  refine g_nestK haz rfl ?_
  refine g_put (nx := 82) hO rfl rfl (Nat.le_of_ble_eq_true rfl) (by rw [hty]; rfl) (by rw [hty]; rfl) rfl ?_
  refine s_aload_n (nx := 83) hO rfl rfl rfl ?_
  refine s_new (nx := 86) (fs := [.int 0, .int 0, .int 0, .int 0, .null, .null, .null, .null, .null, .null, .null, .null]) hO rfl rfl (by rw [hcl]; rfl) (Nat.le_of_ble_eq_true rfl) (Nat.le_of_ble_eq_true rfl) (fun j hj => by
      rw [hty]
      match j, hj with
      | 0, _ => rfl
      | 1, _ => rfl
      | 2, _ => rfl
      | 3, _ => rfl
      | 4, _ => rfl
      | 5, _ => rfl
      | 6, _ => rfl
      | 7, _ => rfl
      | 8, _ => rfl
      | 9, _ => rfl
      | 10, _ => rfl
      | 11, _ => rfl
      | k + 12, hk => exact absurd hk (by omega)) rfl ?_
  refine s_dup (nx := 87) hO rfl rfl rfl ?_
  refine s_callN [] (nx := 90) (host := "GuardForge") hO rfl kX11_init_45 (fun U H hX => hS.2.1 U H hX _ (List.mem_of_getElem? (i := 1) rfl)) (c_X4_init hS (Nat.lt_succ_self _) (va_up_self _ _ _)) rfl rfl (Nat.le_of_ble_eq_true rfl) (Nat.le_of_ble_eq_true rfl) (Nat.le_of_ble_eq_true rfl) rfl (fun v9 h9 z9 q9 => ?_)
  obtain ⟨rfl, rfl, rfl⟩ := q9
  refine g_nestK haz rfl ?_
  refine g_put (nx := 93) hO rfl rfl (Nat.le_of_ble_eq_true rfl) (by rw [hty]; rfl) (by rw [hty]; rfl) rfl ?_
  refine s_aload_n (nx := 94) hO rfl rfl rfl ?_
  refine s_new (nx := 97) (fs := [.null, .int 0, .int 0, .null, .null, .null, .null, .null, .null, .null, .null, .null]) hO rfl rfl (by rw [hcl]; rfl) (Nat.le_of_ble_eq_true rfl) (Nat.le_of_ble_eq_true rfl) (fun j hj => by
      rw [hty]
      match j, hj with
      | 0, _ => rfl
      | 1, _ => rfl
      | 2, _ => rfl
      | 3, _ => rfl
      | 4, _ => rfl
      | 5, _ => rfl
      | 6, _ => rfl
      | 7, _ => rfl
      | 8, _ => rfl
      | 9, _ => rfl
      | 10, _ => rfl
      | 11, _ => rfl
      | k + 12, hk => exact absurd hk (by omega)) rfl ?_
  refine s_dup (nx := 98) hO rfl rfl rfl ?_
  refine s_callI [] (nx := 101) hO rfl kX11_init_52 (c_X7_init hW hcl hty (Nat.lt_succ_self _) (va_up_self _ _ _)) rfl rfl (Nat.le_of_ble_eq_true rfl) (Nat.le_of_ble_eq_true rfl) (Nat.le_of_ble_eq_true rfl) rfl (fun v9 h9 z9 q9 => ?_)
  obtain ⟨rfl, rfl, rfl⟩ := q9
  refine g_nestK haz rfl ?_
  refine g_put (nx := 104) hO rfl rfl (Nat.le_of_ble_eq_true rfl) (by rw [hty]; rfl) (by rw [hty]; rfl) rfl ?_
  refine s_aload_n (nx := 105) hO rfl rfl rfl ?_
  refine s_new (nx := 108) (fs := [.int 0, .int 0, .null, .int 0, .int 0, .int 0, .null]) hO rfl rfl (by rw [hcl]; rfl) (Nat.le_of_ble_eq_true rfl) (Nat.le_of_ble_eq_true rfl) (fun j hj => by
      rw [hty]
      match j, hj with
      | 0, _ => rfl
      | 1, _ => rfl
      | 2, _ => rfl
      | 3, _ => rfl
      | 4, _ => rfl
      | 5, _ => rfl
      | 6, _ => rfl
      | k + 7, hk => exact absurd hk (by omega)) rfl ?_
  refine s_dup (nx := 109) hO rfl rfl rfl ?_
  refine s_callN [] (nx := 112) (host := "GuardForge") hO rfl kX11_init_59 (fun U H hX => hS.2.1 U H hX _ (List.mem_of_getElem? (i := 2) rfl)) (c_X6_init hW hcl hty (Nat.lt_succ_self _) (va_up_self _ _ _)) rfl rfl (Nat.le_of_ble_eq_true rfl) (Nat.le_of_ble_eq_true rfl) (Nat.le_of_ble_eq_true rfl) rfl (fun v9 h9 z9 q9 => ?_)
  obtain ⟨rfl, rfl, rfl⟩ := q9
  refine g_nestK haz rfl ?_
  refine g_put (nx := 115) hO rfl rfl (Nat.le_of_ble_eq_true rfl) (by rw [hty]; rfl) (by rw [hty]; rfl) rfl ?_
  refine s_aload_n (nx := 116) hO rfl rfl rfl ?_
  refine s_new (nx := 119) (fs := [.int 0, .int 0, .null, .int 0, .int 0, .int 0, .int 0, .null]) hO rfl rfl (by rw [hcl]; rfl) (Nat.le_of_ble_eq_true rfl) (Nat.le_of_ble_eq_true rfl) (fun j hj => by
      rw [hty]
      match j, hj with
      | 0, _ => rfl
      | 1, _ => rfl
      | 2, _ => rfl
      | 3, _ => rfl
      | 4, _ => rfl
      | 5, _ => rfl
      | 6, _ => rfl
      | 7, _ => rfl
      | k + 8, hk => exact absurd hk (by omega)) rfl ?_
  refine s_dup (nx := 120) hO rfl rfl rfl ?_
  refine s_callN [] (nx := 123) (host := "GuardForge") hO rfl kX11_init_66 (fun U H hX => hS.2.1 U H hX _ (List.mem_of_getElem? (i := 3) rfl)) (c_X9_init hW hcl hty (Nat.lt_succ_self _) (va_up_self _ _ _)) rfl rfl (Nat.le_of_ble_eq_true rfl) (Nat.le_of_ble_eq_true rfl) (Nat.le_of_ble_eq_true rfl) rfl (fun v9 h9 z9 q9 => ?_)
  obtain ⟨rfl, rfl, rfl⟩ := q9
  refine g_nestK haz rfl ?_
  refine g_put (nx := 126) hO rfl rfl (Nat.le_of_ble_eq_true rfl) (by rw [hty]; rfl) (by rw [hty]; rfl) rfl ?_
  refine s_aload_n (nx := 127) hO rfl rfl rfl ?_
  refine s_new (nx := 130) (fs := [.null, .null, .null, .null, .int 0, .int 0, .null, .null, .null, .int 0, .null]) hO rfl rfl (by rw [hcl]; rfl) (Nat.le_of_ble_eq_true rfl) (Nat.le_of_ble_eq_true rfl) (fun j hj => by
      rw [hty]
      match j, hj with
      | 0, _ => rfl
      | 1, _ => rfl
      | 2, _ => rfl
      | 3, _ => rfl
      | 4, _ => rfl
      | 5, _ => rfl
      | 6, _ => rfl
      | 7, _ => rfl
      | 8, _ => rfl
      | 9, _ => rfl
      | 10, _ => rfl
      | k + 11, hk => exact absurd hk (by omega)) rfl ?_
  refine s_dup (nx := 131) hO rfl rfl rfl ?_
  refine s_callN [] (nx := 134) (host := "GuardForge") hO rfl kX11_init_73 (fun U H hX => hS.2.1 U H hX _ (List.mem_of_getElem? (i := 4) rfl)) (c_X0_init hW hcl hty (Nat.lt_succ_self _) (va_up_self _ _ _)) rfl rfl (Nat.le_of_ble_eq_true rfl) (Nat.le_of_ble_eq_true rfl) (Nat.le_of_ble_eq_true rfl) rfl (fun v9 h9 z9 q9 => ?_)
  obtain ⟨rfl, rfl, rfl⟩ := q9
  refine g_nestK haz rfl ?_
  refine g_put (nx := 137) hO rfl rfl (Nat.le_of_ble_eq_true rfl) (by rw [hty]; rfl) (by rw [hty]; rfl) rfl ?_
  refine s_aload_n (nx := 138) hO rfl rfl rfl ?_
  refine s_new (nx := 141) (fs := [.null, .null, .int 0, .null, .null, .null, .null, .null, .null, .null, .null, .null, .null, .int 0, .int 0, .int 0, .int 0, .int 0]) hO rfl rfl (by rw [hcl]; rfl) (Nat.le_of_ble_eq_true rfl) (Nat.le_of_ble_eq_true rfl) (fun j hj => by
      rw [hty]
      match j, hj with
      | 0, _ => rfl
      | 1, _ => rfl
      | 2, _ => rfl
      | 3, _ => rfl
      | 4, _ => rfl
      | 5, _ => rfl
      | 6, _ => rfl
      | 7, _ => rfl
      | 8, _ => rfl
      | 9, _ => rfl
      | 10, _ => rfl
      | 11, _ => rfl
      | 12, _ => rfl
      | 13, _ => rfl
      | 14, _ => rfl
      | 15, _ => rfl
      | 16, _ => rfl
      | 17, _ => rfl
      | k + 18, hk => exact absurd hk (by omega)) rfl ?_
  refine s_dup (nx := 142) hO rfl rfl rfl ?_
  refine s_callI [] (nx := 145) hO rfl kX11_init_80 (c_X2_init hS (Nat.lt_succ_self _) (va_up_self _ _ _)) rfl rfl (Nat.le_of_ble_eq_true rfl) (Nat.le_of_ble_eq_true rfl) (Nat.le_of_ble_eq_true rfl) rfl (fun v9 h9 z9 q9 => ?_)
  obtain ⟨rfl, rfl, rfl⟩ := q9
  refine g_nestK haz rfl ?_
  refine g_put (nx := 148) hO rfl rfl (Nat.le_of_ble_eq_true rfl) (by rw [hty]; rfl) (by rw [hty]; rfl) rfl ?_
  refine s_aload_n (nx := 149) hO rfl rfl rfl ?_
  refine s_new (nx := 152) (fs := [.int 0, .null, .null]) hO rfl rfl (by rw [hcl]; rfl) (Nat.le_of_ble_eq_true rfl) (Nat.le_of_ble_eq_true rfl) (fun j hj => by
      rw [hty]
      match j, hj with
      | 0, _ => rfl
      | 1, _ => rfl
      | 2, _ => rfl
      | k + 3, hk => exact absurd hk (by omega)) rfl ?_
  refine s_dup (nx := 153) hO rfl rfl rfl ?_
  refine s_callN [] (nx := 156) (host := "GuardForge") hO rfl kX11_init_87 (fun U H hX => hS.2.1 U H hX _ (List.mem_of_getElem? (i := 6) rfl)) (c_X10_init hW hcl hty (Nat.lt_succ_self _) (va_up_self _ _ _)) rfl rfl (Nat.le_of_ble_eq_true rfl) (Nat.le_of_ble_eq_true rfl) (Nat.le_of_ble_eq_true rfl) rfl (fun v9 h9 z9 q9 => ?_)
  obtain ⟨rfl, rfl, rfl⟩ := q9
  refine g_nestK haz rfl ?_
  refine g_put (nx := 159) hO rfl rfl (Nat.le_of_ble_eq_true rfl) (by rw [hty]; rfl) (by rw [hty]; rfl) rfl ?_
  exact s_vret hO rfl rfl ⟨rfl, rfl, rfl⟩

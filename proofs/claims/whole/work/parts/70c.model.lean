/-! ===== GuardForgeModel() ===== -/
set_option maxRecDepth 100000 in
set_option maxHeartbeats 16000000 in
/-- GuardForgeModel() -/
theorem c_X12_init {G : xG} (hSt : xStart G) {h : xH} {z : Nat} (hz : q_b G + 139 < z) (ha : h (q_b G + 139) = some (.inr (12, [.int 0, .null, .int 0, .null, .null, .int 0, .int 0, .int 0, .null, .int 0, .int 0, .int 0, .int 0, .long 0, .long 0, .int 0, .int 0, .null, .null, .int 0, .null, .null, .null, .null, .null, .int 0, .null, .int 0, .null, .null, .null, .null, .null, .null, .int 0, .null, .null, .null, .null, .null, .null, .int 0, .null, .int 0, .null, .null, .null, .int 0, .null, .null, .null, .int 0, .null, .null, .null, .null, .int 0, .null, .null, .null, .null, .null, .null, .null, .null, .null, .null, .null, .null, .null, .null, .null, .null, .null, .null, .null, .null, .null, .null, .null, .null, .null, .int 0, .null, .null, .null, .null, .null, .int 0, .int 0, .int 0, .int 0, .int 0, .int 0, .int 0, .int 0, .int 0, .int 0, .null, .int 0, .null, .null, .null, .null, .null, .int 0, .null, .null, .null, .null, .null, .int 0, .int 0, .int 0, .int 0, .int 0]))) (hp : va_up (x_adds h z (L12 z)) (q_b G + 139) (some (o12 z)) = hS G st0) :
    xC G mX12_init [.ref (q_b G + 139)] h z 76 232663 (fun v h' z' => v = none ∧ ∃ s, h' = hS G s ∧ Iv s) := by
  have hG := hSt.1
  have hW := hSt.1.1
  have hcl := hSt.1.2.1
  have hty := hSt.1.2.2.1
  obtain ⟨qT, vT, qM, vM, -, hR, hq⟩ := hSt.2.2
  have hJ := hSt.1.2.2.2.2.1
  have haz := hz
  have hO : xO G mX12_init tbX12_init ptX12_init := ⟨tkX12_init, pkX12_init hcl⟩
  refine xC.of hW (by decide) rfl (Nat.le_of_ble_eq_true rfl) ?_
  refine s_aload_n (nx := 1) hO rfl rfl rfl ?_
  refine s_obj (nx := 4) hO rfl (List.mem_cons_of_mem _ (ir10 _ (List.mem_of_getElem? (i := 23) rfl))) (List.mem_cons_of_mem _ (ir1 _ (List.mem_of_getElem? (i := 11) rfl))) (List.mem_cons_of_mem _ (ir1 _ (List.mem_of_getElem? (i := 12) rfl))) (by decide) (by decide) rfl ?_
  refine x_start ha ?_
  refine s_aload_n (nx := 5) hO rfl rfl rfl ?_
  refine s_sipush (x := nI 8192) (nx := 8) hO rfl (by decide) rfl ?_
  refine g_arrI (nx := 13) hO rfl rfl rfl (Nat.le_of_ble_eq_true rfl) (Nat.le_of_ble_eq_true rfl) (Nat.le_of_ble_eq_true rfl) (Nat.le_of_ble_eq_true rfl) (by rw [hty]; rfl) (by rw [hty]; rfl) haz rfl rfl ?_
  refine s_aload_n (nx := 14) hO rfl rfl rfl ?_
  refine s_sipush (x := nI 8192) (nx := 17) hO rfl (by decide) rfl ?_
  refine g_arrI (nx := 22) hO rfl rfl rfl (Nat.le_of_ble_eq_true rfl) (Nat.le_of_ble_eq_true rfl) (Nat.le_of_ble_eq_true rfl) (Nat.le_of_ble_eq_true rfl) (by rw [hty]; rfl) (by rw [hty]; rfl) haz rfl rfl ?_
  refine s_aload_n (nx := 23) hO rfl rfl rfl ?_
  refine s_sipush (x := nI 8192) (nx := 26) hO rfl (by decide) rfl ?_
  refine g_arrI (nx := 31) hO rfl rfl rfl (Nat.le_of_ble_eq_true rfl) (Nat.le_of_ble_eq_true rfl) (Nat.le_of_ble_eq_true rfl) (Nat.le_of_ble_eq_true rfl) (by rw [hty]; rfl) (by rw [hty]; rfl) haz rfl rfl ?_
  refine s_aload_n (nx := 32) hO rfl rfl rfl ?_
  refine s_iconst (x := -1) (nx := 33) hO rfl (by decide) rfl ?_
  refine g_put (nx := 36) hO rfl rfl (Nat.le_of_ble_eq_true rfl) (by rw [hty]; rfl) (by rw [hty]; rfl) rfl ?_
  refine s_aload_n (nx := 37) hO rfl rfl rfl ?_
  refine s_sipush (x := nI 8192) (nx := 40) hO rfl (by decide) rfl ?_
  refine g_arrI (nx := 45) hO rfl rfl rfl (Nat.le_of_ble_eq_true rfl) (Nat.le_of_ble_eq_true rfl) (Nat.le_of_ble_eq_true rfl) (Nat.le_of_ble_eq_true rfl) (by rw [hty]; rfl) (by rw [hty]; rfl) haz rfl rfl ?_
  refine s_aload_n (nx := 46) hO rfl rfl rfl ?_
  refine s_bipush (x := nI 6) (nx := 48) hO rfl (by decide) rfl ?_
  refine g_arrJ (nx := 53) hO rfl rfl rfl (Nat.le_of_ble_eq_true rfl) (Nat.le_of_ble_eq_true rfl) (Nat.le_of_ble_eq_true rfl) (Nat.le_of_ble_eq_true rfl) (by rw [hty]; rfl) (by rw [hty]; rfl) haz rfl rfl ?_
  refine s_aload_n (nx := 54) hO rfl rfl rfl ?_
  refine s_bipush (x := nI 6) (nx := 56) hO rfl (by decide) rfl ?_
  refine g_arrI (nx := 61) hO rfl rfl rfl (Nat.le_of_ble_eq_true rfl) (Nat.le_of_ble_eq_true rfl) (Nat.le_of_ble_eq_true rfl) (Nat.le_of_ble_eq_true rfl) (by rw [hty]; rfl) (by rw [hty]; rfl) haz rfl rfl ?_
  refine s_aload_n (nx := 62) hO rfl rfl rfl ?_
  refine s_bipush (x := nI 24) (nx := 64) hO rfl (by decide) rfl ?_
  refine g_arrI (nx := 69) hO rfl rfl rfl (Nat.le_of_ble_eq_true rfl) (Nat.le_of_ble_eq_true rfl) (Nat.le_of_ble_eq_true rfl) (Nat.le_of_ble_eq_true rfl) (by rw [hty]; rfl) (by rw [hty]; rfl) haz rfl rfl ?_
  refine s_aload_n (nx := 70) hO rfl rfl rfl ?_
  refine s_bipush (x := nI 24) (nx := 72) hO rfl (by decide) rfl ?_
  refine g_arrZ (nx := 77) hO rfl rfl rfl (Nat.le_of_ble_eq_true rfl) (Nat.le_of_ble_eq_true rfl) (Nat.le_of_ble_eq_true rfl) (Nat.le_of_ble_eq_true rfl) (by rw [hty]; rfl) (by rw [hty]; rfl) haz rfl rfl ?_
  refine s_aload_n (nx := 78) hO rfl rfl rfl ?_
  refine s_bipush (x := nI 24) (nx := 80) hO rfl (by decide) rfl ?_
  refine g_arrI (nx := 85) hO rfl rfl rfl (Nat.le_of_ble_eq_true rfl) (Nat.le_of_ble_eq_true rfl) (Nat.le_of_ble_eq_true rfl) (Nat.le_of_ble_eq_true rfl) (by rw [hty]; rfl) (by rw [hty]; rfl) haz rfl rfl ?_
  refine s_aload_n (nx := 86) hO rfl rfl rfl ?_
  refine s_bipush (x := nI 24) (nx := 88) hO rfl (by decide) rfl ?_
  refine g_arrI (nx := 93) hO rfl rfl rfl (Nat.le_of_ble_eq_true rfl) (Nat.le_of_ble_eq_true rfl) (Nat.le_of_ble_eq_true rfl) (Nat.le_of_ble_eq_true rfl) (by rw [hty]; rfl) (by rw [hty]; rfl) haz rfl rfl ?_
  refine s_aload_n (nx := 94) hO rfl rfl rfl ?_
  refine s_bipush (x := nI 24) (nx := 96) hO rfl (by decide) rfl ?_
  refine g_arrI (nx := 101) hO rfl rfl rfl (Nat.le_of_ble_eq_true rfl) (Nat.le_of_ble_eq_true rfl) (Nat.le_of_ble_eq_true rfl) (Nat.le_of_ble_eq_true rfl) (by rw [hty]; rfl) (by rw [hty]; rfl) haz rfl rfl ?_
  refine s_aload_n (nx := 102) hO rfl rfl rfl ?_
  refine s_bipush (x := nI 24) (nx := 104) hO rfl (by decide) rfl ?_
  refine g_arrJ (nx := 109) hO rfl rfl rfl (Nat.le_of_ble_eq_true rfl) (Nat.le_of_ble_eq_true rfl) (Nat.le_of_ble_eq_true rfl) (Nat.le_of_ble_eq_true rfl) (by rw [hty]; rfl) (by rw [hty]; rfl) haz rfl rfl ?_
  refine s_aload_n (nx := 110) hO rfl rfl rfl ?_
  refine s_sipush (x := nI 192) (nx := 113) hO rfl (by decide) rfl ?_
  refine g_arrI (nx := 118) hO rfl rfl rfl (Nat.le_of_ble_eq_true rfl) (Nat.le_of_ble_eq_true rfl) (Nat.le_of_ble_eq_true rfl) (Nat.le_of_ble_eq_true rfl) (by rw [hty]; rfl) (by rw [hty]; rfl) haz rfl rfl ?_
  refine s_aload_n (nx := 119) hO rfl rfl rfl ?_
  refine s_sipush (x := nI 192) (nx := 122) hO rfl (by decide) rfl ?_
  refine g_arrI (nx := 127) hO rfl rfl rfl (Nat.le_of_ble_eq_true rfl) (Nat.le_of_ble_eq_true rfl) (Nat.le_of_ble_eq_true rfl) (Nat.le_of_ble_eq_true rfl) (by rw [hty]; rfl) (by rw [hty]; rfl) haz rfl rfl ?_
  refine s_aload_n (nx := 128) hO rfl rfl rfl ?_
  refine s_sipush (x := nI 192) (nx := 131) hO rfl (by decide) rfl ?_
  refine g_arrI (nx := 136) hO rfl rfl rfl (Nat.le_of_ble_eq_true rfl) (Nat.le_of_ble_eq_true rfl) (Nat.le_of_ble_eq_true rfl) (Nat.le_of_ble_eq_true rfl) (by rw [hty]; rfl) (by rw [hty]; rfl) haz rfl rfl ?_
  refine s_aload_n (nx := 137) hO rfl rfl rfl ?_
  refine s_sipush (x := nI 192) (nx := 140) hO rfl (by decide) rfl ?_
  refine g_arrI (nx := 145) hO rfl rfl rfl (Nat.le_of_ble_eq_true rfl) (Nat.le_of_ble_eq_true rfl) (Nat.le_of_ble_eq_true rfl) (Nat.le_of_ble_eq_true rfl) (by rw [hty]; rfl) (by rw [hty]; rfl) haz rfl rfl ?_
  refine s_aload_n (nx := 146) hO rfl rfl rfl ?_
  refine s_sipush (x := nI 192) (nx := 149) hO rfl (by decide) rfl ?_
  refine g_arrJ (nx := 154) hO rfl rfl rfl (Nat.le_of_ble_eq_true rfl) (Nat.le_of_ble_eq_true rfl) (Nat.le_of_ble_eq_true rfl) (Nat.le_of_ble_eq_true rfl) (by rw [hty]; rfl) (by rw [hty]; rfl) haz rfl rfl ?_
  refine s_aload_n (nx := 155) hO rfl rfl rfl ?_
  refine s_sipush (x := nI 192) (nx := 158) hO rfl (by decide) rfl ?_
  refine g_arrI (nx := 163) hO rfl rfl rfl (Nat.le_of_ble_eq_true rfl) (Nat.le_of_ble_eq_true rfl) (Nat.le_of_ble_eq_true rfl) (Nat.le_of_ble_eq_true rfl) (by rw [hty]; rfl) (by rw [hty]; rfl) haz rfl rfl ?_
  refine s_aload_n (nx := 164) hO rfl rfl rfl ?_
  refine s_sipush (x := nI 900) (nx := 167) hO rfl (by decide) rfl ?_
  refine g_arrZ (nx := 172) hO rfl rfl rfl (Nat.le_of_ble_eq_true rfl) (Nat.le_of_ble_eq_true rfl) (Nat.le_of_ble_eq_true rfl) (Nat.le_of_ble_eq_true rfl) (by rw [hty]; rfl) (by rw [hty]; rfl) haz rfl rfl ?_
  refine s_aload_n (nx := 173) hO rfl rfl rfl ?_
  refine s_sipush (x := nI 900) (nx := 176) hO rfl (by decide) rfl ?_
  refine g_arrI (nx := 181) hO rfl rfl rfl (Nat.le_of_ble_eq_true rfl) (Nat.le_of_ble_eq_true rfl) (Nat.le_of_ble_eq_true rfl) (Nat.le_of_ble_eq_true rfl) (by rw [hty]; rfl) (by rw [hty]; rfl) haz rfl rfl ?_
  refine s_aload_n (nx := 182) hO rfl rfl rfl ?_
  refine s_sipush (x := nI 900) (nx := 185) hO rfl (by decide) rfl ?_
  refine g_arrJ (nx := 190) hO rfl rfl rfl (Nat.le_of_ble_eq_true rfl) (Nat.le_of_ble_eq_true rfl) (Nat.le_of_ble_eq_true rfl) (Nat.le_of_ble_eq_true rfl) (by rw [hty]; rfl) (by rw [hty]; rfl) haz rfl rfl ?_
  refine s_aload_n (nx := 191) hO rfl rfl rfl ?_
  refine s_sipush (x := nI 900) (nx := 194) hO rfl (by decide) rfl ?_
  refine g_arrI (nx := 199) hO rfl rfl rfl (Nat.le_of_ble_eq_true rfl) (Nat.le_of_ble_eq_true rfl) (Nat.le_of_ble_eq_true rfl) (Nat.le_of_ble_eq_true rfl) (by rw [hty]; rfl) (by rw [hty]; rfl) haz rfl rfl ?_
  refine s_aload_n (nx := 200) hO rfl rfl rfl ?_
  refine s_sipush (x := nI 900) (nx := 203) hO rfl (by decide) rfl ?_
  refine g_arrI (nx := 208) hO rfl rfl rfl (Nat.le_of_ble_eq_true rfl) (Nat.le_of_ble_eq_true rfl) (Nat.le_of_ble_eq_true rfl) (Nat.le_of_ble_eq_true rfl) (by rw [hty]; rfl) (by rw [hty]; rfl) haz rfl rfl ?_
  refine s_aload_n (nx := 209) hO rfl rfl rfl ?_
  refine s_sipush (x := nI 900) (nx := 212) hO rfl (by decide) rfl ?_
  refine g_arrZ (nx := 217) hO rfl rfl rfl (Nat.le_of_ble_eq_true rfl) (Nat.le_of_ble_eq_true rfl) (Nat.le_of_ble_eq_true rfl) (Nat.le_of_ble_eq_true rfl) (by rw [hty]; rfl) (by rw [hty]; rfl) haz rfl rfl ?_
  refine s_aload_n (nx := 218) hO rfl rfl rfl ?_
  refine s_sipush (x := nI 5000) (nx := 221) hO rfl (by decide) rfl ?_
  refine g_arrI (nx := 226) hO rfl rfl rfl (Nat.le_of_ble_eq_true rfl) (Nat.le_of_ble_eq_true rfl) (Nat.le_of_ble_eq_true rfl) (Nat.le_of_ble_eq_true rfl) (by rw [hty]; rfl) (by rw [hty]; rfl) haz rfl rfl ?_
  refine s_aload_n (nx := 227) hO rfl rfl rfl ?_
  refine s_sipush (x := nI 512) (nx := 230) hO rfl (by decide) rfl ?_
  refine g_arrI (nx := 235) hO rfl rfl rfl (Nat.le_of_ble_eq_true rfl) (Nat.le_of_ble_eq_true rfl) (Nat.le_of_ble_eq_true rfl) (Nat.le_of_ble_eq_true rfl) (by rw [hty]; rfl) (by rw [hty]; rfl) haz rfl rfl ?_
  refine s_aload_n (nx := 236) hO rfl rfl rfl ?_
  refine s_sipush (x := nI 4608) (nx := 239) hO rfl (by decide) rfl ?_
  refine g_arrI (nx := 244) hO rfl rfl rfl (Nat.le_of_ble_eq_true rfl) (Nat.le_of_ble_eq_true rfl) (Nat.le_of_ble_eq_true rfl) (Nat.le_of_ble_eq_true rfl) (by rw [hty]; rfl) (by rw [hty]; rfl) haz rfl rfl ?_
  refine s_aload_n (nx := 245) hO rfl rfl rfl ?_
  refine s_sipush (x := nI 4608) (nx := 248) hO rfl (by decide) rfl ?_
  refine g_arrI (nx := 253) hO rfl rfl rfl (Nat.le_of_ble_eq_true rfl) (Nat.le_of_ble_eq_true rfl) (Nat.le_of_ble_eq_true rfl) (Nat.le_of_ble_eq_true rfl) (by rw [hty]; rfl) (by rw [hty]; rfl) haz rfl rfl ?_
  refine s_aload_n (nx := 254) hO rfl rfl rfl ?_
  refine s_sipush (x := nI 18000) (nx := 257) hO rfl (by decide) rfl ?_
  refine g_arrI (nx := 262) hO rfl rfl rfl (Nat.le_of_ble_eq_true rfl) (Nat.le_of_ble_eq_true rfl) (Nat.le_of_ble_eq_true rfl) (Nat.le_of_ble_eq_true rfl) (by rw [hty]; rfl) (by rw [hty]; rfl) haz rfl rfl ?_
  refine s_aload_n (nx := 263) hO rfl rfl rfl ?_
  refine s_bipush (x := nI 9) (nx := 265) hO rfl (by decide) rfl ?_
  refine g_arrI (nx := 270) hO rfl rfl rfl (Nat.le_of_ble_eq_true rfl) (Nat.le_of_ble_eq_true rfl) (Nat.le_of_ble_eq_true rfl) (Nat.le_of_ble_eq_true rfl) (by rw [hty]; rfl) (by rw [hty]; rfl) haz rfl rfl ?_
  refine s_aload_n (nx := 271) hO rfl rfl rfl ?_
  refine s_bipush (x := nI 64) (nx := 273) hO rfl (by decide) rfl ?_
  refine g_arrI (nx := 278) hO rfl rfl rfl (Nat.le_of_ble_eq_true rfl) (Nat.le_of_ble_eq_true rfl) (Nat.le_of_ble_eq_true rfl) (Nat.le_of_ble_eq_true rfl) (by rw [hty]; rfl) (by rw [hty]; rfl) haz rfl rfl ?_
  refine s_aload_n (nx := 279) hO rfl rfl rfl ?_
  refine s_ldc (x := nI 32768) (nx := 281) hO rfl rfl rfl ?_
  refine g_arrI (nx := 286) hO rfl rfl rfl (Nat.le_of_ble_eq_true rfl) (Nat.le_of_ble_eq_true rfl) (Nat.le_of_ble_eq_true rfl) (Nat.le_of_ble_eq_true rfl) (by rw [hty]; rfl) (by rw [hty]; rfl) haz rfl rfl ?_
  refine s_aload_n (nx := 287) hO rfl rfl rfl ?_
  refine s_sipush (x := nI 4096) (nx := 290) hO rfl (by decide) rfl ?_
  refine g_arrZ (nx := 295) hO rfl rfl rfl (Nat.le_of_ble_eq_true rfl) (Nat.le_of_ble_eq_true rfl) (Nat.le_of_ble_eq_true rfl) (Nat.le_of_ble_eq_true rfl) (by rw [hty]; rfl) (by rw [hty]; rfl) haz rfl rfl ?_
  refine s_aload_n (nx := 296) hO rfl rfl rfl ?_
  refine s_bipush (x := nI 64) (nx := 298) hO rfl (by decide) rfl ?_
  refine g_arrI (nx := 303) hO rfl rfl rfl (Nat.le_of_ble_eq_true rfl) (Nat.le_of_ble_eq_true rfl) (Nat.le_of_ble_eq_true rfl) (Nat.le_of_ble_eq_true rfl) (by rw [hty]; rfl) (by rw [hty]; rfl) haz rfl rfl ?_
  refine s_aload_n (nx := 304) hO rfl rfl rfl ?_
  refine s_bipush (x := nI 64) (nx := 306) hO rfl (by decide) rfl ?_
  refine g_arrI (nx := 311) hO rfl rfl rfl (Nat.le_of_ble_eq_true rfl) (Nat.le_of_ble_eq_true rfl) (Nat.le_of_ble_eq_true rfl) (Nat.le_of_ble_eq_true rfl) (by rw [hty]; rfl) (by rw [hty]; rfl) haz rfl rfl ?_
  refine s_aload_n (nx := 312) hO rfl rfl rfl ?_
  refine s_iconst (x := nI 3) (nx := 313) hO rfl (by decide) rfl ?_
  refine g_arrI (nx := 318) hO rfl rfl rfl (Nat.le_of_ble_eq_true rfl) (Nat.le_of_ble_eq_true rfl) (Nat.le_of_ble_eq_true rfl) (Nat.le_of_ble_eq_true rfl) (by rw [hty]; rfl) (by rw [hty]; rfl) haz rfl rfl ?_
  refine s_aload_n (nx := 319) hO rfl rfl rfl ?_
  refine s_bipush (x := nI 6) (nx := 321) hO rfl (by decide) rfl ?_
  refine g_arrI (nx := 326) hO rfl rfl rfl (Nat.le_of_ble_eq_true rfl) (Nat.le_of_ble_eq_true rfl) (Nat.le_of_ble_eq_true rfl) (Nat.le_of_ble_eq_true rfl) (by rw [hty]; rfl) (by rw [hty]; rfl) haz rfl rfl ?_
  refine s_aload_n (nx := 327) hO rfl rfl rfl ?_
  refine s_iconst (x := nI 3) (nx := 328) hO rfl (by decide) rfl ?_
  refine g_arrZ (nx := 333) hO rfl rfl rfl (Nat.le_of_ble_eq_true rfl) (Nat.le_of_ble_eq_true rfl) (Nat.le_of_ble_eq_true rfl) (Nat.le_of_ble_eq_true rfl) (by rw [hty]; rfl) (by rw [hty]; rfl) haz rfl rfl ?_
  refine s_aload_n (nx := 334) hO rfl rfl rfl ?_
  refine s_iconst (x := nI 3) (nx := 335) hO rfl (by decide) rfl ?_
  refine g_arrI (nx := 340) hO rfl rfl rfl (Nat.le_of_ble_eq_true rfl) (Nat.le_of_ble_eq_true rfl) (Nat.le_of_ble_eq_true rfl) (Nat.le_of_ble_eq_true rfl) (by rw [hty]; rfl) (by rw [hty]; rfl) haz rfl rfl ?_
  refine s_aload_n (nx := 341) hO rfl rfl rfl ?_
  refine s_bipush (x := nI 36) (nx := 343) hO rfl (by decide) rfl ?_
  refine g_arrI (nx := 348) hO rfl rfl rfl (Nat.le_of_ble_eq_true rfl) (Nat.le_of_ble_eq_true rfl) (Nat.le_of_ble_eq_true rfl) (Nat.le_of_ble_eq_true rfl) (by rw [hty]; rfl) (by rw [hty]; rfl) haz rfl rfl ?_
  refine s_aload_n (nx := 349) hO rfl rfl rfl ?_
  refine s_bipush (x := nI 36) (nx := 351) hO rfl (by decide) rfl ?_
  refine g_arrI (nx := 356) hO rfl rfl rfl (Nat.le_of_ble_eq_true rfl) (Nat.le_of_ble_eq_true rfl) (Nat.le_of_ble_eq_true rfl) (Nat.le_of_ble_eq_true rfl) (by rw [hty]; rfl) (by rw [hty]; rfl) haz rfl rfl ?_
  refine s_aload_n (nx := 357) hO rfl rfl rfl ?_
  refine s_bipush (x := nI 36) (nx := 359) hO rfl (by decide) rfl ?_
  refine g_arrI (nx := 364) hO rfl rfl rfl (Nat.le_of_ble_eq_true rfl) (Nat.le_of_ble_eq_true rfl) (Nat.le_of_ble_eq_true rfl) (Nat.le_of_ble_eq_true rfl) (by rw [hty]; rfl) (by rw [hty]; rfl) haz rfl rfl ?_
  refine s_aload_n (nx := 365) hO rfl rfl rfl ?_
  refine s_bipush (x := nI 36) (nx := 367) hO rfl (by decide) rfl ?_
  refine g_arrI (nx := 372) hO rfl rfl rfl (Nat.le_of_ble_eq_true rfl) (Nat.le_of_ble_eq_true rfl) (Nat.le_of_ble_eq_true rfl) (Nat.le_of_ble_eq_true rfl) (by rw [hty]; rfl) (by rw [hty]; rfl) haz rfl rfl ?_
  refine s_aload_n (nx := 373) hO rfl rfl rfl ?_
  refine s_bipush (x := nI 36) (nx := 375) hO rfl (by decide) rfl ?_
  refine g_arrI (nx := 380) hO rfl rfl rfl (Nat.le_of_ble_eq_true rfl) (Nat.le_of_ble_eq_true rfl) (Nat.le_of_ble_eq_true rfl) (Nat.le_of_ble_eq_true rfl) (by rw [hty]; rfl) (by rw [hty]; rfl) haz rfl rfl ?_
  refine s_aload_n (nx := 381) hO rfl rfl rfl ?_
  refine s_bipush (x := nI 36) (nx := 383) hO rfl (by decide) rfl ?_
  refine g_arrI (nx := 388) hO rfl rfl rfl (Nat.le_of_ble_eq_true rfl) (Nat.le_of_ble_eq_true rfl) (Nat.le_of_ble_eq_true rfl) (Nat.le_of_ble_eq_true rfl) (by rw [hty]; rfl) (by rw [hty]; rfl) haz rfl rfl ?_
  refine s_aload_n (nx := 389) hO rfl rfl rfl ?_
  refine s_bipush (x := nI 36) (nx := 391) hO rfl (by decide) rfl ?_
  refine g_arrI (nx := 396) hO rfl rfl rfl (Nat.le_of_ble_eq_true rfl) (Nat.le_of_ble_eq_true rfl) (Nat.le_of_ble_eq_true rfl) (Nat.le_of_ble_eq_true rfl) (by rw [hty]; rfl) (by rw [hty]; rfl) haz rfl rfl ?_
  refine s_aload_n (nx := 397) hO rfl rfl rfl ?_
  refine s_sipush (x := nI 14400) (nx := 400) hO rfl (by decide) rfl ?_
  refine g_arrI (nx := 405) hO rfl rfl rfl (Nat.le_of_ble_eq_true rfl) (Nat.le_of_ble_eq_true rfl) (Nat.le_of_ble_eq_true rfl) (Nat.le_of_ble_eq_true rfl) (by rw [hty]; rfl) (by rw [hty]; rfl) haz rfl rfl ?_
  refine s_aload_n (nx := 406) hO rfl rfl rfl ?_
  refine s_sipush (x := nI 14400) (nx := 409) hO rfl (by decide) rfl ?_
  refine g_arrI (nx := 414) hO rfl rfl rfl (Nat.le_of_ble_eq_true rfl) (Nat.le_of_ble_eq_true rfl) (Nat.le_of_ble_eq_true rfl) (Nat.le_of_ble_eq_true rfl) (by rw [hty]; rfl) (by rw [hty]; rfl) haz rfl rfl ?_
  refine s_aload_n (nx := 415) hO rfl rfl rfl ?_
  refine s_sipush (x := nI 216) (nx := 418) hO rfl (by decide) rfl ?_
  refine g_arrI (nx := 423) hO rfl rfl rfl (Nat.le_of_ble_eq_true rfl) (Nat.le_of_ble_eq_true rfl) (Nat.le_of_ble_eq_true rfl) (Nat.le_of_ble_eq_true rfl) (by rw [hty]; rfl) (by rw [hty]; rfl) haz rfl rfl ?_
  refine s_aload_n (nx := 424) hO rfl rfl rfl ?_
  refine s_sipush (x := nI 216) (nx := 427) hO rfl (by decide) rfl ?_
  refine g_arrI (nx := 432) hO rfl rfl rfl (Nat.le_of_ble_eq_true rfl) (Nat.le_of_ble_eq_true rfl) (Nat.le_of_ble_eq_true rfl) (Nat.le_of_ble_eq_true rfl) (by rw [hty]; rfl) (by rw [hty]; rfl) haz rfl rfl ?_
  refine s_aload_n (nx := 433) hO rfl rfl rfl ?_
  refine s_sipush (x := nI 216) (nx := 436) hO rfl (by decide) rfl ?_
  refine g_arrI (nx := 441) hO rfl rfl rfl (Nat.le_of_ble_eq_true rfl) (Nat.le_of_ble_eq_true rfl) (Nat.le_of_ble_eq_true rfl) (Nat.le_of_ble_eq_true rfl) (by rw [hty]; rfl) (by rw [hty]; rfl) haz rfl rfl ?_
  refine s_aload_n (nx := 442) hO rfl rfl rfl ?_
  refine s_sipush (x := nI 216) (nx := 445) hO rfl (by decide) rfl ?_
  refine g_arrZ (nx := 450) hO rfl rfl rfl (Nat.le_of_ble_eq_true rfl) (Nat.le_of_ble_eq_true rfl) (Nat.le_of_ble_eq_true rfl) (Nat.le_of_ble_eq_true rfl) (by rw [hty]; rfl) (by rw [hty]; rfl) haz rfl rfl ?_
  refine s_aload_n (nx := 451) hO rfl rfl rfl ?_
  refine s_sipush (x := nI 216) (nx := 454) hO rfl (by decide) rfl ?_
  refine g_arrI (nx := 459) hO rfl rfl rfl (Nat.le_of_ble_eq_true rfl) (Nat.le_of_ble_eq_true rfl) (Nat.le_of_ble_eq_true rfl) (Nat.le_of_ble_eq_true rfl) (by rw [hty]; rfl) (by rw [hty]; rfl) haz rfl rfl ?_
  refine s_aload_n (nx := 460) hO rfl rfl rfl ?_
  refine s_sipush (x := nI 14400) (nx := 463) hO rfl (by decide) rfl ?_
  refine g_arrI (nx := 468) hO rfl rfl rfl (Nat.le_of_ble_eq_true rfl) (Nat.le_of_ble_eq_true rfl) (Nat.le_of_ble_eq_true rfl) (Nat.le_of_ble_eq_true rfl) (by rw [hty]; rfl) (by rw [hty]; rfl) haz rfl rfl ?_
  refine s_aload_n (nx := 469) hO rfl rfl rfl ?_
  refine s_sipush (x := nI 14400) (nx := 472) hO rfl (by decide) rfl ?_
  refine g_arrI (nx := 477) hO rfl rfl rfl (Nat.le_of_ble_eq_true rfl) (Nat.le_of_ble_eq_true rfl) (Nat.le_of_ble_eq_true rfl) (Nat.le_of_ble_eq_true rfl) (by rw [hty]; rfl) (by rw [hty]; rfl) haz rfl rfl ?_
  refine s_aload_n (nx := 478) hO rfl rfl rfl ?_
  refine s_sipush (x := nI 400) (nx := 481) hO rfl (by decide) rfl ?_
  refine g_arrZ (nx := 486) hO rfl rfl rfl (Nat.le_of_ble_eq_true rfl) (Nat.le_of_ble_eq_true rfl) (Nat.le_of_ble_eq_true rfl) (Nat.le_of_ble_eq_true rfl) (by rw [hty]; rfl) (by rw [hty]; rfl) haz rfl rfl ?_
  refine s_aload_n (nx := 487) hO rfl rfl rfl ?_
  refine s_sipush (x := nI 14400) (nx := 490) hO rfl (by decide) rfl ?_
  refine g_arrJ (nx := 495) hO rfl rfl rfl (Nat.le_of_ble_eq_true rfl) (Nat.le_of_ble_eq_true rfl) (Nat.le_of_ble_eq_true rfl) (Nat.le_of_ble_eq_true rfl) (by rw [hty]; rfl) (by rw [hty]; rfl) haz rfl rfl ?_
  refine s_aload_n (nx := 496) hO rfl rfl rfl ?_
  refine s_bipush (x := nI 36) (nx := 498) hO rfl (by decide) rfl ?_
  refine g_arrJ (nx := 503) hO rfl rfl rfl (Nat.le_of_ble_eq_true rfl) (Nat.le_of_ble_eq_true rfl) (Nat.le_of_ble_eq_true rfl) (Nat.le_of_ble_eq_true rfl) (by rw [hty]; rfl) (by rw [hty]; rfl) haz rfl rfl ?_
  refine s_aload_n (nx := 504) hO rfl rfl rfl ?_
  refine s_bipush (x := nI 36) (nx := 506) hO rfl (by decide) rfl ?_
  refine g_arrJ (nx := 511) hO rfl rfl rfl (Nat.le_of_ble_eq_true rfl) (Nat.le_of_ble_eq_true rfl) (Nat.le_of_ble_eq_true rfl) (Nat.le_of_ble_eq_true rfl) (by rw [hty]; rfl) (by rw [hty]; rfl) haz rfl rfl ?_
  refine s_aload_n (nx := 512) hO rfl rfl rfl ?_
  refine s_bipush (x := nI 36) (nx := 514) hO rfl (by decide) rfl ?_
  refine g_arrJ (nx := 519) hO rfl rfl rfl (Nat.le_of_ble_eq_true rfl) (Nat.le_of_ble_eq_true rfl) (Nat.le_of_ble_eq_true rfl) (Nat.le_of_ble_eq_true rfl) (by rw [hty]; rfl) (by rw [hty]; rfl) haz rfl rfl ?_
  refine s_aload_n (nx := 520) hO rfl rfl rfl ?_
  refine s_iconst (x := nI 2) (nx := 521) hO rfl (by decide) rfl ?_
  refine g_arrZ (nx := 526) hO rfl rfl rfl (Nat.le_of_ble_eq_true rfl) (Nat.le_of_ble_eq_true rfl) (Nat.le_of_ble_eq_true rfl) (Nat.le_of_ble_eq_true rfl) (by rw [hty]; rfl) (by rw [hty]; rfl) haz rfl rfl ?_
  refine s_aload_n (nx := 527) hO rfl rfl rfl ?_
  refine s_sipush (x := nI 1024) (nx := 530) hO rfl (by decide) rfl ?_
  refine g_arrJ (nx := 535) hO rfl rfl rfl (Nat.le_of_ble_eq_true rfl) (Nat.le_of_ble_eq_true rfl) (Nat.le_of_ble_eq_true rfl) (Nat.le_of_ble_eq_true rfl) (by rw [hty]; rfl) (by rw [hty]; rfl) haz rfl rfl ?_
  refine s_aload_n (nx := 536) hO rfl rfl rfl ?_
  refine s_sipush (x := nI 1024) (nx := 539) hO rfl (by decide) rfl ?_
  refine g_arrZ (nx := 544) hO rfl rfl rfl (Nat.le_of_ble_eq_true rfl) (Nat.le_of_ble_eq_true rfl) (Nat.le_of_ble_eq_true rfl) (Nat.le_of_ble_eq_true rfl) (by rw [hty]; rfl) (by rw [hty]; rfl) haz rfl rfl ?_
  refine s_aload_n (nx := 545) hO rfl rfl rfl ?_
  refine s_sipush (x := nI 401) (nx := 548) hO rfl (by decide) rfl ?_
  refine g_arrI (nx := 553) hO rfl rfl rfl (Nat.le_of_ble_eq_true rfl) (Nat.le_of_ble_eq_true rfl) (Nat.le_of_ble_eq_true rfl) (Nat.le_of_ble_eq_true rfl) (by rw [hty]; rfl) (by rw [hty]; rfl) haz rfl rfl ?_
  refine s_aload_n (nx := 554) hO rfl rfl rfl ?_
  refine s_sipush (x := nI 256) (nx := 557) hO rfl (by decide) rfl ?_
  refine g_arrI (nx := 562) hO rfl rfl rfl (Nat.le_of_ble_eq_true rfl) (Nat.le_of_ble_eq_true rfl) (Nat.le_of_ble_eq_true rfl) (Nat.le_of_ble_eq_true rfl) (by rw [hty]; rfl) (by rw [hty]; rfl) haz rfl rfl ?_
  refine s_aload_n (nx := 563) hO rfl rfl rfl ?_
  refine s_bipush (x := nI 6) (nx := 565) hO rfl (by decide) rfl ?_
  refine g_arrI (nx := 570) hO rfl rfl rfl (Nat.le_of_ble_eq_true rfl) (Nat.le_of_ble_eq_true rfl) (Nat.le_of_ble_eq_true rfl) (Nat.le_of_ble_eq_true rfl) (by rw [hty]; rfl) (by rw [hty]; rfl) haz rfl rfl ?_
  refine s_aload_n (nx := 571) hO rfl rfl rfl ?_
  refine s_bipush (x := nI 6) (nx := 573) hO rfl (by decide) rfl ?_
  refine g_arrI (nx := 578) hO rfl rfl rfl (Nat.le_of_ble_eq_true rfl) (Nat.le_of_ble_eq_true rfl) (Nat.le_of_ble_eq_true rfl) (Nat.le_of_ble_eq_true rfl) (by rw [hty]; rfl) (by rw [hty]; rfl) haz rfl rfl ?_
  refine s_aload_n (nx := 579) hO rfl rfl rfl ?_
  refine s_sipush (x := nI 1280) (nx := 582) hO rfl (by decide) rfl ?_
  refine g_arrI (nx := 587) hO rfl rfl rfl (Nat.le_of_ble_eq_true rfl) (Nat.le_of_ble_eq_true rfl) (Nat.le_of_ble_eq_true rfl) (Nat.le_of_ble_eq_true rfl) (by rw [hty]; rfl) (by rw [hty]; rfl) haz rfl rfl ?_
  refine s_aload_n (nx := 588) hO rfl rfl rfl ?_
  refine s_sipush (x := nI 4100) (nx := 591) hO rfl (by decide) rfl ?_
  refine g_arrI (nx := 596) hO rfl rfl rfl (Nat.le_of_ble_eq_true rfl) (Nat.le_of_ble_eq_true rfl) (Nat.le_of_ble_eq_true rfl) (Nat.le_of_ble_eq_true rfl) (by rw [hty]; rfl) (by rw [hty]; rfl) haz rfl rfl ?_
  refine s_aload_n (nx := 597) hO rfl rfl rfl ?_
  refine s_sipush (x := nI 20100) (nx := 600) hO rfl (by decide) rfl ?_
  refine g_arrI (nx := 605) hO rfl rfl rfl (Nat.le_of_ble_eq_true rfl) (Nat.le_of_ble_eq_true rfl) (Nat.le_of_ble_eq_true rfl) (Nat.le_of_ble_eq_true rfl) (by rw [hty]; rfl) (by rw [hty]; rfl) haz rfl rfl ?_
  refine s_aload_n (nx := 606) hO rfl rfl rfl ?_
  refine s_sipush (x := nI 20100) (nx := 609) hO rfl (by decide) rfl ?_
  refine g_arrI (nx := 614) hO rfl rfl rfl (Nat.le_of_ble_eq_true rfl) (Nat.le_of_ble_eq_true rfl) (Nat.le_of_ble_eq_true rfl) (Nat.le_of_ble_eq_true rfl) (by rw [hty]; rfl) (by rw [hty]; rfl) haz rfl rfl ?_
  refine s_aload_n (nx := 615) hO rfl rfl rfl ?_
  refine s_bipush (x := nI 40) (nx := 617) hO rfl (by decide) rfl ?_
  refine g_arrI (nx := 622) hO rfl rfl rfl (Nat.le_of_ble_eq_true rfl) (Nat.le_of_ble_eq_true rfl) (Nat.le_of_ble_eq_true rfl) (Nat.le_of_ble_eq_true rfl) (by rw [hty]; rfl) (by rw [hty]; rfl) haz rfl rfl ?_
  refine s_aload_n (nx := 623) hO rfl rfl rfl ?_
  refine s_bipush (x := nI 40) (nx := 625) hO rfl (by decide) rfl ?_
  refine g_arrI (nx := 630) hO rfl rfl rfl (Nat.le_of_ble_eq_true rfl) (Nat.le_of_ble_eq_true rfl) (Nat.le_of_ble_eq_true rfl) (Nat.le_of_ble_eq_true rfl) (by rw [hty]; rfl) (by rw [hty]; rfl) haz rfl rfl ?_
  refine s_aload_n (nx := 631) hO rfl rfl rfl ?_
  refine s_bipush (x := nI 40) (nx := 633) hO rfl (by decide) rfl ?_
  refine g_arrI (nx := 638) hO rfl rfl rfl (Nat.le_of_ble_eq_true rfl) (Nat.le_of_ble_eq_true rfl) (Nat.le_of_ble_eq_true rfl) (Nat.le_of_ble_eq_true rfl) (by rw [hty]; rfl) (by rw [hty]; rfl) haz rfl rfl ?_
  refine s_aload_n (nx := 639) hO rfl rfl rfl ?_
  refine s_sipush (x := nI 480) (nx := 642) hO rfl (by decide) rfl ?_
  refine g_arrI (nx := 647) hO rfl rfl rfl (Nat.le_of_ble_eq_true rfl) (Nat.le_of_ble_eq_true rfl) (Nat.le_of_ble_eq_true rfl) (Nat.le_of_ble_eq_true rfl) (by rw [hty]; rfl) (by rw [hty]; rfl) haz rfl rfl ?_
  refine s_aload_n (nx := 648) hO rfl rfl rfl ?_
  refine s_sipush (x := nI 640) (nx := 651) hO rfl (by decide) rfl ?_
  refine g_arrI (nx := 656) hO rfl rfl rfl (Nat.le_of_ble_eq_true rfl) (Nat.le_of_ble_eq_true rfl) (Nat.le_of_ble_eq_true rfl) (Nat.le_of_ble_eq_true rfl) (by rw [hty]; rfl) (by rw [hty]; rfl) haz rfl rfl ?_
  refine xEx.at hp ?_
  refine s_ldcS (nx := 658) hR hO rfl rfl ?_
  refine s_astore_n (nx := 659) (l' := [(1, _), (0, _)]) hO rfl (by decide) rfl rfl ?_
  refine s_iconst (x := 0) (nx := 660) hO rfl (by decide) rfl ?_
  refine s_istore_n (nx := 661) (l' := [(2, _), (1, _), (0, _)]) hO rfl (by decide) rfl rfl ?_
  refine l_X12 hG hq hO (fun t Ft ht => ?_) 19 0 st0 rfl frM.rfl' (fun i hi => absurd hi (Nat.not_lt_zero _))
  refine s_aload_n (nx := 687) hO rfl rfl rfl ?_
  refine s_aload_n (nx := 688) hO rfl rfl rfl ?_
  refine s_callX [] (nx := 691) hq.1 hO rfl kX12_init_247 (c_J0_length hW hcl hJ hq) rfl rfl (Nat.le_of_ble_eq_true rfl) (Nat.zero_le _) (Nat.zero_le _) rfl (fun v9 h9 z9 q9 => ?_)
  obtain ⟨rfl, rfl, rfl⟩ := q9
  refine goV (wI t 139 2 (nI 19)) (fun t1 e1 => ?_)
  refine s_putf (nx := 694) hO rfl rfl (hs_o12 kc139) (Nat.le_of_ble_eq_true rfl) (by rw [hty]; rfl) (by rw [hty]; rfl) pX12_2 rfl ?_
  refine xEx.at (up_oI12 kc139 e1) ?_
  refine s_aload_n (nx := 695) hO rfl rfl rfl ?_
  have F1 : frM (fun a i => a = 140 ∨ (a = 139 ∧ i = 2)) st0 t1 := by subst e1; exact (Ft.mono (fun a i h => Or.inl h)).wI (Or.inr ⟨rfl, rfl⟩)
  have y1 : byM t1 B1 19 := ⟨by omega, by subst e1; rw [sI_w, if_pos ⟨rfl, rfl⟩], fun k hk => by subst e1; rw [sI_w, if_neg (by omega)]; exact ht k hk, B1_lt⟩
  refine s_callV [] (nx := 698) hO rfl kX12_init_260 (by rw [hcl]; rfl) (hs_o12 kc139) (w_X12_loadPolicy hG (init_ok (Q := fun _ s' => Iv (wI s' 139 2 0)) (st0_ok.fr F1) y1 (fun r s' h => h))) rfl rfl (Nat.le_of_ble_eq_true rfl) (Nat.zero_le _) (Nat.zero_le _) rfl (k_Qi (fun r s2 H => ?_))
  refine s_istore_n (nx := 699) (l' := [(2, _), (1, _), (0, _)]) hO rfl (by decide) rfl rfl ?_
  refine s_aload_n (nx := 700) hO rfl rfl rfl ?_
  refine s_iconst (x := 0) (nx := 701) hO rfl (by decide) rfl ?_
  refine goV (wI s2 139 2 0) (fun s3 e3 => ?_)
  refine s_putf (nx := 704) hO rfl rfl (hs_o12 kc139) (Nat.le_of_ble_eq_true rfl) (by rw [hty]; rfl) (by rw [hty]; rfl) pX12_2 rfl ?_
  refine xEx.at (up_oI12 kc139 e3) ?_
  exact s_vret hO rfl rfl ⟨rfl, s3, rfl, by subst e3; exact H⟩

/-! ===== constructors that make arrays alone ===== -/
theorem x_start {G : xG} {M : xM} {Q : xQ} {pc z kc ks a : Nat} {l : List (Nat × Value)} {st : List Value} {h : xH} {e : xE} (ha : h a = some e) (k : xEx G M pc l st (va_up (x_adds h z []) a (some e)) z kc ks Q) : xEx G M pc l st h z kc ks Q :=
  Eq.mpr (congrArg (fun hh => xEx G M pc l st hh z kc ks Q) (x_begin (z := z) ha)) k

set_option maxRecDepth 100000 in
set_option maxHeartbeats 4000000 in
/-- GuardForge$Watch() -/
theorem c_X10_init {G : xG} (hW : xW G) (hcl : q_cl G = vwCl) (hty : q_ty G = g_ty) {h : xH} {z a : Nat} (haz : a < z) (ha : h a = some (.inr (10, [.int 0, .null, .null]))) :
    xC G mX10_init [.ref a] h z 2 15 (fun v h' z' => v = none ∧ z' = z + 2 ∧ h' = va_up (x_adds h z [.inl (.int, 6, .inl (fun _ => 0)), .inl (.int, 9, .inl (fun _ => 0))]) a (some (.inr (10, [.int 0, .ref z, .ref (z + 1)])))) := by
  have hO : xO G mX10_init tbX10_init ptX10_init := ⟨tkX10_init, pkX10_init hcl⟩
  refine xC.of hW (by decide) rfl (Nat.le_of_ble_eq_true rfl) ?_
  refine s_aload_n (nx := 1) hO rfl rfl rfl ?_
  refine s_obj (nx := 4) hO rfl (List.mem_cons_of_mem _ (ir10 _ (List.mem_of_getElem? (i := 17) rfl))) (List.mem_cons_of_mem _ (ir1 _ (List.mem_of_getElem? (i := 11) rfl))) (List.mem_cons_of_mem _ (ir1 _ (List.mem_of_getElem? (i := 12) rfl))) (by decide) (by decide) rfl ?_
  refine x_start ha ?_
  refine s_aload_n (nx := 5) hO rfl rfl rfl ?_
  refine s_bipush (x := nI 6) (nx := 7) hO rfl (by decide) rfl ?_
  refine g_arrI (nx := 12) hO rfl rfl rfl (by decide) (by decide) (by decide) (Nat.le_of_ble_eq_true rfl) (by rw [hty]; rfl) (by rw [hty]; rfl) haz rfl rfl ?_
  refine s_aload_n (nx := 13) hO rfl rfl rfl ?_
  refine s_bipush (x := nI 9) (nx := 15) hO rfl (by decide) rfl ?_
  refine g_arrI (nx := 20) hO rfl rfl rfl (by decide) (by decide) (by decide) (Nat.le_of_ble_eq_true rfl) (by rw [hty]; rfl) (by rw [hty]; rfl) haz rfl rfl ?_
  exact s_vret hO rfl rfl ⟨rfl, rfl, rfl⟩

set_option maxRecDepth 100000 in
set_option maxHeartbeats 4000000 in
/-- GuardForge$Program() -/
theorem c_X5_init {G : xG} (hW : xW G) (hcl : q_cl G = vwCl) (hty : q_ty G = g_ty) {h : xH} {z a : Nat} (haz : a < z) (ha : h a = some (.inr (5, [.int 0, .null, .null, .null, .null, .null, .null, .null, .null, .null, .null, .null, .null, .int 0, .null, .null, .null, .null, .null]))) :
    xC G mX5_init [.ref a] h z 17 29232 (fun v h' z' => v = none ∧ z' = z + 17 ∧ h' = va_up (x_adds h z [.inl (.int, 12, .inl (fun _ => 0)), .inl (.int, 12, .inl (fun _ => 0)), .inl (.int, 12, .inl (fun _ => 0)), .inl (.int, 12, .inl (fun _ => 0)), .inl (.int, 12, .inl (fun _ => 0)), .inl (.int, 12, .inl (fun _ => 0)), .inl (.int, 4800, .inl (fun _ => 0)), .inl (.int, 4800, .inl (fun _ => 0)), .inl (.int, 4800, .inl (fun _ => 0)), .inl (.int, 4800, .inl (fun _ => 0)), .inl (.boolean, 4800, .inl (fun _ => 0)), .inl (.long, 4800, .inr (.inl (fun _ => 0))), .inl (.int, 72, .inl (fun _ => 0)), .inl (.int, 72, .inl (fun _ => 0)), .inl (.int, 72, .inl (fun _ => 0)), .inl (.boolean, 72, .inl (fun _ => 0)), .inl (.int, 72, .inl (fun _ => 0))]) a (some (.inr (5, [.int 0, .ref z, .ref (z + 1), .ref (z + 2), .ref (z + 3), .ref (z + 4), .ref (z + 5), .ref (z + 6), .ref (z + 7), .ref (z + 8), .ref (z + 9), .ref (z + 10), .ref (z + 11), .int 0, .ref (z + 12), .ref (z + 13), .ref (z + 14), .ref (z + 15), .ref (z + 16)])))) := by
  have hO : xO G mX5_init tbX5_init ptX5_init := ⟨tkX5_init, pkX5_init hcl⟩
  refine xC.of hW (by decide) rfl (Nat.le_of_ble_eq_true rfl) ?_
  refine s_aload_n (nx := 1) hO rfl rfl rfl ?_
  refine s_obj (nx := 4) hO rfl (List.mem_cons_of_mem _ (ir4 _ (List.mem_of_getElem? (i := 20) rfl))) (List.mem_cons_of_mem _ (ir1 _ (List.mem_of_getElem? (i := 11) rfl))) (List.mem_cons_of_mem _ (ir1 _ (List.mem_of_getElem? (i := 12) rfl))) (by decide) (by decide) rfl ?_
  refine x_start ha ?_
  refine s_aload_n (nx := 5) hO rfl rfl rfl ?_
  refine s_bipush (x := nI 12) (nx := 7) hO rfl (by decide) rfl ?_
  refine g_arrI (nx := 12) hO rfl rfl rfl (by decide) (by decide) (by decide) (Nat.le_of_ble_eq_true rfl) (by rw [hty]; rfl) (by rw [hty]; rfl) haz rfl rfl ?_
  refine s_aload_n (nx := 13) hO rfl rfl rfl ?_
  refine s_bipush (x := nI 12) (nx := 15) hO rfl (by decide) rfl ?_
  refine g_arrI (nx := 20) hO rfl rfl rfl (by decide) (by decide) (by decide) (Nat.le_of_ble_eq_true rfl) (by rw [hty]; rfl) (by rw [hty]; rfl) haz rfl rfl ?_
  refine s_aload_n (nx := 21) hO rfl rfl rfl ?_
  refine s_bipush (x := nI 12) (nx := 23) hO rfl (by decide) rfl ?_
  refine g_arrI (nx := 28) hO rfl rfl rfl (by decide) (by decide) (by decide) (Nat.le_of_ble_eq_true rfl) (by rw [hty]; rfl) (by rw [hty]; rfl) haz rfl rfl ?_
  refine s_aload_n (nx := 29) hO rfl rfl rfl ?_
  refine s_bipush (x := nI 12) (nx := 31) hO rfl (by decide) rfl ?_
  refine g_arrI (nx := 36) hO rfl rfl rfl (by decide) (by decide) (by decide) (Nat.le_of_ble_eq_true rfl) (by rw [hty]; rfl) (by rw [hty]; rfl) haz rfl rfl ?_
  refine s_aload_n (nx := 37) hO rfl rfl rfl ?_
  refine s_bipush (x := nI 12) (nx := 39) hO rfl (by decide) rfl ?_
  refine g_arrI (nx := 44) hO rfl rfl rfl (by decide) (by decide) (by decide) (Nat.le_of_ble_eq_true rfl) (by rw [hty]; rfl) (by rw [hty]; rfl) haz rfl rfl ?_
  refine s_aload_n (nx := 45) hO rfl rfl rfl ?_
  refine s_bipush (x := nI 12) (nx := 47) hO rfl (by decide) rfl ?_
  refine g_arrI (nx := 52) hO rfl rfl rfl (by decide) (by decide) (by decide) (Nat.le_of_ble_eq_true rfl) (by rw [hty]; rfl) (by rw [hty]; rfl) haz rfl rfl ?_
  refine s_aload_n (nx := 53) hO rfl rfl rfl ?_
  refine s_sipush (x := nI 4800) (nx := 56) hO rfl (by decide) rfl ?_
  refine g_arrI (nx := 61) hO rfl rfl rfl (by decide) (by decide) (by decide) (Nat.le_of_ble_eq_true rfl) (by rw [hty]; rfl) (by rw [hty]; rfl) haz rfl rfl ?_
  refine s_aload_n (nx := 62) hO rfl rfl rfl ?_
  refine s_sipush (x := nI 4800) (nx := 65) hO rfl (by decide) rfl ?_
  refine g_arrI (nx := 70) hO rfl rfl rfl (by decide) (by decide) (by decide) (Nat.le_of_ble_eq_true rfl) (by rw [hty]; rfl) (by rw [hty]; rfl) haz rfl rfl ?_
  refine s_aload_n (nx := 71) hO rfl rfl rfl ?_
  refine s_sipush (x := nI 4800) (nx := 74) hO rfl (by decide) rfl ?_
  refine g_arrI (nx := 79) hO rfl rfl rfl (by decide) (by decide) (by decide) (Nat.le_of_ble_eq_true rfl) (by rw [hty]; rfl) (by rw [hty]; rfl) haz rfl rfl ?_
  refine s_aload_n (nx := 80) hO rfl rfl rfl ?_
  refine s_sipush (x := nI 4800) (nx := 83) hO rfl (by decide) rfl ?_
  refine g_arrI (nx := 88) hO rfl rfl rfl (by decide) (by decide) (by decide) (Nat.le_of_ble_eq_true rfl) (by rw [hty]; rfl) (by rw [hty]; rfl) haz rfl rfl ?_
  refine s_aload_n (nx := 89) hO rfl rfl rfl ?_
  refine s_sipush (x := nI 4800) (nx := 92) hO rfl (by decide) rfl ?_
  refine g_arrZ (nx := 97) hO rfl rfl rfl (by decide) (by decide) (by decide) (Nat.le_of_ble_eq_true rfl) (by rw [hty]; rfl) (by rw [hty]; rfl) haz rfl rfl ?_
  refine s_aload_n (nx := 98) hO rfl rfl rfl ?_
  refine s_sipush (x := nI 4800) (nx := 101) hO rfl (by decide) rfl ?_
  refine g_arrJ (nx := 106) hO rfl rfl rfl (by decide) (by decide) (by decide) (Nat.le_of_ble_eq_true rfl) (by rw [hty]; rfl) (by rw [hty]; rfl) haz rfl rfl ?_
  refine s_aload_n (nx := 107) hO rfl rfl rfl ?_
  refine s_bipush (x := nI 72) (nx := 109) hO rfl (by decide) rfl ?_
  refine g_arrI (nx := 114) hO rfl rfl rfl (by decide) (by decide) (by decide) (Nat.le_of_ble_eq_true rfl) (by rw [hty]; rfl) (by rw [hty]; rfl) haz rfl rfl ?_
  refine s_aload_n (nx := 115) hO rfl rfl rfl ?_
  refine s_bipush (x := nI 72) (nx := 117) hO rfl (by decide) rfl ?_
  refine g_arrI (nx := 122) hO rfl rfl rfl (by decide) (by decide) (by decide) (Nat.le_of_ble_eq_true rfl) (by rw [hty]; rfl) (by rw [hty]; rfl) haz rfl rfl ?_
  refine s_aload_n (nx := 123) hO rfl rfl rfl ?_
  refine s_bipush (x := nI 72) (nx := 125) hO rfl (by decide) rfl ?_
  refine g_arrI (nx := 130) hO rfl rfl rfl (by decide) (by decide) (by decide) (Nat.le_of_ble_eq_true rfl) (by rw [hty]; rfl) (by rw [hty]; rfl) haz rfl rfl ?_
  refine s_aload_n (nx := 131) hO rfl rfl rfl ?_
  refine s_bipush (x := nI 72) (nx := 133) hO rfl (by decide) rfl ?_
  refine g_arrZ (nx := 138) hO rfl rfl rfl (by decide) (by decide) (by decide) (Nat.le_of_ble_eq_true rfl) (by rw [hty]; rfl) (by rw [hty]; rfl) haz rfl rfl ?_
  refine s_aload_n (nx := 139) hO rfl rfl rfl ?_
  refine s_bipush (x := nI 72) (nx := 141) hO rfl (by decide) rfl ?_
  refine g_arrI (nx := 146) hO rfl rfl rfl (by decide) (by decide) (by decide) (Nat.le_of_ble_eq_true rfl) (by rw [hty]; rfl) (by rw [hty]; rfl) haz rfl rfl ?_
  exact s_vret hO rfl rfl ⟨rfl, rfl, rfl⟩

set_option maxRecDepth 100000 in
set_option maxHeartbeats 4000000 in
/-- GuardForge$Verifier() -/
theorem c_X9_init {G : xG} (hW : xW G) (hcl : q_cl G = vwCl) (hty : q_ty G = g_ty) {h : xH} {z a : Nat} (haz : a < z) (ha : h a = some (.inr (9, [.int 0, .int 0, .null, .int 0, .int 0, .int 0, .int 0, .null]))) :
    xC G mX9_init [.ref a] h z 1 400 (fun v h' z' => v = none ∧ z' = z + 1 ∧ h' = va_up (x_adds h z [.inl (.boolean, 400, .inl (fun _ => 0))]) a (some (.inr (9, [.int 0, .int 0, .null, .int 0, .int 0, .int 0, .int 0, .ref z])))) := by
  have hO : xO G mX9_init tbX9_init ptX9_init := ⟨tkX9_init, pkX9_init hcl⟩
  refine xC.of hW (by decide) rfl (Nat.le_of_ble_eq_true rfl) ?_
  refine s_aload_n (nx := 1) hO rfl rfl rfl ?_
  refine s_obj (nx := 4) hO rfl (List.mem_cons_of_mem _ (ir9 _ (List.mem_of_getElem? (i := 13) rfl))) (List.mem_cons_of_mem _ (ir1 _ (List.mem_of_getElem? (i := 11) rfl))) (List.mem_cons_of_mem _ (ir1 _ (List.mem_of_getElem? (i := 12) rfl))) (by decide) (by decide) rfl ?_
  refine x_start ha ?_
  refine s_aload_n (nx := 5) hO rfl rfl rfl ?_
  refine s_sipush (x := nI 400) (nx := 8) hO rfl (by decide) rfl ?_
  refine g_arrZ (nx := 13) hO rfl rfl rfl (by decide) (by decide) (by decide) (Nat.le_of_ble_eq_true rfl) (by rw [hty]; rfl) (by rw [hty]; rfl) haz rfl rfl ?_
  exact s_vret hO rfl rfl ⟨rfl, rfl, rfl⟩

set_option maxRecDepth 100000 in
set_option maxHeartbeats 4000000 in
/-- GuardForge$Flow() -/
theorem c_X0_init {G : xG} (hW : xW G) (hcl : q_cl G = vwCl) (hty : q_ty G = g_ty) {h : xH} {z a : Nat} (haz : a < z) (ha : h a = some (.inr (0, [.null, .null, .null, .null, .int 0, .int 0, .null, .null, .null, .int 0, .null]))) :
    xC G mX0_init [.ref a] h z 6 14825 (fun v h' z' => v = none ∧ z' = z + 6 ∧ h' = va_up (x_adds h z [.inl (.int, 4800, .inl (fun _ => 0)), .inl (.boolean, 4800, .inl (fun _ => 0)), .inl (.long, 12, .inr (.inl (fun _ => 0))), .inl (.long, 12, .inr (.inl (fun _ => 0))), .inl (.int, 4800, .inl (fun _ => 0)), .inl (.int, 401, .inl (fun _ => 0))]) a (some (.inr (0, [.null, .null, .ref z, .ref (z + 1), .int 0, .int 0, .ref (z + 2), .ref (z + 3), .ref (z + 4), .int 0, .ref (z + 5)])))) := by
  have hO : xO G mX0_init tbX0_init ptX0_init := ⟨tkX0_init, pkX0_init hcl⟩
  refine xC.of hW (by decide) rfl (Nat.le_of_ble_eq_true rfl) ?_
  refine s_aload_n (nx := 1) hO rfl rfl rfl ?_
  refine s_obj (nx := 4) hO rfl (List.mem_cons_of_mem _ (ir9 _ (List.mem_of_getElem? (i := 17) rfl))) (List.mem_cons_of_mem _ (ir1 _ (List.mem_of_getElem? (i := 11) rfl))) (List.mem_cons_of_mem _ (ir1 _ (List.mem_of_getElem? (i := 12) rfl))) (by decide) (by decide) rfl ?_
  refine x_start ha ?_
  refine s_aload_n (nx := 5) hO rfl rfl rfl ?_
  refine s_sipush (x := nI 4800) (nx := 8) hO rfl (by decide) rfl ?_
  refine g_arrI (nx := 13) hO rfl rfl rfl (by decide) (by decide) (by decide) (Nat.le_of_ble_eq_true rfl) (by rw [hty]; rfl) (by rw [hty]; rfl) haz rfl rfl ?_
  refine s_aload_n (nx := 14) hO rfl rfl rfl ?_
  refine s_sipush (x := nI 4800) (nx := 17) hO rfl (by decide) rfl ?_
  refine g_arrZ (nx := 22) hO rfl rfl rfl (by decide) (by decide) (by decide) (Nat.le_of_ble_eq_true rfl) (by rw [hty]; rfl) (by rw [hty]; rfl) haz rfl rfl ?_
  refine s_aload_n (nx := 23) hO rfl rfl rfl ?_
  refine s_bipush (x := nI 12) (nx := 25) hO rfl (by decide) rfl ?_
  refine g_arrJ (nx := 30) hO rfl rfl rfl (by decide) (by decide) (by decide) (Nat.le_of_ble_eq_true rfl) (by rw [hty]; rfl) (by rw [hty]; rfl) haz rfl rfl ?_
  refine s_aload_n (nx := 31) hO rfl rfl rfl ?_
  refine s_bipush (x := nI 12) (nx := 33) hO rfl (by decide) rfl ?_
  refine g_arrJ (nx := 38) hO rfl rfl rfl (by decide) (by decide) (by decide) (Nat.le_of_ble_eq_true rfl) (by rw [hty]; rfl) (by rw [hty]; rfl) haz rfl rfl ?_
  refine s_aload_n (nx := 39) hO rfl rfl rfl ?_
  refine s_sipush (x := nI 4800) (nx := 42) hO rfl (by decide) rfl ?_
  refine g_arrI (nx := 47) hO rfl rfl rfl (by decide) (by decide) (by decide) (Nat.le_of_ble_eq_true rfl) (by rw [hty]; rfl) (by rw [hty]; rfl) haz rfl rfl ?_
  refine s_aload_n (nx := 48) hO rfl rfl rfl ?_
  refine s_sipush (x := nI 401) (nx := 51) hO rfl (by decide) rfl ?_
  refine g_arrI (nx := 56) hO rfl rfl rfl (by decide) (by decide) (by decide) (Nat.le_of_ble_eq_true rfl) (by rw [hty]; rfl) (by rw [hty]; rfl) haz rfl rfl ?_
  exact s_vret hO rfl rfl ⟨rfl, rfl, rfl⟩

set_option maxRecDepth 100000 in
set_option maxHeartbeats 4000000 in
/-- GuardForge$ProgramReader() -/
theorem c_X6_init {G : xG} (hW : xW G) (hcl : q_cl G = vwCl) (hty : q_ty G = g_ty) {h : xH} {z a : Nat} (haz : a < z) (ha : h a = some (.inr (6, [.int 0, .int 0, .null, .int 0, .int 0, .int 0, .null]))) :
    xC G mX6_init [.ref a] h z 0 0 (fun v h' z' => v = none ∧ z' = z + 0 ∧ h' = va_up (x_adds h z []) a (some (.inr (6, [.int 0, .int 0, .null, .int 0, .int 0, .int 0, .null])))) := by
  have hO : xO G mX6_init tbX6_init ptX6_init := ⟨tkX6_init, pkX6_init hcl⟩
  refine xC.of hW (by decide) rfl (Nat.le_of_ble_eq_true rfl) ?_
  refine s_aload_n (nx := 1) hO rfl rfl rfl ?_
  refine s_obj (nx := 4) hO rfl (List.mem_cons_of_mem _ (ir9 _ (List.mem_of_getElem? (i := 10) rfl))) (List.mem_cons_of_mem _ (ir1 _ (List.mem_of_getElem? (i := 11) rfl))) (List.mem_cons_of_mem _ (ir1 _ (List.mem_of_getElem? (i := 12) rfl))) (by decide) (by decide) rfl ?_
  refine x_start ha ?_
  exact s_vret hO rfl rfl ⟨rfl, rfl, rfl⟩


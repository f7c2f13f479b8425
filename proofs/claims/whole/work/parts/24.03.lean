def W_X2_run (s : yS) (o1 : Nat) (o2 : Nat) (v3 : Int32) (Q : yS → Prop) : Prop :=
 ∀ s1 : yS, s1 = wR s 123 11 (o1 + 1) → 
 ∀ s2 : yS, s2 = wR s1 123 12 (o2 + 1) → 
 ∀ s3 : yS, s3 = wI s2 123 13 v3 → 
 W_J7_fill_53178 s3 124 8 0 
 (fun s4 => vp_in 0 8 ∧ ∀ s6 : yS, s6 = wI s4 124 (ix 0) (-1) → 
 W_X10_begin s6 125 
 (fun s7 => ∀ s8 : yS, s8 = wI s7 123 14 (-1) → 
 ∀ s9 : yS, s9 = wI s8 123 17 0 → 
 W_X2_enter s9 0 
 (fun s10 => ∀ P55 : Int32 → yS → Prop, (∀ (x11 : Int32) (s12 : yS), (∀ P82 : Prop, ((vp_in (nI 5) 8 ∧ ∀ s14 : yS, s14 = wI s12 124 (ix (nI 5)) (sI s12 125 0) → 
   Q s14) → P82) → 
  ((((8020401)) ≤ x11 → P82)
  ∧ (¬ ((8020401)) ≤ x11 → vp_in 0 8 ∧ 
   ((¬ (sI s12 124 (ix 0)) = (-1) → P82)
   ∧ ((sI s12 124 (ix 0)) = (-1) → W_X2_step s12 
    (fun s16 => ∀ x17 : Int32, x17 = (x11 + 1) → 
    P55 x17 s16)))))) → P55 x11 s12) → 
 P55 0 s10)))
set_option maxRecDepth 100000 in
set_option maxHeartbeats 40000000 in
theorem w_X2_run {G : xG} (hG : yG G) {z : Nat} {s : yS} {o1 : Nat} {o2 : Nat} {v3 : Int32} {Q : yS → Prop} (ho1 : kd o1 = some (9, 0)) (ho2 : kd o2 = some (7, 0)) (H : W_X2_run s o1 o2 v3 Q) : xC G mX2_run [.ref (q_b G + 123), .ref (q_b G + o1), .ref (q_b G + o2), .int v3] (hS G s) z 0 0 (yQv G z Q) := by
  have hW := hG.1
  have hcl := hG.2.1
  have hty := hG.2.2.1
  have hO : xO G mX2_run tbX2_run ptX2_run := ⟨tkX2_run, pkX2_run hcl⟩
  unfold W_X2_run at H
  refine xC.of hW (by decide) rfl (Nat.le_of_ble_eq_true rfl) ?_
  refine s_aload_n (nx := 1) hO rfl rfl rfl ?_
  refine s_aload_n (nx := 2) hO rfl rfl rfl ?_
  refine goV (wR s 123 11 (o1 + 1)) (fun s1 es1 => ?_)
  replace H := H s1 es1
  refine s_putf (nx := 5) hO rfl rfl (hs_o2 kc123) (Nat.le_of_ble_eq_true rfl) (by rw [hty]; rfl) (by rw [hty]; rfl) pX2_11 rfl ?_
  refine xEx.at (up_oR2 kc123 es1) ?_
  refine s_aload_n (nx := 6) hO rfl rfl rfl ?_
  refine s_aload_n (nx := 7) hO rfl rfl rfl ?_
  refine goV (wR s1 123 12 (o2 + 1)) (fun s2 es2 => ?_)
  replace H := H s2 es2
  refine s_putf (nx := 10) hO rfl rfl (hs_o2 kc123) (Nat.le_of_ble_eq_true rfl) (by rw [hty]; rfl) (by rw [hty]; rfl) pX2_12 rfl ?_
  refine xEx.at (up_oR2 kc123 es2) ?_
  refine s_aload_n (nx := 11) hO rfl rfl rfl ?_
  refine s_iload_n (nx := 12) hO rfl rfl rfl ?_
  refine goV (wI s2 123 13 v3) (fun s3 es3 => ?_)
  replace H := H s3 es3
  refine s_putf (nx := 15) hO rfl rfl (hs_o2 kc123) (Nat.le_of_ble_eq_true rfl) (by rw [hty]; rfl) (by rw [hty]; rfl) pX2_13 rfl ?_
  refine xEx.at (up_oI2 kc123 es3) ?_
  refine s_aload_n (nx := 16) hO rfl rfl rfl ?_
  refine s_getf (v := .ref (q_b G + 124)) (nx := 19) hO rfl rfl (hs_o2 kc123) rfl rfl ?_
  refine s_iconst (x := 0) (nx := 20) hO rfl (by decide) rfl ?_
  refine s_callS [.ref (q_b G + 124), .int 0] (nx := 23) hO rfl kX2_run_61 (w_J7_fill_53178 hG kc124 H) rfl rfl (Nat.le_of_ble_eq_true rfl) (Nat.zero_le _) (Nat.zero_le _) rfl (k_Qv (fun s4 H => ?_))
  refine s_aload_n (nx := 24) hO rfl rfl rfl ?_
  refine s_getf (v := .ref (q_b G + 124)) (nx := 27) hO rfl rfl (hs_o2 kc123) rfl rfl ?_
  refine s_iconst (x := 0) (nx := 28) hO rfl (by decide) rfl ?_
  refine s_iconst (x := (-1)) (nx := 29) hO rfl (by decide) rfl ?_
  obtain ⟨b5, H⟩ := H
  refine goV (wI s4 124 (ix 0) (-1)) (fun s6 es6 => ?_)
  replace H := H s6 es6
  refine s_iast (nx := 30) hO rfl (hs_I kc124) b5 rfl ?_
  refine xEx.at (up_I kc124 es6) ?_
  refine s_aload_n (nx := 31) hO rfl rfl rfl ?_
  refine s_getf (v := .ref (q_b G + 125)) (nx := 34) hO rfl rfl (hs_o2 kc123) rfl rfl ?_
  refine s_callV [] (ci := 10) (F := TX10) (N := 3) (nx := 37) hO rfl kX2_run_67 (by rw [hcl]; rfl) (hs_o10 kc125) (w_X10_begin hG kc125 H) rfl rfl (Nat.le_of_ble_eq_true rfl) (Nat.zero_le _) (Nat.zero_le _) rfl (k_Qv (fun s7 H => ?_))
  refine s_aload_n (nx := 38) hO rfl rfl rfl ?_
  refine s_iconst (x := (-1)) (nx := 39) hO rfl (by decide) rfl ?_
  refine goV (wI s7 123 14 (-1)) (fun s8 es8 => ?_)
  replace H := H s8 es8
  refine s_putf (nx := 42) hO rfl rfl (hs_o2 kc123) (Nat.le_of_ble_eq_true rfl) (by rw [hty]; rfl) (by rw [hty]; rfl) pX2_14 rfl ?_
  refine xEx.at (up_oI2 kc123 es8) ?_
  refine s_aload_n (nx := 43) hO rfl rfl rfl ?_
  refine s_iconst (x := 0) (nx := 44) hO rfl (by decide) rfl ?_
  refine goV (wI s8 123 17 0) (fun s9 es9 => ?_)
  replace H := H s9 es9
  refine s_putf (nx := 47) hO rfl rfl (hs_o2 kc123) (Nat.le_of_ble_eq_true rfl) (by rw [hty]; rfl) (by rw [hty]; rfl) pX2_17 rfl ?_
  refine xEx.at (up_oI2 kc123 es9) ?_
  refine s_aload_n (nx := 48) hO rfl rfl rfl ?_
  refine s_iconst (x := 0) (nx := 49) hO rfl (by decide) rfl ?_
  refine s_callV [.int 0] (ci := 2) (F := TX2) (N := 18) (nx := 52) hO rfl kX2_run_76 (by rw [hcl]; rfl) (hs_o2 kc123) (w_X2_enter hG H) rfl rfl (Nat.le_of_ble_eq_true rfl) (Nat.zero_le _) (Nat.zero_le _) rfl (k_Qv (fun s10 H => ?_))
  refine s_iconst (x := 0) (nx := 53) hO rfl (by decide) rfl ?_
  refine goK (H (fun (x11 : Int32) (s12 : yS) => xEx G mX2_run 55 [(0, .ref (q_b G + 123)), (4, .int x11)] [] (hS G s12) z 0 0 (yQv G z Q)) (fun x11 s12 H => ?_)) (fun H => ?_)
  · show xEx G mX2_run 55 [(0, .ref (q_b G + 123)), (4, .int x11)] [] (hS G s12) z 0 0 (yQv G z Q)
    refine s_iload (nx := 57) hO rfl rfl rfl ?_
    refine s_ldc (x := ((8020401))) (nx := 59) hO rfl rfl rfl ?_
    refine goK (H (xEx G mX2_run 82 [(0, .ref (q_b G + 123))] [] (hS G s12) z 0 0 (yQv G z Q)) (fun H => ?_)) (fun H => ?_)
    · show xEx G mX2_run 82 [(0, .ref (q_b G + 123))] [] (hS G s12) z 0 0 (yQv G z Q)
      refine s_aload_n (nx := 83) hO rfl rfl rfl ?_
      refine s_getf (v := .ref (q_b G + 124)) (nx := 86) hO rfl rfl (hs_o2 kc123) rfl rfl ?_
      refine s_iconst (x := (nI 5)) (nx := 87) hO rfl (by decide) rfl ?_
      refine s_aload_n (nx := 88) hO rfl rfl rfl ?_
      refine s_getf (v := .ref (q_b G + 125)) (nx := 91) hO rfl rfl (hs_o2 kc123) rfl rfl ?_
      refine s_getf (v := .int (sI s12 125 0)) (nx := 94) hO rfl rfl (hs_o10 kc125) rfl rfl ?_
      obtain ⟨b13, H⟩ := H
      refine goV (wI s12 124 (ix (nI 5)) (sI s12 125 0)) (fun s14 es14 => ?_)
      replace H := H s14 es14
      refine s_iast (nx := 95) hO rfl (hs_I kc124) b13 rfl ?_
      refine xEx.at (up_I kc124 es14) ?_
      exact s_vret hO rfl rfl ⟨rfl, _, rfl, rfl, H⟩
    refine s_icmp_ge (nx := 62) hO rfl rfl (fun c59 => ?_) (fun c59 => ?_)
    · replace H := H.1 c59
      exact xEx.loc (x_sub1 (List.Mem.head _) x_sub0) H
    · replace H := H.2 c59
      refine s_aload_n (nx := 63) hO rfl rfl rfl ?_
      refine s_getf (v := .ref (q_b G + 124)) (nx := 66) hO rfl rfl (hs_o2 kc123) rfl rfl ?_
      refine s_iconst (x := 0) (nx := 67) hO rfl (by decide) rfl ?_
      obtain ⟨b15, H⟩ := H
      refine s_iald (nx := 68) hO rfl (hs_I kc124) b15 rfl ?_
      refine s_iconst (x := (-1)) (nx := 69) hO rfl (by decide) rfl ?_
      refine s_icmp_ne (nx := 72) hO rfl rfl (fun c69 => ?_) (fun c69 => ?_)
      · replace H := H.1 c69
        exact xEx.loc (x_sub1 (List.Mem.head _) x_sub0) H
      · replace H := H.2 c69
        refine s_aload_n (nx := 73) hO rfl rfl rfl ?_
        refine s_callV [] (ci := 2) (F := TX2) (N := 18) (nx := 76) hO rfl kX2_run_81 (by rw [hcl]; rfl) (hs_o2 kc123) (w_X2_step hG H) rfl rfl (Nat.le_of_ble_eq_true rfl) (Nat.zero_le _) (Nat.zero_le _) rfl (k_Qv (fun s16 H => ?_))
        refine goV ((x11 + 1)) (fun x17 ex17 => ?_)
        replace H := H x17 ex17
        refine e_iinc (nx := 79) (l' := [(4, .int x17), (0, .ref (q_b G + 123))]) ex17 hO rfl (by decide) rfl rfl rfl rfl ?_
        refine s_goto hO rfl ?_
        exact xEx.loc (x_sub1 (List.Mem.tail _ (List.Mem.head _)) (x_sub1 (List.Mem.head _) x_sub0)) H
  refine s_istore (nx := 55) (l' := [(4, .int 0), (0, .ref (q_b G + 123)), (1, .ref (q_b G + o1)), (2, .ref (q_b G + o2)), (3, .int v3)]) hO rfl (by decide) rfl rfl ?_
  exact xEx.loc (x_sub1 (List.Mem.tail _ (List.Mem.head _)) (x_sub1 (List.Mem.head _) x_sub0)) H
def W_X3_empty (s : yS) (g : Nat) (Q : yS → Prop) : Prop :=
 ∀ s1 : yS, s1 = wI s g 0 0 → 
 ∀ s2 : yS, s2 = wI s1 g 1 0 → 
 ∀ s3 : yS, s3 = wI s2 g 4 0 → 
 ∀ s4 : yS, s4 = wI s3 g 5 0 → 
 Q s4
set_option maxRecDepth 100000 in
set_option maxHeartbeats 40000000 in
theorem w_X3_empty {G : xG} (hG : yG G) {z : Nat} {s : yS} {g : Nat} {Q : yS → Prop} (hg : kd g = some (7, 0)) (H : W_X3_empty s g Q) : xC G mX3_empty [.ref (q_b G + g)] (hS G s) z 0 0 (yQv G z Q) := by
  have hW := hG.1
  have hcl := hG.2.1
  have hty := hG.2.2.1
  have hO : xO G mX3_empty tbX3_empty ptX3_empty := ⟨tkX3_empty, pkX3_empty hcl⟩
  unfold W_X3_empty at H
  refine xC.of hW (by decide) rfl (Nat.le_of_ble_eq_true rfl) ?_
  refine s_aload_n (nx := 1) hO rfl rfl rfl ?_
  refine s_iconst (x := 0) (nx := 2) hO rfl (by decide) rfl ?_
  refine goV (wI s g 0 0) (fun s1 es1 => ?_)
  replace H := H s1 es1
  refine s_putf (nx := 5) hO rfl rfl (hs_o3 hg) (Nat.le_of_ble_eq_true rfl) (by rw [hty]; rfl) (by rw [hty]; rfl) pX3_0 rfl ?_
  refine xEx.at (up_oI3 hg es1) ?_
  refine s_aload_n (nx := 6) hO rfl rfl rfl ?_
  refine s_iconst (x := 0) (nx := 7) hO rfl (by decide) rfl ?_
  refine goV (wI s1 g 1 0) (fun s2 es2 => ?_)
  replace H := H s2 es2
  refine s_putf (nx := 10) hO rfl rfl (hs_o3 hg) (Nat.le_of_ble_eq_true rfl) (by rw [hty]; rfl) (by rw [hty]; rfl) pX3_1 rfl ?_
  refine xEx.at (up_oI3 hg es2) ?_
  refine s_aload_n (nx := 11) hO rfl rfl rfl ?_
  refine s_iconst (x := 0) (nx := 12) hO rfl (by decide) rfl ?_
  refine goV (wI s2 g 4 0) (fun s3 es3 => ?_)
  replace H := H s3 es3
  refine s_putf (nx := 15) hO rfl rfl (hs_o3 hg) (Nat.le_of_ble_eq_true rfl) (by rw [hty]; rfl) (by rw [hty]; rfl) pX3_4 rfl ?_
  refine xEx.at (up_oI3 hg es3) ?_
  refine s_aload_n (nx := 16) hO rfl rfl rfl ?_
  refine s_iconst (x := 0) (nx := 17) hO rfl (by decide) rfl ?_
  refine goV (wI s3 g 5 0) (fun s4 es4 => ?_)
  replace H := H s4 es4
  refine s_putf (nx := 20) hO rfl rfl (hs_o3 hg) (Nat.le_of_ble_eq_true rfl) (by rw [hty]; rfl) (by rw [hty]; rfl) pX3_5 rfl ?_
  refine xEx.at (up_oI3 hg es4) ?_
  exact s_vret hO rfl rfl ⟨rfl, _, rfl, rfl, H⟩
def W_X3_close (s : yS) (g : Nat) (Q : yS → Prop) : Prop :=
 vp_in ((sI s g 0) + (sI s g 1)) 31 ∧ ∀ s2 : yS, s2 = wI s (g + 2) (ix ((sI s g 0) + (sI s g 1))) (sI s g 4) → 
 ∀ s3 : yS, s3 = wI s2 g 6 0 → 
 ∀ P25 : Int32 → yS → Prop, (∀ (x4 : Int32) (s5 : yS), (W_X3_firstWay s5 g 
  (fun r6 => ((r6 ≤ x4 → Q s5)
  ∧ (¬ r6 ≤ x4 → vp_in x4 216 ∧ 
   ∀ P62 : Int32 → Prop, (∀ (y8 : Int32), (∀ s9 : yS, s9 = wI s5 g 6 ((sI s5 g 6) ||| y8) → 
    ∀ x10 : Int32, x10 = (x4 + 1) → 
    P25 x10 s9) → P62 y8) → 
   ((¬ (sI s5 (g + 3) (ix x4)) = (nI 16) → vp_in x4 216 ∧ 
    P62 (1 <<< ((sI s5 (g + 3) (ix x4)) &&& 31)))
   ∧ ((sI s5 (g + 3) (ix x4)) = (nI 16) → P62 ((65535)))))))) → P25 x4 s5) → 
 P25 0 s3
set_option maxRecDepth 100000 in
set_option maxHeartbeats 40000000 in
theorem w_X3_close {G : xG} (hG : yG G) {z : Nat} {s : yS} {g : Nat} {Q : yS → Prop} (hg : kd g = some (7, 0)) (H : W_X3_close s g Q) : xC G mX3_close [.ref (q_b G + g)] (hS G s) z 0 0 (yQv G z Q) := by
  have hW := hG.1
  have hcl := hG.2.1
  have hty := hG.2.2.1
  have hO : xO G mX3_close tbX3_close ptX3_close := ⟨tkX3_close, pkX3_close hcl⟩
  unfold W_X3_close at H
  refine xC.of hW (by decide) rfl (Nat.le_of_ble_eq_true rfl) ?_
  refine s_aload_n (nx := 1) hO rfl rfl rfl ?_
  refine s_getf (v := .ref (q_b G + (g + 2))) (nx := 4) hO rfl rfl (hs_o3 hg) rfl rfl ?_
  refine s_aload_n (nx := 5) hO rfl rfl rfl ?_
  refine s_getf (v := .int (sI s g 0)) (nx := 8) hO rfl rfl (hs_o3 hg) rfl rfl ?_
  refine s_aload_n (nx := 9) hO rfl rfl rfl ?_
  refine s_getf (v := .int (sI s g 1)) (nx := 12) hO rfl rfl (hs_o3 hg) rfl rfl ?_
  refine s_iadd (nx := 13) hO rfl rfl ?_
  refine s_aload_n (nx := 14) hO rfl rfl rfl ?_
  refine s_getf (v := .int (sI s g 4)) (nx := 17) hO rfl rfl (hs_o3 hg) rfl rfl ?_
  obtain ⟨b1, H⟩ := H
  refine goV (wI s (g + 2) (ix ((sI s g 0) + (sI s g 1))) (sI s g 4)) (fun s2 es2 => ?_)
  replace H := H s2 es2
  refine s_iast (nx := 18) hO rfl (hs_I (kf3_8 hg)) b1 rfl ?_
  refine xEx.at (up_I (kf3_8 hg) es2) ?_
  refine s_aload_n (nx := 19) hO rfl rfl rfl ?_
  refine s_iconst (x := 0) (nx := 20) hO rfl (by decide) rfl ?_
  refine goV (wI s2 g 6 0) (fun s3 es3 => ?_)
  replace H := H s3 es3
  refine s_putf (nx := 23) hO rfl rfl (hs_o3 hg) (Nat.le_of_ble_eq_true rfl) (by rw [hty]; rfl) (by rw [hty]; rfl) pX3_6 rfl ?_
  refine xEx.at (up_oI3 hg es3) ?_
  refine s_iconst (x := 0) (nx := 24) hO rfl (by decide) rfl ?_
  refine goK (H (fun (x4 : Int32) (s5 : yS) => xEx G mX3_close 25 [(0, .ref (q_b G + g)), (1, .int x4)] [] (hS G s5) z 0 0 (yQv G z Q)) (fun x4 s5 H => ?_)) (fun H => ?_)
  · show xEx G mX3_close 25 [(0, .ref (q_b G + g)), (1, .int x4)] [] (hS G s5) z 0 0 (yQv G z Q)
    refine s_iload_n (nx := 26) hO rfl rfl rfl ?_
    refine s_aload_n (nx := 27) hO rfl rfl rfl ?_
    refine s_callV [] (ci := 3) (F := TX3) (N := 20) (nx := 30) hO rfl kX3_close_79 (by rw [hcl]; rfl) (hs_o3 hg) (w_X3_firstWay hG hg H) rfl rfl (Nat.le_of_ble_eq_true rfl) (Nat.zero_le _) (Nat.zero_le _) rfl (k_Pi (fun r6 H => ?_))
    refine s_icmp_ge (nx := 33) hO rfl rfl (fun c30 => ?_) (fun c30 => ?_)
    · replace H := H.1 c30
      exact s_vret hO rfl rfl ⟨rfl, _, rfl, rfl, H⟩
    · replace H := H.2 c30
      refine s_aload_n (nx := 34) hO rfl rfl rfl ?_
      refine s_dup (nx := 35) hO rfl rfl rfl ?_
      refine s_getf (v := .int (sI s5 g 6)) (nx := 38) hO rfl rfl (hs_o3 hg) rfl rfl ?_
      refine s_aload_n (nx := 39) hO rfl rfl rfl ?_
      refine s_getf (v := .ref (q_b G + (g + 3))) (nx := 42) hO rfl rfl (hs_o3 hg) rfl rfl ?_
      refine s_iload_n (nx := 43) hO rfl rfl rfl ?_
      obtain ⟨b7, H⟩ := H
      refine s_iald (nx := 44) hO rfl (hs_I (kf3_9 hg)) b7 rfl ?_
      refine s_bipush (x := (nI 16)) (nx := 46) hO rfl (by decide) rfl ?_
      refine goK (H (fun (y8 : Int32) => xEx G mX3_close 62 [(0, .ref (q_b G + g)), (1, .int x4)] [.int y8, .int (sI s5 g 6), .ref (q_b G + g)] (hS G s5) z 0 0 (yQv G z Q)) (fun y8 H => ?_)) (fun H => ?_)
      · show xEx G mX3_close 62 [(0, .ref (q_b G + g)), (1, .int x4)] [.int y8, .int (sI s5 g 6), .ref (q_b G + g)] (hS G s5) z 0 0 (yQv G z Q)
        refine s_ior (nx := 63) hO rfl rfl ?_
        refine goV (wI s5 g 6 ((sI s5 g 6) ||| y8)) (fun s9 es9 => ?_)
        replace H := H s9 es9
        refine s_putf (nx := 66) hO rfl rfl (hs_o3 hg) (Nat.le_of_ble_eq_true rfl) (by rw [hty]; rfl) (by rw [hty]; rfl) pX3_6 rfl ?_
        refine xEx.at (up_oI3 hg es9) ?_
        refine goV ((x4 + 1)) (fun x10 ex10 => ?_)
        replace H := H x10 ex10
        refine e_iinc (nx := 69) (l' := [(1, .int x10), (0, .ref (q_b G + g))]) ex10 hO rfl (by decide) rfl rfl rfl rfl ?_
        refine s_goto hO rfl ?_
        exact xEx.loc (x_sub1 (List.Mem.tail _ (List.Mem.head _)) (x_sub1 (List.Mem.head _) x_sub0)) H
      refine s_icmp_ne (nx := 49) hO rfl rfl (fun c46 => ?_) (fun c46 => ?_)
      · replace H := H.1 c46
        refine s_iconst (x := 1) (nx := 55) hO rfl (by decide) rfl ?_
        refine s_aload_n (nx := 56) hO rfl rfl rfl ?_
        refine s_getf (v := .ref (q_b G + (g + 3))) (nx := 59) hO rfl rfl (hs_o3 hg) rfl rfl ?_
        refine s_iload_n (nx := 60) hO rfl rfl rfl ?_
        obtain ⟨b11, H⟩ := H
        refine s_iald (nx := 61) hO rfl (hs_I (kf3_9 hg)) b11 rfl ?_
        refine s_ishl (nx := 62) hO rfl rfl ?_
        exact xEx.loc (x_sub1 (List.Mem.head _) (x_sub1 (List.Mem.tail _ (List.Mem.head _)) x_sub0)) H
      · replace H := H.2 c46
        refine s_ldc (x := ((65535))) (nx := 51) hO rfl rfl rfl ?_
        refine s_goto hO rfl ?_
        exact xEx.loc (x_sub1 (List.Mem.head _) (x_sub1 (List.Mem.tail _ (List.Mem.head _)) x_sub0)) H
  refine s_istore_n (nx := 25) (l' := [(1, .int 0), (0, .ref (q_b G + g))]) hO rfl (by decide) rfl rfl ?_
  exact xEx.loc (x_sub1 (List.Mem.tail _ (List.Mem.head _)) (x_sub1 (List.Mem.head _) x_sub0)) H
def W_X8_withLetter (s : yS) (v1 : Int64) (v2 : Int32) (Q : Int64 → Prop) : Prop :=
 Q ((v1 <<< (((nI 5)).toInt64 &&& 63)) ||| (((v2 - (nI 97)) + 1)).toInt64)
set_option maxRecDepth 100000 in
set_option maxHeartbeats 40000000 in
theorem w_X8_withLetter {G : xG} (hG : yG G) {z : Nat} {s : yS} {v1 : Int64} {v2 : Int32} {Q : Int64 → Prop} (H : W_X8_withLetter s v1 v2 Q) : xC G mX8_withLetter [.long v1, .int v2] (hS G s) z 0 0 (yPl G z s Q) := by
  have hW := hG.1
  have hcl := hG.2.1
  have hty := hG.2.2.1
  have hO : xO G mX8_withLetter tbX8_withLetter ptX8_withLetter := ⟨tkX8_withLetter, pkX8_withLetter hcl⟩
  unfold W_X8_withLetter at H
  refine xC.of hW (by decide) rfl (Nat.le_of_ble_eq_true rfl) ?_
  refine s_lload_n (nx := 1) hO rfl rfl rfl ?_
  refine s_iconst (x := (nI 5)) (nx := 2) hO rfl (by decide) rfl ?_
  refine s_lshl (nx := 3) hO rfl rfl ?_
  refine s_iload_n (nx := 4) hO rfl rfl rfl ?_
  refine s_bipush (x := (nI 97)) (nx := 6) hO rfl (by decide) rfl ?_
  refine s_isub (nx := 7) hO rfl rfl ?_
  refine s_iconst (x := 1) (nx := 8) hO rfl (by decide) rfl ?_
  refine s_iadd (nx := 9) hO rfl rfl ?_
  refine s_i2l (nx := 10) hO rfl rfl ?_
  refine s_lor (nx := 11) hO rfl rfl ?_
  exact s_lret hO rfl rfl ⟨rfl, _, rfl, rfl, H⟩
def W_X8_add (s : yS) (v1 : Int32) (v2 : Int32) (v3 : Int64) (Q : yS → Prop) : Prop :=
 vp_in (sI s 92 3) 8193 ∧ ∀ s2 : yS, s2 = wI s 93 (ix (sI s 92 3)) v1 → 
 vp_in (sI s2 92 3) 8193 ∧ ∀ s4 : yS, s4 = wI s2 94 (ix (sI s2 92 3)) v2 → 
 vp_in (sI s4 92 3) 8193 ∧ ∀ s6 : yS, s6 = wJ s4 95 (ix (sI s4 92 3)) v3 → 
 ∀ s7 : yS, s7 = wI s6 92 3 ((sI s6 92 3) + 1) → 
 Q s7
set_option maxRecDepth 100000 in
set_option maxHeartbeats 40000000 in
theorem w_X8_add {G : xG} (hG : yG G) {z : Nat} {s : yS} {v1 : Int32} {v2 : Int32} {v3 : Int64} {Q : yS → Prop} (H : W_X8_add s v1 v2 v3 Q) : xC G mX8_add [.ref (q_b G + 92), .int v1, .int v2, .long v3] (hS G s) z 0 0 (yQv G z Q) := by
  have hW := hG.1
  have hcl := hG.2.1
  have hty := hG.2.2.1
  have hO : xO G mX8_add tbX8_add ptX8_add := ⟨tkX8_add, pkX8_add hcl⟩
  unfold W_X8_add at H
  refine xC.of hW (by decide) rfl (Nat.le_of_ble_eq_true rfl) ?_
  refine s_aload_n (nx := 1) hO rfl rfl rfl ?_
  refine s_getf (v := .ref (q_b G + 93)) (nx := 4) hO rfl rfl (hs_o8 kc92) rfl rfl ?_
  refine s_aload_n (nx := 5) hO rfl rfl rfl ?_
  refine s_getf (v := .int (sI s 92 3)) (nx := 8) hO rfl rfl (hs_o8 kc92) rfl rfl ?_
  refine s_iload_n (nx := 9) hO rfl rfl rfl ?_
  obtain ⟨b1, H⟩ := H
  refine goV (wI s 93 (ix (sI s 92 3)) v1) (fun s2 es2 => ?_)
  replace H := H s2 es2
  refine s_iast (nx := 10) hO rfl (hs_I kc93) b1 rfl ?_
  refine xEx.at (up_I kc93 es2) ?_
  refine s_aload_n (nx := 11) hO rfl rfl rfl ?_
  refine s_getf (v := .ref (q_b G + 94)) (nx := 14) hO rfl rfl (hs_o8 kc92) rfl rfl ?_
  refine s_aload_n (nx := 15) hO rfl rfl rfl ?_
  refine s_getf (v := .int (sI s2 92 3)) (nx := 18) hO rfl rfl (hs_o8 kc92) rfl rfl ?_
  refine s_iload_n (nx := 19) hO rfl rfl rfl ?_
  obtain ⟨b3, H⟩ := H
  refine goV (wI s2 94 (ix (sI s2 92 3)) v2) (fun s4 es4 => ?_)
  replace H := H s4 es4
  refine s_iast (nx := 20) hO rfl (hs_I kc94) b3 rfl ?_
  refine xEx.at (up_I kc94 es4) ?_
  refine s_aload_n (nx := 21) hO rfl rfl rfl ?_
  refine s_getf (v := .ref (q_b G + 95)) (nx := 24) hO rfl rfl (hs_o8 kc92) rfl rfl ?_
  refine s_aload_n (nx := 25) hO rfl rfl rfl ?_
  refine s_getf (v := .int (sI s4 92 3)) (nx := 28) hO rfl rfl (hs_o8 kc92) rfl rfl ?_
  refine s_lload_n (nx := 29) hO rfl rfl rfl ?_
  obtain ⟨b5, H⟩ := H
  refine goV (wJ s4 95 (ix (sI s4 92 3)) v3) (fun s6 es6 => ?_)
  replace H := H s6 es6
  refine s_last (nx := 30) hO rfl (hs_J kc95) b5 rfl ?_
  refine xEx.at (up_J kc95 es6) ?_
  refine s_aload_n (nx := 31) hO rfl rfl rfl ?_
  refine s_dup (nx := 32) hO rfl rfl rfl ?_
  refine s_getf (v := .int (sI s6 92 3)) (nx := 35) hO rfl rfl (hs_o8 kc92) rfl rfl ?_
  refine s_iconst (x := 1) (nx := 36) hO rfl (by decide) rfl ?_
  refine s_iadd (nx := 37) hO rfl rfl ?_
  refine goV (wI s6 92 3 ((sI s6 92 3) + 1)) (fun s7 es7 => ?_)
  replace H := H s7 es7
  refine s_putf (nx := 40) hO rfl rfl (hs_o8 kc92) (Nat.le_of_ble_eq_true rfl) (by rw [hty]; rfl) (by rw [hty]; rfl) pX8_3 rfl ?_
  refine xEx.at (up_oI8 kc92 es7) ?_
  exact s_vret hO rfl rfl ⟨rfl, _, rfl, rfl, H⟩
def W_X8_isLetter (s : yS) (v1 : Int32) (Q : Int32 → Prop) : Prop :=
 ((v1 < (nI 97) → Q 0)
 ∧ (¬ v1 < (nI 97) → (((nI 122) < v1 → Q 0)
  ∧ (¬ (nI 122) < v1 → Q 1))))
set_option maxRecDepth 100000 in
set_option maxHeartbeats 40000000 in
theorem w_X8_isLetter {G : xG} (hG : yG G) {z : Nat} {s : yS} {v1 : Int32} {Q : Int32 → Prop} (H : W_X8_isLetter s v1 Q) : xC G mX8_isLetter [.int v1] (hS G s) z 0 0 (yPi G z s Q) := by
  have hW := hG.1
  have hcl := hG.2.1
  have hty := hG.2.2.1
  have hO : xO G mX8_isLetter tbX8_isLetter ptX8_isLetter := ⟨tkX8_isLetter, pkX8_isLetter hcl⟩
  unfold W_X8_isLetter at H
  refine xC.of hW (by decide) rfl (Nat.le_of_ble_eq_true rfl) ?_
  refine s_iload_n (nx := 1) hO rfl rfl rfl ?_
  refine s_bipush (x := (nI 97)) (nx := 3) hO rfl (by decide) rfl ?_
  refine s_icmp_lt (nx := 6) hO rfl rfl (fun c3 => ?_) (fun c3 => ?_)
  · replace H := H.1 c3
    refine s_iconst (x := 0) (nx := 17) hO rfl (by decide) rfl ?_
    exact s_iret hO rfl rfl rfl ⟨rfl, _, rfl, rfl, H⟩
  · replace H := H.2 c3
    refine s_iload_n (nx := 7) hO rfl rfl rfl ?_
    refine s_bipush (x := (nI 122)) (nx := 9) hO rfl (by decide) rfl ?_
    refine s_icmp_gt (nx := 12) hO rfl rfl (fun c9 => ?_) (fun c9 => ?_)
    · replace H := H.1 c9
      refine s_iconst (x := 0) (nx := 17) hO rfl (by decide) rfl ?_
      exact s_iret hO rfl rfl rfl ⟨rfl, _, rfl, rfl, H⟩
    · replace H := H.2 c9
      refine s_iconst (x := 1) (nx := 13) hO rfl (by decide) rfl ?_
      refine s_goto hO rfl ?_
      exact s_iret hO rfl rfl rfl ⟨rfl, _, rfl, rfl, H⟩
def W_X8_isDigit (s : yS) (v1 : Int32) (Q : Int32 → Prop) : Prop :=
 ((v1 < (nI 48) → Q 0)
 ∧ (¬ v1 < (nI 48) → (((nI 57) < v1 → Q 0)
  ∧ (¬ (nI 57) < v1 → Q 1))))
set_option maxRecDepth 100000 in
set_option maxHeartbeats 40000000 in
theorem w_X8_isDigit {G : xG} (hG : yG G) {z : Nat} {s : yS} {v1 : Int32} {Q : Int32 → Prop} (H : W_X8_isDigit s v1 Q) : xC G mX8_isDigit [.int v1] (hS G s) z 0 0 (yPi G z s Q) := by
  have hW := hG.1
  have hcl := hG.2.1
  have hty := hG.2.2.1
  have hO : xO G mX8_isDigit tbX8_isDigit ptX8_isDigit := ⟨tkX8_isDigit, pkX8_isDigit hcl⟩
  unfold W_X8_isDigit at H
  refine xC.of hW (by decide) rfl (Nat.le_of_ble_eq_true rfl) ?_
  refine s_iload_n (nx := 1) hO rfl rfl rfl ?_
  refine s_bipush (x := (nI 48)) (nx := 3) hO rfl (by decide) rfl ?_
  refine s_icmp_lt (nx := 6) hO rfl rfl (fun c3 => ?_) (fun c3 => ?_)
  · replace H := H.1 c3
    refine s_iconst (x := 0) (nx := 17) hO rfl (by decide) rfl ?_
    exact s_iret hO rfl rfl rfl ⟨rfl, _, rfl, rfl, H⟩
  · replace H := H.2 c3
    refine s_iload_n (nx := 7) hO rfl rfl rfl ?_
    refine s_bipush (x := (nI 57)) (nx := 9) hO rfl (by decide) rfl ?_
    refine s_icmp_gt (nx := 12) hO rfl rfl (fun c9 => ?_) (fun c9 => ?_)
    · replace H := H.1 c9
      refine s_iconst (x := 0) (nx := 17) hO rfl (by decide) rfl ?_
      exact s_iret hO rfl rfl rfl ⟨rfl, _, rfl, rfl, H⟩
    · replace H := H.2 c9
      refine s_iconst (x := 1) (nx := 13) hO rfl (by decide) rfl ?_
      refine s_goto hO rfl ?_
      exact s_iret hO rfl rfl rfl ⟨rfl, _, rfl, rfl, H⟩
def W_X8_runEnd (s : yS) (a1 n1 : Nat) (v2 : Int32) (v3 : Int32) (Q : Int32 → Prop) : Prop :=
 ∀ P2 : Int32 → Prop, (∀ (x1 : Int32), (((v3 ≤ x1 → Q x1)
  ∧ (¬ v3 ≤ x1 → vp_in x1 n1 ∧ 
   W_X8_isLetter s (sI s a1 (ix x1)) 
   (fun r3 => ∀ P33 : Prop, ((∀ x4 : Int32, x4 = (x1 + 1) → 
    P2 x4) → P33) → 
   ((¬ r3 = 0 → P33)
   ∧ (r3 = 0 → vp_in x1 n1 ∧ 
    W_X8_isDigit s (sI s a1 (ix x1)) 
    (fun r6 => ((¬ r6 = 0 → P33)
    ∧ (r6 = 0 → vp_in x1 n1 ∧ 
     ((¬ (sI s a1 (ix x1)) = (nI 45) → Q x1)
     ∧ ((sI s a1 (ix x1)) = (nI 45) → P33))))))))))) → P2 x1) → 
 P2 v2
set_option maxRecDepth 100000 in
set_option maxHeartbeats 40000000 in
theorem w_X8_runEnd {G : xG} (hG : yG G) {z : Nat} {s : yS} {a1 n1 : Nat} {v2 : Int32} {v3 : Int32} {Q : Int32 → Prop} (ha1 : kd a1 = some (1, n1)) (H : W_X8_runEnd s a1 n1 v2 v3 Q) : xC G mX8_runEnd [.ref (q_b G + a1), .int v2, .int v3] (hS G s) z 0 0 (yPi G z s Q) := by
  have hW := hG.1
  have hcl := hG.2.1
  have hty := hG.2.2.1
  have hO : xO G mX8_runEnd tbX8_runEnd ptX8_runEnd := ⟨tkX8_runEnd, pkX8_runEnd hcl⟩
  unfold W_X8_runEnd at H
  refine xC.of hW (by decide) rfl (Nat.le_of_ble_eq_true rfl) ?_
  refine s_iload_n (nx := 1) hO rfl rfl rfl ?_
  refine goK (H (fun (x1 : Int32) => xEx G mX8_runEnd 2 [(0, .ref (q_b G + a1)), (2, .int v3), (3, .int x1)] [] (hS G s) z 0 0 (yPi G z s Q)) (fun x1 H => ?_)) (fun H => ?_)
  · show xEx G mX8_runEnd 2 [(0, .ref (q_b G + a1)), (2, .int v3), (3, .int x1)] [] (hS G s) z 0 0 (yPi G z s Q)
    refine s_iload_n (nx := 3) hO rfl rfl rfl ?_
    refine s_iload_n (nx := 4) hO rfl rfl rfl ?_
    refine s_icmp_ge (nx := 7) hO rfl rfl (fun c4 => ?_) (fun c4 => ?_)
    · replace H := H.1 c4
      refine s_iload_n (nx := 40) hO rfl rfl rfl ?_
      exact s_iret hO rfl rfl rfl ⟨rfl, _, rfl, rfl, H⟩
    · replace H := H.2 c4
      refine s_aload_n (nx := 8) hO rfl rfl rfl ?_
      refine s_iload_n (nx := 9) hO rfl rfl rfl ?_
      obtain ⟨b2, H⟩ := H
      refine s_bald (nx := 10) hO rfl (hs_B ha1) b2 rfl ?_
      refine s_callS [.int (sI s a1 (ix x1))] (nx := 13) hO rfl kX8_runEnd_63 (w_X8_isLetter hG H) rfl rfl (Nat.le_of_ble_eq_true rfl) (Nat.zero_le _) (Nat.zero_le _) rfl (k_Pi (fun r3 H => ?_))
      refine goK (H (xEx G mX8_runEnd 33 [(0, .ref (q_b G + a1)), (2, .int v3), (3, .int x1)] [] (hS G s) z 0 0 (yPi G z s Q)) (fun H => ?_)) (fun H => ?_)
      · show xEx G mX8_runEnd 33 [(0, .ref (q_b G + a1)), (2, .int v3), (3, .int x1)] [] (hS G s) z 0 0 (yPi G z s Q)
        refine goV ((x1 + 1)) (fun x4 ex4 => ?_)
        replace H := H x4 ex4
        refine e_iinc (nx := 36) (l' := [(3, .int x4), (0, .ref (q_b G + a1)), (2, .int v3)]) ex4 hO rfl (by decide) rfl rfl rfl rfl ?_
        refine s_goto hO rfl ?_
        exact xEx.loc (x_sub1 (List.Mem.tail _ (List.Mem.head _)) (x_sub1 (List.Mem.tail _ (List.Mem.tail _ (List.Mem.head _))) (x_sub1 (List.Mem.head _) x_sub0))) H
      refine s_if_ne (nx := 16) hO rfl rfl (fun c13 => ?_) (fun c13 => ?_)
      · replace H := H.1 c13
        exact xEx.loc (x_sub1 (List.Mem.head _) (x_sub1 (List.Mem.tail _ (List.Mem.head _)) (x_sub1 (List.Mem.tail _ (List.Mem.tail _ (List.Mem.head _))) x_sub0))) H
      · replace H := H.2 c13
        refine s_aload_n (nx := 17) hO rfl rfl rfl ?_
        refine s_iload_n (nx := 18) hO rfl rfl rfl ?_
        obtain ⟨b5, H⟩ := H
        refine s_bald (nx := 19) hO rfl (hs_B ha1) b5 rfl ?_
        refine s_callS [.int (sI s a1 (ix x1))] (nx := 22) hO rfl kX8_runEnd_67 (w_X8_isDigit hG H) rfl rfl (Nat.le_of_ble_eq_true rfl) (Nat.zero_le _) (Nat.zero_le _) rfl (k_Pi (fun r6 H => ?_))
        refine s_if_ne (nx := 25) hO rfl rfl (fun c22 => ?_) (fun c22 => ?_)
        · replace H := H.1 c22
          exact xEx.loc (x_sub1 (List.Mem.head _) (x_sub1 (List.Mem.tail _ (List.Mem.head _)) (x_sub1 (List.Mem.tail _ (List.Mem.tail _ (List.Mem.head _))) x_sub0))) H
        · replace H := H.2 c22
          refine s_aload_n (nx := 26) hO rfl rfl rfl ?_
          refine s_iload_n (nx := 27) hO rfl rfl rfl ?_
          obtain ⟨b7, H⟩ := H
          refine s_bald (nx := 28) hO rfl (hs_B ha1) b7 rfl ?_
          refine s_bipush (x := (nI 45)) (nx := 30) hO rfl (by decide) rfl ?_
          refine s_icmp_ne (nx := 33) hO rfl rfl (fun c30 => ?_) (fun c30 => ?_)
          · replace H := H.1 c30
            refine s_iload_n (nx := 40) hO rfl rfl rfl ?_
            exact s_iret hO rfl rfl rfl ⟨rfl, _, rfl, rfl, H⟩
          · replace H := H.2 c30
            exact xEx.loc (x_sub1 (List.Mem.head _) (x_sub1 (List.Mem.tail _ (List.Mem.head _)) (x_sub1 (List.Mem.tail _ (List.Mem.tail _ (List.Mem.head _))) x_sub0))) H
  refine s_istore_n (nx := 2) (l' := [(3, .int v2), (0, .ref (q_b G + a1)), (1, .int v2), (2, .int v3)]) hO rfl (by decide) rfl rfl ?_
  exact xEx.loc (x_sub1 (List.Mem.tail _ (List.Mem.head _)) (x_sub1 (List.Mem.tail _ (List.Mem.tail _ (List.Mem.tail _ (List.Mem.head _)))) (x_sub1 (List.Mem.head _) x_sub0))) H
def W_X8_addName (s : yS) (a1 n1 : Nat) (v2 : Int32) (v3 : Int32) (Q : yS → Prop) : Prop :=
 ∀ P13 : Int32 → Prop, (∀ (y1 : Int32), (∀ P21 : Int32 → Int64 → Int32 → Prop, (∀ (x2 : Int32) (x3 : Int64) (x4 : Int32), (∀ P58 : Prop, ((((¬ x2 = 0 → ∀ P74 : Int32 → Prop, (∀ (x5 : Int32), ((((nI 12) ≤ x5 → W_X8_add s (nI 5) v2 x3 
       (fun s6 => Q s6))
      ∧ (¬ (nI 12) ≤ x5 → vp_in x5 12 ∧ 
       ((¬ (lg_cmp (sJ s 96 (ix x5)) x3) = 0 → ∀ x8 : Int32, x8 = (x5 + 1) → 
        P74 x8)
       ∧ ((lg_cmp (sJ s 96 (ix x5)) x3) = 0 → W_X8_add s (nI 6) v2 (x5).toInt64 
        (fun s9 => Q s9)))))) → P74 x5) → 
     P74 0)
    ∧ (x2 = 0 → W_X8_add s 1 v2 0 
     (fun s10 => Q s10)))) → P58) → 
   ((v3 ≤ x4 → P58)
   ∧ (¬ v3 ≤ x4 → ((x2 = 0 → P58)
    ∧ (¬ x2 = 0 → vp_in x4 n1 ∧ 
     W_X8_isLetter s (sI s a1 (ix x4)) 
     (fun r12 => vp_in x4 n1 ∧ 
     W_X8_withLetter s x3 (sI s a1 (ix x4)) 
     (fun r14 => ∀ x15 : Int32, x15 = (x4 + 1) → 
     P21 r12 r14 x15))))))) → P21 x2 x3 x4) → 
  P21 y1 0 v2) → P13 y1) → 
 (((nI 12) < (v3 - v2) → P13 0)
 ∧ (¬ (nI 12) < (v3 - v2) → P13 1))
set_option maxRecDepth 100000 in
set_option maxHeartbeats 40000000 in
theorem w_X8_addName {G : xG} (hG : yG G) {z : Nat} {s : yS} {a1 n1 : Nat} {v2 : Int32} {v3 : Int32} {Q : yS → Prop} (ha1 : kd a1 = some (1, n1)) (H : W_X8_addName s a1 n1 v2 v3 Q) : xC G mX8_addName [.ref (q_b G + 92), .ref (q_b G + a1), .int v2, .int v3] (hS G s) z 0 0 (yQv G z Q) := by
  have hW := hG.1
  have hcl := hG.2.1
  have hty := hG.2.2.1
  have hO : xO G mX8_addName tbX8_addName ptX8_addName := ⟨tkX8_addName, pkX8_addName hcl⟩
  unfold W_X8_addName at H
  refine xC.of hW (by decide) rfl (Nat.le_of_ble_eq_true rfl) ?_
  refine s_iload_n (nx := 1) hO rfl rfl rfl ?_
  refine s_iload_n (nx := 2) hO rfl rfl rfl ?_
  refine s_isub (nx := 3) hO rfl rfl ?_
  refine s_bipush (x := (nI 12)) (nx := 5) hO rfl (by decide) rfl ?_
  refine goK (H (fun (y1 : Int32) => xEx G mX8_addName 13 [(0, .ref (q_b G + 92)), (1, .ref (q_b G + a1)), (2, .int v2), (3, .int v3)] [.int y1] (hS G s) z 0 0 (yQv G z Q)) (fun y1 H => ?_)) (fun H => ?_)
  · show xEx G mX8_addName 13 [(0, .ref (q_b G + 92)), (1, .ref (q_b G + a1)), (2, .int v2), (3, .int v3)] [.int y1] (hS G s) z 0 0 (yQv G z Q)
    refine s_istore (nx := 15) (l' := [(4, .int y1), (0, .ref (q_b G + 92)), (1, .ref (q_b G + a1)), (2, .int v2), (3, .int v3)]) hO rfl (by decide) rfl rfl ?_
    refine s_lconst (x := 0) (nx := 16) hO rfl (by decide) rfl ?_
    refine s_lstore (nx := 18) (l' := [(5, .long 0), (4, .int y1), (0, .ref (q_b G + 92)), (1, .ref (q_b G + a1)), (2, .int v2), (3, .int v3)]) hO rfl (by decide) rfl rfl ?_
    refine s_iload_n (nx := 19) hO rfl rfl rfl ?_
    refine goK (H (fun (x2 : Int32) (x3 : Int64) (x4 : Int32) => xEx G mX8_addName 21 [(0, .ref (q_b G + 92)), (1, .ref (q_b G + a1)), (2, .int v2), (3, .int v3), (4, .int x2), (5, .long x3), (7, .int x4)] [] (hS G s) z 0 0 (yQv G z Q)) (fun x2 x3 x4 H => ?_)) (fun H => ?_)
    · show xEx G mX8_addName 21 [(0, .ref (q_b G + 92)), (1, .ref (q_b G + a1)), (2, .int v2), (3, .int v3), (4, .int x2), (5, .long x3), (7, .int x4)] [] (hS G s) z 0 0 (yQv G z Q)
      refine s_iload (nx := 23) hO rfl rfl rfl ?_
      refine s_iload_n (nx := 24) hO rfl rfl rfl ?_
      refine goK (H (xEx G mX8_addName 58 [(0, .ref (q_b G + 92)), (2, .int v2), (4, .int x2), (5, .long x3)] [] (hS G s) z 0 0 (yQv G z Q)) (fun H => ?_)) (fun H => ?_)
      · show xEx G mX8_addName 58 [(0, .ref (q_b G + 92)), (2, .int v2), (4, .int x2), (5, .long x3)] [] (hS G s) z 0 0 (yQv G z Q)
        refine s_iload (nx := 60) hO rfl rfl rfl ?_
        refine s_if_ne (nx := 63) hO rfl rfl (fun c60 => ?_) (fun c60 => ?_)
        · replace H := H.1 c60
          refine s_iconst (x := 0) (nx := 72) hO rfl (by decide) rfl ?_
          refine goK (H (fun (x5 : Int32) => xEx G mX8_addName 74 [(0, .ref (q_b G + 92)), (2, .int v2), (5, .long x3), (7, .int x5)] [] (hS G s) z 0 0 (yQv G z Q)) (fun x5 H => ?_)) (fun H => ?_)
          · show xEx G mX8_addName 74 [(0, .ref (q_b G + 92)), (2, .int v2), (5, .long x3), (7, .int x5)] [] (hS G s) z 0 0 (yQv G z Q)
            refine s_iload (nx := 76) hO rfl rfl rfl ?_
            refine s_bipush (x := (nI 12)) (nx := 78) hO rfl (by decide) rfl ?_
            refine s_icmp_ge (nx := 81) hO rfl rfl (fun c78 => ?_) (fun c78 => ?_)
            · replace H := H.1 c78
              refine s_aload_n (nx := 112) hO rfl rfl rfl ?_
              refine s_iconst (x := (nI 5)) (nx := 113) hO rfl (by decide) rfl ?_
              refine s_iload_n (nx := 114) hO rfl rfl rfl ?_
              refine s_lload (nx := 116) hO rfl rfl rfl ?_
              refine s_callV [.int (nI 5), .int v2, .long x3] (ci := 8) (F := TX8) (N := 5) (nx := 119) hO rfl kX8_addName_45 (by rw [hcl]; rfl) (hs_o8 kc92) (w_X8_add hG H) rfl rfl (Nat.le_of_ble_eq_true rfl) (Nat.zero_le _) (Nat.zero_le _) rfl (k_Qv (fun s6 H => ?_))
              exact s_vret hO rfl rfl ⟨rfl, _, rfl, rfl, H⟩
            · replace H := H.2 c78
              refine s_aload_n (nx := 82) hO rfl rfl rfl ?_
              refine s_getf (v := .ref (q_b G + 96)) (nx := 85) hO rfl rfl (hs_o8 kc92) rfl rfl ?_
              refine s_iload (nx := 87) hO rfl rfl rfl ?_
              obtain ⟨b7, H⟩ := H
              refine s_lald (nx := 88) hO rfl (hs_J kc96) b7 rfl ?_
              refine s_lload (nx := 90) hO rfl rfl rfl ?_
              refine s_lcmp (nx := 91) hO rfl rfl ?_
              refine s_if_ne (nx := 94) hO rfl rfl (fun c91 => ?_) (fun c91 => ?_)
              · replace H := H.1 c91
                refine goV ((x5 + 1)) (fun x8 ex8 => ?_)
                replace H := H x8 ex8
                refine e_iinc (nx := 108) (l' := [(7, .int x8), (0, .ref (q_b G + 92)), (2, .int v2), (5, .long x3)]) ex8 hO rfl (by decide) rfl rfl rfl rfl ?_
                refine s_goto hO rfl ?_
                exact xEx.loc (x_sub1 (List.Mem.tail _ (List.Mem.head _)) (x_sub1 (List.Mem.tail _ (List.Mem.tail _ (List.Mem.head _))) (x_sub1 (List.Mem.tail _ (List.Mem.tail _ (List.Mem.tail _ (List.Mem.head _)))) (x_sub1 (List.Mem.head _) x_sub0)))) H
              · replace H := H.2 c91
                refine s_aload_n (nx := 95) hO rfl rfl rfl ?_
                refine s_bipush (x := (nI 6)) (nx := 97) hO rfl (by decide) rfl ?_
                refine s_iload_n (nx := 98) hO rfl rfl rfl ?_
                refine s_iload (nx := 100) hO rfl rfl rfl ?_
                refine s_i2l (nx := 101) hO rfl rfl ?_
                refine s_callV [.int (nI 6), .int v2, .long (x5).toInt64] (ci := 8) (F := TX8) (N := 5) (nx := 104) hO rfl kX8_addName_45 (by rw [hcl]; rfl) (hs_o8 kc92) (w_X8_add hG H) rfl rfl (Nat.le_of_ble_eq_true rfl) (Nat.zero_le _) (Nat.zero_le _) rfl (k_Qv (fun s9 H => ?_))
                exact s_vret hO rfl rfl ⟨rfl, _, rfl, rfl, H⟩
          refine s_istore (nx := 74) (l' := [(7, .int 0), (0, .ref (q_b G + 92)), (2, .int v2), (4, .int x2), (5, .long x3)]) hO rfl (by decide) rfl rfl ?_
          exact xEx.loc (x_sub1 (List.Mem.tail _ (List.Mem.head _)) (x_sub1 (List.Mem.tail _ (List.Mem.tail _ (List.Mem.head _))) (x_sub1 (List.Mem.tail _ (List.Mem.tail _ (List.Mem.tail _ (List.Mem.tail _ (List.Mem.head _))))) (x_sub1 (List.Mem.head _) x_sub0)))) H
        · replace H := H.2 c60
          refine s_aload_n (nx := 64) hO rfl rfl rfl ?_
          refine s_iconst (x := 1) (nx := 65) hO rfl (by decide) rfl ?_
          refine s_iload_n (nx := 66) hO rfl rfl rfl ?_
          refine s_lconst (x := 0) (nx := 67) hO rfl (by decide) rfl ?_
          refine s_callV [.int 1, .int v2, .long 0] (ci := 8) (F := TX8) (N := 5) (nx := 70) hO rfl kX8_addName_45 (by rw [hcl]; rfl) (hs_o8 kc92) (w_X8_add hG H) rfl rfl (Nat.le_of_ble_eq_true rfl) (Nat.zero_le _) (Nat.zero_le _) rfl (k_Qv (fun s10 H => ?_))
          exact s_vret hO rfl rfl ⟨rfl, _, rfl, rfl, H⟩
      refine s_icmp_ge (nx := 27) hO rfl rfl (fun c24 => ?_) (fun c24 => ?_)
      · replace H := H.1 c24
        exact xEx.loc (x_sub1 (List.Mem.head _) (x_sub1 (List.Mem.tail _ (List.Mem.tail _ (List.Mem.head _))) (x_sub1 (List.Mem.tail _ (List.Mem.tail _ (List.Mem.tail _ (List.Mem.tail _ (List.Mem.head _))))) (x_sub1 (List.Mem.tail _ (List.Mem.tail _ (List.Mem.tail _ (List.Mem.tail _ (List.Mem.tail _ (List.Mem.head _)))))) x_sub0)))) H
      · replace H := H.2 c24
        refine s_iload (nx := 29) hO rfl rfl rfl ?_
        refine s_if_eq (nx := 32) hO rfl rfl (fun c29 => ?_) (fun c29 => ?_)
        · replace H := H.1 c29
          exact xEx.loc (x_sub1 (List.Mem.head _) (x_sub1 (List.Mem.tail _ (List.Mem.tail _ (List.Mem.head _))) (x_sub1 (List.Mem.tail _ (List.Mem.tail _ (List.Mem.tail _ (List.Mem.tail _ (List.Mem.head _))))) (x_sub1 (List.Mem.tail _ (List.Mem.tail _ (List.Mem.tail _ (List.Mem.tail _ (List.Mem.tail _ (List.Mem.head _)))))) x_sub0)))) H
        · replace H := H.2 c29
          refine s_aload_n (nx := 33) hO rfl rfl rfl ?_
          refine s_iload (nx := 35) hO rfl rfl rfl ?_
          obtain ⟨b11, H⟩ := H
          refine s_bald (nx := 36) hO rfl (hs_B ha1) b11 rfl ?_
          refine s_callS [.int (sI s a1 (ix x4))] (nx := 39) hO rfl kX8_addName_63 (w_X8_isLetter hG H) rfl rfl (Nat.le_of_ble_eq_true rfl) (Nat.zero_le _) (Nat.zero_le _) rfl (k_Pi (fun r12 H => ?_))
          refine s_istore (nx := 41) (l' := [(4, .int r12), (0, .ref (q_b G + 92)), (1, .ref (q_b G + a1)), (2, .int v2), (3, .int v3), (5, .long x3), (7, .int x4)]) hO rfl (by decide) rfl rfl ?_
          refine s_lload (nx := 43) hO rfl rfl rfl ?_
          refine s_aload_n (nx := 44) hO rfl rfl rfl ?_
          refine s_iload (nx := 46) hO rfl rfl rfl ?_
          obtain ⟨b13, H⟩ := H
          refine s_bald (nx := 47) hO rfl (hs_B ha1) b13 rfl ?_
          refine s_callS [.long x3, .int (sI s a1 (ix x4))] (nx := 50) hO rfl kX8_addName_37 (w_X8_withLetter hG H) rfl rfl (Nat.le_of_ble_eq_true rfl) (Nat.zero_le _) (Nat.zero_le _) rfl (k_Pl (fun r14 H => ?_))
          refine s_lstore (nx := 52) (l' := [(5, .long r14), (4, .int r12), (0, .ref (q_b G + 92)), (1, .ref (q_b G + a1)), (2, .int v2), (3, .int v3), (7, .int x4)]) hO rfl (by decide) rfl rfl ?_
          refine goV ((x4 + 1)) (fun x15 ex15 => ?_)
          replace H := H x15 ex15
          refine e_iinc (nx := 55) (l' := [(7, .int x15), (5, .long r14), (4, .int r12), (0, .ref (q_b G + 92)), (1, .ref (q_b G + a1)), (2, .int v2), (3, .int v3)]) ex15 hO rfl (by decide) rfl rfl rfl rfl ?_
          refine s_goto hO rfl ?_
          exact xEx.loc (x_sub1 (List.Mem.tail _ (List.Mem.tail _ (List.Mem.tail _ (List.Mem.head _)))) (x_sub1 (List.Mem.tail _ (List.Mem.tail _ (List.Mem.tail _ (List.Mem.tail _ (List.Mem.head _))))) (x_sub1 (List.Mem.tail _ (List.Mem.tail _ (List.Mem.tail _ (List.Mem.tail _ (List.Mem.tail _ (List.Mem.head _)))))) (x_sub1 (List.Mem.tail _ (List.Mem.tail _ (List.Mem.tail _ (List.Mem.tail _ (List.Mem.tail _ (List.Mem.tail _ (List.Mem.head _))))))) (x_sub1 (List.Mem.tail _ (List.Mem.tail _ (List.Mem.head _))) (x_sub1 (List.Mem.tail _ (List.Mem.head _)) (x_sub1 (List.Mem.head _) x_sub0))))))) H
    refine s_istore (nx := 21) (l' := [(7, .int v2), (5, .long 0), (4, .int y1), (0, .ref (q_b G + 92)), (1, .ref (q_b G + a1)), (2, .int v2), (3, .int v3)]) hO rfl (by decide) rfl rfl ?_
    exact xEx.loc (x_sub1 (List.Mem.tail _ (List.Mem.tail _ (List.Mem.tail _ (List.Mem.head _)))) (x_sub1 (List.Mem.tail _ (List.Mem.tail _ (List.Mem.tail _ (List.Mem.tail _ (List.Mem.head _))))) (x_sub1 (List.Mem.tail _ (List.Mem.tail _ (List.Mem.tail _ (List.Mem.tail _ (List.Mem.tail _ (List.Mem.head _)))))) (x_sub1 (List.Mem.tail _ (List.Mem.tail _ (List.Mem.tail _ (List.Mem.tail _ (List.Mem.tail _ (List.Mem.tail _ (List.Mem.head _))))))) (x_sub1 (List.Mem.tail _ (List.Mem.tail _ (List.Mem.head _))) (x_sub1 (List.Mem.tail _ (List.Mem.head _)) (x_sub1 (List.Mem.head _) x_sub0))))))) H
  refine s_icmp_gt (nx := 8) hO rfl rfl (fun c5 => ?_) (fun c5 => ?_)
  · replace H := H.1 c5
    refine s_iconst (x := 0) (nx := 13) hO rfl (by decide) rfl ?_
    exact xEx.loc (x_sub1 (List.Mem.head _) (x_sub1 (List.Mem.tail _ (List.Mem.head _)) (x_sub1 (List.Mem.tail _ (List.Mem.tail _ (List.Mem.head _))) (x_sub1 (List.Mem.tail _ (List.Mem.tail _ (List.Mem.tail _ (List.Mem.head _)))) x_sub0)))) H
  · replace H := H.2 c5
    refine s_iconst (x := 1) (nx := 9) hO rfl (by decide) rfl ?_
    refine s_goto hO rfl ?_
    exact xEx.loc (x_sub1 (List.Mem.head _) (x_sub1 (List.Mem.tail _ (List.Mem.head _)) (x_sub1 (List.Mem.tail _ (List.Mem.tail _ (List.Mem.head _))) (x_sub1 (List.Mem.tail _ (List.Mem.tail _ (List.Mem.tail _ (List.Mem.head _)))) x_sub0)))) H
def W_X8_addNumber (s : yS) (a1 n1 : Nat) (v2 : Int32) (v3 : Int32) (Q : yS → Prop) : Prop :=
 vp_in v2 n1 ∧ 
 ∀ P13 : Int32 → Prop, (∀ (y2 : Int32), (∀ P27 : Int32 → Prop, (∀ (y3 : Int32), (∀ P40 : Int32 → Prop, (∀ (y4 : Int32), (∀ P49 : Int32 → Int64 → Int32 → Prop, (∀ (x5 : Int32) (x6 : Int64) (x7 : Int32), (∀ P99 : Prop, ((∀ P112 : Int64 → Prop, (∀ (y8 : Int64), (∀ P142 : Int32 → Prop, (∀ (y9 : Int32), (∀ P155 : Int32 → Prop, (∀ (y10 : Int32), (∀ P167 : Int64 → Prop, (∀ (y11 : Int64), (W_X8_add s y10 v2 y11 
          (fun s12 => Q s12)) → P167 y11) → 
         ((y9 = 0 → P167 0)
         ∧ (¬ y9 = 0 → P167 y8))) → P155 y10) → 
        ((y9 = 0 → P155 1)
        ∧ (¬ y9 = 0 → P155 (nI 4)))) → P142 y9) → 
       ((x5 = 0 → P142 0)
       ∧ (¬ x5 = 0 → (((lg_cmp y8 ((-2147483648))) < 0 → P142 0)
        ∧ (¬ (lg_cmp y8 ((-2147483648))) < 0 → ((0 < (lg_cmp y8 ((2147483647))) → P142 0)
         ∧ (¬ 0 < (lg_cmp y8 ((2147483647))) → P142 1))))))) → P112 y8) → 
      ((y2 = 0 → P112 x6)
      ∧ (¬ y2 = 0 → P112 (-x6)))) → P99) → 
     ((v3 ≤ x7 → P99)
     ∧ (¬ v3 ≤ x7 → ((x5 = 0 → P99)
      ∧ (¬ x5 = 0 → vp_in x7 n1 ∧ 
       W_X8_isDigit s (sI s a1 (ix x7)) 
       (fun r14 => vp_in x7 n1 ∧ 
       ∀ x16 : Int64, x16 = (if (((x6 * ((10))) + ((sI s a1 (ix x7))).toInt64) - ((48))) < ((1099511627776)) then (((x6 * ((10))) + ((sI s a1 (ix x7))).toInt64) - ((48))) else ((1099511627776))) → 
       ∀ x17 : Int32, x17 = (x7 + 1) → 
       P49 r14 x16 x17)))))) → P49 x5 x6 x7) → 
    P49 y4 0 y3) → P40 y4) → 
   ((v3 ≤ y3 → P40 0)
   ∧ (¬ v3 ≤ y3 → P40 1))) → P27 y3) → 
  ((y2 = 0 → P27 v2)
  ∧ (¬ y2 = 0 → P27 (v2 + 1)))) → P13 y2) → 
 ((¬ (sI s a1 (ix v2)) = (nI 45) → P13 0)
 ∧ ((sI s a1 (ix v2)) = (nI 45) → P13 1))
set_option maxRecDepth 100000 in
set_option maxHeartbeats 40000000 in
theorem w_X8_addNumber {G : xG} (hG : yG G) {z : Nat} {s : yS} {a1 n1 : Nat} {v2 : Int32} {v3 : Int32} {Q : yS → Prop} (ha1 : kd a1 = some (1, n1)) (H : W_X8_addNumber s a1 n1 v2 v3 Q) : xC G mX8_addNumber [.ref (q_b G + 92), .ref (q_b G + a1), .int v2, .int v3] (hS G s) z 0 0 (yQv G z Q) := by
  have hW := hG.1
  have hcl := hG.2.1
  have hty := hG.2.2.1
  have hO : xO G mX8_addNumber tbX8_addNumber ptX8_addNumber := ⟨tkX8_addNumber, pkX8_addNumber hcl⟩
  unfold W_X8_addNumber at H
  refine xC.of hW (by decide) rfl (Nat.le_of_ble_eq_true rfl) ?_
  refine s_aload_n (nx := 1) hO rfl rfl rfl ?_
  refine s_iload_n (nx := 2) hO rfl rfl rfl ?_
  obtain ⟨b1, H⟩ := H
  refine s_bald (nx := 3) hO rfl (hs_B ha1) b1 rfl ?_
  refine s_bipush (x := (nI 45)) (nx := 5) hO rfl (by decide) rfl ?_
  refine goK (H (fun (y2 : Int32) => xEx G mX8_addNumber 13 [(0, .ref (q_b G + 92)), (1, .ref (q_b G + a1)), (2, .int v2), (3, .int v3)] [.int y2] (hS G s) z 0 0 (yQv G z Q)) (fun y2 H => ?_)) (fun H => ?_)
  · show xEx G mX8_addNumber 13 [(0, .ref (q_b G + 92)), (1, .ref (q_b G + a1)), (2, .int v2), (3, .int v3)] [.int y2] (hS G s) z 0 0 (yQv G z Q)
    refine s_istore (nx := 15) (l' := [(4, .int y2), (0, .ref (q_b G + 92)), (1, .ref (q_b G + a1)), (2, .int v2), (3, .int v3)]) hO rfl (by decide) rfl rfl ?_
    refine s_iload (nx := 17) hO rfl rfl rfl ?_
    refine goK (H (fun (y3 : Int32) => xEx G mX8_addNumber 27 [(0, .ref (q_b G + 92)), (1, .ref (q_b G + a1)), (2, .int v2), (3, .int v3), (4, .int y2)] [.int y3] (hS G s) z 0 0 (yQv G z Q)) (fun y3 H => ?_)) (fun H => ?_)
    · show xEx G mX8_addNumber 27 [(0, .ref (q_b G + 92)), (1, .ref (q_b G + a1)), (2, .int v2), (3, .int v3), (4, .int y2)] [.int y3] (hS G s) z 0 0 (yQv G z Q)
      refine s_istore (nx := 29) (l' := [(5, .int y3), (0, .ref (q_b G + 92)), (1, .ref (q_b G + a1)), (2, .int v2), (3, .int v3), (4, .int y2)]) hO rfl (by decide) rfl rfl ?_
      refine s_iload (nx := 31) hO rfl rfl rfl ?_
      refine s_iload_n (nx := 32) hO rfl rfl rfl ?_
      refine goK (H (fun (y4 : Int32) => xEx G mX8_addNumber 40 [(0, .ref (q_b G + 92)), (1, .ref (q_b G + a1)), (2, .int v2), (3, .int v3), (4, .int y2), (5, .int y3)] [.int y4] (hS G s) z 0 0 (yQv G z Q)) (fun y4 H => ?_)) (fun H => ?_)
      · show xEx G mX8_addNumber 40 [(0, .ref (q_b G + 92)), (1, .ref (q_b G + a1)), (2, .int v2), (3, .int v3), (4, .int y2), (5, .int y3)] [.int y4] (hS G s) z 0 0 (yQv G z Q)
        refine s_istore (nx := 42) (l' := [(6, .int y4), (0, .ref (q_b G + 92)), (1, .ref (q_b G + a1)), (2, .int v2), (3, .int v3), (4, .int y2), (5, .int y3)]) hO rfl (by decide) rfl rfl ?_
        refine s_lconst (x := 0) (nx := 43) hO rfl (by decide) rfl ?_
        refine s_lstore (nx := 45) (l' := [(7, .long 0), (6, .int y4), (0, .ref (q_b G + 92)), (1, .ref (q_b G + a1)), (2, .int v2), (3, .int v3), (4, .int y2), (5, .int y3)]) hO rfl (by decide) rfl rfl ?_
        refine s_iload (nx := 47) hO rfl rfl rfl ?_
        refine goK (H (fun (x5 : Int32) (x6 : Int64) (x7 : Int32) => xEx G mX8_addNumber 49 [(0, .ref (q_b G + 92)), (1, .ref (q_b G + a1)), (2, .int v2), (3, .int v3), (4, .int y2), (6, .int x5), (7, .long x6), (9, .int x7)] [] (hS G s) z 0 0 (yQv G z Q)) (fun x5 x6 x7 H => ?_)) (fun H => ?_)
        · show xEx G mX8_addNumber 49 [(0, .ref (q_b G + 92)), (1, .ref (q_b G + a1)), (2, .int v2), (3, .int v3), (4, .int y2), (6, .int x5), (7, .long x6), (9, .int x7)] [] (hS G s) z 0 0 (yQv G z Q)
          refine s_iload (nx := 51) hO rfl rfl rfl ?_
          refine s_iload_n (nx := 52) hO rfl rfl rfl ?_
          refine goK (H (xEx G mX8_addNumber 99 [(0, .ref (q_b G + 92)), (2, .int v2), (4, .int y2), (6, .int x5), (7, .long x6)] [] (hS G s) z 0 0 (yQv G z Q)) (fun H => ?_)) (fun H => ?_)
          · show xEx G mX8_addNumber 99 [(0, .ref (q_b G + 92)), (2, .int v2), (4, .int y2), (6, .int x5), (7, .long x6)] [] (hS G s) z 0 0 (yQv G z Q)
            refine s_iload (nx := 101) hO rfl rfl rfl ?_
            refine goK (H (fun (y8 : Int64) => xEx G mX8_addNumber 112 [(0, .ref (q_b G + 92)), (2, .int v2), (6, .int x5)] [.long y8] (hS G s) z 0 0 (yQv G z Q)) (fun y8 H => ?_)) (fun H => ?_)
            · show xEx G mX8_addNumber 112 [(0, .ref (q_b G + 92)), (2, .int v2), (6, .int x5)] [.long y8] (hS G s) z 0 0 (yQv G z Q)
              refine s_lstore (nx := 114) (l' := [(9, .long y8), (0, .ref (q_b G + 92)), (2, .int v2), (6, .int x5)]) hO rfl (by decide) rfl rfl ?_
              refine s_iload (nx := 116) hO rfl rfl rfl ?_
              refine goK (H (fun (y9 : Int32) => xEx G mX8_addNumber 142 [(0, .ref (q_b G + 92)), (2, .int v2), (9, .long y8)] [.int y9] (hS G s) z 0 0 (yQv G z Q)) (fun y9 H => ?_)) (fun H => ?_)
              · show xEx G mX8_addNumber 142 [(0, .ref (q_b G + 92)), (2, .int v2), (9, .long y8)] [.int y9] (hS G s) z 0 0 (yQv G z Q)
                refine s_istore (nx := 144) (l' := [(6, .int y9), (0, .ref (q_b G + 92)), (2, .int v2), (9, .long y8)]) hO rfl (by decide) rfl rfl ?_
                refine s_aload_n (nx := 145) hO rfl rfl rfl ?_
                refine s_iload (nx := 147) hO rfl rfl rfl ?_
                refine goK (H (fun (y10 : Int32) => xEx G mX8_addNumber 155 [(2, .int v2), (6, .int y9), (9, .long y8)] [.int y10, .ref (q_b G + 92)] (hS G s) z 0 0 (yQv G z Q)) (fun y10 H => ?_)) (fun H => ?_)
                · show xEx G mX8_addNumber 155 [(2, .int v2), (6, .int y9), (9, .long y8)] [.int y10, .ref (q_b G + 92)] (hS G s) z 0 0 (yQv G z Q)
                  refine s_iload_n (nx := 156) hO rfl rfl rfl ?_
                  refine s_iload (nx := 158) hO rfl rfl rfl ?_
                  refine goK (H (fun (y11 : Int64) => xEx G mX8_addNumber 167 [] [.long y11, .int v2, .int y10, .ref (q_b G + 92)] (hS G s) z 0 0 (yQv G z Q)) (fun y11 H => ?_)) (fun H => ?_)
                  · show xEx G mX8_addNumber 167 [] [.long y11, .int v2, .int y10, .ref (q_b G + 92)] (hS G s) z 0 0 (yQv G z Q)
                    refine s_callV [.int y10, .int v2, .long y11] (ci := 8) (F := TX8) (N := 5) (nx := 170) hO rfl kX8_addNumber_45 (by rw [hcl]; rfl) (hs_o8 kc92) (w_X8_add hG H) rfl rfl (Nat.le_of_ble_eq_true rfl) (Nat.zero_le _) (Nat.zero_le _) rfl (k_Qv (fun s12 H => ?_))
                    exact s_vret hO rfl rfl ⟨rfl, _, rfl, rfl, H⟩
                  refine s_if_eq (nx := 161) hO rfl rfl (fun c158 => ?_) (fun c158 => ?_)
                  · replace H := H.1 c158
                    refine s_lconst (x := 0) (nx := 167) hO rfl (by decide) rfl ?_
                    exact xEx.loc x_sub0 H
                  · replace H := H.2 c158
                    refine s_lload (nx := 163) hO rfl rfl rfl ?_
                    refine s_goto hO rfl ?_
                    exact xEx.loc x_sub0 H
                refine s_if_eq (nx := 150) hO rfl rfl (fun c147 => ?_) (fun c147 => ?_)
                · replace H := H.1 c147
                  refine s_iconst (x := 1) (nx := 155) hO rfl (by decide) rfl ?_
                  exact xEx.loc (x_sub1 (List.Mem.tail _ (List.Mem.tail _ (List.Mem.head _))) (x_sub1 (List.Mem.head _) (x_sub1 (List.Mem.tail _ (List.Mem.tail _ (List.Mem.tail _ (List.Mem.head _)))) x_sub0))) H
                · replace H := H.2 c147
                  refine s_iconst (x := (nI 4)) (nx := 151) hO rfl (by decide) rfl ?_
                  refine s_goto hO rfl ?_
                  exact xEx.loc (x_sub1 (List.Mem.tail _ (List.Mem.tail _ (List.Mem.head _))) (x_sub1 (List.Mem.head _) (x_sub1 (List.Mem.tail _ (List.Mem.tail _ (List.Mem.tail _ (List.Mem.head _)))) x_sub0))) H
              refine s_if_eq (nx := 119) hO rfl rfl (fun c116 => ?_) (fun c116 => ?_)
              · replace H := H.1 c116
                refine s_iconst (x := 0) (nx := 142) hO rfl (by decide) rfl ?_
                exact xEx.loc (x_sub1 (List.Mem.tail _ (List.Mem.head _)) (x_sub1 (List.Mem.tail _ (List.Mem.tail _ (List.Mem.head _))) (x_sub1 (List.Mem.head _) x_sub0))) H
              · replace H := H.2 c116
                refine s_lload (nx := 121) hO rfl rfl rfl ?_
                refine s_ldc2_w (x := ((-2147483648))) (nx := 124) hO rfl rfl rfl ?_
                refine s_lcmp (nx := 125) hO rfl rfl ?_
                refine s_if_lt (nx := 128) hO rfl rfl (fun c125 => ?_) (fun c125 => ?_)
                · replace H := H.1 c125
                  refine s_iconst (x := 0) (nx := 142) hO rfl (by decide) rfl ?_
                  exact xEx.loc (x_sub1 (List.Mem.tail _ (List.Mem.head _)) (x_sub1 (List.Mem.tail _ (List.Mem.tail _ (List.Mem.head _))) (x_sub1 (List.Mem.head _) x_sub0))) H
                · replace H := H.2 c125
                  refine s_lload (nx := 130) hO rfl rfl rfl ?_
                  refine s_ldc2_w (x := ((2147483647))) (nx := 133) hO rfl rfl rfl ?_
                  refine s_lcmp (nx := 134) hO rfl rfl ?_
                  refine s_if_gt (nx := 137) hO rfl rfl (fun c134 => ?_) (fun c134 => ?_)
                  · replace H := H.1 c134
                    refine s_iconst (x := 0) (nx := 142) hO rfl (by decide) rfl ?_
                    exact xEx.loc (x_sub1 (List.Mem.tail _ (List.Mem.head _)) (x_sub1 (List.Mem.tail _ (List.Mem.tail _ (List.Mem.head _))) (x_sub1 (List.Mem.head _) x_sub0))) H
                  · replace H := H.2 c134
                    refine s_iconst (x := 1) (nx := 138) hO rfl (by decide) rfl ?_
                    refine s_goto hO rfl ?_
                    exact xEx.loc (x_sub1 (List.Mem.tail _ (List.Mem.head _)) (x_sub1 (List.Mem.tail _ (List.Mem.tail _ (List.Mem.head _))) (x_sub1 (List.Mem.head _) x_sub0))) H
            refine s_if_eq (nx := 104) hO rfl rfl (fun c101 => ?_) (fun c101 => ?_)
            · replace H := H.1 c101
              refine s_lload (nx := 112) hO rfl rfl rfl ?_
              exact xEx.loc (x_sub1 (List.Mem.head _) (x_sub1 (List.Mem.tail _ (List.Mem.head _)) (x_sub1 (List.Mem.tail _ (List.Mem.tail _ (List.Mem.tail _ (List.Mem.head _)))) x_sub0))) H
            · replace H := H.2 c101
              refine s_lload (nx := 106) hO rfl rfl rfl ?_
              refine s_lneg (nx := 107) hO rfl rfl ?_
              refine s_goto hO rfl ?_
              exact xEx.loc (x_sub1 (List.Mem.head _) (x_sub1 (List.Mem.tail _ (List.Mem.head _)) (x_sub1 (List.Mem.tail _ (List.Mem.tail _ (List.Mem.tail _ (List.Mem.head _)))) x_sub0))) H
          refine s_icmp_ge (nx := 55) hO rfl rfl (fun c52 => ?_) (fun c52 => ?_)
          · replace H := H.1 c52
            exact xEx.loc (x_sub1 (List.Mem.head _) (x_sub1 (List.Mem.tail _ (List.Mem.tail _ (List.Mem.head _))) (x_sub1 (List.Mem.tail _ (List.Mem.tail _ (List.Mem.tail _ (List.Mem.tail _ (List.Mem.head _))))) (x_sub1 (List.Mem.tail _ (List.Mem.tail _ (List.Mem.tail _ (List.Mem.tail _ (List.Mem.tail _ (List.Mem.head _)))))) (x_sub1 (List.Mem.tail _ (List.Mem.tail _ (List.Mem.tail _ (List.Mem.tail _ (List.Mem.tail _ (List.Mem.tail _ (List.Mem.head _))))))) x_sub0))))) H
          · replace H := H.2 c52
            refine s_iload (nx := 57) hO rfl rfl rfl ?_
            refine s_if_eq (nx := 60) hO rfl rfl (fun c57 => ?_) (fun c57 => ?_)
            · replace H := H.1 c57
              exact xEx.loc (x_sub1 (List.Mem.head _) (x_sub1 (List.Mem.tail _ (List.Mem.tail _ (List.Mem.head _))) (x_sub1 (List.Mem.tail _ (List.Mem.tail _ (List.Mem.tail _ (List.Mem.tail _ (List.Mem.head _))))) (x_sub1 (List.Mem.tail _ (List.Mem.tail _ (List.Mem.tail _ (List.Mem.tail _ (List.Mem.tail _ (List.Mem.head _)))))) (x_sub1 (List.Mem.tail _ (List.Mem.tail _ (List.Mem.tail _ (List.Mem.tail _ (List.Mem.tail _ (List.Mem.tail _ (List.Mem.head _))))))) x_sub0))))) H
            · replace H := H.2 c57
              refine s_aload_n (nx := 61) hO rfl rfl rfl ?_
              refine s_iload (nx := 63) hO rfl rfl rfl ?_
              obtain ⟨b13, H⟩ := H
              refine s_bald (nx := 64) hO rfl (hs_B ha1) b13 rfl ?_
              refine s_callS [.int (sI s a1 (ix x7))] (nx := 67) hO rfl kX8_addNumber_67 (w_X8_isDigit hG H) rfl rfl (Nat.le_of_ble_eq_true rfl) (Nat.zero_le _) (Nat.zero_le _) rfl (k_Pi (fun r14 H => ?_))
              refine s_istore (nx := 69) (l' := [(6, .int r14), (0, .ref (q_b G + 92)), (1, .ref (q_b G + a1)), (2, .int v2), (3, .int v3), (4, .int y2), (7, .long x6), (9, .int x7)]) hO rfl (by decide) rfl rfl ?_
              refine s_ldc2_w (x := ((1099511627776))) (nx := 72) hO rfl rfl rfl ?_
              refine s_lload (nx := 74) hO rfl rfl rfl ?_
              refine s_ldc2_w (x := ((10))) (nx := 77) hO rfl rfl rfl ?_
              refine s_lmul (nx := 78) hO rfl rfl ?_
              refine s_aload_n (nx := 79) hO rfl rfl rfl ?_
              refine s_iload (nx := 81) hO rfl rfl rfl ?_
              obtain ⟨b15, H⟩ := H
              refine s_bald (nx := 82) hO rfl (hs_B ha1) b15 rfl ?_
              refine s_i2l (nx := 83) hO rfl rfl ?_
              refine s_ladd (nx := 84) hO rfl rfl ?_
              refine s_ldc2_w (x := ((48))) (nx := 87) hO rfl rfl rfl ?_
              refine s_lsub (nx := 88) hO rfl rfl ?_
              refine s_minJ (nx := 91) hO rfl (List.mem_cons_of_mem _ (ir26 _ (List.mem_of_getElem? (i := 15) rfl))) (List.mem_cons_of_mem _ (ir26 _ (List.mem_of_getElem? (i := 16) rfl))) (List.mem_cons_of_mem _ (ir25 _ (List.mem_of_getElem? (i := 9) rfl))) (List.mem_cons_of_mem _ (ir26 _ (List.mem_of_getElem? (i := 17) rfl))) (by decide) (Nat.le_of_ble_eq_true rfl) rfl ?_
              refine goV ((if (((x6 * ((10))) + ((sI s a1 (ix x7))).toInt64) - ((48))) < ((1099511627776)) then (((x6 * ((10))) + ((sI s a1 (ix x7))).toInt64) - ((48))) else ((1099511627776)))) (fun x16 ex16 => ?_)
              replace H := H x16 ex16
              refine e_lstore (nx := 93) (l' := [(7, .long x16), (6, .int r14), (0, .ref (q_b G + 92)), (1, .ref (q_b G + a1)), (2, .int v2), (3, .int v3), (4, .int y2), (9, .int x7)]) ex16 hO rfl (by decide) rfl rfl ?_
              refine goV ((x7 + 1)) (fun x17 ex17 => ?_)
              replace H := H x17 ex17
              refine e_iinc (nx := 96) (l' := [(9, .int x17), (7, .long x16), (6, .int r14), (0, .ref (q_b G + 92)), (1, .ref (q_b G + a1)), (2, .int v2), (3, .int v3), (4, .int y2)]) ex17 hO rfl (by decide) rfl rfl rfl rfl ?_
              refine s_goto hO rfl ?_
              exact xEx.loc (x_sub1 (List.Mem.tail _ (List.Mem.tail _ (List.Mem.tail _ (List.Mem.head _)))) (x_sub1 (List.Mem.tail _ (List.Mem.tail _ (List.Mem.tail _ (List.Mem.tail _ (List.Mem.head _))))) (x_sub1 (List.Mem.tail _ (List.Mem.tail _ (List.Mem.tail _ (List.Mem.tail _ (List.Mem.tail _ (List.Mem.head _)))))) (x_sub1 (List.Mem.tail _ (List.Mem.tail _ (List.Mem.tail _ (List.Mem.tail _ (List.Mem.tail _ (List.Mem.tail _ (List.Mem.head _))))))) (x_sub1 (List.Mem.tail _ (List.Mem.tail _ (List.Mem.tail _ (List.Mem.tail _ (List.Mem.tail _ (List.Mem.tail _ (List.Mem.tail _ (List.Mem.head _)))))))) (x_sub1 (List.Mem.tail _ (List.Mem.tail _ (List.Mem.head _))) (x_sub1 (List.Mem.tail _ (List.Mem.head _)) (x_sub1 (List.Mem.head _) x_sub0)))))))) H
        refine s_istore (nx := 49) (l' := [(9, .int y3), (7, .long 0), (6, .int y4), (0, .ref (q_b G + 92)), (1, .ref (q_b G + a1)), (2, .int v2), (3, .int v3), (4, .int y2), (5, .int y3)]) hO rfl (by decide) rfl rfl ?_
        exact xEx.loc (x_sub1 (List.Mem.tail _ (List.Mem.tail _ (List.Mem.tail _ (List.Mem.head _)))) (x_sub1 (List.Mem.tail _ (List.Mem.tail _ (List.Mem.tail _ (List.Mem.tail _ (List.Mem.head _))))) (x_sub1 (List.Mem.tail _ (List.Mem.tail _ (List.Mem.tail _ (List.Mem.tail _ (List.Mem.tail _ (List.Mem.head _)))))) (x_sub1 (List.Mem.tail _ (List.Mem.tail _ (List.Mem.tail _ (List.Mem.tail _ (List.Mem.tail _ (List.Mem.tail _ (List.Mem.head _))))))) (x_sub1 (List.Mem.tail _ (List.Mem.tail _ (List.Mem.tail _ (List.Mem.tail _ (List.Mem.tail _ (List.Mem.tail _ (List.Mem.tail _ (List.Mem.head _)))))))) (x_sub1 (List.Mem.tail _ (List.Mem.tail _ (List.Mem.head _))) (x_sub1 (List.Mem.tail _ (List.Mem.head _)) (x_sub1 (List.Mem.head _) x_sub0)))))))) H
      refine s_icmp_ge (nx := 35) hO rfl rfl (fun c32 => ?_) (fun c32 => ?_)
      · replace H := H.1 c32
        refine s_iconst (x := 0) (nx := 40) hO rfl (by decide) rfl ?_
        exact xEx.loc (x_sub1 (List.Mem.tail _ (List.Mem.head _)) (x_sub1 (List.Mem.tail _ (List.Mem.tail _ (List.Mem.head _))) (x_sub1 (List.Mem.tail _ (List.Mem.tail _ (List.Mem.tail _ (List.Mem.head _)))) (x_sub1 (List.Mem.tail _ (List.Mem.tail _ (List.Mem.tail _ (List.Mem.tail _ (List.Mem.head _))))) (x_sub1 (List.Mem.tail _ (List.Mem.tail _ (List.Mem.tail _ (List.Mem.tail _ (List.Mem.tail _ (List.Mem.head _)))))) (x_sub1 (List.Mem.head _) x_sub0)))))) H
      · replace H := H.2 c32
        refine s_iconst (x := 1) (nx := 36) hO rfl (by decide) rfl ?_
        refine s_goto hO rfl ?_
        exact xEx.loc (x_sub1 (List.Mem.tail _ (List.Mem.head _)) (x_sub1 (List.Mem.tail _ (List.Mem.tail _ (List.Mem.head _))) (x_sub1 (List.Mem.tail _ (List.Mem.tail _ (List.Mem.tail _ (List.Mem.head _)))) (x_sub1 (List.Mem.tail _ (List.Mem.tail _ (List.Mem.tail _ (List.Mem.tail _ (List.Mem.head _))))) (x_sub1 (List.Mem.tail _ (List.Mem.tail _ (List.Mem.tail _ (List.Mem.tail _ (List.Mem.tail _ (List.Mem.head _)))))) (x_sub1 (List.Mem.head _) x_sub0)))))) H
    refine s_if_eq (nx := 20) hO rfl rfl (fun c17 => ?_) (fun c17 => ?_)
    · replace H := H.1 c17
      refine s_iload_n (nx := 27) hO rfl rfl rfl ?_
      exact xEx.loc (x_sub1 (List.Mem.tail _ (List.Mem.head _)) (x_sub1 (List.Mem.tail _ (List.Mem.tail _ (List.Mem.head _))) (x_sub1 (List.Mem.tail _ (List.Mem.tail _ (List.Mem.tail _ (List.Mem.head _)))) (x_sub1 (List.Mem.tail _ (List.Mem.tail _ (List.Mem.tail _ (List.Mem.tail _ (List.Mem.head _))))) (x_sub1 (List.Mem.head _) x_sub0))))) H
    · replace H := H.2 c17
      refine s_iload_n (nx := 21) hO rfl rfl rfl ?_
      refine s_iconst (x := 1) (nx := 22) hO rfl (by decide) rfl ?_
      refine s_iadd (nx := 23) hO rfl rfl ?_
      refine s_goto hO rfl ?_
      exact xEx.loc (x_sub1 (List.Mem.tail _ (List.Mem.head _)) (x_sub1 (List.Mem.tail _ (List.Mem.tail _ (List.Mem.head _))) (x_sub1 (List.Mem.tail _ (List.Mem.tail _ (List.Mem.tail _ (List.Mem.head _)))) (x_sub1 (List.Mem.tail _ (List.Mem.tail _ (List.Mem.tail _ (List.Mem.tail _ (List.Mem.head _))))) (x_sub1 (List.Mem.head _) x_sub0))))) H
  refine s_icmp_ne (nx := 8) hO rfl rfl (fun c5 => ?_) (fun c5 => ?_)
  · replace H := H.1 c5
    refine s_iconst (x := 0) (nx := 13) hO rfl (by decide) rfl ?_
    exact xEx.loc (x_sub1 (List.Mem.head _) (x_sub1 (List.Mem.tail _ (List.Mem.head _)) (x_sub1 (List.Mem.tail _ (List.Mem.tail _ (List.Mem.head _))) (x_sub1 (List.Mem.tail _ (List.Mem.tail _ (List.Mem.tail _ (List.Mem.head _)))) x_sub0)))) H
  · replace H := H.2 c5
    refine s_iconst (x := 1) (nx := 9) hO rfl (by decide) rfl ?_
    refine s_goto hO rfl ?_
    exact xEx.loc (x_sub1 (List.Mem.head _) (x_sub1 (List.Mem.tail _ (List.Mem.head _)) (x_sub1 (List.Mem.tail _ (List.Mem.tail _ (List.Mem.head _))) (x_sub1 (List.Mem.tail _ (List.Mem.tail _ (List.Mem.tail _ (List.Mem.head _)))) x_sub0)))) H
def W_X8_addRun (s : yS) (a1 n1 : Nat) (v2 : Int32) (v3 : Int32) (Q : yS → Prop) : Prop :=
 ((¬ v3 = v2 → vp_in v2 n1 ∧ 
  W_X8_isLetter s (sI s a1 (ix v2)) 
  (fun r2 => ((r2 = 0 → W_X8_addNumber s a1 n1 v2 v3 
   (fun s3 => Q s3))
  ∧ (¬ r2 = 0 → W_X8_addName s a1 n1 v2 v3 
   (fun s4 => Q s4)))))
 ∧ (v3 = v2 → W_X8_add s 1 v2 0 
  (fun s5 => Q s5)))
set_option maxRecDepth 100000 in
set_option maxHeartbeats 40000000 in
theorem w_X8_addRun {G : xG} (hG : yG G) {z : Nat} {s : yS} {a1 n1 : Nat} {v2 : Int32} {v3 : Int32} {Q : yS → Prop} (ha1 : kd a1 = some (1, n1)) (H : W_X8_addRun s a1 n1 v2 v3 Q) : xC G mX8_addRun [.ref (q_b G + 92), .ref (q_b G + a1), .int v2, .int v3] (hS G s) z 0 0 (yQv G z Q) := by
  have hW := hG.1
  have hcl := hG.2.1
  have hty := hG.2.2.1
  have hO : xO G mX8_addRun tbX8_addRun ptX8_addRun := ⟨tkX8_addRun, pkX8_addRun hcl⟩
  unfold W_X8_addRun at H
  refine xC.of hW (by decide) rfl (Nat.le_of_ble_eq_true rfl) ?_
  refine s_iload_n (nx := 1) hO rfl rfl rfl ?_
  refine s_iload_n (nx := 2) hO rfl rfl rfl ?_
  refine s_icmp_ne (nx := 5) hO rfl rfl (fun c2 => ?_) (fun c2 => ?_)
  · replace H := H.1 c2
    refine s_aload_n (nx := 16) hO rfl rfl rfl ?_
    refine s_iload_n (nx := 17) hO rfl rfl rfl ?_
    obtain ⟨b1, H⟩ := H
    refine s_bald (nx := 18) hO rfl (hs_B ha1) b1 rfl ?_
    refine s_callS [.int (sI s a1 (ix v2))] (nx := 21) hO rfl kX8_addRun_63 (w_X8_isLetter hG H) rfl rfl (Nat.le_of_ble_eq_true rfl) (Nat.zero_le _) (Nat.zero_le _) rfl (k_Pi (fun r2 H => ?_))
    refine s_if_eq (nx := 24) hO rfl rfl (fun c21 => ?_) (fun c21 => ?_)
    · replace H := H.1 c21
      refine s_aload_n (nx := 35) hO rfl rfl rfl ?_
      refine s_aload_n (nx := 36) hO rfl rfl rfl ?_
      refine s_iload_n (nx := 37) hO rfl rfl rfl ?_
      refine s_iload_n (nx := 38) hO rfl rfl rfl ?_
      refine s_callV [.ref (q_b G + a1), .int v2, .int v3] (ci := 8) (F := TX8) (N := 5) (nx := 41) hO rfl kX8_addRun_73 (by rw [hcl]; rfl) (hs_o8 kc92) (w_X8_addNumber hG ha1 H) rfl rfl (Nat.le_of_ble_eq_true rfl) (Nat.zero_le _) (Nat.zero_le _) rfl (k_Qv (fun s3 H => ?_))
      exact s_vret hO rfl rfl ⟨rfl, _, rfl, rfl, H⟩
    · replace H := H.2 c21
      refine s_aload_n (nx := 25) hO rfl rfl rfl ?_
      refine s_aload_n (nx := 26) hO rfl rfl rfl ?_
      refine s_iload_n (nx := 27) hO rfl rfl rfl ?_
      refine s_iload_n (nx := 28) hO rfl rfl rfl ?_
      refine s_callV [.ref (q_b G + a1), .int v2, .int v3] (ci := 8) (F := TX8) (N := 5) (nx := 31) hO rfl kX8_addRun_70 (by rw [hcl]; rfl) (hs_o8 kc92) (w_X8_addName hG ha1 H) rfl rfl (Nat.le_of_ble_eq_true rfl) (Nat.zero_le _) (Nat.zero_le _) rfl (k_Qv (fun s4 H => ?_))
      refine s_goto hO rfl ?_
      exact s_vret hO rfl rfl ⟨rfl, _, rfl, rfl, H⟩
  · replace H := H.2 c2
    refine s_aload_n (nx := 6) hO rfl rfl rfl ?_
    refine s_iconst (x := 1) (nx := 7) hO rfl (by decide) rfl ?_
    refine s_iload_n (nx := 8) hO rfl rfl rfl ?_
    refine s_lconst (x := 0) (nx := 9) hO rfl (by decide) rfl ?_
    refine s_callV [.int 1, .int v2, .long 0] (ci := 8) (F := TX8) (N := 5) (nx := 12) hO rfl kX8_addRun_45 (by rw [hcl]; rfl) (hs_o8 kc92) (w_X8_add hG H) rfl rfl (Nat.le_of_ble_eq_true rfl) (Nat.zero_le _) (Nat.zero_le _) rfl (k_Qv (fun s5 H => ?_))
    refine s_goto hO rfl ?_
    exact s_vret hO rfl rfl ⟨rfl, _, rfl, rfl, H⟩
def W_X8_read (s : yS) (a1 n1 : Nat) (v2 : Int32) (Q : yS → Prop) : Prop :=
 ∀ s1 : yS, s1 = wI s 92 3 0 → 
 ∀ P10 : Int32 → yS → Prop, (∀ (x2 : Int32) (s3 : yS), (((v2 ≤ x2 → W_X8_add s3 0 v2 0 
   (fun s4 => Q s4))
  ∧ (¬ v2 ≤ x2 → vp_in x2 n1 ∧ 
   ∀ x6 : Int32, x6 = (sI s3 a1 (ix x2)) → 
   ∀ x7 : Int32, x7 = (x2 + 1) → 
   ∀ P109 : Int32 → yS → Prop, (∀ (x8 : Int32) (s9 : yS), (∀ x10 : Int32, x10 = (if (x2 + 1) < x8 then x8 else (x2 + 1)) → 
    P10 x10 s9) → P109 x8 s9) → 
   ((¬ x6 = (nI 40) → ((¬ x6 = (nI 41) → ((x6 = (nI 32) → P109 x7 s3)
     ∧ (¬ x6 = (nI 32) → ((x6 = (nI 10) → P109 x7 s3)
      ∧ (¬ x6 = (nI 10) → W_X8_runEnd s3 a1 n1 x2 v2 
       (fun r11 => W_X8_addRun s3 a1 n1 x2 r11 
       (fun s12 => vp_in ((sI s12 92 3) - 1) 8193 ∧ 
       ((¬ (sI s12 93 (ix ((sI s12 92 3) - 1))) = 1 → P109 r11 s12)
       ∧ ((sI s12 93 (ix ((sI s12 92 3) - 1))) = 1 → Q s12)))))))))
    ∧ (x6 = (nI 41) → W_X8_add s3 (nI 3) x2 0 
     (fun s14 => P109 x7 s14))))
   ∧ (x6 = (nI 40) → W_X8_add s3 (nI 2) x2 0 
    (fun s15 => P109 x7 s15)))))) → P10 x2 s3) → 
 P10 0 s1
set_option maxRecDepth 100000 in
set_option maxHeartbeats 40000000 in
theorem w_X8_read {G : xG} (hG : yG G) {z : Nat} {s : yS} {a1 n1 : Nat} {v2 : Int32} {Q : yS → Prop} (ha1 : kd a1 = some (1, n1)) (H : W_X8_read s a1 n1 v2 Q) : xC G mX8_read [.ref (q_b G + 92), .ref (q_b G + a1), .int v2] (hS G s) z 0 0 (yQv G z Q) := by
  have hW := hG.1
  have hcl := hG.2.1
  have hty := hG.2.2.1
  have hO : xO G mX8_read tbX8_read ptX8_read := ⟨tkX8_read, pkX8_read hcl⟩
  unfold W_X8_read at H
  refine xC.of hW (by decide) rfl (Nat.le_of_ble_eq_true rfl) ?_
  refine s_aload_n (nx := 1) hO rfl rfl rfl ?_
  refine s_iconst (x := 0) (nx := 2) hO rfl (by decide) rfl ?_
  refine goV (wI s 92 3 0) (fun s1 es1 => ?_)
  replace H := H s1 es1
  refine s_putf (nx := 5) hO rfl rfl (hs_o8 kc92) (Nat.le_of_ble_eq_true rfl) (by rw [hty]; rfl) (by rw [hty]; rfl) pX8_3 rfl ?_
  refine xEx.at (up_oI8 kc92 es1) ?_
  refine s_iconst (x := 0) (nx := 6) hO rfl (by decide) rfl ?_
  refine s_istore_n (nx := 7) (l' := [(3, .int 0), (0, .ref (q_b G + 92)), (1, .ref (q_b G + a1)), (2, .int v2)]) hO rfl (by decide) rfl rfl ?_
  refine s_iconst (x := 0) (nx := 8) hO rfl (by decide) rfl ?_
  refine goK (H (fun (x2 : Int32) (s3 : yS) => xEx G mX8_read 10 [(0, .ref (q_b G + 92)), (1, .ref (q_b G + a1)), (2, .int v2), (4, .int x2)] [] (hS G s3) z 0 0 (yQv G z Q)) (fun x2 s3 H => ?_)) (fun H => ?_)
  · show xEx G mX8_read 10 [(0, .ref (q_b G + 92)), (1, .ref (q_b G + a1)), (2, .int v2), (4, .int x2)] [] (hS G s3) z 0 0 (yQv G z Q)
    refine s_iload (nx := 12) hO rfl rfl rfl ?_
    refine s_iload_n (nx := 13) hO rfl rfl rfl ?_
    refine s_icmp_ge (nx := 16) hO rfl rfl (fun c13 => ?_) (fun c13 => ?_)
    · replace H := H.1 c13
      refine s_aload_n (nx := 123) hO rfl rfl rfl ?_
      refine s_iconst (x := 0) (nx := 124) hO rfl (by decide) rfl ?_
      refine s_iload_n (nx := 125) hO rfl rfl rfl ?_
      refine s_lconst (x := 0) (nx := 126) hO rfl (by decide) rfl ?_
      refine s_callV [.int 0, .int v2, .long 0] (ci := 8) (F := TX8) (N := 5) (nx := 129) hO rfl kX8_read_45 (by rw [hcl]; rfl) (hs_o8 kc92) (w_X8_add hG H) rfl rfl (Nat.le_of_ble_eq_true rfl) (Nat.zero_le _) (Nat.zero_le _) rfl (k_Qv (fun s4 H => ?_))
      exact s_vret hO rfl rfl ⟨rfl, _, rfl, rfl, H⟩
    · replace H := H.2 c13
      refine s_aload_n (nx := 17) hO rfl rfl rfl ?_
      refine s_iload (nx := 19) hO rfl rfl rfl ?_
      obtain ⟨b5, H⟩ := H
      refine s_bald (nx := 20) hO rfl (hs_B ha1) b5 rfl ?_
      refine goV ((sI s3 a1 (ix x2))) (fun x6 ex6 => ?_)
      replace H := H x6 ex6
      refine e_istore (nx := 22) (l' := [(5, .int x6), (0, .ref (q_b G + 92)), (1, .ref (q_b G + a1)), (2, .int v2), (4, .int x2)]) ex6 hO rfl (by decide) rfl rfl ?_
      refine s_iload (nx := 24) hO rfl rfl rfl ?_
      refine s_iconst (x := 1) (nx := 25) hO rfl (by decide) rfl ?_
      refine s_iadd (nx := 26) hO rfl rfl ?_
      refine goV ((x2 + 1)) (fun x7 ex7 => ?_)
      replace H := H x7 ex7
      refine e_istore_n (nx := 27) (l' := [(3, .int x7), (5, .int x6), (0, .ref (q_b G + 92)), (1, .ref (q_b G + a1)), (2, .int v2), (4, .int x2)]) ex7 hO rfl (by decide) rfl rfl ?_
      refine s_iload (nx := 29) hO rfl rfl rfl ?_
      refine s_bipush (x := (nI 40)) (nx := 31) hO rfl (by decide) rfl ?_
      refine goK (H (fun (x8 : Int32) (s9 : yS) => xEx G mX8_read 109 [(0, .ref (q_b G + 92)), (1, .ref (q_b G + a1)), (2, .int v2), (3, .int x8), (4, .int x2)] [] (hS G s9) z 0 0 (yQv G z Q)) (fun x8 s9 H => ?_)) (fun H => ?_)
      · show xEx G mX8_read 109 [(0, .ref (q_b G + 92)), (1, .ref (q_b G + a1)), (2, .int v2), (3, .int x8), (4, .int x2)] [] (hS G s9) z 0 0 (yQv G z Q)
        refine s_iload (nx := 111) hO rfl rfl rfl ?_
        refine s_iconst (x := 1) (nx := 112) hO rfl (by decide) rfl ?_
        refine s_iadd (nx := 113) hO rfl rfl ?_
        refine s_iload_n (nx := 114) hO rfl rfl rfl ?_
        refine s_max (nx := 117) hO rfl (List.mem_cons_of_mem _ (ir25 _ (List.mem_of_getElem? (i := 7) rfl))) (List.mem_cons_of_mem _ (ir25 _ (List.mem_of_getElem? (i := 8) rfl))) (List.mem_cons_of_mem _ (ir25 _ (List.mem_of_getElem? (i := 9) rfl))) (List.mem_cons_of_mem _ (ir25 _ (List.mem_of_getElem? (i := 10) rfl))) (by decide) (Nat.le_of_ble_eq_true rfl) rfl ?_
        refine goV ((if (x2 + 1) < x8 then x8 else (x2 + 1))) (fun x10 ex10 => ?_)
        replace H := H x10 ex10
        refine e_istore (nx := 119) (l' := [(4, .int x10), (0, .ref (q_b G + 92)), (1, .ref (q_b G + a1)), (2, .int v2), (3, .int x8)]) ex10 hO rfl (by decide) rfl rfl ?_
        refine s_goto hO rfl ?_
        exact xEx.loc (x_sub1 (List.Mem.tail _ (List.Mem.head _)) (x_sub1 (List.Mem.tail _ (List.Mem.tail _ (List.Mem.head _))) (x_sub1 (List.Mem.tail _ (List.Mem.tail _ (List.Mem.tail _ (List.Mem.head _)))) (x_sub1 (List.Mem.head _) x_sub0)))) H
      refine s_icmp_ne (nx := 34) hO rfl rfl (fun c31 => ?_) (fun c31 => ?_)
      · replace H := H.1 c31
        refine s_iload (nx := 47) hO rfl rfl rfl ?_
        refine s_bipush (x := (nI 41)) (nx := 49) hO rfl (by decide) rfl ?_
        refine s_icmp_ne (nx := 52) hO rfl rfl (fun c49 => ?_) (fun c49 => ?_)
        · replace H := H.1 c49
          refine s_iload (nx := 65) hO rfl rfl rfl ?_
          refine s_bipush (x := (nI 32)) (nx := 67) hO rfl (by decide) rfl ?_
          refine s_icmp_eq (nx := 70) hO rfl rfl (fun c67 => ?_) (fun c67 => ?_)
          · replace H := H.1 c67
            exact xEx.loc (x_sub1 (List.Mem.tail _ (List.Mem.tail _ (List.Mem.head _))) (x_sub1 (List.Mem.tail _ (List.Mem.tail _ (List.Mem.tail _ (List.Mem.head _)))) (x_sub1 (List.Mem.tail _ (List.Mem.tail _ (List.Mem.tail _ (List.Mem.tail _ (List.Mem.head _))))) (x_sub1 (List.Mem.head _) (x_sub1 (List.Mem.tail _ (List.Mem.tail _ (List.Mem.tail _ (List.Mem.tail _ (List.Mem.tail _ (List.Mem.head _)))))) x_sub0))))) H
          · replace H := H.2 c67
            refine s_iload (nx := 72) hO rfl rfl rfl ?_
            refine s_bipush (x := (nI 10)) (nx := 74) hO rfl (by decide) rfl ?_
            refine s_icmp_eq (nx := 77) hO rfl rfl (fun c74 => ?_) (fun c74 => ?_)
            · replace H := H.1 c74
              exact xEx.loc (x_sub1 (List.Mem.tail _ (List.Mem.tail _ (List.Mem.head _))) (x_sub1 (List.Mem.tail _ (List.Mem.tail _ (List.Mem.tail _ (List.Mem.head _)))) (x_sub1 (List.Mem.tail _ (List.Mem.tail _ (List.Mem.tail _ (List.Mem.tail _ (List.Mem.head _))))) (x_sub1 (List.Mem.head _) (x_sub1 (List.Mem.tail _ (List.Mem.tail _ (List.Mem.tail _ (List.Mem.tail _ (List.Mem.tail _ (List.Mem.head _)))))) x_sub0))))) H
            · replace H := H.2 c74
              refine s_aload_n (nx := 78) hO rfl rfl rfl ?_
              refine s_iload (nx := 80) hO rfl rfl rfl ?_
              refine s_iload_n (nx := 81) hO rfl rfl rfl ?_
              refine s_callS [.ref (q_b G + a1), .int x2, .int v2] (nx := 84) hO rfl kX8_read_49 (w_X8_runEnd hG ha1 H) rfl rfl (Nat.le_of_ble_eq_true rfl) (Nat.zero_le _) (Nat.zero_le _) rfl (k_Pi (fun r11 H => ?_))
              refine s_istore_n (nx := 85) (l' := [(3, .int r11), (5, .int x6), (0, .ref (q_b G + 92)), (1, .ref (q_b G + a1)), (2, .int v2), (4, .int x2)]) hO rfl (by decide) rfl rfl ?_
              refine s_aload_n (nx := 86) hO rfl rfl rfl ?_
              refine s_aload_n (nx := 87) hO rfl rfl rfl ?_
              refine s_iload (nx := 89) hO rfl rfl rfl ?_
              refine s_iload_n (nx := 90) hO rfl rfl rfl ?_
              refine s_callV [.ref (q_b G + a1), .int x2, .int r11] (ci := 8) (F := TX8) (N := 5) (nx := 93) hO rfl kX8_read_53 (by rw [hcl]; rfl) (hs_o8 kc92) (w_X8_addRun hG ha1 H) rfl rfl (Nat.le_of_ble_eq_true rfl) (Nat.zero_le _) (Nat.zero_le _) rfl (k_Qv (fun s12 H => ?_))
              refine s_aload_n (nx := 94) hO rfl rfl rfl ?_
              refine s_getf (v := .ref (q_b G + 93)) (nx := 97) hO rfl rfl (hs_o8 kc92) rfl rfl ?_
              refine s_aload_n (nx := 98) hO rfl rfl rfl ?_
              refine s_getf (v := .int (sI s12 92 3)) (nx := 101) hO rfl rfl (hs_o8 kc92) rfl rfl ?_
              refine s_iconst (x := 1) (nx := 102) hO rfl (by decide) rfl ?_
              refine s_isub (nx := 103) hO rfl rfl ?_
              obtain ⟨b13, H⟩ := H
              refine s_iald (nx := 104) hO rfl (hs_I kc93) b13 rfl ?_
              refine s_iconst (x := 1) (nx := 105) hO rfl (by decide) rfl ?_
              refine s_icmp_ne (nx := 108) hO rfl rfl (fun c105 => ?_) (fun c105 => ?_)
              · replace H := H.1 c105
                exact xEx.loc (x_sub1 (List.Mem.tail _ (List.Mem.tail _ (List.Mem.head _))) (x_sub1 (List.Mem.tail _ (List.Mem.tail _ (List.Mem.tail _ (List.Mem.head _)))) (x_sub1 (List.Mem.tail _ (List.Mem.tail _ (List.Mem.tail _ (List.Mem.tail _ (List.Mem.head _))))) (x_sub1 (List.Mem.head _) (x_sub1 (List.Mem.tail _ (List.Mem.tail _ (List.Mem.tail _ (List.Mem.tail _ (List.Mem.tail _ (List.Mem.head _)))))) x_sub0))))) H
              · replace H := H.2 c105
                exact s_vret hO rfl rfl ⟨rfl, _, rfl, rfl, H⟩
        · replace H := H.2 c49
          refine s_aload_n (nx := 53) hO rfl rfl rfl ?_
          refine s_iconst (x := (nI 3)) (nx := 54) hO rfl (by decide) rfl ?_
          refine s_iload (nx := 56) hO rfl rfl rfl ?_
          refine s_lconst (x := 0) (nx := 57) hO rfl (by decide) rfl ?_
          refine s_callV [.int (nI 3), .int x2, .long 0] (ci := 8) (F := TX8) (N := 5) (nx := 60) hO rfl kX8_read_45 (by rw [hcl]; rfl) (hs_o8 kc92) (w_X8_add hG H) rfl rfl (Nat.le_of_ble_eq_true rfl) (Nat.zero_le _) (Nat.zero_le _) rfl (k_Qv (fun s14 H => ?_))
          refine s_goto hO rfl ?_
          exact xEx.loc (x_sub1 (List.Mem.tail _ (List.Mem.tail _ (List.Mem.head _))) (x_sub1 (List.Mem.tail _ (List.Mem.tail _ (List.Mem.tail _ (List.Mem.head _)))) (x_sub1 (List.Mem.tail _ (List.Mem.tail _ (List.Mem.tail _ (List.Mem.tail _ (List.Mem.head _))))) (x_sub1 (List.Mem.head _) (x_sub1 (List.Mem.tail _ (List.Mem.tail _ (List.Mem.tail _ (List.Mem.tail _ (List.Mem.tail _ (List.Mem.head _)))))) x_sub0))))) H
      · replace H := H.2 c31
        refine s_aload_n (nx := 35) hO rfl rfl rfl ?_
        refine s_iconst (x := (nI 2)) (nx := 36) hO rfl (by decide) rfl ?_
        refine s_iload (nx := 38) hO rfl rfl rfl ?_
        refine s_lconst (x := 0) (nx := 39) hO rfl (by decide) rfl ?_
        refine s_callV [.int (nI 2), .int x2, .long 0] (ci := 8) (F := TX8) (N := 5) (nx := 42) hO rfl kX8_read_45 (by rw [hcl]; rfl) (hs_o8 kc92) (w_X8_add hG H) rfl rfl (Nat.le_of_ble_eq_true rfl) (Nat.zero_le _) (Nat.zero_le _) rfl (k_Qv (fun s15 H => ?_))
        refine s_goto hO rfl ?_
        exact xEx.loc (x_sub1 (List.Mem.tail _ (List.Mem.tail _ (List.Mem.head _))) (x_sub1 (List.Mem.tail _ (List.Mem.tail _ (List.Mem.tail _ (List.Mem.head _)))) (x_sub1 (List.Mem.tail _ (List.Mem.tail _ (List.Mem.tail _ (List.Mem.tail _ (List.Mem.head _))))) (x_sub1 (List.Mem.head _) (x_sub1 (List.Mem.tail _ (List.Mem.tail _ (List.Mem.tail _ (List.Mem.tail _ (List.Mem.tail _ (List.Mem.head _)))))) x_sub0))))) H
  refine s_istore (nx := 10) (l' := [(4, .int 0), (3, .int 0), (0, .ref (q_b G + 92)), (1, .ref (q_b G + a1)), (2, .int v2)]) hO rfl (by decide) rfl rfl ?_
  exact xEx.loc (x_sub1 (List.Mem.tail _ (List.Mem.tail _ (List.Mem.head _))) (x_sub1 (List.Mem.tail _ (List.Mem.tail _ (List.Mem.tail _ (List.Mem.head _)))) (x_sub1 (List.Mem.tail _ (List.Mem.tail _ (List.Mem.tail _ (List.Mem.tail _ (List.Mem.head _))))) (x_sub1 (List.Mem.head _) x_sub0)))) H
def W_X4_isAt (s : yS) (v1 : Int32) (Q : Int32 → Prop) : Prop :=
 vp_in (sI s 91 2) 8193 ∧ 
 ((¬ (sI s 93 (ix (sI s 91 2))) = v1 → Q 0)
 ∧ ((sI s 93 (ix (sI s 91 2))) = v1 → Q 1))
set_option maxRecDepth 100000 in
set_option maxHeartbeats 40000000 in
theorem w_X4_isAt {G : xG} (hG : yG G) {z : Nat} {s : yS} {v1 : Int32} {Q : Int32 → Prop} (H : W_X4_isAt s v1 Q) : xC G mX4_isAt [.ref (q_b G + 91), .int v1] (hS G s) z 0 0 (yPi G z s Q) := by
  have hW := hG.1
  have hcl := hG.2.1
  have hty := hG.2.2.1
  have hO : xO G mX4_isAt tbX4_isAt ptX4_isAt := ⟨tkX4_isAt, pkX4_isAt hcl⟩
  unfold W_X4_isAt at H
  refine xC.of hW (by decide) rfl (Nat.le_of_ble_eq_true rfl) ?_
  refine s_aload_n (nx := 1) hO rfl rfl rfl ?_
  refine s_getf (v := .ref (q_b G + 92)) (nx := 4) hO rfl rfl (hs_o4 kc91) rfl rfl ?_
  refine s_getf (v := .ref (q_b G + 93)) (nx := 7) hO rfl rfl (hs_o8 kc92) rfl rfl ?_
  refine s_aload_n (nx := 8) hO rfl rfl rfl ?_
  refine s_getf (v := .int (sI s 91 2)) (nx := 11) hO rfl rfl (hs_o4 kc91) rfl rfl ?_
  obtain ⟨b1, H⟩ := H
  refine s_iald (nx := 12) hO rfl (hs_I kc93) b1 rfl ?_
  refine s_iload_n (nx := 13) hO rfl rfl rfl ?_
  refine s_icmp_ne (nx := 16) hO rfl rfl (fun c13 => ?_) (fun c13 => ?_)
  · replace H := H.1 c13
    refine s_iconst (x := 0) (nx := 21) hO rfl (by decide) rfl ?_
    exact s_iret hO rfl rfl rfl ⟨rfl, _, rfl, rfl, H⟩
  · replace H := H.2 c13
    refine s_iconst (x := 1) (nx := 17) hO rfl (by decide) rfl ?_
    refine s_goto hO rfl ?_
    exact s_iret hO rfl rfl rfl ⟨rfl, _, rfl, rfl, H⟩
def W_X4_take (s : yS) (v1 : Int32) (Q : Int32 → yS → Prop) : Prop :=
 vp_in (sI s 91 2) 8193 ∧ 
 ∀ P21 : Int32 → Prop, (∀ (y2 : Int32), (((y2 = 0 → ∀ s3 : yS, s3 = wI s 91 2 ((sI s 91 2) + 0) → 
   zb y2 ∧ Q y2 s3)
  ∧ (¬ y2 = 0 → ∀ s5 : yS, s5 = wI s 91 2 ((sI s 91 2) + 1) → 
   zb y2 ∧ Q y2 s5))) → P21 y2) → 
 ((¬ (sI s 93 (ix (sI s 91 2))) = v1 → P21 0)
 ∧ ((sI s 93 (ix (sI s 91 2))) = v1 → P21 1))
set_option maxRecDepth 100000 in
set_option maxHeartbeats 40000000 in
theorem w_X4_take {G : xG} (hG : yG G) {z : Nat} {s : yS} {v1 : Int32} {Q : Int32 → yS → Prop} (H : W_X4_take s v1 Q) : xC G mX4_take [.ref (q_b G + 91), .int v1] (hS G s) z 0 0 (yQi G z Q) := by
  have hW := hG.1
  have hcl := hG.2.1
  have hty := hG.2.2.1
  have hO : xO G mX4_take tbX4_take ptX4_take := ⟨tkX4_take, pkX4_take hcl⟩
  unfold W_X4_take at H
  refine xC.of hW (by decide) rfl (Nat.le_of_ble_eq_true rfl) ?_
  refine s_aload_n (nx := 1) hO rfl rfl rfl ?_
  refine s_getf (v := .ref (q_b G + 92)) (nx := 4) hO rfl rfl (hs_o4 kc91) rfl rfl ?_
  refine s_getf (v := .ref (q_b G + 93)) (nx := 7) hO rfl rfl (hs_o8 kc92) rfl rfl ?_
  refine s_aload_n (nx := 8) hO rfl rfl rfl ?_
  refine s_getf (v := .int (sI s 91 2)) (nx := 11) hO rfl rfl (hs_o4 kc91) rfl rfl ?_
  obtain ⟨b1, H⟩ := H
  refine s_iald (nx := 12) hO rfl (hs_I kc93) b1 rfl ?_
  refine s_iload_n (nx := 13) hO rfl rfl rfl ?_
  refine goK (H (fun (y2 : Int32) => xEx G mX4_take 21 [(0, .ref (q_b G + 91))] [.int y2] (hS G s) z 0 0 (yQi G z Q)) (fun y2 H => ?_)) (fun H => ?_)
  · show xEx G mX4_take 21 [(0, .ref (q_b G + 91))] [.int y2] (hS G s) z 0 0 (yQi G z Q)
    refine s_istore_n (nx := 22) (l' := [(2, .int y2), (0, .ref (q_b G + 91))]) hO rfl (by decide) rfl rfl ?_
    refine s_aload_n (nx := 23) hO rfl rfl rfl ?_
    refine s_dup (nx := 24) hO rfl rfl rfl ?_
    refine s_getf (v := .int (sI s 91 2)) (nx := 27) hO rfl rfl (hs_o4 kc91) rfl rfl ?_
    refine s_iload_n (nx := 28) hO rfl rfl rfl ?_
    refine s_if_eq (nx := 31) hO rfl rfl (fun c28 => ?_) (fun c28 => ?_)
    · replace H := H.1 c28
      refine s_iconst (x := 0) (nx := 36) hO rfl (by decide) rfl ?_
      refine s_iadd (nx := 37) hO rfl rfl ?_
      refine goV (wI s 91 2 ((sI s 91 2) + 0)) (fun s3 es3 => ?_)
      replace H := H s3 es3
      refine s_putf (nx := 40) hO rfl rfl (hs_o4 kc91) (Nat.le_of_ble_eq_true rfl) (by rw [hty]; rfl) (by rw [hty]; rfl) pX4_2 rfl ?_
      refine xEx.at (up_oI4 kc91 es3) ?_
      refine s_iload_n (nx := 41) hO rfl rfl rfl ?_
      obtain ⟨b4, H⟩ := H
      exact s_iret hO rfl rfl (zb_n b4) ⟨rfl, _, _, rfl, rfl, H⟩
    · replace H := H.2 c28
      refine s_iconst (x := 1) (nx := 32) hO rfl (by decide) rfl ?_
      refine s_goto hO rfl ?_
      refine s_iadd (nx := 37) hO rfl rfl ?_
      refine goV (wI s 91 2 ((sI s 91 2) + 1)) (fun s5 es5 => ?_)
      replace H := H s5 es5
      refine s_putf (nx := 40) hO rfl rfl (hs_o4 kc91) (Nat.le_of_ble_eq_true rfl) (by rw [hty]; rfl) (by rw [hty]; rfl) pX4_2 rfl ?_
      refine xEx.at (up_oI4 kc91 es5) ?_
      refine s_iload_n (nx := 41) hO rfl rfl rfl ?_
      obtain ⟨b6, H⟩ := H
      exact s_iret hO rfl rfl (zb_n b6) ⟨rfl, _, _, rfl, rfl, H⟩
  refine s_icmp_ne (nx := 16) hO rfl rfl (fun c13 => ?_) (fun c13 => ?_)
  · replace H := H.1 c13
    refine s_iconst (x := 0) (nx := 21) hO rfl (by decide) rfl ?_
    exact xEx.loc (x_sub1 (List.Mem.head _) x_sub0) H
  · replace H := H.2 c13
    refine s_iconst (x := 1) (nx := 17) hO rfl (by decide) rfl ?_
    refine s_goto hO rfl ?_
    exact xEx.loc (x_sub1 (List.Mem.head _) x_sub0) H
def W_X4_refuse (s : yS) (Q : Int32 → yS → Prop) : Prop :=
 vp_in (sI s 91 2) 8193 ∧ 
 ∀ x2 : Int32, x2 = (sI s 93 (ix (sI s 91 2))) → 
 ∀ P32 : Int32 → Prop, (∀ (y3 : Int32), (∀ s4 : yS, s4 = wI s 91 0 y3 → 
  vp_in (sI s4 91 2) 8193 ∧ 
  ∀ s6 : yS, s6 = wI s4 91 1 (sI s4 94 (ix (sI s4 91 2))) → 
  Q 0 s6) → P32 y3) → 
 ((¬ x2 = 1 → ((¬ x2 = 0 → P32 (nI 2))
  ∧ (x2 = 0 → P32 (nI 3))))
 ∧ (x2 = 1 → P32 1))
set_option maxRecDepth 100000 in
set_option maxHeartbeats 40000000 in
theorem w_X4_refuse {G : xG} (hG : yG G) {z : Nat} {s : yS} {Q : Int32 → yS → Prop} (H : W_X4_refuse s Q) : xC G mX4_refuse [.ref (q_b G + 91)] (hS G s) z 0 0 (yQi G z Q) := by
  have hW := hG.1
  have hcl := hG.2.1
  have hty := hG.2.2.1
  have hO : xO G mX4_refuse tbX4_refuse ptX4_refuse := ⟨tkX4_refuse, pkX4_refuse hcl⟩
  unfold W_X4_refuse at H
  refine xC.of hW (by decide) rfl (Nat.le_of_ble_eq_true rfl) ?_
  refine s_aload_n (nx := 1) hO rfl rfl rfl ?_
  refine s_getf (v := .ref (q_b G + 92)) (nx := 4) hO rfl rfl (hs_o4 kc91) rfl rfl ?_
  refine s_getf (v := .ref (q_b G + 93)) (nx := 7) hO rfl rfl (hs_o8 kc92) rfl rfl ?_
  refine s_aload_n (nx := 8) hO rfl rfl rfl ?_
  refine s_getf (v := .int (sI s 91 2)) (nx := 11) hO rfl rfl (hs_o4 kc91) rfl rfl ?_
  obtain ⟨b1, H⟩ := H
  refine s_iald (nx := 12) hO rfl (hs_I kc93) b1 rfl ?_
  refine goV ((sI s 93 (ix (sI s 91 2)))) (fun x2 ex2 => ?_)
  replace H := H x2 ex2
  refine e_istore_n (nx := 13) (l' := [(1, .int x2), (0, .ref (q_b G + 91))]) ex2 hO rfl (by decide) rfl rfl ?_
  refine s_aload_n (nx := 14) hO rfl rfl rfl ?_
  refine s_iload_n (nx := 15) hO rfl rfl rfl ?_
  refine s_iconst (x := 1) (nx := 16) hO rfl (by decide) rfl ?_
  refine goK (H (fun (y3 : Int32) => xEx G mX4_refuse 32 [(0, .ref (q_b G + 91))] [.int y3, .ref (q_b G + 91)] (hS G s) z 0 0 (yQi G z Q)) (fun y3 H => ?_)) (fun H => ?_)
  · show xEx G mX4_refuse 32 [(0, .ref (q_b G + 91))] [.int y3, .ref (q_b G + 91)] (hS G s) z 0 0 (yQi G z Q)
    refine goV (wI s 91 0 y3) (fun s4 es4 => ?_)
    replace H := H s4 es4
    refine s_putf (nx := 35) hO rfl rfl (hs_o4 kc91) (Nat.le_of_ble_eq_true rfl) (by rw [hty]; rfl) (by rw [hty]; rfl) pX4_0 rfl ?_
    refine xEx.at (up_oI4 kc91 es4) ?_
    refine s_aload_n (nx := 36) hO rfl rfl rfl ?_
    refine s_aload_n (nx := 37) hO rfl rfl rfl ?_
    refine s_getf (v := .ref (q_b G + 92)) (nx := 40) hO rfl rfl (hs_o4 kc91) rfl rfl ?_
    refine s_getf (v := .ref (q_b G + 94)) (nx := 43) hO rfl rfl (hs_o8 kc92) rfl rfl ?_
    refine s_aload_n (nx := 44) hO rfl rfl rfl ?_
    refine s_getf (v := .int (sI s4 91 2)) (nx := 47) hO rfl rfl (hs_o4 kc91) rfl rfl ?_
    obtain ⟨b5, H⟩ := H
    refine s_iald (nx := 48) hO rfl (hs_I kc94) b5 rfl ?_
    refine goV (wI s4 91 1 (sI s4 94 (ix (sI s4 91 2)))) (fun s6 es6 => ?_)
    replace H := H s6 es6
    refine s_putf (nx := 51) hO rfl rfl (hs_o4 kc91) (Nat.le_of_ble_eq_true rfl) (by rw [hty]; rfl) (by rw [hty]; rfl) pX4_1 rfl ?_
    refine xEx.at (up_oI4 kc91 es6) ?_
    refine s_iconst (x := 0) (nx := 52) hO rfl (by decide) rfl ?_
    exact s_iret hO rfl rfl rfl ⟨rfl, _, _, rfl, rfl, H⟩
  refine s_icmp_ne (nx := 19) hO rfl rfl (fun c16 => ?_) (fun c16 => ?_)
  · replace H := H.1 c16
    refine s_iload_n (nx := 24) hO rfl rfl rfl ?_
    refine s_if_ne (nx := 27) hO rfl rfl (fun c24 => ?_) (fun c24 => ?_)
    · replace H := H.1 c24
      refine s_iconst (x := (nI 2)) (nx := 32) hO rfl (by decide) rfl ?_
      exact xEx.loc (x_sub1 (List.Mem.tail _ (List.Mem.head _)) x_sub0) H
    · replace H := H.2 c24
      refine s_iconst (x := (nI 3)) (nx := 28) hO rfl (by decide) rfl ?_
      refine s_goto hO rfl ?_
      exact xEx.loc (x_sub1 (List.Mem.tail _ (List.Mem.head _)) x_sub0) H
  · replace H := H.2 c16
    refine s_iconst (x := 1) (nx := 20) hO rfl (by decide) rfl ?_
    refine s_goto hO rfl ?_
    exact xEx.loc (x_sub1 (List.Mem.tail _ (List.Mem.head _)) x_sub0) H
def W_X4_takeWord (s : yS) (v1 : Int32) (Q : Int32 → yS → Prop) : Prop :=
 vp_in (sI s 91 2) 8193 ∧ 
 ∀ P40 : Int32 → Prop, (∀ (y2 : Int32), (((y2 = 0 → ∀ s3 : yS, s3 = wI s 91 2 ((sI s 91 2) + 0) → 
   zb y2 ∧ Q y2 s3)
  ∧ (¬ y2 = 0 → ∀ s5 : yS, s5 = wI s 91 2 ((sI s 91 2) + 1) → 
   zb y2 ∧ Q y2 s5))) → P40 y2) → 
 ((¬ (sI s 93 (ix (sI s 91 2))) = (nI 6) → P40 0)
 ∧ ((sI s 93 (ix (sI s 91 2))) = (nI 6) → vp_in (sI s 91 2) 8193 ∧ 
  ((¬ (lg_cmp (sJ s 95 (ix (sI s 91 2))) (v1).toInt64) = 0 → P40 0)
  ∧ ((lg_cmp (sJ s 95 (ix (sI s 91 2))) (v1).toInt64) = 0 → P40 1))))
set_option maxRecDepth 100000 in
set_option maxHeartbeats 40000000 in
theorem w_X4_takeWord {G : xG} (hG : yG G) {z : Nat} {s : yS} {v1 : Int32} {Q : Int32 → yS → Prop} (H : W_X4_takeWord s v1 Q) : xC G mX4_takeWord [.ref (q_b G + 91), .int v1] (hS G s) z 0 0 (yQi G z Q) := by
  have hW := hG.1
  have hcl := hG.2.1
  have hty := hG.2.2.1
  have hO : xO G mX4_takeWord tbX4_takeWord ptX4_takeWord := ⟨tkX4_takeWord, pkX4_takeWord hcl⟩
  unfold W_X4_takeWord at H
  refine xC.of hW (by decide) rfl (Nat.le_of_ble_eq_true rfl) ?_
  refine s_aload_n (nx := 1) hO rfl rfl rfl ?_
  refine s_getf (v := .ref (q_b G + 92)) (nx := 4) hO rfl rfl (hs_o4 kc91) rfl rfl ?_
  refine s_getf (v := .ref (q_b G + 93)) (nx := 7) hO rfl rfl (hs_o8 kc92) rfl rfl ?_
  refine s_aload_n (nx := 8) hO rfl rfl rfl ?_
  refine s_getf (v := .int (sI s 91 2)) (nx := 11) hO rfl rfl (hs_o4 kc91) rfl rfl ?_
  obtain ⟨b1, H⟩ := H
  refine s_iald (nx := 12) hO rfl (hs_I kc93) b1 rfl ?_
  refine s_bipush (x := (nI 6)) (nx := 14) hO rfl (by decide) rfl ?_
  refine goK (H (fun (y2 : Int32) => xEx G mX4_takeWord 40 [(0, .ref (q_b G + 91))] [.int y2] (hS G s) z 0 0 (yQi G z Q)) (fun y2 H => ?_)) (fun H => ?_)
  · show xEx G mX4_takeWord 40 [(0, .ref (q_b G + 91))] [.int y2] (hS G s) z 0 0 (yQi G z Q)
    refine s_istore_n (nx := 41) (l' := [(2, .int y2), (0, .ref (q_b G + 91))]) hO rfl (by decide) rfl rfl ?_
    refine s_aload_n (nx := 42) hO rfl rfl rfl ?_
    refine s_dup (nx := 43) hO rfl rfl rfl ?_
    refine s_getf (v := .int (sI s 91 2)) (nx := 46) hO rfl rfl (hs_o4 kc91) rfl rfl ?_
    refine s_iload_n (nx := 47) hO rfl rfl rfl ?_
    refine s_if_eq (nx := 50) hO rfl rfl (fun c47 => ?_) (fun c47 => ?_)
    · replace H := H.1 c47
      refine s_iconst (x := 0) (nx := 55) hO rfl (by decide) rfl ?_
      refine s_iadd (nx := 56) hO rfl rfl ?_
      refine goV (wI s 91 2 ((sI s 91 2) + 0)) (fun s3 es3 => ?_)
      replace H := H s3 es3
      refine s_putf (nx := 59) hO rfl rfl (hs_o4 kc91) (Nat.le_of_ble_eq_true rfl) (by rw [hty]; rfl) (by rw [hty]; rfl) pX4_2 rfl ?_
      refine xEx.at (up_oI4 kc91 es3) ?_
      refine s_iload_n (nx := 60) hO rfl rfl rfl ?_
      obtain ⟨b4, H⟩ := H
      exact s_iret hO rfl rfl (zb_n b4) ⟨rfl, _, _, rfl, rfl, H⟩
    · replace H := H.2 c47
      refine s_iconst (x := 1) (nx := 51) hO rfl (by decide) rfl ?_
      refine s_goto hO rfl ?_
      refine s_iadd (nx := 56) hO rfl rfl ?_
      refine goV (wI s 91 2 ((sI s 91 2) + 1)) (fun s5 es5 => ?_)
      replace H := H s5 es5
      refine s_putf (nx := 59) hO rfl rfl (hs_o4 kc91) (Nat.le_of_ble_eq_true rfl) (by rw [hty]; rfl) (by rw [hty]; rfl) pX4_2 rfl ?_
      refine xEx.at (up_oI4 kc91 es5) ?_
      refine s_iload_n (nx := 60) hO rfl rfl rfl ?_
      obtain ⟨b6, H⟩ := H
      exact s_iret hO rfl rfl (zb_n b6) ⟨rfl, _, _, rfl, rfl, H⟩
  refine s_icmp_ne (nx := 17) hO rfl rfl (fun c14 => ?_) (fun c14 => ?_)
  · replace H := H.1 c14
    refine s_iconst (x := 0) (nx := 40) hO rfl (by decide) rfl ?_
    exact xEx.loc (x_sub1 (List.Mem.head _) x_sub0) H
  · replace H := H.2 c14
    refine s_aload_n (nx := 18) hO rfl rfl rfl ?_
    refine s_getf (v := .ref (q_b G + 92)) (nx := 21) hO rfl rfl (hs_o4 kc91) rfl rfl ?_
    refine s_getf (v := .ref (q_b G + 95)) (nx := 24) hO rfl rfl (hs_o8 kc92) rfl rfl ?_
    refine s_aload_n (nx := 25) hO rfl rfl rfl ?_
    refine s_getf (v := .int (sI s 91 2)) (nx := 28) hO rfl rfl (hs_o4 kc91) rfl rfl ?_
    obtain ⟨b7, H⟩ := H
    refine s_lald (nx := 29) hO rfl (hs_J kc95) b7 rfl ?_
    refine s_iload_n (nx := 30) hO rfl rfl rfl ?_
    refine s_i2l (nx := 31) hO rfl rfl ?_
    refine s_lcmp (nx := 32) hO rfl rfl ?_
    refine s_if_ne (nx := 35) hO rfl rfl (fun c32 => ?_) (fun c32 => ?_)
    · replace H := H.1 c32
      refine s_iconst (x := 0) (nx := 40) hO rfl (by decide) rfl ?_
      exact xEx.loc (x_sub1 (List.Mem.head _) x_sub0) H
    · replace H := H.2 c32
      refine s_iconst (x := 1) (nx := 36) hO rfl (by decide) rfl ?_
      refine s_goto hO rfl ?_
      exact xEx.loc (x_sub1 (List.Mem.head _) x_sub0) H
def W_X4_takeNewName (s : yS) (a1 n1 : Nat) (v2 : Int32) (Q : Int32 → yS → Prop) : Prop :=
 vp_in (sI s 91 2) 8193 ∧ 
 ∀ P21 : Int32 → Prop, (∀ (y2 : Int32), (∀ P25 : Int32 → Int32 → Prop, (∀ (x3 : Int32) (x4 : Int32), (((v2 ≤ x4 → vp_in (sI s 91 2) 8193 ∧ 
    vp_in v2 n1 ∧ ∀ s7 : yS, s7 = wJ s a1 (ix v2) (sJ s 95 (ix (sI s 91 2))) → 
    ((x3 = 0 → ∀ s8 : yS, s8 = wI s7 91 2 ((sI s7 91 2) + 0) → 
     zb x3 ∧ Q x3 s8)
    ∧ (¬ x3 = 0 → ∀ s10 : yS, s10 = wI s7 91 2 ((sI s7 91 2) + 1) → 
     zb x3 ∧ Q x3 s10)))
   ∧ (¬ v2 ≤ x4 → ∀ P60 : Int32 → Prop, (∀ (y12 : Int32), (∀ x13 : Int32, x13 = (x4 + 1) → 
     P25 y12 x13) → P60 y12) → 
    ((x3 = 0 → P60 0)
    ∧ (¬ x3 = 0 → vp_in x4 n1 ∧ 
     vp_in (sI s 91 2) 8193 ∧ 
     (((lg_cmp (sJ s a1 (ix x4)) (sJ s 95 (ix (sI s 91 2)))) = 0 → P60 0)
     ∧ (¬ (lg_cmp (sJ s a1 (ix x4)) (sJ s 95 (ix (sI s 91 2)))) = 0 → P60 1))))))) → P25 x3 x4) → 
  P25 y2 0) → P21 y2) → 
 ((¬ (sI s 93 (ix (sI s 91 2))) = (nI 5) → P21 0)
 ∧ ((sI s 93 (ix (sI s 91 2))) = (nI 5) → P21 1))
set_option maxRecDepth 100000 in
set_option maxHeartbeats 40000000 in
theorem w_X4_takeNewName {G : xG} (hG : yG G) {z : Nat} {s : yS} {a1 n1 : Nat} {v2 : Int32} {Q : Int32 → yS → Prop} (ha1 : kd a1 = some (3, n1)) (H : W_X4_takeNewName s a1 n1 v2 Q) : xC G mX4_takeNewName [.ref (q_b G + 91), .ref (q_b G + a1), .int v2] (hS G s) z 0 0 (yQi G z Q) := by
  have hW := hG.1
  have hcl := hG.2.1
  have hty := hG.2.2.1
  have hO : xO G mX4_takeNewName tbX4_takeNewName ptX4_takeNewName := ⟨tkX4_takeNewName, pkX4_takeNewName hcl⟩
  unfold W_X4_takeNewName at H
  refine xC.of hW (by decide) rfl (Nat.le_of_ble_eq_true rfl) ?_
  refine s_aload_n (nx := 1) hO rfl rfl rfl ?_
  refine s_getf (v := .ref (q_b G + 92)) (nx := 4) hO rfl rfl (hs_o4 kc91) rfl rfl ?_
  refine s_getf (v := .ref (q_b G + 93)) (nx := 7) hO rfl rfl (hs_o8 kc92) rfl rfl ?_
  refine s_aload_n (nx := 8) hO rfl rfl rfl ?_
  refine s_getf (v := .int (sI s 91 2)) (nx := 11) hO rfl rfl (hs_o4 kc91) rfl rfl ?_
  obtain ⟨b1, H⟩ := H
  refine s_iald (nx := 12) hO rfl (hs_I kc93) b1 rfl ?_
  refine s_iconst (x := (nI 5)) (nx := 13) hO rfl (by decide) rfl ?_
  refine goK (H (fun (y2 : Int32) => xEx G mX4_takeNewName 21 [(0, .ref (q_b G + 91)), (1, .ref (q_b G + a1)), (2, .int v2)] [.int y2] (hS G s) z 0 0 (yQi G z Q)) (fun y2 H => ?_)) (fun H => ?_)
  · show xEx G mX4_takeNewName 21 [(0, .ref (q_b G + 91)), (1, .ref (q_b G + a1)), (2, .int v2)] [.int y2] (hS G s) z 0 0 (yQi G z Q)
    refine s_istore_n (nx := 22) (l' := [(3, .int y2), (0, .ref (q_b G + 91)), (1, .ref (q_b G + a1)), (2, .int v2)]) hO rfl (by decide) rfl rfl ?_
    refine s_iconst (x := 0) (nx := 23) hO rfl (by decide) rfl ?_
    refine goK (H (fun (x3 : Int32) (x4 : Int32) => xEx G mX4_takeNewName 25 [(0, .ref (q_b G + 91)), (1, .ref (q_b G + a1)), (2, .int v2), (3, .int x3), (4, .int x4)] [] (hS G s) z 0 0 (yQi G z Q)) (fun x3 x4 H => ?_)) (fun H => ?_)
    · show xEx G mX4_takeNewName 25 [(0, .ref (q_b G + 91)), (1, .ref (q_b G + a1)), (2, .int v2), (3, .int x3), (4, .int x4)] [] (hS G s) z 0 0 (yQi G z Q)
      refine s_iload (nx := 27) hO rfl rfl rfl ?_
      refine s_iload_n (nx := 28) hO rfl rfl rfl ?_
      refine s_icmp_ge (nx := 31) hO rfl rfl (fun c28 => ?_) (fun c28 => ?_)
      · replace H := H.1 c28
        refine s_aload_n (nx := 68) hO rfl rfl rfl ?_
        refine s_iload_n (nx := 69) hO rfl rfl rfl ?_
        refine s_aload_n (nx := 70) hO rfl rfl rfl ?_
        refine s_getf (v := .ref (q_b G + 92)) (nx := 73) hO rfl rfl (hs_o4 kc91) rfl rfl ?_
        refine s_getf (v := .ref (q_b G + 95)) (nx := 76) hO rfl rfl (hs_o8 kc92) rfl rfl ?_
        refine s_aload_n (nx := 77) hO rfl rfl rfl ?_
        refine s_getf (v := .int (sI s 91 2)) (nx := 80) hO rfl rfl (hs_o4 kc91) rfl rfl ?_
        obtain ⟨b5, H⟩ := H
        refine s_lald (nx := 81) hO rfl (hs_J kc95) b5 rfl ?_
        obtain ⟨b6, H⟩ := H
        refine goV (wJ s a1 (ix v2) (sJ s 95 (ix (sI s 91 2)))) (fun s7 es7 => ?_)
        replace H := H s7 es7
        refine s_last (nx := 82) hO rfl (hs_J ha1) b6 rfl ?_
        refine xEx.at (up_J ha1 es7) ?_
        refine s_aload_n (nx := 83) hO rfl rfl rfl ?_
        refine s_dup (nx := 84) hO rfl rfl rfl ?_
        refine s_getf (v := .int (sI s7 91 2)) (nx := 87) hO rfl rfl (hs_o4 kc91) rfl rfl ?_
        refine s_iload_n (nx := 88) hO rfl rfl rfl ?_
        refine s_if_eq (nx := 91) hO rfl rfl (fun c88 => ?_) (fun c88 => ?_)
        · replace H := H.1 c88
          refine s_iconst (x := 0) (nx := 96) hO rfl (by decide) rfl ?_
          refine s_iadd (nx := 97) hO rfl rfl ?_
          refine goV (wI s7 91 2 ((sI s7 91 2) + 0)) (fun s8 es8 => ?_)
          replace H := H s8 es8
          refine s_putf (nx := 100) hO rfl rfl (hs_o4 kc91) (Nat.le_of_ble_eq_true rfl) (by rw [hty]; rfl) (by rw [hty]; rfl) pX4_2 rfl ?_
          refine xEx.at (up_oI4 kc91 es8) ?_
          refine s_iload_n (nx := 101) hO rfl rfl rfl ?_
          obtain ⟨b9, H⟩ := H
          exact s_iret hO rfl rfl (zb_n b9) ⟨rfl, _, _, rfl, rfl, H⟩
        · replace H := H.2 c88
          refine s_iconst (x := 1) (nx := 92) hO rfl (by decide) rfl ?_
          refine s_goto hO rfl ?_
          refine s_iadd (nx := 97) hO rfl rfl ?_
          refine goV (wI s7 91 2 ((sI s7 91 2) + 1)) (fun s10 es10 => ?_)
          replace H := H s10 es10
          refine s_putf (nx := 100) hO rfl rfl (hs_o4 kc91) (Nat.le_of_ble_eq_true rfl) (by rw [hty]; rfl) (by rw [hty]; rfl) pX4_2 rfl ?_
          refine xEx.at (up_oI4 kc91 es10) ?_
          refine s_iload_n (nx := 101) hO rfl rfl rfl ?_
          obtain ⟨b11, H⟩ := H
          exact s_iret hO rfl rfl (zb_n b11) ⟨rfl, _, _, rfl, rfl, H⟩
      · replace H := H.2 c28
        refine s_iload_n (nx := 32) hO rfl rfl rfl ?_
        refine goK (H (fun (y12 : Int32) => xEx G mX4_takeNewName 60 [(0, .ref (q_b G + 91)), (1, .ref (q_b G + a1)), (2, .int v2), (4, .int x4)] [.int y12] (hS G s) z 0 0 (yQi G z Q)) (fun y12 H => ?_)) (fun H => ?_)
        · show xEx G mX4_takeNewName 60 [(0, .ref (q_b G + 91)), (1, .ref (q_b G + a1)), (2, .int v2), (4, .int x4)] [.int y12] (hS G s) z 0 0 (yQi G z Q)
          refine s_istore_n (nx := 61) (l' := [(3, .int y12), (0, .ref (q_b G + 91)), (1, .ref (q_b G + a1)), (2, .int v2), (4, .int x4)]) hO rfl (by decide) rfl rfl ?_
          refine goV ((x4 + 1)) (fun x13 ex13 => ?_)
          replace H := H x13 ex13
          refine e_iinc (nx := 64) (l' := [(4, .int x13), (3, .int y12), (0, .ref (q_b G + 91)), (1, .ref (q_b G + a1)), (2, .int v2)]) ex13 hO rfl (by decide) rfl rfl rfl rfl ?_
          refine s_goto hO rfl ?_
          exact xEx.loc (x_sub1 (List.Mem.tail _ (List.Mem.tail _ (List.Mem.head _))) (x_sub1 (List.Mem.tail _ (List.Mem.tail _ (List.Mem.tail _ (List.Mem.head _)))) (x_sub1 (List.Mem.tail _ (List.Mem.tail _ (List.Mem.tail _ (List.Mem.tail _ (List.Mem.head _))))) (x_sub1 (List.Mem.tail _ (List.Mem.head _)) (x_sub1 (List.Mem.head _) x_sub0))))) H
        refine s_if_eq (nx := 35) hO rfl rfl (fun c32 => ?_) (fun c32 => ?_)
        · replace H := H.1 c32
          refine s_iconst (x := 0) (nx := 60) hO rfl (by decide) rfl ?_
          exact xEx.loc (x_sub1 (List.Mem.head _) (x_sub1 (List.Mem.tail _ (List.Mem.head _)) (x_sub1 (List.Mem.tail _ (List.Mem.tail _ (List.Mem.head _))) (x_sub1 (List.Mem.tail _ (List.Mem.tail _ (List.Mem.tail _ (List.Mem.tail _ (List.Mem.head _))))) x_sub0)))) H
        · replace H := H.2 c32
          refine s_aload_n (nx := 36) hO rfl rfl rfl ?_
          refine s_iload (nx := 38) hO rfl rfl rfl ?_
          obtain ⟨b14, H⟩ := H
          refine s_lald (nx := 39) hO rfl (hs_J ha1) b14 rfl ?_
          refine s_aload_n (nx := 40) hO rfl rfl rfl ?_
          refine s_getf (v := .ref (q_b G + 92)) (nx := 43) hO rfl rfl (hs_o4 kc91) rfl rfl ?_
          refine s_getf (v := .ref (q_b G + 95)) (nx := 46) hO rfl rfl (hs_o8 kc92) rfl rfl ?_
          refine s_aload_n (nx := 47) hO rfl rfl rfl ?_
          refine s_getf (v := .int (sI s 91 2)) (nx := 50) hO rfl rfl (hs_o4 kc91) rfl rfl ?_
          obtain ⟨b15, H⟩ := H
          refine s_lald (nx := 51) hO rfl (hs_J kc95) b15 rfl ?_
          refine s_lcmp (nx := 52) hO rfl rfl ?_
          refine s_if_eq (nx := 55) hO rfl rfl (fun c52 => ?_) (fun c52 => ?_)
          · replace H := H.1 c52
            refine s_iconst (x := 0) (nx := 60) hO rfl (by decide) rfl ?_
            exact xEx.loc (x_sub1 (List.Mem.head _) (x_sub1 (List.Mem.tail _ (List.Mem.head _)) (x_sub1 (List.Mem.tail _ (List.Mem.tail _ (List.Mem.head _))) (x_sub1 (List.Mem.tail _ (List.Mem.tail _ (List.Mem.tail _ (List.Mem.tail _ (List.Mem.head _))))) x_sub0)))) H
          · replace H := H.2 c52
            refine s_iconst (x := 1) (nx := 56) hO rfl (by decide) rfl ?_
            refine s_goto hO rfl ?_
            exact xEx.loc (x_sub1 (List.Mem.head _) (x_sub1 (List.Mem.tail _ (List.Mem.head _)) (x_sub1 (List.Mem.tail _ (List.Mem.tail _ (List.Mem.head _))) (x_sub1 (List.Mem.tail _ (List.Mem.tail _ (List.Mem.tail _ (List.Mem.tail _ (List.Mem.head _))))) x_sub0)))) H
    refine s_istore (nx := 25) (l' := [(4, .int 0), (3, .int y2), (0, .ref (q_b G + 91)), (1, .ref (q_b G + a1)), (2, .int v2)]) hO rfl (by decide) rfl rfl ?_
    exact xEx.loc (x_sub1 (List.Mem.tail _ (List.Mem.tail _ (List.Mem.head _))) (x_sub1 (List.Mem.tail _ (List.Mem.tail _ (List.Mem.tail _ (List.Mem.head _)))) (x_sub1 (List.Mem.tail _ (List.Mem.tail _ (List.Mem.tail _ (List.Mem.tail _ (List.Mem.head _))))) (x_sub1 (List.Mem.tail _ (List.Mem.head _)) (x_sub1 (List.Mem.head _) x_sub0))))) H
  refine s_icmp_ne (nx := 16) hO rfl rfl (fun c13 => ?_) (fun c13 => ?_)
  · replace H := H.1 c13
    refine s_iconst (x := 0) (nx := 21) hO rfl (by decide) rfl ?_
    exact xEx.loc (x_sub1 (List.Mem.head _) (x_sub1 (List.Mem.tail _ (List.Mem.head _)) (x_sub1 (List.Mem.tail _ (List.Mem.tail _ (List.Mem.head _))) x_sub0))) H
  · replace H := H.2 c13
    refine s_iconst (x := 1) (nx := 17) hO rfl (by decide) rfl ?_
    refine s_goto hO rfl ?_
    exact xEx.loc (x_sub1 (List.Mem.head _) (x_sub1 (List.Mem.tail _ (List.Mem.head _)) (x_sub1 (List.Mem.tail _ (List.Mem.tail _ (List.Mem.head _))) x_sub0))) H
def W_X4_takeNumber (s : yS) (v1 : Int32) (v2 : Int32) (Q : Int32 → yS → Prop) : Prop :=
 vp_in (sI s 91 2) 8193 ∧ 
 ∀ x2 : Int64, x2 = (sJ s 95 (ix (sI s 91 2))) → 
 vp_in (sI s 91 2) 8193 ∧ 
 ∀ P48 : Int32 → Prop, (∀ (y4 : Int32), (∀ s5 : yS, s5 = wI s 91 3 (x2).toInt32 → 
  ((y4 = 0 → ∀ s6 : yS, s6 = wI s5 91 2 ((sI s5 91 2) + 0) → 
   zb y4 ∧ Q y4 s6)
  ∧ (¬ y4 = 0 → ∀ s8 : yS, s8 = wI s5 91 2 ((sI s5 91 2) + 1) → 
   zb y4 ∧ Q y4 s8))) → P48 y4) → 
 ((¬ (sI s 93 (ix (sI s 91 2))) = (nI 4) → P48 0)
 ∧ ((sI s 93 (ix (sI s 91 2))) = (nI 4) → (((lg_cmp x2 (v1).toInt64) < 0 → P48 0)
  ∧ (¬ (lg_cmp x2 (v1).toInt64) < 0 → ((0 < (lg_cmp x2 (v2).toInt64) → P48 0)
   ∧ (¬ 0 < (lg_cmp x2 (v2).toInt64) → P48 1))))))
set_option maxRecDepth 100000 in
set_option maxHeartbeats 40000000 in
theorem w_X4_takeNumber {G : xG} (hG : yG G) {z : Nat} {s : yS} {v1 : Int32} {v2 : Int32} {Q : Int32 → yS → Prop} (H : W_X4_takeNumber s v1 v2 Q) : xC G mX4_takeNumber [.ref (q_b G + 91), .int v1, .int v2] (hS G s) z 0 0 (yQi G z Q) := by
  have hW := hG.1
  have hcl := hG.2.1
  have hty := hG.2.2.1
  have hO : xO G mX4_takeNumber tbX4_takeNumber ptX4_takeNumber := ⟨tkX4_takeNumber, pkX4_takeNumber hcl⟩
  unfold W_X4_takeNumber at H
  refine xC.of hW (by decide) rfl (Nat.le_of_ble_eq_true rfl) ?_
  refine s_aload_n (nx := 1) hO rfl rfl rfl ?_
  refine s_getf (v := .ref (q_b G + 92)) (nx := 4) hO rfl rfl (hs_o4 kc91) rfl rfl ?_
  refine s_getf (v := .ref (q_b G + 95)) (nx := 7) hO rfl rfl (hs_o8 kc92) rfl rfl ?_
  refine s_aload_n (nx := 8) hO rfl rfl rfl ?_
  refine s_getf (v := .int (sI s 91 2)) (nx := 11) hO rfl rfl (hs_o4 kc91) rfl rfl ?_
  obtain ⟨b1, H⟩ := H
  refine s_lald (nx := 12) hO rfl (hs_J kc95) b1 rfl ?_
  refine goV ((sJ s 95 (ix (sI s 91 2)))) (fun x2 ex2 => ?_)
  replace H := H x2 ex2
  refine e_lstore_n (nx := 13) (l' := [(3, .long x2), (0, .ref (q_b G + 91)), (1, .int v1), (2, .int v2)]) ex2 hO rfl (by decide) rfl rfl ?_
  refine s_aload_n (nx := 14) hO rfl rfl rfl ?_
  refine s_getf (v := .ref (q_b G + 92)) (nx := 17) hO rfl rfl (hs_o4 kc91) rfl rfl ?_
  refine s_getf (v := .ref (q_b G + 93)) (nx := 20) hO rfl rfl (hs_o8 kc92) rfl rfl ?_
  refine s_aload_n (nx := 21) hO rfl rfl rfl ?_
  refine s_getf (v := .int (sI s 91 2)) (nx := 24) hO rfl rfl (hs_o4 kc91) rfl rfl ?_
  obtain ⟨b3, H⟩ := H
  refine s_iald (nx := 25) hO rfl (hs_I kc93) b3 rfl ?_
  refine s_iconst (x := (nI 4)) (nx := 26) hO rfl (by decide) rfl ?_
  refine goK (H (fun (y4 : Int32) => xEx G mX4_takeNumber 48 [(0, .ref (q_b G + 91)), (3, .long x2)] [.int y4] (hS G s) z 0 0 (yQi G z Q)) (fun y4 H => ?_)) (fun H => ?_)
  · show xEx G mX4_takeNumber 48 [(0, .ref (q_b G + 91)), (3, .long x2)] [.int y4] (hS G s) z 0 0 (yQi G z Q)
    refine s_istore (nx := 50) (l' := [(5, .int y4), (0, .ref (q_b G + 91)), (3, .long x2)]) hO rfl (by decide) rfl rfl ?_
    refine s_aload_n (nx := 51) hO rfl rfl rfl ?_
    refine s_lload_n (nx := 52) hO rfl rfl rfl ?_
    refine s_l2i (nx := 53) hO rfl rfl ?_
    refine goV (wI s 91 3 (x2).toInt32) (fun s5 es5 => ?_)
    replace H := H s5 es5
    refine s_putf (nx := 56) hO rfl rfl (hs_o4 kc91) (Nat.le_of_ble_eq_true rfl) (by rw [hty]; rfl) (by rw [hty]; rfl) pX4_3 rfl ?_
    refine xEx.at (up_oI4 kc91 es5) ?_
    refine s_aload_n (nx := 57) hO rfl rfl rfl ?_
    refine s_dup (nx := 58) hO rfl rfl rfl ?_
    refine s_getf (v := .int (sI s5 91 2)) (nx := 61) hO rfl rfl (hs_o4 kc91) rfl rfl ?_
    refine s_iload (nx := 63) hO rfl rfl rfl ?_
    refine s_if_eq (nx := 66) hO rfl rfl (fun c63 => ?_) (fun c63 => ?_)
    · replace H := H.1 c63
      refine s_iconst (x := 0) (nx := 71) hO rfl (by decide) rfl ?_
      refine s_iadd (nx := 72) hO rfl rfl ?_
      refine goV (wI s5 91 2 ((sI s5 91 2) + 0)) (fun s6 es6 => ?_)
      replace H := H s6 es6
      refine s_putf (nx := 75) hO rfl rfl (hs_o4 kc91) (Nat.le_of_ble_eq_true rfl) (by rw [hty]; rfl) (by rw [hty]; rfl) pX4_2 rfl ?_
      refine xEx.at (up_oI4 kc91 es6) ?_
      refine s_iload (nx := 77) hO rfl rfl rfl ?_
      obtain ⟨b7, H⟩ := H
      exact s_iret hO rfl rfl (zb_n b7) ⟨rfl, _, _, rfl, rfl, H⟩
    · replace H := H.2 c63
      refine s_iconst (x := 1) (nx := 67) hO rfl (by decide) rfl ?_
      refine s_goto hO rfl ?_
      refine s_iadd (nx := 72) hO rfl rfl ?_
      refine goV (wI s5 91 2 ((sI s5 91 2) + 1)) (fun s8 es8 => ?_)
      replace H := H s8 es8
      refine s_putf (nx := 75) hO rfl rfl (hs_o4 kc91) (Nat.le_of_ble_eq_true rfl) (by rw [hty]; rfl) (by rw [hty]; rfl) pX4_2 rfl ?_
      refine xEx.at (up_oI4 kc91 es8) ?_
      refine s_iload (nx := 77) hO rfl rfl rfl ?_
      obtain ⟨b9, H⟩ := H
      exact s_iret hO rfl rfl (zb_n b9) ⟨rfl, _, _, rfl, rfl, H⟩
  refine s_icmp_ne (nx := 29) hO rfl rfl (fun c26 => ?_) (fun c26 => ?_)
  · replace H := H.1 c26
    refine s_iconst (x := 0) (nx := 48) hO rfl (by decide) rfl ?_
    exact xEx.loc (x_sub1 (List.Mem.tail _ (List.Mem.head _)) (x_sub1 (List.Mem.head _) x_sub0)) H
  · replace H := H.2 c26
    refine s_lload_n (nx := 30) hO rfl rfl rfl ?_
    refine s_iload_n (nx := 31) hO rfl rfl rfl ?_
    refine s_i2l (nx := 32) hO rfl rfl ?_
    refine s_lcmp (nx := 33) hO rfl rfl ?_
    refine s_if_lt (nx := 36) hO rfl rfl (fun c33 => ?_) (fun c33 => ?_)
    · replace H := H.1 c33
      refine s_iconst (x := 0) (nx := 48) hO rfl (by decide) rfl ?_
      exact xEx.loc (x_sub1 (List.Mem.tail _ (List.Mem.head _)) (x_sub1 (List.Mem.head _) x_sub0)) H
    · replace H := H.2 c33
      refine s_lload_n (nx := 37) hO rfl rfl rfl ?_
      refine s_iload_n (nx := 38) hO rfl rfl rfl ?_
      refine s_i2l (nx := 39) hO rfl rfl ?_
      refine s_lcmp (nx := 40) hO rfl rfl ?_
      refine s_if_gt (nx := 43) hO rfl rfl (fun c40 => ?_) (fun c40 => ?_)
      · replace H := H.1 c40
        refine s_iconst (x := 0) (nx := 48) hO rfl (by decide) rfl ?_
        exact xEx.loc (x_sub1 (List.Mem.tail _ (List.Mem.head _)) (x_sub1 (List.Mem.head _) x_sub0)) H
      · replace H := H.2 c40
        refine s_iconst (x := 1) (nx := 44) hO rfl (by decide) rfl ?_
        refine s_goto hO rfl ?_
        exact xEx.loc (x_sub1 (List.Mem.tail _ (List.Mem.head _)) (x_sub1 (List.Mem.head _) x_sub0)) H
def W_X4_readSubject (s : yS) (Q : Int32 → yS → Prop) : Prop :=
 ∃ p1 : Nat, sR s 91 4 = p1 + 1 ∧ kd p1 = some (7, 0) ∧ 
 ∀ x2 : Int32, x2 = (sI s p1 5) → 
 W_X4_takeWord s (nI 5) 
 (fun r3 s4 => ∀ P32 : yS → Prop, (∀ (s5 : yS), (vp_in (sI s5 91 2) 8193 ∧ 
  vp_in x2 864 ∧ ∀ s8 : yS, s8 = wI s5 102 (ix x2) (sI s5 94 (ix (sI s5 91 2))) → 
  vp_in (sI s8 91 2) 8193 ∧ 
  vp_in x2 864 ∧ ∀ s11 : yS, s11 = wJ s8 101 (ix x2) (sJ s8 95 (ix (sI s8 91 2))) → 
  ∀ P92 : yS → Prop, (∀ (s12 : yS), (W_X4_refuse s12 
   (fun r13 s14 => zb r13 ∧ Q r13 s14)) → P92 s12) → 
  ∀ P97 : yS → Prop, (∀ (s16 : yS), (∃ p17 : Nat, sR s16 91 4 = p17 + 1 ∧ kd p17 = some (7, 0) ∧ 
   ((r3 = 0 → vp_in x2 864 ∧ ∀ s19 : yS, s19 = wI s16 (p17 + 6) (ix x2) (nI 3) → 
    Q 1 s19)
   ∧ (¬ r3 = 0 → vp_in x2 864 ∧ ∀ s21 : yS, s21 = wI s16 (p17 + 6) (ix x2) (sI s16 91 3) → 
    Q 1 s21))) → P97 s16) → 
  ((r3 = 0 → W_X4_take s11 (nI 5) 
   (fun r22 s23 => ((¬ r22 = 0 → P97 s23)
   ∧ (r22 = 0 → P92 s23))))
  ∧ (¬ r3 = 0 → W_X4_takeNumber s11 0 (nI 2) 
   (fun r24 s25 => ((¬ r24 = 0 → P97 s25)
   ∧ (r24 = 0 → P92 s25)))))) → P32 s5) → 
 ((¬ r3 = 0 → P32 s4)
 ∧ (r3 = 0 → W_X4_takeWord s4 (nI 6) 
  (fun r26 s27 => ((¬ r26 = 0 → P32 s27)
  ∧ (r26 = 0 → W_X4_refuse s27 
   (fun r28 s29 => zb r28 ∧ Q r28 s29)))))))
set_option maxRecDepth 100000 in
set_option maxHeartbeats 40000000 in
theorem w_X4_readSubject {G : xG} (hG : yG G) {z : Nat} {s : yS} {Q : Int32 → yS → Prop} (H : W_X4_readSubject s Q) : xC G mX4_readSubject [.ref (q_b G + 91)] (hS G s) z 0 0 (yQi G z Q) := by
  have hW := hG.1
  have hcl := hG.2.1
  have hty := hG.2.2.1
  have hO : xO G mX4_readSubject tbX4_readSubject ptX4_readSubject := ⟨tkX4_readSubject, pkX4_readSubject hcl⟩
  unfold W_X4_readSubject at H
  refine xC.of hW (by decide) rfl (Nat.le_of_ble_eq_true rfl) ?_
  refine s_aload_n (nx := 1) hO rfl rfl rfl ?_
  obtain ⟨p1, ep1, kp1, H⟩ := H
  refine s_getf (v := .ref (q_b G + p1)) (nx := 4) hO rfl rfl (hs_o4 kc91) (congrArg some (rv_at ep1)) rfl ?_
  refine s_getf (v := .int (sI s p1 5)) (nx := 7) hO rfl rfl (hs_o3 kp1) rfl rfl ?_
  refine goV ((sI s p1 5)) (fun x2 ex2 => ?_)
  replace H := H x2 ex2
  refine e_istore_n (nx := 8) (l' := [(1, .int x2), (0, .ref (q_b G + 91))]) ex2 hO rfl (by decide) rfl rfl ?_
  refine s_aload_n (nx := 9) hO rfl rfl rfl ?_
  refine s_iconst (x := (nI 5)) (nx := 10) hO rfl (by decide) rfl ?_
  refine s_callV [.int (nI 5)] (ci := 4) (F := TX4) (N := 12) (nx := 13) hO rfl kX4_readSubject_78 (by rw [hcl]; rfl) (hs_o4 kc91) (w_X4_takeWord hG H) rfl rfl (Nat.le_of_ble_eq_true rfl) (Nat.zero_le _) (Nat.zero_le _) rfl (k_Qi (fun r3 s4 H => ?_))
  refine s_istore_n (nx := 14) (l' := [(2, .int r3), (1, .int x2), (0, .ref (q_b G + 91))]) hO rfl (by decide) rfl rfl ?_
  refine s_iload_n (nx := 15) hO rfl rfl rfl ?_
  refine goK (H (fun (s5 : yS) => xEx G mX4_readSubject 32 [(0, .ref (q_b G + 91)), (1, .int x2), (2, .int r3)] [] (hS G s5) z 0 0 (yQi G z Q)) (fun s5 H => ?_)) (fun H => ?_)
  · show xEx G mX4_readSubject 32 [(0, .ref (q_b G + 91)), (1, .int x2), (2, .int r3)] [] (hS G s5) z 0 0 (yQi G z Q)
    refine s_aload_n (nx := 33) hO rfl rfl rfl ?_
    refine s_getf (v := .ref (q_b G + 102)) (nx := 36) hO rfl rfl (hs_o4 kc91) rfl rfl ?_
    refine s_iload_n (nx := 37) hO rfl rfl rfl ?_
    refine s_aload_n (nx := 38) hO rfl rfl rfl ?_
    refine s_getf (v := .ref (q_b G + 92)) (nx := 41) hO rfl rfl (hs_o4 kc91) rfl rfl ?_
    refine s_getf (v := .ref (q_b G + 94)) (nx := 44) hO rfl rfl (hs_o8 kc92) rfl rfl ?_
    refine s_aload_n (nx := 45) hO rfl rfl rfl ?_
    refine s_getf (v := .int (sI s5 91 2)) (nx := 48) hO rfl rfl (hs_o4 kc91) rfl rfl ?_
    obtain ⟨b6, H⟩ := H
    refine s_iald (nx := 49) hO rfl (hs_I kc94) b6 rfl ?_
    obtain ⟨b7, H⟩ := H
    refine goV (wI s5 102 (ix x2) (sI s5 94 (ix (sI s5 91 2)))) (fun s8 es8 => ?_)
    replace H := H s8 es8
    refine s_iast (nx := 50) hO rfl (hs_I kc102) b7 rfl ?_
    refine xEx.at (up_I kc102 es8) ?_
    refine s_aload_n (nx := 51) hO rfl rfl rfl ?_
    refine s_getf (v := .ref (q_b G + 101)) (nx := 54) hO rfl rfl (hs_o4 kc91) rfl rfl ?_
    refine s_iload_n (nx := 55) hO rfl rfl rfl ?_
    refine s_aload_n (nx := 56) hO rfl rfl rfl ?_
    refine s_getf (v := .ref (q_b G + 92)) (nx := 59) hO rfl rfl (hs_o4 kc91) rfl rfl ?_
    refine s_getf (v := .ref (q_b G + 95)) (nx := 62) hO rfl rfl (hs_o8 kc92) rfl rfl ?_
    refine s_aload_n (nx := 63) hO rfl rfl rfl ?_
    refine s_getf (v := .int (sI s8 91 2)) (nx := 66) hO rfl rfl (hs_o4 kc91) rfl rfl ?_
    obtain ⟨b9, H⟩ := H
    refine s_lald (nx := 67) hO rfl (hs_J kc95) b9 rfl ?_
    obtain ⟨b10, H⟩ := H
    refine goV (wJ s8 101 (ix x2) (sJ s8 95 (ix (sI s8 91 2)))) (fun s11 es11 => ?_)
    replace H := H s11 es11
    refine s_last (nx := 68) hO rfl (hs_J kc101) b10 rfl ?_
    refine xEx.at (up_J kc101 es11) ?_
    refine s_iload_n (nx := 69) hO rfl rfl rfl ?_
    refine goK (H (fun (s12 : yS) => xEx G mX4_readSubject 92 [(0, .ref (q_b G + 91))] [] (hS G s12) z 0 0 (yQi G z Q)) (fun s12 H => ?_)) (fun H => ?_)
    · show xEx G mX4_readSubject 92 [(0, .ref (q_b G + 91))] [] (hS G s12) z 0 0 (yQi G z Q)
      refine s_aload_n (nx := 93) hO rfl rfl rfl ?_
      refine s_callV [] (ci := 4) (F := TX4) (N := 12) (nx := 96) hO rfl kX4_readSubject_71 (by rw [hcl]; rfl) (hs_o4 kc91) (w_X4_refuse hG H) rfl rfl (Nat.le_of_ble_eq_true rfl) (Nat.zero_le _) (Nat.zero_le _) rfl (k_Qi (fun r13 s14 H => ?_))
      obtain ⟨b15, H⟩ := H
      exact s_iret hO rfl rfl (zb_n b15) ⟨rfl, _, _, rfl, rfl, H⟩
    refine goK (H (fun (s16 : yS) => xEx G mX4_readSubject 97 [(0, .ref (q_b G + 91)), (1, .int x2), (2, .int r3)] [] (hS G s16) z 0 0 (yQi G z Q)) (fun s16 H => ?_)) (fun H => ?_)
    · show xEx G mX4_readSubject 97 [(0, .ref (q_b G + 91)), (1, .int x2), (2, .int r3)] [] (hS G s16) z 0 0 (yQi G z Q)
      refine s_aload_n (nx := 98) hO rfl rfl rfl ?_
      obtain ⟨p17, ep17, kp17, H⟩ := H
      refine s_getf (v := .ref (q_b G + p17)) (nx := 101) hO rfl rfl (hs_o4 kc91) (congrArg some (rv_at ep17)) rfl ?_
      refine s_getf (v := .ref (q_b G + (p17 + 6))) (nx := 104) hO rfl rfl (hs_o3 kp17) rfl rfl ?_
      refine s_iload_n (nx := 105) hO rfl rfl rfl ?_
      refine s_iload_n (nx := 106) hO rfl rfl rfl ?_
      refine s_if_eq (nx := 109) hO rfl rfl (fun c106 => ?_) (fun c106 => ?_)
      · replace H := H.1 c106
        refine s_iconst (x := (nI 3)) (nx := 117) hO rfl (by decide) rfl ?_
        obtain ⟨b18, H⟩ := H
        refine goV (wI s16 (p17 + 6) (ix x2) (nI 3)) (fun s19 es19 => ?_)
        replace H := H s19 es19
        refine s_iast (nx := 118) hO rfl (hs_I (kf3_12 kp17)) b18 rfl ?_
        refine xEx.at (up_I (kf3_12 kp17) es19) ?_
        refine s_iconst (x := 1) (nx := 119) hO rfl (by decide) rfl ?_
        exact s_iret hO rfl rfl rfl ⟨rfl, _, _, rfl, rfl, H⟩
      · replace H := H.2 c106
        refine s_aload_n (nx := 110) hO rfl rfl rfl ?_
        refine s_getf (v := .int (sI s16 91 3)) (nx := 113) hO rfl rfl (hs_o4 kc91) rfl rfl ?_
        refine s_goto hO rfl ?_
        obtain ⟨b20, H⟩ := H
        refine goV (wI s16 (p17 + 6) (ix x2) (sI s16 91 3)) (fun s21 es21 => ?_)
        replace H := H s21 es21
        refine s_iast (nx := 118) hO rfl (hs_I (kf3_12 kp17)) b20 rfl ?_
        refine xEx.at (up_I (kf3_12 kp17) es21) ?_
        refine s_iconst (x := 1) (nx := 119) hO rfl (by decide) rfl ?_
        exact s_iret hO rfl rfl rfl ⟨rfl, _, _, rfl, rfl, H⟩
    refine s_if_eq (nx := 72) hO rfl rfl (fun c69 => ?_) (fun c69 => ?_)
    · replace H := H.1 c69
      refine s_aload_n (nx := 85) hO rfl rfl rfl ?_
      refine s_iconst (x := (nI 5)) (nx := 86) hO rfl (by decide) rfl ?_
      refine s_callV [.int (nI 5)] (ci := 4) (F := TX4) (N := 12) (nx := 89) hO rfl kX4_readSubject_68 (by rw [hcl]; rfl) (hs_o4 kc91) (w_X4_take hG H) rfl rfl (Nat.le_of_ble_eq_true rfl) (Nat.zero_le _) (Nat.zero_le _) rfl (k_Qi (fun r22 s23 H => ?_))
      refine s_if_ne (nx := 92) hO rfl rfl (fun c89 => ?_) (fun c89 => ?_)
      · replace H := H.1 c89
        exact xEx.loc (x_sub1 (List.Mem.head _) (x_sub1 (List.Mem.tail _ (List.Mem.head _)) (x_sub1 (List.Mem.tail _ (List.Mem.tail _ (List.Mem.head _))) x_sub0))) H
      · replace H := H.2 c89
        exact xEx.loc (x_sub1 (List.Mem.head _) x_sub0) H
    · replace H := H.2 c69
      refine s_aload_n (nx := 73) hO rfl rfl rfl ?_
      refine s_iconst (x := 0) (nx := 74) hO rfl (by decide) rfl ?_
      refine s_iconst (x := (nI 2)) (nx := 75) hO rfl (by decide) rfl ?_
      refine s_callV [.int 0, .int (nI 2)] (ci := 4) (F := TX4) (N := 12) (nx := 78) hO rfl kX4_readSubject_107 (by rw [hcl]; rfl) (hs_o4 kc91) (w_X4_takeNumber hG H) rfl rfl (Nat.le_of_ble_eq_true rfl) (Nat.zero_le _) (Nat.zero_le _) rfl (k_Qi (fun r24 s25 H => ?_))
      refine s_if_ne (nx := 81) hO rfl rfl (fun c78 => ?_) (fun c78 => ?_)
      · replace H := H.1 c78
        exact xEx.loc (x_sub1 (List.Mem.head _) (x_sub1 (List.Mem.tail _ (List.Mem.head _)) (x_sub1 (List.Mem.tail _ (List.Mem.tail _ (List.Mem.head _))) x_sub0))) H
      · replace H := H.2 c78
        refine s_goto hO rfl ?_
        exact xEx.loc (x_sub1 (List.Mem.head _) x_sub0) H
  refine s_if_ne (nx := 18) hO rfl rfl (fun c15 => ?_) (fun c15 => ?_)
  · replace H := H.1 c15
    exact xEx.loc (x_sub1 (List.Mem.tail _ (List.Mem.tail _ (List.Mem.head _))) (x_sub1 (List.Mem.tail _ (List.Mem.head _)) (x_sub1 (List.Mem.head _) x_sub0))) H
  · replace H := H.2 c15
    refine s_aload_n (nx := 19) hO rfl rfl rfl ?_
    refine s_bipush (x := (nI 6)) (nx := 21) hO rfl (by decide) rfl ?_
    refine s_callV [.int (nI 6)] (ci := 4) (F := TX4) (N := 12) (nx := 24) hO rfl kX4_readSubject_78 (by rw [hcl]; rfl) (hs_o4 kc91) (w_X4_takeWord hG H) rfl rfl (Nat.le_of_ble_eq_true rfl) (Nat.zero_le _) (Nat.zero_le _) rfl (k_Qi (fun r26 s27 H => ?_))
    refine s_if_ne (nx := 27) hO rfl rfl (fun c24 => ?_) (fun c24 => ?_)
    · replace H := H.1 c24
      exact xEx.loc (x_sub1 (List.Mem.tail _ (List.Mem.tail _ (List.Mem.head _))) (x_sub1 (List.Mem.tail _ (List.Mem.head _)) (x_sub1 (List.Mem.head _) x_sub0))) H
    · replace H := H.2 c24
      refine s_aload_n (nx := 28) hO rfl rfl rfl ?_
      refine s_callV [] (ci := 4) (F := TX4) (N := 12) (nx := 31) hO rfl kX4_readSubject_71 (by rw [hcl]; rfl) (hs_o4 kc91) (w_X4_refuse hG H) rfl rfl (Nat.le_of_ble_eq_true rfl) (Nat.zero_le _) (Nat.zero_le _) rfl (k_Qi (fun r28 s29 H => ?_))
      obtain ⟨b30, H⟩ := H
      exact s_iret hO rfl rfl (zb_n b30) ⟨rfl, _, _, rfl, rfl, H⟩
def W_X4_readGuard (s : yS) (Q : Int32 → yS → Prop) : Prop :=
 ∀ P2 : Int32 → yS → Prop, (∀ (x1 : Int32) (s2 : yS), (∀ P38 : yS → Prop, (∀ (s3 : yS), (W_X4_readSubject s3 
   (fun r4 s5 => ((¬ r4 = 0 → ∃ p6 : Nat, sR s5 91 4 = p6 + 1 ∧ kd p6 = some (7, 0) ∧ 
    ∀ x7 : Int32, x7 = (sI s5 p6 5) → 
    W_X4_takeWord s5 (nI 9) 
    (fun r8 s9 => ∀ P82 : Int32 → yS → Prop, (∀ (y10 : Int32) (s11 : yS), (∀ P102 : yS → Prop, (∀ (s12 : yS), (W_X4_takeNumber s12 ((-2147483648)) ((2147483647)) 
      (fun r13 s14 => ((¬ r13 = 0 → ∃ p15 : Nat, sR s14 91 4 = p15 + 1 ∧ kd p15 = some (7, 0) ∧ 
       vp_in x7 864 ∧ ∀ s17 : yS, s17 = wI s14 (p15 + 7) (ix x7) y10 → 
       ∃ p18 : Nat, sR s17 91 4 = p18 + 1 ∧ kd p18 = some (7, 0) ∧ 
       vp_in x7 864 ∧ ∀ s20 : yS, s20 = wI s17 (p18 + 8) (ix x7) (sI s17 91 3) → 
       ∃ p21 : Nat, sR s20 91 4 = p21 + 1 ∧ kd p21 = some (7, 0) ∧ 
       ∀ P161 : Int32 → Prop, (∀ (y22 : Int32), (vp_in x7 864 ∧ ∀ s24 : yS, s24 = wI s20 (p21 + 9) (ix x7) (vp_nar .boolean y22) → 
        ∃ p25 : Nat, sR s24 91 4 = p25 + 1 ∧ kd p25 = some (7, 0) ∧ 
        ∀ s26 : yS, s26 = wI s24 p25 5 ((sI s24 p25 5) + 1) → 
        ∀ P178 : Int32 → yS → Prop, (∀ (x27 : Int32) (s28 : yS), (((x1 < x27 → Q 1 s28)
         ∧ (¬ x1 < x27 → W_X4_take s28 (nI 3) 
          (fun r29 s30 => ((¬ r29 = 0 → ∀ x31 : Int32, x31 = (x27 + 1) → 
           P178 x31 s30)
          ∧ (r29 = 0 → W_X4_refuse s30 
           (fun r32 s33 => zb r32 ∧ Q r32 s33))))))) → P178 x27 s28) → 
        P178 0 s26) → P161 y22) → 
       ((¬ (x1 - x1 / (nI 2) * (nI 2)) = 1 → P161 0)
       ∧ ((x1 - x1 / (nI 2) * (nI 2)) = 1 → P161 1)))
      ∧ (r13 = 0 → W_X4_refuse s14 
       (fun r35 s36 => zb r35 ∧ Q r35 s36))))) → P102 s12) → 
     ((¬ y10 = (nI 2) → P102 s11)
     ∧ (y10 = (nI 2) → W_X4_takeWord s11 (nI 11) 
      (fun r38 s39 => ((¬ r38 = 0 → P102 s39)
      ∧ (r38 = 0 → W_X4_refuse s39 
       (fun r40 s41 => zb r40 ∧ Q r40 s41))))))) → P82 y10 s11) → 
    ((r8 = 0 → W_X4_takeWord s9 (nI 10) 
     (fun r43 s44 => ((r43 = 0 → P82 (nI 2) s44)
     ∧ (¬ r43 = 0 → P82 1 s44))))
    ∧ (¬ r8 = 0 → P82 0 s9))))
   ∧ (r4 = 0 → Q 0 s5)))) → P38 s3) → 
  (((sI s2 92 3) ≤ x1 → P38 s2)
  ∧ (¬ (sI s2 92 3) ≤ x1 → W_X4_takeWord s2 (nI 7) 
   (fun r45 s46 => ((r45 = 0 → P38 s46)
   ∧ (¬ r45 = 0 → ∀ x47 : Int32, x47 = (x1 + 1) → 
    W_X4_take s46 (nI 2) 
    (fun r48 s49 => ((¬ r48 = 0 → P2 x47 s49)
    ∧ (r48 = 0 → W_X4_refuse s49 
     (fun r50 s51 => zb r50 ∧ Q r50 s51)))))))))) → P2 x1 s2) → 
 P2 0 s
set_option maxRecDepth 100000 in
set_option maxHeartbeats 40000000 in
theorem w_X4_readGuard {G : xG} (hG : yG G) {z : Nat} {s : yS} {Q : Int32 → yS → Prop} (H : W_X4_readGuard s Q) : xC G mX4_readGuard [.ref (q_b G + 91)] (hS G s) z 0 0 (yQi G z Q) := by
  have hW := hG.1
  have hcl := hG.2.1
  have hty := hG.2.2.1
  have hO : xO G mX4_readGuard tbX4_readGuard ptX4_readGuard := ⟨tkX4_readGuard, pkX4_readGuard hcl⟩
  unfold W_X4_readGuard at H
  refine xC.of hW (by decide) rfl (Nat.le_of_ble_eq_true rfl) ?_
  refine s_iconst (x := 0) (nx := 1) hO rfl (by decide) rfl ?_
  refine goK (H (fun (x1 : Int32) (s2 : yS) => xEx G mX4_readGuard 2 [(0, .ref (q_b G + 91)), (1, .int x1)] [] (hS G s2) z 0 0 (yQi G z Q)) (fun x1 s2 H => ?_)) (fun H => ?_)
  · show xEx G mX4_readGuard 2 [(0, .ref (q_b G + 91)), (1, .int x1)] [] (hS G s2) z 0 0 (yQi G z Q)
    refine s_iload_n (nx := 3) hO rfl rfl rfl ?_
    refine s_aload_n (nx := 4) hO rfl rfl rfl ?_
    refine s_getf (v := .ref (q_b G + 92)) (nx := 7) hO rfl rfl (hs_o4 kc91) rfl rfl ?_
    refine s_getf (v := .int (sI s2 92 3)) (nx := 10) hO rfl rfl (hs_o8 kc92) rfl rfl ?_
    refine goK (H (fun (s3 : yS) => xEx G mX4_readGuard 38 [(0, .ref (q_b G + 91)), (1, .int x1)] [] (hS G s3) z 0 0 (yQi G z Q)) (fun s3 H => ?_)) (fun H => ?_)
    · show xEx G mX4_readGuard 38 [(0, .ref (q_b G + 91)), (1, .int x1)] [] (hS G s3) z 0 0 (yQi G z Q)
      refine s_aload_n (nx := 39) hO rfl rfl rfl ?_
      refine s_callV [] (ci := 4) (F := TX4) (N := 12) (nx := 42) hO rfl kX4_readGuard_146 (by rw [hcl]; rfl) (hs_o4 kc91) (w_X4_readSubject hG H) rfl rfl (Nat.le_of_ble_eq_true rfl) (Nat.zero_le _) (Nat.zero_le _) rfl (k_Qi (fun r4 s5 H => ?_))
      refine s_if_ne (nx := 45) hO rfl rfl (fun c42 => ?_) (fun c42 => ?_)
      · replace H := H.1 c42
        refine s_aload_n (nx := 48) hO rfl rfl rfl ?_
        obtain ⟨p6, ep6, kp6, H⟩ := H
        refine s_getf (v := .ref (q_b G + p6)) (nx := 51) hO rfl rfl (hs_o4 kc91) (congrArg some (rv_at ep6)) rfl ?_
        refine s_getf (v := .int (sI s5 p6 5)) (nx := 54) hO rfl rfl (hs_o3 kp6) rfl rfl ?_
        refine goV ((sI s5 p6 5)) (fun x7 ex7 => ?_)
        replace H := H x7 ex7
        refine e_istore_n (nx := 55) (l' := [(2, .int x7), (0, .ref (q_b G + 91)), (1, .int x1)]) ex7 hO rfl (by decide) rfl rfl ?_
        refine s_aload_n (nx := 56) hO rfl rfl rfl ?_
        refine s_bipush (x := (nI 9)) (nx := 58) hO rfl (by decide) rfl ?_
        refine s_callV [.int (nI 9)] (ci := 4) (F := TX4) (N := 12) (nx := 61) hO rfl kX4_readGuard_78 (by rw [hcl]; rfl) (hs_o4 kc91) (w_X4_takeWord hG H) rfl rfl (Nat.le_of_ble_eq_true rfl) (Nat.zero_le _) (Nat.zero_le _) rfl (k_Qi (fun r8 s9 H => ?_))
        refine goK (H (fun (y10 : Int32) (s11 : yS) => xEx G mX4_readGuard 82 [(0, .ref (q_b G + 91)), (1, .int x1), (2, .int x7)] [.int y10] (hS G s11) z 0 0 (yQi G z Q)) (fun y10 s11 H => ?_)) (fun H => ?_)
        · show xEx G mX4_readGuard 82 [(0, .ref (q_b G + 91)), (1, .int x1), (2, .int x7)] [.int y10] (hS G s11) z 0 0 (yQi G z Q)
          refine s_istore_n (nx := 83) (l' := [(3, .int y10), (0, .ref (q_b G + 91)), (1, .int x1), (2, .int x7)]) hO rfl (by decide) rfl rfl ?_
          refine s_iload_n (nx := 84) hO rfl rfl rfl ?_
          refine s_iconst (x := (nI 2)) (nx := 85) hO rfl (by decide) rfl ?_
          refine goK (H (fun (s12 : yS) => xEx G mX4_readGuard 102 [(0, .ref (q_b G + 91)), (1, .int x1), (2, .int x7), (3, .int y10)] [] (hS G s12) z 0 0 (yQi G z Q)) (fun s12 H => ?_)) (fun H => ?_)
          · show xEx G mX4_readGuard 102 [(0, .ref (q_b G + 91)), (1, .int x1), (2, .int x7), (3, .int y10)] [] (hS G s12) z 0 0 (yQi G z Q)
            refine s_aload_n (nx := 103) hO rfl rfl rfl ?_
            refine s_ldc (x := ((-2147483648))) (nx := 105) hO rfl rfl rfl ?_
            refine s_ldc (x := ((2147483647))) (nx := 107) hO rfl rfl rfl ?_
            refine s_callV [.int ((-2147483648)), .int ((2147483647))] (ci := 4) (F := TX4) (N := 12) (nx := 110) hO rfl kX4_readGuard_107 (by rw [hcl]; rfl) (hs_o4 kc91) (w_X4_takeNumber hG H) rfl rfl (Nat.le_of_ble_eq_true rfl) (Nat.zero_le _) (Nat.zero_le _) rfl (k_Qi (fun r13 s14 H => ?_))
            refine s_if_ne (nx := 113) hO rfl rfl (fun c110 => ?_) (fun c110 => ?_)
            · replace H := H.1 c110
              refine s_aload_n (nx := 119) hO rfl rfl rfl ?_
              obtain ⟨p15, ep15, kp15, H⟩ := H
              refine s_getf (v := .ref (q_b G + p15)) (nx := 122) hO rfl rfl (hs_o4 kc91) (congrArg some (rv_at ep15)) rfl ?_
              refine s_getf (v := .ref (q_b G + (p15 + 7))) (nx := 125) hO rfl rfl (hs_o3 kp15) rfl rfl ?_
              refine s_iload_n (nx := 126) hO rfl rfl rfl ?_
              refine s_iload_n (nx := 127) hO rfl rfl rfl ?_
              obtain ⟨b16, H⟩ := H
              refine goV (wI s14 (p15 + 7) (ix x7) y10) (fun s17 es17 => ?_)
              replace H := H s17 es17
              refine s_iast (nx := 128) hO rfl (hs_I (kf3_13 kp15)) b16 rfl ?_
              refine xEx.at (up_I (kf3_13 kp15) es17) ?_
              refine s_aload_n (nx := 129) hO rfl rfl rfl ?_
              obtain ⟨p18, ep18, kp18, H⟩ := H
              refine s_getf (v := .ref (q_b G + p18)) (nx := 132) hO rfl rfl (hs_o4 kc91) (congrArg some (rv_at ep18)) rfl ?_
              refine s_getf (v := .ref (q_b G + (p18 + 8))) (nx := 135) hO rfl rfl (hs_o3 kp18) rfl rfl ?_
              refine s_iload_n (nx := 136) hO rfl rfl rfl ?_
              refine s_aload_n (nx := 137) hO rfl rfl rfl ?_
              refine s_getf (v := .int (sI s17 91 3)) (nx := 140) hO rfl rfl (hs_o4 kc91) rfl rfl ?_
              obtain ⟨b19, H⟩ := H
              refine goV (wI s17 (p18 + 8) (ix x7) (sI s17 91 3)) (fun s20 es20 => ?_)
              replace H := H s20 es20
              refine s_iast (nx := 141) hO rfl (hs_I (kf3_14 kp18)) b19 rfl ?_
              refine xEx.at (up_I (kf3_14 kp18) es20) ?_
              refine s_aload_n (nx := 142) hO rfl rfl rfl ?_
              obtain ⟨p21, ep21, kp21, H⟩ := H
              refine s_getf (v := .ref (q_b G + p21)) (nx := 145) hO rfl rfl (hs_o4 kc91) (congrArg some (rv_at ep21)) rfl ?_
              refine s_getf (v := .ref (q_b G + (p21 + 9))) (nx := 148) hO rfl rfl (hs_o3 kp21) rfl rfl ?_
              refine s_iload_n (nx := 149) hO rfl rfl rfl ?_
              refine s_iload_n (nx := 150) hO rfl rfl rfl ?_
              refine s_iconst (x := (nI 2)) (nx := 151) hO rfl (by decide) rfl ?_
              refine s_irem (nx := 152) hO rfl (by decide) rfl ?_
              refine s_iconst (x := 1) (nx := 153) hO rfl (by decide) rfl ?_
              refine goK (H (fun (y22 : Int32) => xEx G mX4_readGuard 161 [(0, .ref (q_b G + 91)), (1, .int x1)] [.int y22, .int x7, .ref (q_b G + (p21 + 9))] (hS G s20) z 0 0 (yQi G z Q)) (fun y22 H => ?_)) (fun H => ?_)
              · show xEx G mX4_readGuard 161 [(0, .ref (q_b G + 91)), (1, .int x1)] [.int y22, .int x7, .ref (q_b G + (p21 + 9))] (hS G s20) z 0 0 (yQi G z Q)
                obtain ⟨b23, H⟩ := H
                refine goV (wI s20 (p21 + 9) (ix x7) (vp_nar .boolean y22)) (fun s24 es24 => ?_)
                replace H := H s24 es24
                refine s_zast (nx := 162) hO rfl (hs_Z (kf3_15 kp21)) b23 rfl ?_
                refine xEx.at (up_Z (kf3_15 kp21) es24) ?_
                refine s_aload_n (nx := 163) hO rfl rfl rfl ?_
                obtain ⟨p25, ep25, kp25, H⟩ := H
                refine s_getf (v := .ref (q_b G + p25)) (nx := 166) hO rfl rfl (hs_o4 kc91) (congrArg some (rv_at ep25)) rfl ?_
                refine s_dup (nx := 167) hO rfl rfl rfl ?_
                refine s_getf (v := .int (sI s24 p25 5)) (nx := 170) hO rfl rfl (hs_o3 kp25) rfl rfl ?_
                refine s_iconst (x := 1) (nx := 171) hO rfl (by decide) rfl ?_
                refine s_iadd (nx := 172) hO rfl rfl ?_
                refine goV (wI s24 p25 5 ((sI s24 p25 5) + 1)) (fun s26 es26 => ?_)
                replace H := H s26 es26
                refine s_putf (nx := 175) hO rfl rfl (hs_o3 kp25) (Nat.le_of_ble_eq_true rfl) (by rw [hty]; rfl) (by rw [hty]; rfl) pX3_5 rfl ?_
                refine xEx.at (up_oI3 kp25 es26) ?_
                refine s_iconst (x := 0) (nx := 176) hO rfl (by decide) rfl ?_
                refine goK (H (fun (x27 : Int32) (s28 : yS) => xEx G mX4_readGuard 178 [(0, .ref (q_b G + 91)), (1, .int x1), (4, .int x27)] [] (hS G s28) z 0 0 (yQi G z Q)) (fun x27 s28 H => ?_)) (fun H => ?_)
                · show xEx G mX4_readGuard 178 [(0, .ref (q_b G + 91)), (1, .int x1), (4, .int x27)] [] (hS G s28) z 0 0 (yQi G z Q)
                  refine s_iload (nx := 180) hO rfl rfl rfl ?_
                  refine s_iload_n (nx := 181) hO rfl rfl rfl ?_
                  refine s_icmp_gt (nx := 184) hO rfl rfl (fun c181 => ?_) (fun c181 => ?_)
                  · replace H := H.1 c181
                    refine s_iconst (x := 1) (nx := 204) hO rfl (by decide) rfl ?_
                    exact s_iret hO rfl rfl rfl ⟨rfl, _, _, rfl, rfl, H⟩
                  · replace H := H.2 c181
                    refine s_aload_n (nx := 185) hO rfl rfl rfl ?_
                    refine s_iconst (x := (nI 3)) (nx := 186) hO rfl (by decide) rfl ?_
                    refine s_callV [.int (nI 3)] (ci := 4) (F := TX4) (N := 12) (nx := 189) hO rfl kX4_readGuard_68 (by rw [hcl]; rfl) (hs_o4 kc91) (w_X4_take hG H) rfl rfl (Nat.le_of_ble_eq_true rfl) (Nat.zero_le _) (Nat.zero_le _) rfl (k_Qi (fun r29 s30 H => ?_))
                    refine s_if_ne (nx := 192) hO rfl rfl (fun c189 => ?_) (fun c189 => ?_)
                    · replace H := H.1 c189
                      refine goV ((x27 + 1)) (fun x31 ex31 => ?_)
                      replace H := H x31 ex31
                      refine e_iinc (nx := 200) (l' := [(4, .int x31), (0, .ref (q_b G + 91)), (1, .int x1)]) ex31 hO rfl (by decide) rfl rfl rfl rfl ?_
                      refine s_goto hO rfl ?_
                      exact xEx.loc (x_sub1 (List.Mem.tail _ (List.Mem.head _)) (x_sub1 (List.Mem.tail _ (List.Mem.tail _ (List.Mem.head _))) (x_sub1 (List.Mem.head _) x_sub0))) H
                    · replace H := H.2 c189
                      refine s_aload_n (nx := 193) hO rfl rfl rfl ?_
                      refine s_callV [] (ci := 4) (F := TX4) (N := 12) (nx := 196) hO rfl kX4_readGuard_71 (by rw [hcl]; rfl) (hs_o4 kc91) (w_X4_refuse hG H) rfl rfl (Nat.le_of_ble_eq_true rfl) (Nat.zero_le _) (Nat.zero_le _) rfl (k_Qi (fun r32 s33 H => ?_))
                      obtain ⟨b34, H⟩ := H
                      exact s_iret hO rfl rfl (zb_n b34) ⟨rfl, _, _, rfl, rfl, H⟩
                refine s_istore (nx := 178) (l' := [(4, .int 0), (0, .ref (q_b G + 91)), (1, .int x1)]) hO rfl (by decide) rfl rfl ?_
                exact xEx.loc (x_sub1 (List.Mem.tail _ (List.Mem.head _)) (x_sub1 (List.Mem.tail _ (List.Mem.tail _ (List.Mem.head _))) (x_sub1 (List.Mem.head _) x_sub0))) H
              refine s_icmp_ne (nx := 156) hO rfl rfl (fun c153 => ?_) (fun c153 => ?_)
              · replace H := H.1 c153
                refine s_iconst (x := 0) (nx := 161) hO rfl (by decide) rfl ?_
                exact xEx.loc (x_sub1 (List.Mem.head _) (x_sub1 (List.Mem.tail _ (List.Mem.head _)) x_sub0)) H
              · replace H := H.2 c153
                refine s_iconst (x := 1) (nx := 157) hO rfl (by decide) rfl ?_
                refine s_goto hO rfl ?_
                exact xEx.loc (x_sub1 (List.Mem.head _) (x_sub1 (List.Mem.tail _ (List.Mem.head _)) x_sub0)) H
            · replace H := H.2 c110
              refine s_aload_n (nx := 114) hO rfl rfl rfl ?_
              refine s_callV [] (ci := 4) (F := TX4) (N := 12) (nx := 117) hO rfl kX4_readGuard_71 (by rw [hcl]; rfl) (hs_o4 kc91) (w_X4_refuse hG H) rfl rfl (Nat.le_of_ble_eq_true rfl) (Nat.zero_le _) (Nat.zero_le _) rfl (k_Qi (fun r35 s36 H => ?_))
              obtain ⟨b37, H⟩ := H
              exact s_iret hO rfl rfl (zb_n b37) ⟨rfl, _, _, rfl, rfl, H⟩
          refine s_icmp_ne (nx := 88) hO rfl rfl (fun c85 => ?_) (fun c85 => ?_)
          · replace H := H.1 c85
            exact xEx.loc (x_sub1 (List.Mem.tail _ (List.Mem.head _)) (x_sub1 (List.Mem.tail _ (List.Mem.tail _ (List.Mem.head _))) (x_sub1 (List.Mem.tail _ (List.Mem.tail _ (List.Mem.tail _ (List.Mem.head _)))) (x_sub1 (List.Mem.head _) x_sub0)))) H
          · replace H := H.2 c85
            refine s_aload_n (nx := 89) hO rfl rfl rfl ?_
            refine s_bipush (x := (nI 11)) (nx := 91) hO rfl (by decide) rfl ?_
            refine s_callV [.int (nI 11)] (ci := 4) (F := TX4) (N := 12) (nx := 94) hO rfl kX4_readGuard_78 (by rw [hcl]; rfl) (hs_o4 kc91) (w_X4_takeWord hG H) rfl rfl (Nat.le_of_ble_eq_true rfl) (Nat.zero_le _) (Nat.zero_le _) rfl (k_Qi (fun r38 s39 H => ?_))
            refine s_if_ne (nx := 97) hO rfl rfl (fun c94 => ?_) (fun c94 => ?_)
            · replace H := H.1 c94
              exact xEx.loc (x_sub1 (List.Mem.tail _ (List.Mem.head _)) (x_sub1 (List.Mem.tail _ (List.Mem.tail _ (List.Mem.head _))) (x_sub1 (List.Mem.tail _ (List.Mem.tail _ (List.Mem.tail _ (List.Mem.head _)))) (x_sub1 (List.Mem.head _) x_sub0)))) H
            · replace H := H.2 c94
              refine s_aload_n (nx := 98) hO rfl rfl rfl ?_
              refine s_callV [] (ci := 4) (F := TX4) (N := 12) (nx := 101) hO rfl kX4_readGuard_71 (by rw [hcl]; rfl) (hs_o4 kc91) (w_X4_refuse hG H) rfl rfl (Nat.le_of_ble_eq_true rfl) (Nat.zero_le _) (Nat.zero_le _) rfl (k_Qi (fun r40 s41 H => ?_))
              obtain ⟨b42, H⟩ := H
              exact s_iret hO rfl rfl (zb_n b42) ⟨rfl, _, _, rfl, rfl, H⟩
        refine s_if_eq (nx := 64) hO rfl rfl (fun c61 => ?_) (fun c61 => ?_)
        · replace H := H.1 c61
          refine s_aload_n (nx := 69) hO rfl rfl rfl ?_
          refine s_bipush (x := (nI 10)) (nx := 71) hO rfl (by decide) rfl ?_
          refine s_callV [.int (nI 10)] (ci := 4) (F := TX4) (N := 12) (nx := 74) hO rfl kX4_readGuard_78 (by rw [hcl]; rfl) (hs_o4 kc91) (w_X4_takeWord hG H) rfl rfl (Nat.le_of_ble_eq_true rfl) (Nat.zero_le _) (Nat.zero_le _) rfl (k_Qi (fun r43 s44 H => ?_))
          refine s_if_eq (nx := 77) hO rfl rfl (fun c74 => ?_) (fun c74 => ?_)
          · replace H := H.1 c74
            refine s_iconst (x := (nI 2)) (nx := 82) hO rfl (by decide) rfl ?_
            exact xEx.loc (x_sub1 (List.Mem.tail _ (List.Mem.head _)) (x_sub1 (List.Mem.tail _ (List.Mem.tail _ (List.Mem.head _))) (x_sub1 (List.Mem.head _) x_sub0))) H
          · replace H := H.2 c74
            refine s_iconst (x := 1) (nx := 78) hO rfl (by decide) rfl ?_
            refine s_goto hO rfl ?_
            exact xEx.loc (x_sub1 (List.Mem.tail _ (List.Mem.head _)) (x_sub1 (List.Mem.tail _ (List.Mem.tail _ (List.Mem.head _))) (x_sub1 (List.Mem.head _) x_sub0))) H
        · replace H := H.2 c61
          refine s_iconst (x := 0) (nx := 65) hO rfl (by decide) rfl ?_
          refine s_goto hO rfl ?_
          exact xEx.loc (x_sub1 (List.Mem.tail _ (List.Mem.head _)) (x_sub1 (List.Mem.tail _ (List.Mem.tail _ (List.Mem.head _))) (x_sub1 (List.Mem.head _) x_sub0))) H
      · replace H := H.2 c42
        refine s_iconst (x := 0) (nx := 46) hO rfl (by decide) rfl ?_
        exact s_iret hO rfl rfl rfl ⟨rfl, _, _, rfl, rfl, H⟩
    refine s_icmp_ge (nx := 13) hO rfl rfl (fun c10 => ?_) (fun c10 => ?_)
    · replace H := H.1 c10
      exact xEx.loc (x_sub1 (List.Mem.head _) (x_sub1 (List.Mem.tail _ (List.Mem.head _)) x_sub0)) H
    · replace H := H.2 c10
      refine s_aload_n (nx := 14) hO rfl rfl rfl ?_
      refine s_bipush (x := (nI 7)) (nx := 16) hO rfl (by decide) rfl ?_
      refine s_callV [.int (nI 7)] (ci := 4) (F := TX4) (N := 12) (nx := 19) hO rfl kX4_readGuard_78 (by rw [hcl]; rfl) (hs_o4 kc91) (w_X4_takeWord hG H) rfl rfl (Nat.le_of_ble_eq_true rfl) (Nat.zero_le _) (Nat.zero_le _) rfl (k_Qi (fun r45 s46 H => ?_))
      refine s_if_eq (nx := 22) hO rfl rfl (fun c19 => ?_) (fun c19 => ?_)
      · replace H := H.1 c19
        exact xEx.loc (x_sub1 (List.Mem.head _) (x_sub1 (List.Mem.tail _ (List.Mem.head _)) x_sub0)) H
      · replace H := H.2 c19
        refine goV ((x1 + 1)) (fun x47 ex47 => ?_)
        replace H := H x47 ex47
        refine e_iinc (nx := 25) (l' := [(1, .int x47), (0, .ref (q_b G + 91))]) ex47 hO rfl (by decide) rfl rfl rfl rfl ?_
        refine s_aload_n (nx := 26) hO rfl rfl rfl ?_
        refine s_iconst (x := (nI 2)) (nx := 27) hO rfl (by decide) rfl ?_
        refine s_callV [.int (nI 2)] (ci := 4) (F := TX4) (N := 12) (nx := 30) hO rfl kX4_readGuard_68 (by rw [hcl]; rfl) (hs_o4 kc91) (w_X4_take hG H) rfl rfl (Nat.le_of_ble_eq_true rfl) (Nat.zero_le _) (Nat.zero_le _) rfl (k_Qi (fun r48 s49 H => ?_))
        refine s_if_ne (nx := 33) hO rfl rfl (fun c30 => ?_) (fun c30 => ?_)
        · replace H := H.1 c30
          exact xEx.loc (x_sub1 (List.Mem.tail _ (List.Mem.head _)) (x_sub1 (List.Mem.head _) x_sub0)) H
        · replace H := H.2 c30
          refine s_aload_n (nx := 34) hO rfl rfl rfl ?_
          refine s_callV [] (ci := 4) (F := TX4) (N := 12) (nx := 37) hO rfl kX4_readGuard_71 (by rw [hcl]; rfl) (hs_o4 kc91) (w_X4_refuse hG H) rfl rfl (Nat.le_of_ble_eq_true rfl) (Nat.zero_le _) (Nat.zero_le _) rfl (k_Qi (fun r50 s51 H => ?_))
          obtain ⟨b52, H⟩ := H
          exact s_iret hO rfl rfl (zb_n b52) ⟨rfl, _, _, rfl, rfl, H⟩
  refine s_istore_n (nx := 2) (l' := [(1, .int 0), (0, .ref (q_b G + 91))]) hO rfl (by decide) rfl rfl ?_
  exact xEx.loc (x_sub1 (List.Mem.tail _ (List.Mem.head _)) (x_sub1 (List.Mem.head _) x_sub0)) H

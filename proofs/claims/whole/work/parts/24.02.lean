def W_X2_doJump (s : yS) (v1 : Int32) (v2 : Int32) (Q : yS → Prop) : Prop :=
 ((v1 = (nI 18) → ∀ s1 : yS, s1 = wI s 123 16 v2 → 
  Q s1)
 ∧ (¬ v1 = (nI 18) → W_X2_pop s 
  (fun r2 s3 => ∀ P18 : Int32 → Prop, (∀ (y4 : Int32), (∀ P29 : Int32 → Int32 → Prop, (∀ (y5 : Int32) (y6 : Int32), (((¬ y6 = y5 → Q s3)
    ∧ (y6 = y5 → ∀ s7 : yS, s7 = wI s3 123 16 v2 → 
     Q s7))) → P29 y5 y6) → 
   ((¬ v1 = (nI 19) → P29 0 y4)
   ∧ (v1 = (nI 19) → P29 1 y4))) → P18 y4) → 
  ((r2 = 0 → P18 0)
  ∧ (¬ r2 = 0 → P18 1)))))
set_option maxRecDepth 100000 in
set_option maxHeartbeats 40000000 in
theorem w_X2_doJump {G : xG} (hG : yG G) {z : Nat} {s : yS} {v1 : Int32} {v2 : Int32} {Q : yS → Prop} (H : W_X2_doJump s v1 v2 Q) : xC G mX2_doJump [.ref (q_b G + 123), .int v1, .int v2] (hS G s) z 0 0 (yQv G z Q) := by
  have hW := hG.1
  have hcl := hG.2.1
  have hty := hG.2.2.1
  have hO : xO G mX2_doJump tbX2_doJump ptX2_doJump := ⟨tkX2_doJump, pkX2_doJump hcl⟩
  unfold W_X2_doJump at H
  refine xC.of hW (by decide) rfl (Nat.le_of_ble_eq_true rfl) ?_
  refine s_iload_n (nx := 1) hO rfl rfl rfl ?_
  refine s_bipush (x := (nI 18)) (nx := 3) hO rfl (by decide) rfl ?_
  refine s_icmp_eq (nx := 6) hO rfl rfl (fun c3 => ?_) (fun c3 => ?_)
  · replace H := H.1 c3
    refine s_aload_n (nx := 33) hO rfl rfl rfl ?_
    refine s_iload_n (nx := 34) hO rfl rfl rfl ?_
    refine goV (wI s 123 16 v2) (fun s1 es1 => ?_)
    replace H := H s1 es1
    refine s_putf (nx := 37) hO rfl rfl (hs_o2 kc123) (Nat.le_of_ble_eq_true rfl) (by rw [hty]; rfl) (by rw [hty]; rfl) pX2_16 rfl ?_
    refine xEx.at (up_oI2 kc123 es1) ?_
    exact s_vret hO rfl rfl ⟨rfl, _, rfl, rfl, H⟩
  · replace H := H.2 c3
    refine s_aload_n (nx := 7) hO rfl rfl rfl ?_
    refine s_callV [] (ci := 2) (F := TX2) (N := 18) (nx := 10) hO rfl kX2_doJump_126 (by rw [hcl]; rfl) (hs_o2 kc123) (w_X2_pop hG H) rfl rfl (Nat.le_of_ble_eq_true rfl) (Nat.zero_le _) (Nat.zero_le _) rfl (k_Qi (fun r2 s3 H => ?_))
    refine goK (H (fun (y4 : Int32) => xEx G mX2_doJump 18 [(0, .ref (q_b G + 123)), (1, .int v1), (2, .int v2)] [.int y4] (hS G s3) z 0 0 (yQv G z Q)) (fun y4 H => ?_)) (fun H => ?_)
    · show xEx G mX2_doJump 18 [(0, .ref (q_b G + 123)), (1, .int v1), (2, .int v2)] [.int y4] (hS G s3) z 0 0 (yQv G z Q)
      refine s_iload_n (nx := 19) hO rfl rfl rfl ?_
      refine s_bipush (x := (nI 19)) (nx := 21) hO rfl (by decide) rfl ?_
      refine goK (H (fun (y5 : Int32) (y6 : Int32) => xEx G mX2_doJump 29 [(0, .ref (q_b G + 123)), (2, .int v2)] [.int y5, .int y6] (hS G s3) z 0 0 (yQv G z Q)) (fun y5 y6 H => ?_)) (fun H => ?_)
      · show xEx G mX2_doJump 29 [(0, .ref (q_b G + 123)), (2, .int v2)] [.int y5, .int y6] (hS G s3) z 0 0 (yQv G z Q)
        refine s_icmp_ne (nx := 32) hO rfl rfl (fun c29 => ?_) (fun c29 => ?_)
        · replace H := H.1 c29
          exact s_vret hO rfl rfl ⟨rfl, _, rfl, rfl, H⟩
        · replace H := H.2 c29
          refine s_aload_n (nx := 33) hO rfl rfl rfl ?_
          refine s_iload_n (nx := 34) hO rfl rfl rfl ?_
          refine goV (wI s3 123 16 v2) (fun s7 es7 => ?_)
          replace H := H s7 es7
          refine s_putf (nx := 37) hO rfl rfl (hs_o2 kc123) (Nat.le_of_ble_eq_true rfl) (by rw [hty]; rfl) (by rw [hty]; rfl) pX2_16 rfl ?_
          refine xEx.at (up_oI2 kc123 es7) ?_
          exact s_vret hO rfl rfl ⟨rfl, _, rfl, rfl, H⟩
      refine s_icmp_ne (nx := 24) hO rfl rfl (fun c21 => ?_) (fun c21 => ?_)
      · replace H := H.1 c21
        refine s_iconst (x := 0) (nx := 29) hO rfl (by decide) rfl ?_
        exact xEx.loc (x_sub1 (List.Mem.head _) (x_sub1 (List.Mem.tail _ (List.Mem.tail _ (List.Mem.head _))) x_sub0)) H
      · replace H := H.2 c21
        refine s_iconst (x := 1) (nx := 25) hO rfl (by decide) rfl ?_
        refine s_goto hO rfl ?_
        exact xEx.loc (x_sub1 (List.Mem.head _) (x_sub1 (List.Mem.tail _ (List.Mem.tail _ (List.Mem.head _))) x_sub0)) H
    refine s_if_eq (nx := 13) hO rfl rfl (fun c10 => ?_) (fun c10 => ?_)
    · replace H := H.1 c10
      refine s_iconst (x := 0) (nx := 18) hO rfl (by decide) rfl ?_
      exact xEx.loc (x_sub1 (List.Mem.head _) (x_sub1 (List.Mem.tail _ (List.Mem.head _)) (x_sub1 (List.Mem.tail _ (List.Mem.tail _ (List.Mem.head _))) x_sub0))) H
    · replace H := H.2 c10
      refine s_iconst (x := 1) (nx := 14) hO rfl (by decide) rfl ?_
      refine s_goto hO rfl ?_
      exact xEx.loc (x_sub1 (List.Mem.head _) (x_sub1 (List.Mem.tail _ (List.Mem.head _)) (x_sub1 (List.Mem.tail _ (List.Mem.tail _ (List.Mem.head _))) x_sub0))) H
def W_X2_makeRow (s : yS) (v1 : Int32) (Q : yS → Prop) : Prop :=
 vp_in (nI 6) 8 ∧ 
 ∀ x2 : Int32, x2 = (sI s 124 (ix (nI 6))) → 
 ∀ P28 : Prop, ((W_X2_throwCode s (nI 3) 
  (fun s3 => Q s3)) → P28) → 
 ((v1 < 0 → P28)
 ∧ (¬ v1 < 0 → (((nI 256) < v1 → P28)
  ∧ (¬ (nI 256) < v1 → ((v1 ≤ ((nI 4096) - x2) → ∀ P36 : Int32 → yS → Prop, (∀ (x4 : Int32) (s5 : yS), ((((x2 + v1) ≤ x4 → vp_in (nI 6) 8 ∧ ∀ s7 : yS, s7 = wI s5 124 (ix (nI 6)) (x2 + v1) → 
      W_X2_push s7 ((x2 <<< ((nI 9) &&& 31)) ||| v1) 
      (fun s8 => Q s8))
     ∧ (¬ (x2 + v1) ≤ x4 → vp_in x4 4096 ∧ ∀ s10 : yS, s10 = wI s5 130 (ix x4) 0 → 
      ∀ x11 : Int32, x11 = (x4 + 1) → 
      P36 x11 s10))) → P36 x4 s5) → 
    P36 x2 s)
   ∧ (¬ v1 ≤ ((nI 4096) - x2) → P28))))))
set_option maxRecDepth 100000 in
set_option maxHeartbeats 40000000 in
theorem w_X2_makeRow {G : xG} (hG : yG G) {z : Nat} {s : yS} {v1 : Int32} {Q : yS → Prop} (H : W_X2_makeRow s v1 Q) : xC G mX2_makeRow [.ref (q_b G + 123), .int v1] (hS G s) z 0 0 (yQv G z Q) := by
  have hW := hG.1
  have hcl := hG.2.1
  have hty := hG.2.2.1
  have hO : xO G mX2_makeRow tbX2_makeRow ptX2_makeRow := ⟨tkX2_makeRow, pkX2_makeRow hcl⟩
  unfold W_X2_makeRow at H
  refine xC.of hW (by decide) rfl (Nat.le_of_ble_eq_true rfl) ?_
  refine s_aload_n (nx := 1) hO rfl rfl rfl ?_
  refine s_getf (v := .ref (q_b G + 124)) (nx := 4) hO rfl rfl (hs_o2 kc123) rfl rfl ?_
  refine s_bipush (x := (nI 6)) (nx := 6) hO rfl (by decide) rfl ?_
  obtain ⟨b1, H⟩ := H
  refine s_iald (nx := 7) hO rfl (hs_I kc124) b1 rfl ?_
  refine goV ((sI s 124 (ix (nI 6)))) (fun x2 ex2 => ?_)
  replace H := H x2 ex2
  refine e_istore_n (nx := 8) (l' := [(2, .int x2), (0, .ref (q_b G + 123)), (1, .int v1)]) ex2 hO rfl (by decide) rfl rfl ?_
  refine s_iload_n (nx := 9) hO rfl rfl rfl ?_
  refine goK (H (xEx G mX2_makeRow 28 [(0, .ref (q_b G + 123))] [] (hS G s) z 0 0 (yQv G z Q)) (fun H => ?_)) (fun H => ?_)
  · show xEx G mX2_makeRow 28 [(0, .ref (q_b G + 123))] [] (hS G s) z 0 0 (yQv G z Q)
    refine s_aload_n (nx := 29) hO rfl rfl rfl ?_
    refine s_iconst (x := (nI 3)) (nx := 30) hO rfl (by decide) rfl ?_
    refine s_callV [.int (nI 3)] (ci := 2) (F := TX2) (N := 18) (nx := 33) hO rfl kX2_makeRow_130 (by rw [hcl]; rfl) (hs_o2 kc123) (w_X2_throwCode hG H) rfl rfl (Nat.le_of_ble_eq_true rfl) (Nat.zero_le _) (Nat.zero_le _) rfl (k_Qv (fun s3 H => ?_))
    exact s_vret hO rfl rfl ⟨rfl, _, rfl, rfl, H⟩
  refine s_if_lt (nx := 12) hO rfl rfl (fun c9 => ?_) (fun c9 => ?_)
  · replace H := H.1 c9
    exact xEx.loc (x_sub1 (List.Mem.tail _ (List.Mem.head _)) x_sub0) H
  · replace H := H.2 c9
    refine s_iload_n (nx := 13) hO rfl rfl rfl ?_
    refine s_sipush (x := (nI 256)) (nx := 16) hO rfl (by decide) rfl ?_
    refine s_icmp_gt (nx := 19) hO rfl rfl (fun c16 => ?_) (fun c16 => ?_)
    · replace H := H.1 c16
      exact xEx.loc (x_sub1 (List.Mem.tail _ (List.Mem.head _)) x_sub0) H
    · replace H := H.2 c16
      refine s_iload_n (nx := 20) hO rfl rfl rfl ?_
      refine s_sipush (x := (nI 4096)) (nx := 23) hO rfl (by decide) rfl ?_
      refine s_iload_n (nx := 24) hO rfl rfl rfl ?_
      refine s_isub (nx := 25) hO rfl rfl ?_
      refine s_icmp_le (nx := 28) hO rfl rfl (fun c25 => ?_) (fun c25 => ?_)
      · replace H := H.1 c25
        refine s_iload_n (nx := 35) hO rfl rfl rfl ?_
        refine goK (H (fun (x4 : Int32) (s5 : yS) => xEx G mX2_makeRow 36 [(0, .ref (q_b G + 123)), (1, .int v1), (2, .int x2), (3, .int x4)] [] (hS G s5) z 0 0 (yQv G z Q)) (fun x4 s5 H => ?_)) (fun H => ?_)
        · show xEx G mX2_makeRow 36 [(0, .ref (q_b G + 123)), (1, .int v1), (2, .int x2), (3, .int x4)] [] (hS G s5) z 0 0 (yQv G z Q)
          refine s_iload_n (nx := 37) hO rfl rfl rfl ?_
          refine s_iload_n (nx := 38) hO rfl rfl rfl ?_
          refine s_iload_n (nx := 39) hO rfl rfl rfl ?_
          refine s_iadd (nx := 40) hO rfl rfl ?_
          refine s_icmp_ge (nx := 43) hO rfl rfl (fun c40 => ?_) (fun c40 => ?_)
          · replace H := H.1 c40
            refine s_aload_n (nx := 57) hO rfl rfl rfl ?_
            refine s_getf (v := .ref (q_b G + 124)) (nx := 60) hO rfl rfl (hs_o2 kc123) rfl rfl ?_
            refine s_bipush (x := (nI 6)) (nx := 62) hO rfl (by decide) rfl ?_
            refine s_iload_n (nx := 63) hO rfl rfl rfl ?_
            refine s_iload_n (nx := 64) hO rfl rfl rfl ?_
            refine s_iadd (nx := 65) hO rfl rfl ?_
            obtain ⟨b6, H⟩ := H
            refine goV (wI s5 124 (ix (nI 6)) (x2 + v1)) (fun s7 es7 => ?_)
            replace H := H s7 es7
            refine s_iast (nx := 66) hO rfl (hs_I kc124) b6 rfl ?_
            refine xEx.at (up_I kc124 es7) ?_
            refine s_aload_n (nx := 67) hO rfl rfl rfl ?_
            refine s_iload_n (nx := 68) hO rfl rfl rfl ?_
            refine s_bipush (x := (nI 9)) (nx := 70) hO rfl (by decide) rfl ?_
            refine s_ishl (nx := 71) hO rfl rfl ?_
            refine s_iload_n (nx := 72) hO rfl rfl rfl ?_
            refine s_ior (nx := 73) hO rfl rfl ?_
            refine s_callV [.int ((x2 <<< ((nI 9) &&& 31)) ||| v1)] (ci := 2) (F := TX2) (N := 18) (nx := 76) hO rfl kX2_makeRow_123 (by rw [hcl]; rfl) (hs_o2 kc123) (w_X2_push hG H) rfl rfl (Nat.le_of_ble_eq_true rfl) (Nat.zero_le _) (Nat.zero_le _) rfl (k_Qv (fun s8 H => ?_))
            exact s_vret hO rfl rfl ⟨rfl, _, rfl, rfl, H⟩
          · replace H := H.2 c40
            refine s_aload_n (nx := 44) hO rfl rfl rfl ?_
            refine s_getf (v := .ref (q_b G + 130)) (nx := 47) hO rfl rfl (hs_o2 kc123) rfl rfl ?_
            refine s_iload_n (nx := 48) hO rfl rfl rfl ?_
            refine s_iconst (x := 0) (nx := 49) hO rfl (by decide) rfl ?_
            obtain ⟨b9, H⟩ := H
            refine goV (wI s5 130 (ix x4) 0) (fun s10 es10 => ?_)
            replace H := H s10 es10
            refine s_iast (nx := 50) hO rfl (hs_I kc130) b9 rfl ?_
            refine xEx.at (up_I kc130 es10) ?_
            refine goV ((x4 + 1)) (fun x11 ex11 => ?_)
            replace H := H x11 ex11
            refine e_iinc (nx := 53) (l' := [(3, .int x11), (0, .ref (q_b G + 123)), (1, .int v1), (2, .int x2)]) ex11 hO rfl (by decide) rfl rfl rfl rfl ?_
            refine s_goto hO rfl ?_
            exact xEx.loc (x_sub1 (List.Mem.tail _ (List.Mem.head _)) (x_sub1 (List.Mem.tail _ (List.Mem.tail _ (List.Mem.head _))) (x_sub1 (List.Mem.tail _ (List.Mem.tail _ (List.Mem.tail _ (List.Mem.head _)))) (x_sub1 (List.Mem.head _) x_sub0)))) H
        refine s_istore_n (nx := 36) (l' := [(3, .int x2), (2, .int x2), (0, .ref (q_b G + 123)), (1, .int v1)]) hO rfl (by decide) rfl rfl ?_
        exact xEx.loc (x_sub1 (List.Mem.tail _ (List.Mem.tail _ (List.Mem.head _))) (x_sub1 (List.Mem.tail _ (List.Mem.tail _ (List.Mem.tail _ (List.Mem.head _)))) (x_sub1 (List.Mem.tail _ (List.Mem.head _)) (x_sub1 (List.Mem.head _) x_sub0)))) H
      · replace H := H.2 c25
        exact xEx.loc (x_sub1 (List.Mem.tail _ (List.Mem.head _)) x_sub0) H
def W_X2_doRow (s : yS) (v1 : Int32) (Q : yS → Prop) : Prop :=
 ((¬ v1 = (nI 21) → ((¬ v1 = (nI 24) → ∀ P52 : Int32 → yS → Prop, (∀ (y1 : Int32) (s2 : yS), (W_X2_pop s2 
    (fun r3 s4 => W_X2_pop s4 
    (fun r5 s6 => ∀ P78 : Prop, ((W_X2_throwCode s6 (nI 2) 
     (fun s7 => Q s7)) → P78) → 
    ((r3 < 0 → P78)
    ∧ (¬ r3 < 0 → ((r3 < (r5 &&& (nI 511)) → ((¬ v1 = (nI 23) → vp_in ((r5 >>> ((nI 9) &&& 31)) + r3) 4096 ∧ 
       W_X2_push s6 (sI s6 130 (ix ((r5 >>> ((nI 9) &&& 31)) + r3))) 
       (fun s9 => Q s9))
      ∧ (v1 = (nI 23) → vp_in ((r5 >>> ((nI 9) &&& 31)) + r3) 4096 ∧ ∀ s11 : yS, s11 = wI s6 130 (ix ((r5 >>> ((nI 9) &&& 31)) + r3)) y1 → 
       Q s11)))
     ∧ (¬ r3 < (r5 &&& (nI 511)) → P78))))))) → P52 y1 s2) → 
   ((¬ v1 = (nI 23) → P52 0 s)
   ∧ (v1 = (nI 23) → W_X2_pop s 
    (fun r12 s13 => P52 r12 s13))))
  ∧ (v1 = (nI 24) → W_X2_pop s 
   (fun r14 s15 => W_X2_push s15 (r14 &&& (nI 511)) 
   (fun s16 => Q s16)))))
 ∧ (v1 = (nI 21) → W_X2_pop s 
  (fun r17 s18 => W_X2_makeRow s18 r17 
  (fun s19 => Q s19))))
set_option maxRecDepth 100000 in
set_option maxHeartbeats 40000000 in
theorem w_X2_doRow {G : xG} (hG : yG G) {z : Nat} {s : yS} {v1 : Int32} {Q : yS → Prop} (H : W_X2_doRow s v1 Q) : xC G mX2_doRow [.ref (q_b G + 123), .int v1] (hS G s) z 0 0 (yQv G z Q) := by
  have hW := hG.1
  have hcl := hG.2.1
  have hty := hG.2.2.1
  have hO : xO G mX2_doRow tbX2_doRow ptX2_doRow := ⟨tkX2_doRow, pkX2_doRow hcl⟩
  unfold W_X2_doRow at H
  refine xC.of hW (by decide) rfl (Nat.le_of_ble_eq_true rfl) ?_
  refine s_iload_n (nx := 1) hO rfl rfl rfl ?_
  refine s_bipush (x := (nI 21)) (nx := 3) hO rfl (by decide) rfl ?_
  refine s_icmp_ne (nx := 6) hO rfl rfl (fun c3 => ?_) (fun c3 => ?_)
  · replace H := H.1 c3
    refine s_iload_n (nx := 18) hO rfl rfl rfl ?_
    refine s_bipush (x := (nI 24)) (nx := 20) hO rfl (by decide) rfl ?_
    refine s_icmp_ne (nx := 23) hO rfl rfl (fun c20 => ?_) (fun c20 => ?_)
    · replace H := H.1 c20
      refine s_iload_n (nx := 39) hO rfl rfl rfl ?_
      refine s_bipush (x := (nI 23)) (nx := 41) hO rfl (by decide) rfl ?_
      refine goK (H (fun (y1 : Int32) (s2 : yS) => xEx G mX2_doRow 52 [(0, .ref (q_b G + 123)), (1, .int v1)] [.int y1] (hS G s2) z 0 0 (yQv G z Q)) (fun y1 s2 H => ?_)) (fun H => ?_)
      · show xEx G mX2_doRow 52 [(0, .ref (q_b G + 123)), (1, .int v1)] [.int y1] (hS G s2) z 0 0 (yQv G z Q)
        refine s_istore_n (nx := 53) (l' := [(2, .int y1), (0, .ref (q_b G + 123)), (1, .int v1)]) hO rfl (by decide) rfl rfl ?_
        refine s_aload_n (nx := 54) hO rfl rfl rfl ?_
        refine s_callV [] (ci := 2) (F := TX2) (N := 18) (nx := 57) hO rfl kX2_doRow_126 (by rw [hcl]; rfl) (hs_o2 kc123) (w_X2_pop hG H) rfl rfl (Nat.le_of_ble_eq_true rfl) (Nat.zero_le _) (Nat.zero_le _) rfl (k_Qi (fun r3 s4 H => ?_))
        refine s_istore_n (nx := 58) (l' := [(3, .int r3), (2, .int y1), (0, .ref (q_b G + 123)), (1, .int v1)]) hO rfl (by decide) rfl rfl ?_
        refine s_aload_n (nx := 59) hO rfl rfl rfl ?_
        refine s_callV [] (ci := 2) (F := TX2) (N := 18) (nx := 62) hO rfl kX2_doRow_126 (by rw [hcl]; rfl) (hs_o2 kc123) (w_X2_pop hG H) rfl rfl (Nat.le_of_ble_eq_true rfl) (Nat.zero_le _) (Nat.zero_le _) rfl (k_Qi (fun r5 s6 H => ?_))
        refine s_istore (nx := 64) (l' := [(4, .int r5), (3, .int r3), (2, .int y1), (0, .ref (q_b G + 123)), (1, .int v1)]) hO rfl (by decide) rfl rfl ?_
        refine s_iload_n (nx := 65) hO rfl rfl rfl ?_
        refine goK (H (xEx G mX2_doRow 78 [(0, .ref (q_b G + 123))] [] (hS G s6) z 0 0 (yQv G z Q)) (fun H => ?_)) (fun H => ?_)
        · show xEx G mX2_doRow 78 [(0, .ref (q_b G + 123))] [] (hS G s6) z 0 0 (yQv G z Q)
          refine s_aload_n (nx := 79) hO rfl rfl rfl ?_
          refine s_iconst (x := (nI 2)) (nx := 80) hO rfl (by decide) rfl ?_
          refine s_callV [.int (nI 2)] (ci := 2) (F := TX2) (N := 18) (nx := 83) hO rfl kX2_doRow_130 (by rw [hcl]; rfl) (hs_o2 kc123) (w_X2_throwCode hG H) rfl rfl (Nat.le_of_ble_eq_true rfl) (Nat.zero_le _) (Nat.zero_le _) rfl (k_Qv (fun s7 H => ?_))
          refine s_goto hO rfl ?_
          exact s_vret hO rfl rfl ⟨rfl, _, rfl, rfl, H⟩
        refine s_if_lt (nx := 68) hO rfl rfl (fun c65 => ?_) (fun c65 => ?_)
        · replace H := H.1 c65
          exact xEx.loc (x_sub1 (List.Mem.tail _ (List.Mem.tail _ (List.Mem.tail _ (List.Mem.head _)))) x_sub0) H
        · replace H := H.2 c65
          refine s_iload_n (nx := 69) hO rfl rfl rfl ?_
          refine s_iload (nx := 71) hO rfl rfl rfl ?_
          refine s_sipush (x := (nI 511)) (nx := 74) hO rfl (by decide) rfl ?_
          refine s_iand (nx := 75) hO rfl rfl ?_
          refine s_icmp_lt (nx := 78) hO rfl rfl (fun c75 => ?_) (fun c75 => ?_)
          · replace H := H.1 c75
            refine s_iload_n (nx := 87) hO rfl rfl rfl ?_
            refine s_bipush (x := (nI 23)) (nx := 89) hO rfl (by decide) rfl ?_
            refine s_icmp_ne (nx := 92) hO rfl rfl (fun c89 => ?_) (fun c89 => ?_)
            · replace H := H.1 c89
              refine s_aload_n (nx := 109) hO rfl rfl rfl ?_
              refine s_aload_n (nx := 110) hO rfl rfl rfl ?_
              refine s_getf (v := .ref (q_b G + 130)) (nx := 113) hO rfl rfl (hs_o2 kc123) rfl rfl ?_
              refine s_iload (nx := 115) hO rfl rfl rfl ?_
              refine s_bipush (x := (nI 9)) (nx := 117) hO rfl (by decide) rfl ?_
              refine s_ishr (nx := 118) hO rfl rfl ?_
              refine s_iload_n (nx := 119) hO rfl rfl rfl ?_
              refine s_iadd (nx := 120) hO rfl rfl ?_
              obtain ⟨b8, H⟩ := H
              refine s_iald (nx := 121) hO rfl (hs_I kc130) b8 rfl ?_
              refine s_callV [.int (sI s6 130 (ix ((r5 >>> ((nI 9) &&& 31)) + r3)))] (ci := 2) (F := TX2) (N := 18) (nx := 124) hO rfl kX2_doRow_123 (by rw [hcl]; rfl) (hs_o2 kc123) (w_X2_push hG H) rfl rfl (Nat.le_of_ble_eq_true rfl) (Nat.zero_le _) (Nat.zero_le _) rfl (k_Qv (fun s9 H => ?_))
              exact s_vret hO rfl rfl ⟨rfl, _, rfl, rfl, H⟩
            · replace H := H.2 c89
              refine s_aload_n (nx := 93) hO rfl rfl rfl ?_
              refine s_getf (v := .ref (q_b G + 130)) (nx := 96) hO rfl rfl (hs_o2 kc123) rfl rfl ?_
              refine s_iload (nx := 98) hO rfl rfl rfl ?_
              refine s_bipush (x := (nI 9)) (nx := 100) hO rfl (by decide) rfl ?_
              refine s_ishr (nx := 101) hO rfl rfl ?_
              refine s_iload_n (nx := 102) hO rfl rfl rfl ?_
              refine s_iadd (nx := 103) hO rfl rfl ?_
              refine s_iload_n (nx := 104) hO rfl rfl rfl ?_
              obtain ⟨b10, H⟩ := H
              refine goV (wI s6 130 (ix ((r5 >>> ((nI 9) &&& 31)) + r3)) y1) (fun s11 es11 => ?_)
              replace H := H s11 es11
              refine s_iast (nx := 105) hO rfl (hs_I kc130) b10 rfl ?_
              refine xEx.at (up_I kc130 es11) ?_
              refine s_goto hO rfl ?_
              exact s_vret hO rfl rfl ⟨rfl, _, rfl, rfl, H⟩
          · replace H := H.2 c75
            exact xEx.loc (x_sub1 (List.Mem.tail _ (List.Mem.tail _ (List.Mem.tail _ (List.Mem.head _)))) x_sub0) H
      refine s_icmp_ne (nx := 44) hO rfl rfl (fun c41 => ?_) (fun c41 => ?_)
      · replace H := H.1 c41
        refine s_iconst (x := 0) (nx := 52) hO rfl (by decide) rfl ?_
        exact xEx.loc (x_sub1 (List.Mem.head _) (x_sub1 (List.Mem.tail _ (List.Mem.head _)) x_sub0)) H
      · replace H := H.2 c41
        refine s_aload_n (nx := 45) hO rfl rfl rfl ?_
        refine s_callV [] (ci := 2) (F := TX2) (N := 18) (nx := 48) hO rfl kX2_doRow_126 (by rw [hcl]; rfl) (hs_o2 kc123) (w_X2_pop hG H) rfl rfl (Nat.le_of_ble_eq_true rfl) (Nat.zero_le _) (Nat.zero_le _) rfl (k_Qi (fun r12 s13 H => ?_))
        refine s_goto hO rfl ?_
        exact xEx.loc (x_sub1 (List.Mem.head _) (x_sub1 (List.Mem.tail _ (List.Mem.head _)) x_sub0)) H
    · replace H := H.2 c20
      refine s_aload_n (nx := 24) hO rfl rfl rfl ?_
      refine s_aload_n (nx := 25) hO rfl rfl rfl ?_
      refine s_callV [] (ci := 2) (F := TX2) (N := 18) (nx := 28) hO rfl kX2_doRow_126 (by rw [hcl]; rfl) (hs_o2 kc123) (w_X2_pop hG H) rfl rfl (Nat.le_of_ble_eq_true rfl) (Nat.zero_le _) (Nat.zero_le _) rfl (k_Qi (fun r14 s15 H => ?_))
      refine s_sipush (x := (nI 511)) (nx := 31) hO rfl (by decide) rfl ?_
      refine s_iand (nx := 32) hO rfl rfl ?_
      refine s_callV [.int (r14 &&& (nI 511))] (ci := 2) (F := TX2) (N := 18) (nx := 35) hO rfl kX2_doRow_123 (by rw [hcl]; rfl) (hs_o2 kc123) (w_X2_push hG H) rfl rfl (Nat.le_of_ble_eq_true rfl) (Nat.zero_le _) (Nat.zero_le _) rfl (k_Qv (fun s16 H => ?_))
      refine s_goto hO rfl ?_
      exact s_vret hO rfl rfl ⟨rfl, _, rfl, rfl, H⟩
  · replace H := H.2 c3
    refine s_aload_n (nx := 7) hO rfl rfl rfl ?_
    refine s_aload_n (nx := 8) hO rfl rfl rfl ?_
    refine s_callV [] (ci := 2) (F := TX2) (N := 18) (nx := 11) hO rfl kX2_doRow_126 (by rw [hcl]; rfl) (hs_o2 kc123) (w_X2_pop hG H) rfl rfl (Nat.le_of_ble_eq_true rfl) (Nat.zero_le _) (Nat.zero_le _) rfl (k_Qi (fun r17 s18 H => ?_))
    refine s_callV [.int r17] (ci := 2) (F := TX2) (N := 18) (nx := 14) hO rfl kX2_doRow_137 (by rw [hcl]; rfl) (hs_o2 kc123) (w_X2_makeRow hG H) rfl rfl (Nat.le_of_ble_eq_true rfl) (Nat.zero_le _) (Nat.zero_le _) rfl (k_Qv (fun s19 H => ?_))
    refine s_goto hO rfl ?_
    exact s_vret hO rfl rfl ⟨rfl, _, rfl, rfl, H⟩
def W_X2_callOutside (s : yS) (v1 : Int32) (Q : yS → Prop) : Prop :=
 vp_in (nI 3) 8 ∧ 
 ∀ x2 : Int32, x2 = (sI s 124 (ix (nI 3))) → 
 ∀ P25 : Int32 → Prop, (∀ (y3 : Int32), (∀ P88 : yS → Prop, (∀ (s4 : yS), (vp_in (nI 3) 8 ∧ 
   vp_in (nI 3) 8 ∧ ∀ s7 : yS, s7 = wI s4 124 (ix (nI 3)) ((sI s4 124 (ix (nI 3))) + 1) → 
   ∀ s8 : yS, s8 = wI s7 123 17 ((sI s7 123 17) - (v1 - v1 / (nI 4) * (nI 4))) → 
   W_X2_push s8 y3 
   (fun s9 => Q s9)) → P88 s4) → 
  (((nI 256) ≤ x2 → P88 s)
  ∧ (¬ (nI 256) ≤ x2 → vp_in (x2 * (nI 5)) 1280 ∧ ∀ s11 : yS, s11 = wI s 129 (ix (x2 * (nI 5))) v1 → 
   ∀ P45 : Int32 → yS → Prop, (∀ (x12 : Int32) (s13 : yS), ((((nI 3) ≤ x12 → vp_in ((x2 * (nI 5)) + (nI 4)) 1280 ∧ ∀ s15 : yS, s15 = wI s13 129 (ix ((x2 * (nI 5)) + (nI 4))) y3 → 
     P88 s15)
    ∧ (¬ (nI 3) ≤ x12 → W_X2_argument s13 v1 x12 
     (fun r16 => vp_in (((x2 * (nI 5)) + 1) + x12) 1280 ∧ ∀ s18 : yS, s18 = wI s13 129 (ix (((x2 * (nI 5)) + 1) + x12)) r16 → 
     ∀ x19 : Int32, x19 = (x12 + 1) → 
     P45 x19 s18)))) → P45 x12 s13) → 
   P45 0 s11))) → P25 y3) → 
 (((sI s 123 2) ≤ x2 → P25 0)
 ∧ (¬ (sI s 123 2) ≤ x2 → vp_in x2 256 ∧ 
  P25 (sI s 128 (ix x2))))
set_option maxRecDepth 100000 in
set_option maxHeartbeats 40000000 in
theorem w_X2_callOutside {G : xG} (hG : yG G) {z : Nat} {s : yS} {v1 : Int32} {Q : yS → Prop} (H : W_X2_callOutside s v1 Q) : xC G mX2_callOutside [.ref (q_b G + 123), .int v1] (hS G s) z 0 0 (yQv G z Q) := by
  have hW := hG.1
  have hcl := hG.2.1
  have hty := hG.2.2.1
  have hO : xO G mX2_callOutside tbX2_callOutside ptX2_callOutside := ⟨tkX2_callOutside, pkX2_callOutside hcl⟩
  unfold W_X2_callOutside at H
  refine xC.of hW (by decide) rfl (Nat.le_of_ble_eq_true rfl) ?_
  refine s_aload_n (nx := 1) hO rfl rfl rfl ?_
  refine s_getf (v := .ref (q_b G + 124)) (nx := 4) hO rfl rfl (hs_o2 kc123) rfl rfl ?_
  refine s_iconst (x := (nI 3)) (nx := 5) hO rfl (by decide) rfl ?_
  obtain ⟨b1, H⟩ := H
  refine s_iald (nx := 6) hO rfl (hs_I kc124) b1 rfl ?_
  refine goV ((sI s 124 (ix (nI 3)))) (fun x2 ex2 => ?_)
  replace H := H x2 ex2
  refine e_istore_n (nx := 7) (l' := [(2, .int x2), (0, .ref (q_b G + 123)), (1, .int v1)]) ex2 hO rfl (by decide) rfl rfl ?_
  refine s_iload_n (nx := 8) hO rfl rfl rfl ?_
  refine s_aload_n (nx := 9) hO rfl rfl rfl ?_
  refine s_getf (v := .int (sI s 123 2)) (nx := 12) hO rfl rfl (hs_o2 kc123) rfl rfl ?_
  refine goK (H (fun (y3 : Int32) => xEx G mX2_callOutside 25 [(0, .ref (q_b G + 123)), (1, .int v1), (2, .int x2)] [.int y3] (hS G s) z 0 0 (yQv G z Q)) (fun y3 H => ?_)) (fun H => ?_)
  · show xEx G mX2_callOutside 25 [(0, .ref (q_b G + 123)), (1, .int v1), (2, .int x2)] [.int y3] (hS G s) z 0 0 (yQv G z Q)
    refine s_istore_n (nx := 26) (l' := [(3, .int y3), (0, .ref (q_b G + 123)), (1, .int v1), (2, .int x2)]) hO rfl (by decide) rfl rfl ?_
    refine s_iload_n (nx := 27) hO rfl rfl rfl ?_
    refine s_sipush (x := (nI 256)) (nx := 30) hO rfl (by decide) rfl ?_
    refine goK (H (fun (s4 : yS) => xEx G mX2_callOutside 88 [(0, .ref (q_b G + 123)), (1, .int v1), (3, .int y3)] [] (hS G s4) z 0 0 (yQv G z Q)) (fun s4 H => ?_)) (fun H => ?_)
    · show xEx G mX2_callOutside 88 [(0, .ref (q_b G + 123)), (1, .int v1), (3, .int y3)] [] (hS G s4) z 0 0 (yQv G z Q)
      refine s_aload_n (nx := 89) hO rfl rfl rfl ?_
      refine s_getf (v := .ref (q_b G + 124)) (nx := 92) hO rfl rfl (hs_o2 kc123) rfl rfl ?_
      refine s_iconst (x := (nI 3)) (nx := 93) hO rfl (by decide) rfl ?_
      refine s_dup2 (nx := 94) hO rfl rfl rfl rfl ?_
      obtain ⟨b5, H⟩ := H
      refine s_iald (nx := 95) hO rfl (hs_I kc124) b5 rfl ?_
      refine s_iconst (x := 1) (nx := 96) hO rfl (by decide) rfl ?_
      refine s_iadd (nx := 97) hO rfl rfl ?_
      obtain ⟨b6, H⟩ := H
      refine goV (wI s4 124 (ix (nI 3)) ((sI s4 124 (ix (nI 3))) + 1)) (fun s7 es7 => ?_)
      replace H := H s7 es7
      refine s_iast (nx := 98) hO rfl (hs_I kc124) b6 rfl ?_
      refine xEx.at (up_I kc124 es7) ?_
      refine s_aload_n (nx := 99) hO rfl rfl rfl ?_
      refine s_dup (nx := 100) hO rfl rfl rfl ?_
      refine s_getf (v := .int (sI s7 123 17)) (nx := 103) hO rfl rfl (hs_o2 kc123) rfl rfl ?_
      refine s_iload_n (nx := 104) hO rfl rfl rfl ?_
      refine s_iconst (x := (nI 4)) (nx := 105) hO rfl (by decide) rfl ?_
      refine s_irem (nx := 106) hO rfl (by decide) rfl ?_
      refine s_isub (nx := 107) hO rfl rfl ?_
      refine goV (wI s7 123 17 ((sI s7 123 17) - (v1 - v1 / (nI 4) * (nI 4)))) (fun s8 es8 => ?_)
      replace H := H s8 es8
      refine s_putf (nx := 110) hO rfl rfl (hs_o2 kc123) (Nat.le_of_ble_eq_true rfl) (by rw [hty]; rfl) (by rw [hty]; rfl) pX2_17 rfl ?_
      refine xEx.at (up_oI2 kc123 es8) ?_
      refine s_aload_n (nx := 111) hO rfl rfl rfl ?_
      refine s_iload_n (nx := 112) hO rfl rfl rfl ?_
      refine s_callV [.int y3] (ci := 2) (F := TX2) (N := 18) (nx := 115) hO rfl kX2_callOutside_123 (by rw [hcl]; rfl) (hs_o2 kc123) (w_X2_push hG H) rfl rfl (Nat.le_of_ble_eq_true rfl) (Nat.zero_le _) (Nat.zero_le _) rfl (k_Qv (fun s9 H => ?_))
      exact s_vret hO rfl rfl ⟨rfl, _, rfl, rfl, H⟩
    refine s_icmp_ge (nx := 33) hO rfl rfl (fun c30 => ?_) (fun c30 => ?_)
    · replace H := H.1 c30
      exact xEx.loc (x_sub1 (List.Mem.tail _ (List.Mem.head _)) (x_sub1 (List.Mem.tail _ (List.Mem.tail _ (List.Mem.head _))) (x_sub1 (List.Mem.head _) x_sub0))) H
    · replace H := H.2 c30
      refine s_aload_n (nx := 34) hO rfl rfl rfl ?_
      refine s_getf (v := .ref (q_b G + 129)) (nx := 37) hO rfl rfl (hs_o2 kc123) rfl rfl ?_
      refine s_iload_n (nx := 38) hO rfl rfl rfl ?_
      refine s_iconst (x := (nI 5)) (nx := 39) hO rfl (by decide) rfl ?_
      refine s_imul (nx := 40) hO rfl rfl ?_
      refine s_iload_n (nx := 41) hO rfl rfl rfl ?_
      obtain ⟨b10, H⟩ := H
      refine goV (wI s 129 (ix (x2 * (nI 5))) v1) (fun s11 es11 => ?_)
      replace H := H s11 es11
      refine s_iast (nx := 42) hO rfl (hs_I kc129) b10 rfl ?_
      refine xEx.at (up_I kc129 es11) ?_
      refine s_iconst (x := 0) (nx := 43) hO rfl (by decide) rfl ?_
      refine goK (H (fun (x12 : Int32) (s13 : yS) => xEx G mX2_callOutside 45 [(0, .ref (q_b G + 123)), (1, .int v1), (2, .int x2), (3, .int y3), (4, .int x12)] [] (hS G s13) z 0 0 (yQv G z Q)) (fun x12 s13 H => ?_)) (fun H => ?_)
      · show xEx G mX2_callOutside 45 [(0, .ref (q_b G + 123)), (1, .int v1), (2, .int x2), (3, .int y3), (4, .int x12)] [] (hS G s13) z 0 0 (yQv G z Q)
        refine s_iload (nx := 47) hO rfl rfl rfl ?_
        refine s_iconst (x := (nI 3)) (nx := 48) hO rfl (by decide) rfl ?_
        refine s_icmp_ge (nx := 51) hO rfl rfl (fun c48 => ?_) (fun c48 => ?_)
        · replace H := H.1 c48
          refine s_aload_n (nx := 78) hO rfl rfl rfl ?_
          refine s_getf (v := .ref (q_b G + 129)) (nx := 81) hO rfl rfl (hs_o2 kc123) rfl rfl ?_
          refine s_iload_n (nx := 82) hO rfl rfl rfl ?_
          refine s_iconst (x := (nI 5)) (nx := 83) hO rfl (by decide) rfl ?_
          refine s_imul (nx := 84) hO rfl rfl ?_
          refine s_iconst (x := (nI 4)) (nx := 85) hO rfl (by decide) rfl ?_
          refine s_iadd (nx := 86) hO rfl rfl ?_
          refine s_iload_n (nx := 87) hO rfl rfl rfl ?_
          obtain ⟨b14, H⟩ := H
          refine goV (wI s13 129 (ix ((x2 * (nI 5)) + (nI 4))) y3) (fun s15 es15 => ?_)
          replace H := H s15 es15
          refine s_iast (nx := 88) hO rfl (hs_I kc129) b14 rfl ?_
          refine xEx.at (up_I kc129 es15) ?_
          exact xEx.loc (x_sub1 (List.Mem.head _) (x_sub1 (List.Mem.tail _ (List.Mem.head _)) (x_sub1 (List.Mem.tail _ (List.Mem.tail _ (List.Mem.tail _ (List.Mem.head _)))) x_sub0))) H
        · replace H := H.2 c48
          refine s_aload_n (nx := 52) hO rfl rfl rfl ?_
          refine s_getf (v := .ref (q_b G + 129)) (nx := 55) hO rfl rfl (hs_o2 kc123) rfl rfl ?_
          refine s_iload_n (nx := 56) hO rfl rfl rfl ?_
          refine s_iconst (x := (nI 5)) (nx := 57) hO rfl (by decide) rfl ?_
          refine s_imul (nx := 58) hO rfl rfl ?_
          refine s_iconst (x := 1) (nx := 59) hO rfl (by decide) rfl ?_
          refine s_iadd (nx := 60) hO rfl rfl ?_
          refine s_iload (nx := 62) hO rfl rfl rfl ?_
          refine s_iadd (nx := 63) hO rfl rfl ?_
          refine s_aload_n (nx := 64) hO rfl rfl rfl ?_
          refine s_iload_n (nx := 65) hO rfl rfl rfl ?_
          refine s_iload (nx := 67) hO rfl rfl rfl ?_
          refine s_callV [.int v1, .int x12] (ci := 2) (F := TX2) (N := 18) (nx := 70) hO rfl kX2_callOutside_181 (by rw [hcl]; rfl) (hs_o2 kc123) (w_X2_argument hG H) rfl rfl (Nat.le_of_ble_eq_true rfl) (Nat.zero_le _) (Nat.zero_le _) rfl (k_Pi (fun r16 H => ?_))
          obtain ⟨b17, H⟩ := H
          refine goV (wI s13 129 (ix (((x2 * (nI 5)) + 1) + x12)) r16) (fun s18 es18 => ?_)
          replace H := H s18 es18
          refine s_iast (nx := 71) hO rfl (hs_I kc129) b17 rfl ?_
          refine xEx.at (up_I kc129 es18) ?_
          refine goV ((x12 + 1)) (fun x19 ex19 => ?_)
          replace H := H x19 ex19
          refine e_iinc (nx := 74) (l' := [(4, .int x19), (0, .ref (q_b G + 123)), (1, .int v1), (2, .int x2), (3, .int y3)]) ex19 hO rfl (by decide) rfl rfl rfl rfl ?_
          refine s_goto hO rfl ?_
          exact xEx.loc (x_sub1 (List.Mem.tail _ (List.Mem.head _)) (x_sub1 (List.Mem.tail _ (List.Mem.tail _ (List.Mem.head _))) (x_sub1 (List.Mem.tail _ (List.Mem.tail _ (List.Mem.tail _ (List.Mem.head _)))) (x_sub1 (List.Mem.tail _ (List.Mem.tail _ (List.Mem.tail _ (List.Mem.tail _ (List.Mem.head _))))) (x_sub1 (List.Mem.head _) x_sub0))))) H
      refine s_istore (nx := 45) (l' := [(4, .int 0), (3, .int y3), (0, .ref (q_b G + 123)), (1, .int v1), (2, .int x2)]) hO rfl (by decide) rfl rfl ?_
      exact xEx.loc (x_sub1 (List.Mem.tail _ (List.Mem.tail _ (List.Mem.head _))) (x_sub1 (List.Mem.tail _ (List.Mem.tail _ (List.Mem.tail _ (List.Mem.head _)))) (x_sub1 (List.Mem.tail _ (List.Mem.tail _ (List.Mem.tail _ (List.Mem.tail _ (List.Mem.head _))))) (x_sub1 (List.Mem.tail _ (List.Mem.head _)) (x_sub1 (List.Mem.head _) x_sub0))))) H
  refine s_icmp_ge (nx := 15) hO rfl rfl (fun c12 => ?_) (fun c12 => ?_)
  · replace H := H.1 c12
    refine s_iconst (x := 0) (nx := 25) hO rfl (by decide) rfl ?_
    exact xEx.loc (x_sub1 (List.Mem.tail _ (List.Mem.head _)) (x_sub1 (List.Mem.tail _ (List.Mem.tail _ (List.Mem.head _))) (x_sub1 (List.Mem.head _) x_sub0))) H
  · replace H := H.2 c12
    refine s_aload_n (nx := 16) hO rfl rfl rfl ?_
    refine s_getf (v := .ref (q_b G + 128)) (nx := 19) hO rfl rfl (hs_o2 kc123) rfl rfl ?_
    refine s_iload_n (nx := 20) hO rfl rfl rfl ?_
    obtain ⟨b20, H⟩ := H
    refine s_iald (nx := 21) hO rfl (hs_I kc128) b20 rfl ?_
    refine s_goto hO rfl ?_
    exact xEx.loc (x_sub1 (List.Mem.tail _ (List.Mem.head _)) (x_sub1 (List.Mem.tail _ (List.Mem.tail _ (List.Mem.head _))) (x_sub1 (List.Mem.head _) x_sub0))) H
def W_X2_leave (s : yS) (Q : yS → Prop) : Prop :=
 ∃ p1 : Nat, sR s 123 11 = p1 + 1 ∧ kd p1 = some (9, 0) ∧ 
 vp_in (sI s 123 15) 12 ∧ 
 ∀ P20 : Int32 → Prop, (∀ (y3 : Int32), (∀ P33 : Int32 → yS → Prop, (∀ (y4 : Int32) (s5 : yS), (((¬ (sI s5 123 14) = 0 → W_X2_backToCaller s5 
    (fun s6 => ((y3 = 0 → Q s6)
    ∧ (¬ y3 = 0 → W_X2_push s6 y4 
     (fun s7 => Q s7)))))
   ∧ ((sI s5 123 14) = 0 → W_X2_end s5 0 y4 
    (fun s8 => Q s8)))) → P33 y4 s5) → 
  ((y3 = 0 → P33 0 s)
  ∧ (¬ y3 = 0 → W_X2_pop s 
   (fun r9 s10 => P33 r9 s10)))) → P20 y3) → 
 (((sI s (p1 + 4) (ix (sI s 123 15))) = 0 → P20 0)
 ∧ (¬ (sI s (p1 + 4) (ix (sI s 123 15))) = 0 → P20 1))
set_option maxRecDepth 100000 in
set_option maxHeartbeats 40000000 in
theorem w_X2_leave {G : xG} (hG : yG G) {z : Nat} {s : yS} {Q : yS → Prop} (H : W_X2_leave s Q) : xC G mX2_leave [.ref (q_b G + 123)] (hS G s) z 0 0 (yQv G z Q) := by
  have hW := hG.1
  have hcl := hG.2.1
  have hty := hG.2.2.1
  have hO : xO G mX2_leave tbX2_leave ptX2_leave := ⟨tkX2_leave, pkX2_leave hcl⟩
  unfold W_X2_leave at H
  refine xC.of hW (by decide) rfl (Nat.le_of_ble_eq_true rfl) ?_
  refine s_aload_n (nx := 1) hO rfl rfl rfl ?_
  obtain ⟨p1, ep1, kp1, H⟩ := H
  refine s_getf (v := .ref (q_b G + p1)) (nx := 4) hO rfl rfl (hs_o2 kc123) (congrArg some (rv_at ep1)) rfl ?_
  refine s_getf (v := .ref (q_b G + (p1 + 4))) (nx := 7) hO rfl rfl (hs_o5 kp1) rfl rfl ?_
  refine s_aload_n (nx := 8) hO rfl rfl rfl ?_
  refine s_getf (v := .int (sI s 123 15)) (nx := 11) hO rfl rfl (hs_o2 kc123) rfl rfl ?_
  obtain ⟨b2, H⟩ := H
  refine s_iald (nx := 12) hO rfl (hs_I (kf5_4 kp1)) b2 rfl ?_
  refine goK (H (fun (y3 : Int32) => xEx G mX2_leave 20 [(0, .ref (q_b G + 123))] [.int y3] (hS G s) z 0 0 (yQv G z Q)) (fun y3 H => ?_)) (fun H => ?_)
  · show xEx G mX2_leave 20 [(0, .ref (q_b G + 123))] [.int y3] (hS G s) z 0 0 (yQv G z Q)
    refine s_istore_n (nx := 21) (l' := [(1, .int y3), (0, .ref (q_b G + 123))]) hO rfl (by decide) rfl rfl ?_
    refine s_iload_n (nx := 22) hO rfl rfl rfl ?_
    refine goK (H (fun (y4 : Int32) (s5 : yS) => xEx G mX2_leave 33 [(0, .ref (q_b G + 123)), (1, .int y3)] [.int y4] (hS G s5) z 0 0 (yQv G z Q)) (fun y4 s5 H => ?_)) (fun H => ?_)
    · show xEx G mX2_leave 33 [(0, .ref (q_b G + 123)), (1, .int y3)] [.int y4] (hS G s5) z 0 0 (yQv G z Q)
      refine s_istore_n (nx := 34) (l' := [(2, .int y4), (0, .ref (q_b G + 123)), (1, .int y3)]) hO rfl (by decide) rfl rfl ?_
      refine s_aload_n (nx := 35) hO rfl rfl rfl ?_
      refine s_getf (v := .int (sI s5 123 14)) (nx := 38) hO rfl rfl (hs_o2 kc123) rfl rfl ?_
      refine s_if_ne (nx := 41) hO rfl rfl (fun c38 => ?_) (fun c38 => ?_)
      · replace H := H.1 c38
        refine s_aload_n (nx := 49) hO rfl rfl rfl ?_
        refine s_callV [] (ci := 2) (F := TX2) (N := 18) (nx := 52) hO rfl kX2_leave_158 (by rw [hcl]; rfl) (hs_o2 kc123) (w_X2_backToCaller hG H) rfl rfl (Nat.le_of_ble_eq_true rfl) (Nat.zero_le _) (Nat.zero_le _) rfl (k_Qv (fun s6 H => ?_))
        refine s_iload_n (nx := 53) hO rfl rfl rfl ?_
        refine s_if_eq (nx := 56) hO rfl rfl (fun c53 => ?_) (fun c53 => ?_)
        · replace H := H.1 c53
          exact s_vret hO rfl rfl ⟨rfl, _, rfl, rfl, H⟩
        · replace H := H.2 c53
          refine s_aload_n (nx := 57) hO rfl rfl rfl ?_
          refine s_iload_n (nx := 58) hO rfl rfl rfl ?_
          refine s_callV [.int y4] (ci := 2) (F := TX2) (N := 18) (nx := 61) hO rfl kX2_leave_123 (by rw [hcl]; rfl) (hs_o2 kc123) (w_X2_push hG H) rfl rfl (Nat.le_of_ble_eq_true rfl) (Nat.zero_le _) (Nat.zero_le _) rfl (k_Qv (fun s7 H => ?_))
          exact s_vret hO rfl rfl ⟨rfl, _, rfl, rfl, H⟩
      · replace H := H.2 c38
        refine s_aload_n (nx := 42) hO rfl rfl rfl ?_
        refine s_iconst (x := 0) (nx := 43) hO rfl (by decide) rfl ?_
        refine s_iload_n (nx := 44) hO rfl rfl rfl ?_
        refine s_callV [.int 0, .int y4] (ci := 2) (F := TX2) (N := 18) (nx := 47) hO rfl kX2_leave_87 (by rw [hcl]; rfl) (hs_o2 kc123) (w_X2_end hG H) rfl rfl (Nat.le_of_ble_eq_true rfl) (Nat.zero_le _) (Nat.zero_le _) rfl (k_Qv (fun s8 H => ?_))
        exact s_vret hO rfl rfl ⟨rfl, _, rfl, rfl, H⟩
    refine s_if_eq (nx := 25) hO rfl rfl (fun c22 => ?_) (fun c22 => ?_)
    · replace H := H.1 c22
      refine s_iconst (x := 0) (nx := 33) hO rfl (by decide) rfl ?_
      exact xEx.loc (x_sub1 (List.Mem.tail _ (List.Mem.head _)) (x_sub1 (List.Mem.head _) x_sub0)) H
    · replace H := H.2 c22
      refine s_aload_n (nx := 26) hO rfl rfl rfl ?_
      refine s_callV [] (ci := 2) (F := TX2) (N := 18) (nx := 29) hO rfl kX2_leave_126 (by rw [hcl]; rfl) (hs_o2 kc123) (w_X2_pop hG H) rfl rfl (Nat.le_of_ble_eq_true rfl) (Nat.zero_le _) (Nat.zero_le _) rfl (k_Qi (fun r9 s10 H => ?_))
      refine s_goto hO rfl ?_
      exact xEx.loc (x_sub1 (List.Mem.tail _ (List.Mem.head _)) (x_sub1 (List.Mem.head _) x_sub0)) H
  refine s_if_eq (nx := 15) hO rfl rfl (fun c12 => ?_) (fun c12 => ?_)
  · replace H := H.1 c12
    refine s_iconst (x := 0) (nx := 20) hO rfl (by decide) rfl ?_
    exact xEx.loc (x_sub1 (List.Mem.head _) x_sub0) H
  · replace H := H.2 c12
    refine s_iconst (x := 1) (nx := 16) hO rfl (by decide) rfl ?_
    refine s_goto hO rfl ?_
    exact xEx.loc (x_sub1 (List.Mem.head _) x_sub0) H
def W_X3_empty (s : yS) (g : Nat) (Q : yS → Prop) : Prop :=
 ∀ s1 : yS, s1 = wI s g 0 0 → 
 ∀ s2 : yS, s2 = wI s1 g 1 0 → 
 ∀ s3 : yS, s3 = wI s2 g 4 0 → 
 ∀ s4 : yS, s4 = wI s3 g 5 0 → 
 Q s4
set_option maxRecDepth 100000 in
set_option maxHeartbeats 40000000 in
theorem w_X3_empty {G : xG} (hG : yG G) {z : Nat} {s : yS} {g : Nat} {Q : yS → Prop} (hg : kd g = some (7, 0)) (H : W_X3_empty s g Q) : xC G mX3_empty [.ref (q_b G + g)] (hS G s) z 0 0 (yQv G z Q) := by
  have hW := hG.1
  have hcl := hG.2.1
  have hty := hG.2.2.1
  have hO : xO G mX3_empty tbX3_empty ptX3_empty := ⟨tkX3_empty, pkX3_empty hcl⟩
  unfold W_X3_empty at H
  refine xC.of hW (by decide) rfl (Nat.le_of_ble_eq_true rfl) ?_
  refine s_aload_n (nx := 1) hO rfl rfl rfl ?_
  refine s_iconst (x := 0) (nx := 2) hO rfl (by decide) rfl ?_
  refine goV (wI s g 0 0) (fun s1 es1 => ?_)
  replace H := H s1 es1
  refine s_putf (nx := 5) hO rfl rfl (hs_o3 hg) (Nat.le_of_ble_eq_true rfl) (by rw [hty]; rfl) (by rw [hty]; rfl) pX3_0 rfl ?_
  refine xEx.at (up_oI3 hg es1) ?_
  refine s_aload_n (nx := 6) hO rfl rfl rfl ?_
  refine s_iconst (x := 0) (nx := 7) hO rfl (by decide) rfl ?_
  refine goV (wI s1 g 1 0) (fun s2 es2 => ?_)
  replace H := H s2 es2
  refine s_putf (nx := 10) hO rfl rfl (hs_o3 hg) (Nat.le_of_ble_eq_true rfl) (by rw [hty]; rfl) (by rw [hty]; rfl) pX3_1 rfl ?_
  refine xEx.at (up_oI3 hg es2) ?_
  refine s_aload_n (nx := 11) hO rfl rfl rfl ?_
  refine s_iconst (x := 0) (nx := 12) hO rfl (by decide) rfl ?_
  refine goV (wI s2 g 4 0) (fun s3 es3 => ?_)
  replace H := H s3 es3
  refine s_putf (nx := 15) hO rfl rfl (hs_o3 hg) (Nat.le_of_ble_eq_true rfl) (by rw [hty]; rfl) (by rw [hty]; rfl) pX3_4 rfl ?_
  refine xEx.at (up_oI3 hg es3) ?_
  refine s_aload_n (nx := 16) hO rfl rfl rfl ?_
  refine s_iconst (x := 0) (nx := 17) hO rfl (by decide) rfl ?_
  refine goV (wI s3 g 5 0) (fun s4 es4 => ?_)
  replace H := H s4 es4
  refine s_putf (nx := 20) hO rfl rfl (hs_o3 hg) (Nat.le_of_ble_eq_true rfl) (by rw [hty]; rfl) (by rw [hty]; rfl) pX3_5 rfl ?_
  refine xEx.at (up_oI3 hg es4) ?_
  exact s_vret hO rfl rfl ⟨rfl, _, rfl, rfl, H⟩
def W_X3_close (s : yS) (g : Nat) (Q : yS → Prop) : Prop :=
 vp_in ((sI s g 0) + (sI s g 1)) 31 ∧ ∀ s2 : yS, s2 = wI s (g + 2) (ix ((sI s g 0) + (sI s g 1))) (sI s g 4) → 
 ∀ s3 : yS, s3 = wI s2 g 6 0 → 
 ∀ P25 : Int32 → yS → Prop, (∀ (x4 : Int32) (s5 : yS), (W_X3_firstWay s5 g 
  (fun r6 => ((r6 ≤ x4 → Q s5)
  ∧ (¬ r6 ≤ x4 → vp_in x4 216 ∧ 
   ((¬ (sI s5 (g + 3) (ix x4)) = (nI 16) → vp_in x4 216 ∧ 
    ∀ s9 : yS, s9 = wI s5 g 6 ((sI s5 g 6) ||| (1 <<< ((sI s5 (g + 3) (ix x4)) &&& 31))) → 
    ∀ x10 : Int32, x10 = (x4 + 1) → 
    P25 x10 s9)
   ∧ ((sI s5 (g + 3) (ix x4)) = (nI 16) → ∀ s11 : yS, s11 = wI s5 g 6 ((sI s5 g 6) ||| ((65535))) → 
    ∀ x12 : Int32, x12 = (x4 + 1) → 
    P25 x12 s11)))))) → P25 x4 s5) → 
 P25 0 s3
set_option maxRecDepth 100000 in
set_option maxHeartbeats 40000000 in
theorem w_X3_close {G : xG} (hG : yG G) {z : Nat} {s : yS} {g : Nat} {Q : yS → Prop} (hg : kd g = some (7, 0)) (H : W_X3_close s g Q) : xC G mX3_close [.ref (q_b G + g)] (hS G s) z 0 0 (yQv G z Q) := by
  have hW := hG.1
  have hcl := hG.2.1
  have hty := hG.2.2.1
  have hO : xO G mX3_close tbX3_close ptX3_close := ⟨tkX3_close, pkX3_close hcl⟩
  unfold W_X3_close at H
  refine xC.of hW (by decide) rfl (Nat.le_of_ble_eq_true rfl) ?_
  refine s_aload_n (nx := 1) hO rfl rfl rfl ?_
  refine s_getf (v := .ref (q_b G + (g + 2))) (nx := 4) hO rfl rfl (hs_o3 hg) rfl rfl ?_
  refine s_aload_n (nx := 5) hO rfl rfl rfl ?_
  refine s_getf (v := .int (sI s g 0)) (nx := 8) hO rfl rfl (hs_o3 hg) rfl rfl ?_
  refine s_aload_n (nx := 9) hO rfl rfl rfl ?_
  refine s_getf (v := .int (sI s g 1)) (nx := 12) hO rfl rfl (hs_o3 hg) rfl rfl ?_
  refine s_iadd (nx := 13) hO rfl rfl ?_
  refine s_aload_n (nx := 14) hO rfl rfl rfl ?_
  refine s_getf (v := .int (sI s g 4)) (nx := 17) hO rfl rfl (hs_o3 hg) rfl rfl ?_
  obtain ⟨b1, H⟩ := H
  refine goV (wI s (g + 2) (ix ((sI s g 0) + (sI s g 1))) (sI s g 4)) (fun s2 es2 => ?_)
  replace H := H s2 es2
  refine s_iast (nx := 18) hO rfl (hs_I (kf3_8 hg)) b1 rfl ?_
  refine xEx.at (up_I (kf3_8 hg) es2) ?_
  refine s_aload_n (nx := 19) hO rfl rfl rfl ?_
  refine s_iconst (x := 0) (nx := 20) hO rfl (by decide) rfl ?_
  refine goV (wI s2 g 6 0) (fun s3 es3 => ?_)
  replace H := H s3 es3
  refine s_putf (nx := 23) hO rfl rfl (hs_o3 hg) (Nat.le_of_ble_eq_true rfl) (by rw [hty]; rfl) (by rw [hty]; rfl) pX3_6 rfl ?_
  refine xEx.at (up_oI3 hg es3) ?_
  refine s_iconst (x := 0) (nx := 24) hO rfl (by decide) rfl ?_
  refine goK (H (fun (x4 : Int32) (s5 : yS) => xEx G mX3_close 25 [(0, .ref (q_b G + g)), (1, .int x4)] [] (hS G s5) z 0 0 (yQv G z Q)) (fun x4 s5 H => ?_)) (fun H => ?_)
  · show xEx G mX3_close 25 [(0, .ref (q_b G + g)), (1, .int x4)] [] (hS G s5) z 0 0 (yQv G z Q)
    refine s_iload_n (nx := 26) hO rfl rfl rfl ?_
    refine s_aload_n (nx := 27) hO rfl rfl rfl ?_
    refine s_callV [] (ci := 3) (F := TX3) (N := 20) (nx := 30) hO rfl kX3_close_79 (by rw [hcl]; rfl) (hs_o3 hg) (w_X3_firstWay hG hg H) rfl rfl (Nat.le_of_ble_eq_true rfl) (Nat.zero_le _) (Nat.zero_le _) rfl (k_Pi (fun r6 H => ?_))
    refine s_icmp_ge (nx := 33) hO rfl rfl (fun c30 => ?_) (fun c30 => ?_)
    · replace H := H.1 c30
      exact s_vret hO rfl rfl ⟨rfl, _, rfl, rfl, H⟩
    · replace H := H.2 c30
      refine s_aload_n (nx := 34) hO rfl rfl rfl ?_
      refine s_dup (nx := 35) hO rfl rfl rfl ?_
      refine s_getf (v := .int (sI s5 g 6)) (nx := 38) hO rfl rfl (hs_o3 hg) rfl rfl ?_
      refine s_aload_n (nx := 39) hO rfl rfl rfl ?_
      refine s_getf (v := .ref (q_b G + (g + 3))) (nx := 42) hO rfl rfl (hs_o3 hg) rfl rfl ?_
      refine s_iload_n (nx := 43) hO rfl rfl rfl ?_
      obtain ⟨b7, H⟩ := H
      refine s_iald (nx := 44) hO rfl (hs_I (kf3_9 hg)) b7 rfl ?_
      refine s_bipush (x := (nI 16)) (nx := 46) hO rfl (by decide) rfl ?_
      refine s_icmp_ne (nx := 49) hO rfl rfl (fun c46 => ?_) (fun c46 => ?_)
      · replace H := H.1 c46
        refine s_iconst (x := 1) (nx := 55) hO rfl (by decide) rfl ?_
        refine s_aload_n (nx := 56) hO rfl rfl rfl ?_
        refine s_getf (v := .ref (q_b G + (g + 3))) (nx := 59) hO rfl rfl (hs_o3 hg) rfl rfl ?_
        refine s_iload_n (nx := 60) hO rfl rfl rfl ?_
        obtain ⟨b8, H⟩ := H
        refine s_iald (nx := 61) hO rfl (hs_I (kf3_9 hg)) b8 rfl ?_
        refine s_ishl (nx := 62) hO rfl rfl ?_
        refine s_ior (nx := 63) hO rfl rfl ?_
        refine goV (wI s5 g 6 ((sI s5 g 6) ||| (1 <<< ((sI s5 (g + 3) (ix x4)) &&& 31)))) (fun s9 es9 => ?_)
        replace H := H s9 es9
        refine s_putf (nx := 66) hO rfl rfl (hs_o3 hg) (Nat.le_of_ble_eq_true rfl) (by rw [hty]; rfl) (by rw [hty]; rfl) pX3_6 rfl ?_
        refine xEx.at (up_oI3 hg es9) ?_
        refine goV ((x4 + 1)) (fun x10 ex10 => ?_)
        replace H := H x10 ex10
        refine e_iinc (nx := 69) (l' := [(1, .int x10), (0, .ref (q_b G + g))]) ex10 hO rfl (by decide) rfl rfl rfl rfl ?_
        refine s_goto hO rfl ?_
        exact xEx.loc (x_sub1 (List.Mem.tail _ (List.Mem.head _)) (x_sub1 (List.Mem.head _) x_sub0)) H
      · replace H := H.2 c46
        refine s_ldc (x := ((65535))) (nx := 51) hO rfl rfl rfl ?_
        refine s_goto hO rfl ?_
        refine s_ior (nx := 63) hO rfl rfl ?_
        refine goV (wI s5 g 6 ((sI s5 g 6) ||| ((65535)))) (fun s11 es11 => ?_)
        replace H := H s11 es11
        refine s_putf (nx := 66) hO rfl rfl (hs_o3 hg) (Nat.le_of_ble_eq_true rfl) (by rw [hty]; rfl) (by rw [hty]; rfl) pX3_6 rfl ?_
        refine xEx.at (up_oI3 hg es11) ?_
        refine goV ((x4 + 1)) (fun x12 ex12 => ?_)
        replace H := H x12 ex12
        refine e_iinc (nx := 69) (l' := [(1, .int x12), (0, .ref (q_b G + g))]) ex12 hO rfl (by decide) rfl rfl rfl rfl ?_
        refine s_goto hO rfl ?_
        exact xEx.loc (x_sub1 (List.Mem.tail _ (List.Mem.head _)) (x_sub1 (List.Mem.head _) x_sub0)) H
  refine s_istore_n (nx := 25) (l' := [(1, .int 0), (0, .ref (q_b G + g))]) hO rfl (by decide) rfl rfl ?_
  exact xEx.loc (x_sub1 (List.Mem.tail _ (List.Mem.head _)) (x_sub1 (List.Mem.head _) x_sub0)) H
def W_X8_withLetter (s : yS) (v1 : Int64) (v2 : Int32) (Q : Int64 → Prop) : Prop :=
 Q ((v1 <<< (((nI 5)).toInt64 &&& 63)) ||| (((v2 - (nI 97)) + 1)).toInt64)
set_option maxRecDepth 100000 in
set_option maxHeartbeats 40000000 in
theorem w_X8_withLetter {G : xG} (hG : yG G) {z : Nat} {s : yS} {v1 : Int64} {v2 : Int32} {Q : Int64 → Prop} (H : W_X8_withLetter s v1 v2 Q) : xC G mX8_withLetter [.long v1, .int v2] (hS G s) z 0 0 (yPl G z s Q) := by
  have hW := hG.1
  have hcl := hG.2.1
  have hty := hG.2.2.1
  have hO : xO G mX8_withLetter tbX8_withLetter ptX8_withLetter := ⟨tkX8_withLetter, pkX8_withLetter hcl⟩
  unfold W_X8_withLetter at H
  refine xC.of hW (by decide) rfl (Nat.le_of_ble_eq_true rfl) ?_
  refine s_lload_n (nx := 1) hO rfl rfl rfl ?_
  refine s_iconst (x := (nI 5)) (nx := 2) hO rfl (by decide) rfl ?_
  refine s_lshl (nx := 3) hO rfl rfl ?_
  refine s_iload_n (nx := 4) hO rfl rfl rfl ?_
  refine s_bipush (x := (nI 97)) (nx := 6) hO rfl (by decide) rfl ?_
  refine s_isub (nx := 7) hO rfl rfl ?_
  refine s_iconst (x := 1) (nx := 8) hO rfl (by decide) rfl ?_
  refine s_iadd (nx := 9) hO rfl rfl ?_
  refine s_i2l (nx := 10) hO rfl rfl ?_
  refine s_lor (nx := 11) hO rfl rfl ?_
  exact s_lret hO rfl rfl ⟨rfl, _, rfl, rfl, H⟩
def W_X8_add (s : yS) (v1 : Int32) (v2 : Int32) (v3 : Int64) (Q : yS → Prop) : Prop :=
 vp_in (sI s 92 3) 8193 ∧ ∀ s2 : yS, s2 = wI s 93 (ix (sI s 92 3)) v1 → 
 vp_in (sI s2 92 3) 8193 ∧ ∀ s4 : yS, s4 = wI s2 94 (ix (sI s2 92 3)) v2 → 
 vp_in (sI s4 92 3) 8193 ∧ ∀ s6 : yS, s6 = wJ s4 95 (ix (sI s4 92 3)) v3 → 
 ∀ s7 : yS, s7 = wI s6 92 3 ((sI s6 92 3) + 1) → 
 Q s7
set_option maxRecDepth 100000 in
set_option maxHeartbeats 40000000 in
theorem w_X8_add {G : xG} (hG : yG G) {z : Nat} {s : yS} {v1 : Int32} {v2 : Int32} {v3 : Int64} {Q : yS → Prop} (H : W_X8_add s v1 v2 v3 Q) : xC G mX8_add [.ref (q_b G + 92), .int v1, .int v2, .long v3] (hS G s) z 0 0 (yQv G z Q) := by
  have hW := hG.1
  have hcl := hG.2.1
  have hty := hG.2.2.1
  have hO : xO G mX8_add tbX8_add ptX8_add := ⟨tkX8_add, pkX8_add hcl⟩
  unfold W_X8_add at H
  refine xC.of hW (by decide) rfl (Nat.le_of_ble_eq_true rfl) ?_
  refine s_aload_n (nx := 1) hO rfl rfl rfl ?_
  refine s_getf (v := .ref (q_b G + 93)) (nx := 4) hO rfl rfl (hs_o8 kc92) rfl rfl ?_
  refine s_aload_n (nx := 5) hO rfl rfl rfl ?_
  refine s_getf (v := .int (sI s 92 3)) (nx := 8) hO rfl rfl (hs_o8 kc92) rfl rfl ?_
  refine s_iload_n (nx := 9) hO rfl rfl rfl ?_
  obtain ⟨b1, H⟩ := H
  refine goV (wI s 93 (ix (sI s 92 3)) v1) (fun s2 es2 => ?_)
  replace H := H s2 es2
  refine s_iast (nx := 10) hO rfl (hs_I kc93) b1 rfl ?_
  refine xEx.at (up_I kc93 es2) ?_
  refine s_aload_n (nx := 11) hO rfl rfl rfl ?_
  refine s_getf (v := .ref (q_b G + 94)) (nx := 14) hO rfl rfl (hs_o8 kc92) rfl rfl ?_
  refine s_aload_n (nx := 15) hO rfl rfl rfl ?_
  refine s_getf (v := .int (sI s2 92 3)) (nx := 18) hO rfl rfl (hs_o8 kc92) rfl rfl ?_
  refine s_iload_n (nx := 19) hO rfl rfl rfl ?_
  obtain ⟨b3, H⟩ := H
  refine goV (wI s2 94 (ix (sI s2 92 3)) v2) (fun s4 es4 => ?_)
  replace H := H s4 es4
  refine s_iast (nx := 20) hO rfl (hs_I kc94) b3 rfl ?_
  refine xEx.at (up_I kc94 es4) ?_
  refine s_aload_n (nx := 21) hO rfl rfl rfl ?_
  refine s_getf (v := .ref (q_b G + 95)) (nx := 24) hO rfl rfl (hs_o8 kc92) rfl rfl ?_
  refine s_aload_n (nx := 25) hO rfl rfl rfl ?_
  refine s_getf (v := .int (sI s4 92 3)) (nx := 28) hO rfl rfl (hs_o8 kc92) rfl rfl ?_
  refine s_lload_n (nx := 29) hO rfl rfl rfl ?_
  obtain ⟨b5, H⟩ := H
  refine goV (wJ s4 95 (ix (sI s4 92 3)) v3) (fun s6 es6 => ?_)
  replace H := H s6 es6
  refine s_last (nx := 30) hO rfl (hs_J kc95) b5 rfl ?_
  refine xEx.at (up_J kc95 es6) ?_
  refine s_aload_n (nx := 31) hO rfl rfl rfl ?_
  refine s_dup (nx := 32) hO rfl rfl rfl ?_
  refine s_getf (v := .int (sI s6 92 3)) (nx := 35) hO rfl rfl (hs_o8 kc92) rfl rfl ?_
  refine s_iconst (x := 1) (nx := 36) hO rfl (by decide) rfl ?_
  refine s_iadd (nx := 37) hO rfl rfl ?_
  refine goV (wI s6 92 3 ((sI s6 92 3) + 1)) (fun s7 es7 => ?_)
  replace H := H s7 es7
  refine s_putf (nx := 40) hO rfl rfl (hs_o8 kc92) (Nat.le_of_ble_eq_true rfl) (by rw [hty]; rfl) (by rw [hty]; rfl) pX8_3 rfl ?_
  refine xEx.at (up_oI8 kc92 es7) ?_
  exact s_vret hO rfl rfl ⟨rfl, _, rfl, rfl, H⟩
def W_X8_isLetter (s : yS) (v1 : Int32) (Q : Int32 → Prop) : Prop :=
 ((v1 < (nI 97) → Q 0)
 ∧ (¬ v1 < (nI 97) → (((nI 122) < v1 → Q 0)
  ∧ (¬ (nI 122) < v1 → Q 1))))
set_option maxRecDepth 100000 in
set_option maxHeartbeats 40000000 in
theorem w_X8_isLetter {G : xG} (hG : yG G) {z : Nat} {s : yS} {v1 : Int32} {Q : Int32 → Prop} (H : W_X8_isLetter s v1 Q) : xC G mX8_isLetter [.int v1] (hS G s) z 0 0 (yPi G z s Q) := by
  have hW := hG.1
  have hcl := hG.2.1
  have hty := hG.2.2.1
  have hO : xO G mX8_isLetter tbX8_isLetter ptX8_isLetter := ⟨tkX8_isLetter, pkX8_isLetter hcl⟩
  unfold W_X8_isLetter at H
  refine xC.of hW (by decide) rfl (Nat.le_of_ble_eq_true rfl) ?_
  refine s_iload_n (nx := 1) hO rfl rfl rfl ?_
  refine s_bipush (x := (nI 97)) (nx := 3) hO rfl (by decide) rfl ?_
  refine s_icmp_lt (nx := 6) hO rfl rfl (fun c3 => ?_) (fun c3 => ?_)
  · replace H := H.1 c3
    refine s_iconst (x := 0) (nx := 17) hO rfl (by decide) rfl ?_
    exact s_iret hO rfl rfl rfl ⟨rfl, _, rfl, rfl, H⟩
  · replace H := H.2 c3
    refine s_iload_n (nx := 7) hO rfl rfl rfl ?_
    refine s_bipush (x := (nI 122)) (nx := 9) hO rfl (by decide) rfl ?_
    refine s_icmp_gt (nx := 12) hO rfl rfl (fun c9 => ?_) (fun c9 => ?_)
    · replace H := H.1 c9
      refine s_iconst (x := 0) (nx := 17) hO rfl (by decide) rfl ?_
      exact s_iret hO rfl rfl rfl ⟨rfl, _, rfl, rfl, H⟩
    · replace H := H.2 c9
      refine s_iconst (x := 1) (nx := 13) hO rfl (by decide) rfl ?_
      refine s_goto hO rfl ?_
      exact s_iret hO rfl rfl rfl ⟨rfl, _, rfl, rfl, H⟩
def W_X8_isDigit (s : yS) (v1 : Int32) (Q : Int32 → Prop) : Prop :=
 ((v1 < (nI 48) → Q 0)
 ∧ (¬ v1 < (nI 48) → (((nI 57) < v1 → Q 0)
  ∧ (¬ (nI 57) < v1 → Q 1))))
set_option maxRecDepth 100000 in
set_option maxHeartbeats 40000000 in
theorem w_X8_isDigit {G : xG} (hG : yG G) {z : Nat} {s : yS} {v1 : Int32} {Q : Int32 → Prop} (H : W_X8_isDigit s v1 Q) : xC G mX8_isDigit [.int v1] (hS G s) z 0 0 (yPi G z s Q) := by
  have hW := hG.1
  have hcl := hG.2.1
  have hty := hG.2.2.1
  have hO : xO G mX8_isDigit tbX8_isDigit ptX8_isDigit := ⟨tkX8_isDigit, pkX8_isDigit hcl⟩
  unfold W_X8_isDigit at H
  refine xC.of hW (by decide) rfl (Nat.le_of_ble_eq_true rfl) ?_
  refine s_iload_n (nx := 1) hO rfl rfl rfl ?_
  refine s_bipush (x := (nI 48)) (nx := 3) hO rfl (by decide) rfl ?_
  refine s_icmp_lt (nx := 6) hO rfl rfl (fun c3 => ?_) (fun c3 => ?_)
  · replace H := H.1 c3
    refine s_iconst (x := 0) (nx := 17) hO rfl (by decide) rfl ?_
    exact s_iret hO rfl rfl rfl ⟨rfl, _, rfl, rfl, H⟩
  · replace H := H.2 c3
    refine s_iload_n (nx := 7) hO rfl rfl rfl ?_
    refine s_bipush (x := (nI 57)) (nx := 9) hO rfl (by decide) rfl ?_
    refine s_icmp_gt (nx := 12) hO rfl rfl (fun c9 => ?_) (fun c9 => ?_)
    · replace H := H.1 c9
      refine s_iconst (x := 0) (nx := 17) hO rfl (by decide) rfl ?_
      exact s_iret hO rfl rfl rfl ⟨rfl, _, rfl, rfl, H⟩
    · replace H := H.2 c9
      refine s_iconst (x := 1) (nx := 13) hO rfl (by decide) rfl ?_
      refine s_goto hO rfl ?_
      exact s_iret hO rfl rfl rfl ⟨rfl, _, rfl, rfl, H⟩
def W_X8_runEnd (s : yS) (a1 n1 : Nat) (v2 : Int32) (v3 : Int32) (Q : Int32 → Prop) : Prop :=
 ∀ P2 : Int32 → Prop, (∀ (x1 : Int32), (((v3 ≤ x1 → Q x1)
  ∧ (¬ v3 ≤ x1 → vp_in x1 n1 ∧ 
   W_X8_isLetter s (sI s a1 (ix x1)) 
   (fun r3 => ∀ P33 : Prop, ((∀ x4 : Int32, x4 = (x1 + 1) → 
    P2 x4) → P33) → 
   ((¬ r3 = 0 → P33)
   ∧ (r3 = 0 → vp_in x1 n1 ∧ 
    W_X8_isDigit s (sI s a1 (ix x1)) 
    (fun r6 => ((¬ r6 = 0 → P33)
    ∧ (r6 = 0 → vp_in x1 n1 ∧ 
     ((¬ (sI s a1 (ix x1)) = (nI 45) → Q x1)
     ∧ ((sI s a1 (ix x1)) = (nI 45) → P33))))))))))) → P2 x1) → 
 P2 v2
set_option maxRecDepth 100000 in
set_option maxHeartbeats 40000000 in
theorem w_X8_runEnd {G : xG} (hG : yG G) {z : Nat} {s : yS} {a1 n1 : Nat} {v2 : Int32} {v3 : Int32} {Q : Int32 → Prop} (ha1 : kd a1 = some (1, n1)) (H : W_X8_runEnd s a1 n1 v2 v3 Q) : xC G mX8_runEnd [.ref (q_b G + a1), .int v2, .int v3] (hS G s) z 0 0 (yPi G z s Q) := by
  have hW := hG.1
  have hcl := hG.2.1
  have hty := hG.2.2.1
  have hO : xO G mX8_runEnd tbX8_runEnd ptX8_runEnd := ⟨tkX8_runEnd, pkX8_runEnd hcl⟩
  unfold W_X8_runEnd at H
  refine xC.of hW (by decide) rfl (Nat.le_of_ble_eq_true rfl) ?_
  refine s_iload_n (nx := 1) hO rfl rfl rfl ?_
  refine goK (H (fun (x1 : Int32) => xEx G mX8_runEnd 2 [(0, .ref (q_b G + a1)), (2, .int v3), (3, .int x1)] [] (hS G s) z 0 0 (yPi G z s Q)) (fun x1 H => ?_)) (fun H => ?_)
  · show xEx G mX8_runEnd 2 [(0, .ref (q_b G + a1)), (2, .int v3), (3, .int x1)] [] (hS G s) z 0 0 (yPi G z s Q)
    refine s_iload_n (nx := 3) hO rfl rfl rfl ?_
    refine s_iload_n (nx := 4) hO rfl rfl rfl ?_
    refine s_icmp_ge (nx := 7) hO rfl rfl (fun c4 => ?_) (fun c4 => ?_)
    · replace H := H.1 c4
      refine s_iload_n (nx := 40) hO rfl rfl rfl ?_
      exact s_iret hO rfl rfl rfl ⟨rfl, _, rfl, rfl, H⟩
    · replace H := H.2 c4
      refine s_aload_n (nx := 8) hO rfl rfl rfl ?_
      refine s_iload_n (nx := 9) hO rfl rfl rfl ?_
      obtain ⟨b2, H⟩ := H
      refine s_bald (nx := 10) hO rfl (hs_B ha1) b2 rfl ?_
      refine s_callS [.int (sI s a1 (ix x1))] (nx := 13) hO rfl kX8_runEnd_63 (w_X8_isLetter hG H) rfl rfl (Nat.le_of_ble_eq_true rfl) (Nat.zero_le _) (Nat.zero_le _) rfl (k_Pi (fun r3 H => ?_))
      refine goK (H (xEx G mX8_runEnd 33 [(0, .ref (q_b G + a1)), (2, .int v3), (3, .int x1)] [] (hS G s) z 0 0 (yPi G z s Q)) (fun H => ?_)) (fun H => ?_)
      · show xEx G mX8_runEnd 33 [(0, .ref (q_b G + a1)), (2, .int v3), (3, .int x1)] [] (hS G s) z 0 0 (yPi G z s Q)
        refine goV ((x1 + 1)) (fun x4 ex4 => ?_)
        replace H := H x4 ex4
        refine e_iinc (nx := 36) (l' := [(3, .int x4), (0, .ref (q_b G + a1)), (2, .int v3)]) ex4 hO rfl (by decide) rfl rfl rfl rfl ?_
        refine s_goto hO rfl ?_
        exact xEx.loc (x_sub1 (List.Mem.tail _ (List.Mem.head _)) (x_sub1 (List.Mem.tail _ (List.Mem.tail _ (List.Mem.head _))) (x_sub1 (List.Mem.head _) x_sub0))) H
      refine s_if_ne (nx := 16) hO rfl rfl (fun c13 => ?_) (fun c13 => ?_)
      · replace H := H.1 c13
        exact xEx.loc (x_sub1 (List.Mem.head _) (x_sub1 (List.Mem.tail _ (List.Mem.head _)) (x_sub1 (List.Mem.tail _ (List.Mem.tail _ (List.Mem.head _))) x_sub0))) H
      · replace H := H.2 c13
        refine s_aload_n (nx := 17) hO rfl rfl rfl ?_
        refine s_iload_n (nx := 18) hO rfl rfl rfl ?_
        obtain ⟨b5, H⟩ := H
        refine s_bald (nx := 19) hO rfl (hs_B ha1) b5 rfl ?_
        refine s_callS [.int (sI s a1 (ix x1))] (nx := 22) hO rfl kX8_runEnd_67 (w_X8_isDigit hG H) rfl rfl (Nat.le_of_ble_eq_true rfl) (Nat.zero_le _) (Nat.zero_le _) rfl (k_Pi (fun r6 H => ?_))
        refine s_if_ne (nx := 25) hO rfl rfl (fun c22 => ?_) (fun c22 => ?_)
        · replace H := H.1 c22
          exact xEx.loc (x_sub1 (List.Mem.head _) (x_sub1 (List.Mem.tail _ (List.Mem.head _)) (x_sub1 (List.Mem.tail _ (List.Mem.tail _ (List.Mem.head _))) x_sub0))) H
        · replace H := H.2 c22
          refine s_aload_n (nx := 26) hO rfl rfl rfl ?_
          refine s_iload_n (nx := 27) hO rfl rfl rfl ?_
          obtain ⟨b7, H⟩ := H
          refine s_bald (nx := 28) hO rfl (hs_B ha1) b7 rfl ?_
          refine s_bipush (x := (nI 45)) (nx := 30) hO rfl (by decide) rfl ?_
          refine s_icmp_ne (nx := 33) hO rfl rfl (fun c30 => ?_) (fun c30 => ?_)
          · replace H := H.1 c30
            refine s_iload_n (nx := 40) hO rfl rfl rfl ?_
            exact s_iret hO rfl rfl rfl ⟨rfl, _, rfl, rfl, H⟩
          · replace H := H.2 c30
            exact xEx.loc (x_sub1 (List.Mem.head _) (x_sub1 (List.Mem.tail _ (List.Mem.head _)) (x_sub1 (List.Mem.tail _ (List.Mem.tail _ (List.Mem.head _))) x_sub0))) H
  refine s_istore_n (nx := 2) (l' := [(3, .int v2), (0, .ref (q_b G + a1)), (1, .int v2), (2, .int v3)]) hO rfl (by decide) rfl rfl ?_
  exact xEx.loc (x_sub1 (List.Mem.tail _ (List.Mem.head _)) (x_sub1 (List.Mem.tail _ (List.Mem.tail _ (List.Mem.tail _ (List.Mem.head _)))) (x_sub1 (List.Mem.head _) x_sub0))) H
def W_X8_addName (s : yS) (a1 n1 : Nat) (v2 : Int32) (v3 : Int32) (Q : yS → Prop) : Prop :=
 ∀ P13 : Int32 → Prop, (∀ (y1 : Int32), (∀ P21 : Int32 → Int64 → Int32 → Prop, (∀ (x2 : Int32) (x3 : Int64) (x4 : Int32), (∀ P58 : Prop, ((((¬ x2 = 0 → ∀ P74 : Int32 → Prop, (∀ (x5 : Int32), ((((nI 12) ≤ x5 → W_X8_add s (nI 5) v2 x3 
       (fun s6 => Q s6))
      ∧ (¬ (nI 12) ≤ x5 → vp_in x5 12 ∧ 
       ((¬ (lg_cmp (sJ s 96 (ix x5)) x3) = 0 → ∀ x8 : Int32, x8 = (x5 + 1) → 
        P74 x8)
       ∧ ((lg_cmp (sJ s 96 (ix x5)) x3) = 0 → W_X8_add s (nI 6) v2 (x5).toInt64 
        (fun s9 => Q s9)))))) → P74 x5) → 
     P74 0)
    ∧ (x2 = 0 → W_X8_add s 1 v2 0 
     (fun s10 => Q s10)))) → P58) → 
   ((v3 ≤ x4 → P58)
   ∧ (¬ v3 ≤ x4 → ((x2 = 0 → P58)
    ∧ (¬ x2 = 0 → vp_in x4 n1 ∧ 
     W_X8_isLetter s (sI s a1 (ix x4)) 
     (fun r12 => vp_in x4 n1 ∧ 
     W_X8_withLetter s x3 (sI s a1 (ix x4)) 
     (fun r14 => ∀ x15 : Int32, x15 = (x4 + 1) → 
     P21 r12 r14 x15))))))) → P21 x2 x3 x4) → 
  P21 y1 0 v2) → P13 y1) → 
 (((nI 12) < (v3 - v2) → P13 0)
 ∧ (¬ (nI 12) < (v3 - v2) → P13 1))
set_option maxRecDepth 100000 in
set_option maxHeartbeats 40000000 in
theorem w_X8_addName {G : xG} (hG : yG G) {z : Nat} {s : yS} {a1 n1 : Nat} {v2 : Int32} {v3 : Int32} {Q : yS → Prop} (ha1 : kd a1 = some (1, n1)) (H : W_X8_addName s a1 n1 v2 v3 Q) : xC G mX8_addName [.ref (q_b G + 92), .ref (q_b G + a1), .int v2, .int v3] (hS G s) z 0 0 (yQv G z Q) := by
  have hW := hG.1
  have hcl := hG.2.1
  have hty := hG.2.2.1
  have hO : xO G mX8_addName tbX8_addName ptX8_addName := ⟨tkX8_addName, pkX8_addName hcl⟩
  unfold W_X8_addName at H
  refine xC.of hW (by decide) rfl (Nat.le_of_ble_eq_true rfl) ?_
  refine s_iload_n (nx := 1) hO rfl rfl rfl ?_
  refine s_iload_n (nx := 2) hO rfl rfl rfl ?_
  refine s_isub (nx := 3) hO rfl rfl ?_
  refine s_bipush (x := (nI 12)) (nx := 5) hO rfl (by decide) rfl ?_
  refine goK (H (fun (y1 : Int32) => xEx G mX8_addName 13 [(0, .ref (q_b G + 92)), (1, .ref (q_b G + a1)), (2, .int v2), (3, .int v3)] [.int y1] (hS G s) z 0 0 (yQv G z Q)) (fun y1 H => ?_)) (fun H => ?_)
  · show xEx G mX8_addName 13 [(0, .ref (q_b G + 92)), (1, .ref (q_b G + a1)), (2, .int v2), (3, .int v3)] [.int y1] (hS G s) z 0 0 (yQv G z Q)
    refine s_istore (nx := 15) (l' := [(4, .int y1), (0, .ref (q_b G + 92)), (1, .ref (q_b G + a1)), (2, .int v2), (3, .int v3)]) hO rfl (by decide) rfl rfl ?_
    refine s_lconst (x := 0) (nx := 16) hO rfl (by decide) rfl ?_
    refine s_lstore (nx := 18) (l' := [(5, .long 0), (4, .int y1), (0, .ref (q_b G + 92)), (1, .ref (q_b G + a1)), (2, .int v2), (3, .int v3)]) hO rfl (by decide) rfl rfl ?_
    refine s_iload_n (nx := 19) hO rfl rfl rfl ?_
    refine goK (H (fun (x2 : Int32) (x3 : Int64) (x4 : Int32) => xEx G mX8_addName 21 [(0, .ref (q_b G + 92)), (1, .ref (q_b G + a1)), (2, .int v2), (3, .int v3), (4, .int x2), (5, .long x3), (7, .int x4)] [] (hS G s) z 0 0 (yQv G z Q)) (fun x2 x3 x4 H => ?_)) (fun H => ?_)
    · show xEx G mX8_addName 21 [(0, .ref (q_b G + 92)), (1, .ref (q_b G + a1)), (2, .int v2), (3, .int v3), (4, .int x2), (5, .long x3), (7, .int x4)] [] (hS G s) z 0 0 (yQv G z Q)
      refine s_iload (nx := 23) hO rfl rfl rfl ?_
      refine s_iload_n (nx := 24) hO rfl rfl rfl ?_
      refine goK (H (xEx G mX8_addName 58 [(0, .ref (q_b G + 92)), (2, .int v2), (4, .int x2), (5, .long x3)] [] (hS G s) z 0 0 (yQv G z Q)) (fun H => ?_)) (fun H => ?_)
      · show xEx G mX8_addName 58 [(0, .ref (q_b G + 92)), (2, .int v2), (4, .int x2), (5, .long x3)] [] (hS G s) z 0 0 (yQv G z Q)
        refine s_iload (nx := 60) hO rfl rfl rfl ?_
        refine s_if_ne (nx := 63) hO rfl rfl (fun c60 => ?_) (fun c60 => ?_)
        · replace H := H.1 c60
          refine s_iconst (x := 0) (nx := 72) hO rfl (by decide) rfl ?_
          refine goK (H (fun (x5 : Int32) => xEx G mX8_addName 74 [(0, .ref (q_b G + 92)), (2, .int v2), (5, .long x3), (7, .int x5)] [] (hS G s) z 0 0 (yQv G z Q)) (fun x5 H => ?_)) (fun H => ?_)
          · show xEx G mX8_addName 74 [(0, .ref (q_b G + 92)), (2, .int v2), (5, .long x3), (7, .int x5)] [] (hS G s) z 0 0 (yQv G z Q)
            refine s_iload (nx := 76) hO rfl rfl rfl ?_
            refine s_bipush (x := (nI 12)) (nx := 78) hO rfl (by decide) rfl ?_
            refine s_icmp_ge (nx := 81) hO rfl rfl (fun c78 => ?_) (fun c78 => ?_)
            · replace H := H.1 c78
              refine s_aload_n (nx := 112) hO rfl rfl rfl ?_
              refine s_iconst (x := (nI 5)) (nx := 113) hO rfl (by decide) rfl ?_
              refine s_iload_n (nx := 114) hO rfl rfl rfl ?_
              refine s_lload (nx := 116) hO rfl rfl rfl ?_
              refine s_callV [.int (nI 5), .int v2, .long x3] (ci := 8) (F := TX8) (N := 5) (nx := 119) hO rfl kX8_addName_45 (by rw [hcl]; rfl) (hs_o8 kc92) (w_X8_add hG H) rfl rfl (Nat.le_of_ble_eq_true rfl) (Nat.zero_le _) (Nat.zero_le _) rfl (k_Qv (fun s6 H => ?_))
              exact s_vret hO rfl rfl ⟨rfl, _, rfl, rfl, H⟩
            · replace H := H.2 c78
              refine s_aload_n (nx := 82) hO rfl rfl rfl ?_
              refine s_getf (v := .ref (q_b G + 96)) (nx := 85) hO rfl rfl (hs_o8 kc92) rfl rfl ?_
              refine s_iload (nx := 87) hO rfl rfl rfl ?_
              obtain ⟨b7, H⟩ := H
              refine s_lald (nx := 88) hO rfl (hs_J kc96) b7 rfl ?_
              refine s_lload (nx := 90) hO rfl rfl rfl ?_
              refine s_lcmp (nx := 91) hO rfl rfl ?_
              refine s_if_ne (nx := 94) hO rfl rfl (fun c91 => ?_) (fun c91 => ?_)
              · replace H := H.1 c91
                refine goV ((x5 + 1)) (fun x8 ex8 => ?_)
                replace H := H x8 ex8
                refine e_iinc (nx := 108) (l' := [(7, .int x8), (0, .ref (q_b G + 92)), (2, .int v2), (5, .long x3)]) ex8 hO rfl (by decide) rfl rfl rfl rfl ?_
                refine s_goto hO rfl ?_
                exact xEx.loc (x_sub1 (List.Mem.tail _ (List.Mem.head _)) (x_sub1 (List.Mem.tail _ (List.Mem.tail _ (List.Mem.head _))) (x_sub1 (List.Mem.tail _ (List.Mem.tail _ (List.Mem.tail _ (List.Mem.head _)))) (x_sub1 (List.Mem.head _) x_sub0)))) H
              · replace H := H.2 c91
                refine s_aload_n (nx := 95) hO rfl rfl rfl ?_
                refine s_bipush (x := (nI 6)) (nx := 97) hO rfl (by decide) rfl ?_
                refine s_iload_n (nx := 98) hO rfl rfl rfl ?_
                refine s_iload (nx := 100) hO rfl rfl rfl ?_
                refine s_i2l (nx := 101) hO rfl rfl ?_
                refine s_callV [.int (nI 6), .int v2, .long (x5).toInt64] (ci := 8) (F := TX8) (N := 5) (nx := 104) hO rfl kX8_addName_45 (by rw [hcl]; rfl) (hs_o8 kc92) (w_X8_add hG H) rfl rfl (Nat.le_of_ble_eq_true rfl) (Nat.zero_le _) (Nat.zero_le _) rfl (k_Qv (fun s9 H => ?_))
                exact s_vret hO rfl rfl ⟨rfl, _, rfl, rfl, H⟩
          refine s_istore (nx := 74) (l' := [(7, .int 0), (0, .ref (q_b G + 92)), (2, .int v2), (4, .int x2), (5, .long x3)]) hO rfl (by decide) rfl rfl ?_
          exact xEx.loc (x_sub1 (List.Mem.tail _ (List.Mem.head _)) (x_sub1 (List.Mem.tail _ (List.Mem.tail _ (List.Mem.head _))) (x_sub1 (List.Mem.tail _ (List.Mem.tail _ (List.Mem.tail _ (List.Mem.tail _ (List.Mem.head _))))) (x_sub1 (List.Mem.head _) x_sub0)))) H
        · replace H := H.2 c60
          refine s_aload_n (nx := 64) hO rfl rfl rfl ?_
          refine s_iconst (x := 1) (nx := 65) hO rfl (by decide) rfl ?_
          refine s_iload_n (nx := 66) hO rfl rfl rfl ?_
          refine s_lconst (x := 0) (nx := 67) hO rfl (by decide) rfl ?_
          refine s_callV [.int 1, .int v2, .long 0] (ci := 8) (F := TX8) (N := 5) (nx := 70) hO rfl kX8_addName_45 (by rw [hcl]; rfl) (hs_o8 kc92) (w_X8_add hG H) rfl rfl (Nat.le_of_ble_eq_true rfl) (Nat.zero_le _) (Nat.zero_le _) rfl (k_Qv (fun s10 H => ?_))
          exact s_vret hO rfl rfl ⟨rfl, _, rfl, rfl, H⟩
      refine s_icmp_ge (nx := 27) hO rfl rfl (fun c24 => ?_) (fun c24 => ?_)
      · replace H := H.1 c24
        exact xEx.loc (x_sub1 (List.Mem.head _) (x_sub1 (List.Mem.tail _ (List.Mem.tail _ (List.Mem.head _))) (x_sub1 (List.Mem.tail _ (List.Mem.tail _ (List.Mem.tail _ (List.Mem.tail _ (List.Mem.head _))))) (x_sub1 (List.Mem.tail _ (List.Mem.tail _ (List.Mem.tail _ (List.Mem.tail _ (List.Mem.tail _ (List.Mem.head _)))))) x_sub0)))) H
      · replace H := H.2 c24
        refine s_iload (nx := 29) hO rfl rfl rfl ?_
        refine s_if_eq (nx := 32) hO rfl rfl (fun c29 => ?_) (fun c29 => ?_)
        · replace H := H.1 c29
          exact xEx.loc (x_sub1 (List.Mem.head _) (x_sub1 (List.Mem.tail _ (List.Mem.tail _ (List.Mem.head _))) (x_sub1 (List.Mem.tail _ (List.Mem.tail _ (List.Mem.tail _ (List.Mem.tail _ (List.Mem.head _))))) (x_sub1 (List.Mem.tail _ (List.Mem.tail _ (List.Mem.tail _ (List.Mem.tail _ (List.Mem.tail _ (List.Mem.head _)))))) x_sub0)))) H
        · replace H := H.2 c29
          refine s_aload_n (nx := 33) hO rfl rfl rfl ?_
          refine s_iload (nx := 35) hO rfl rfl rfl ?_
          obtain ⟨b11, H⟩ := H
          refine s_bald (nx := 36) hO rfl (hs_B ha1) b11 rfl ?_
          refine s_callS [.int (sI s a1 (ix x4))] (nx := 39) hO rfl kX8_addName_63 (w_X8_isLetter hG H) rfl rfl (Nat.le_of_ble_eq_true rfl) (Nat.zero_le _) (Nat.zero_le _) rfl (k_Pi (fun r12 H => ?_))
          refine s_istore (nx := 41) (l' := [(4, .int r12), (0, .ref (q_b G + 92)), (1, .ref (q_b G + a1)), (2, .int v2), (3, .int v3), (5, .long x3), (7, .int x4)]) hO rfl (by decide) rfl rfl ?_
          refine s_lload (nx := 43) hO rfl rfl rfl ?_
          refine s_aload_n (nx := 44) hO rfl rfl rfl ?_
          refine s_iload (nx := 46) hO rfl rfl rfl ?_
          obtain ⟨b13, H⟩ := H
          refine s_bald (nx := 47) hO rfl (hs_B ha1) b13 rfl ?_
          refine s_callS [.long x3, .int (sI s a1 (ix x4))] (nx := 50) hO rfl kX8_addName_37 (w_X8_withLetter hG H) rfl rfl (Nat.le_of_ble_eq_true rfl) (Nat.zero_le _) (Nat.zero_le _) rfl (k_Pl (fun r14 H => ?_))
          refine s_lstore (nx := 52) (l' := [(5, .long r14), (4, .int r12), (0, .ref (q_b G + 92)), (1, .ref (q_b G + a1)), (2, .int v2), (3, .int v3), (7, .int x4)]) hO rfl (by decide) rfl rfl ?_
          refine goV ((x4 + 1)) (fun x15 ex15 => ?_)
          replace H := H x15 ex15
          refine e_iinc (nx := 55) (l' := [(7, .int x15), (5, .long r14), (4, .int r12), (0, .ref (q_b G + 92)), (1, .ref (q_b G + a1)), (2, .int v2), (3, .int v3)]) ex15 hO rfl (by decide) rfl rfl rfl rfl ?_
          refine s_goto hO rfl ?_
          exact xEx.loc (x_sub1 (List.Mem.tail _ (List.Mem.tail _ (List.Mem.tail _ (List.Mem.head _)))) (x_sub1 (List.Mem.tail _ (List.Mem.tail _ (List.Mem.tail _ (List.Mem.tail _ (List.Mem.head _))))) (x_sub1 (List.Mem.tail _ (List.Mem.tail _ (List.Mem.tail _ (List.Mem.tail _ (List.Mem.tail _ (List.Mem.head _)))))) (x_sub1 (List.Mem.tail _ (List.Mem.tail _ (List.Mem.tail _ (List.Mem.tail _ (List.Mem.tail _ (List.Mem.tail _ (List.Mem.head _))))))) (x_sub1 (List.Mem.tail _ (List.Mem.tail _ (List.Mem.head _))) (x_sub1 (List.Mem.tail _ (List.Mem.head _)) (x_sub1 (List.Mem.head _) x_sub0))))))) H
    refine s_istore (nx := 21) (l' := [(7, .int v2), (5, .long 0), (4, .int y1), (0, .ref (q_b G + 92)), (1, .ref (q_b G + a1)), (2, .int v2), (3, .int v3)]) hO rfl (by decide) rfl rfl ?_
    exact xEx.loc (x_sub1 (List.Mem.tail _ (List.Mem.tail _ (List.Mem.tail _ (List.Mem.head _)))) (x_sub1 (List.Mem.tail _ (List.Mem.tail _ (List.Mem.tail _ (List.Mem.tail _ (List.Mem.head _))))) (x_sub1 (List.Mem.tail _ (List.Mem.tail _ (List.Mem.tail _ (List.Mem.tail _ (List.Mem.tail _ (List.Mem.head _)))))) (x_sub1 (List.Mem.tail _ (List.Mem.tail _ (List.Mem.tail _ (List.Mem.tail _ (List.Mem.tail _ (List.Mem.tail _ (List.Mem.head _))))))) (x_sub1 (List.Mem.tail _ (List.Mem.tail _ (List.Mem.head _))) (x_sub1 (List.Mem.tail _ (List.Mem.head _)) (x_sub1 (List.Mem.head _) x_sub0))))))) H
  refine s_icmp_gt (nx := 8) hO rfl rfl (fun c5 => ?_) (fun c5 => ?_)
  · replace H := H.1 c5
    refine s_iconst (x := 0) (nx := 13) hO rfl (by decide) rfl ?_
    exact xEx.loc (x_sub1 (List.Mem.head _) (x_sub1 (List.Mem.tail _ (List.Mem.head _)) (x_sub1 (List.Mem.tail _ (List.Mem.tail _ (List.Mem.head _))) (x_sub1 (List.Mem.tail _ (List.Mem.tail _ (List.Mem.tail _ (List.Mem.head _)))) x_sub0)))) H
  · replace H := H.2 c5
    refine s_iconst (x := 1) (nx := 9) hO rfl (by decide) rfl ?_
    refine s_goto hO rfl ?_
    exact xEx.loc (x_sub1 (List.Mem.head _) (x_sub1 (List.Mem.tail _ (List.Mem.head _)) (x_sub1 (List.Mem.tail _ (List.Mem.tail _ (List.Mem.head _))) (x_sub1 (List.Mem.tail _ (List.Mem.tail _ (List.Mem.tail _ (List.Mem.head _)))) x_sub0)))) H
def W_X4_isAt (s : yS) (v1 : Int32) (Q : Int32 → Prop) : Prop :=
 vp_in (sI s 91 2) 8193 ∧ 
 ((¬ (sI s 93 (ix (sI s 91 2))) = v1 → Q 0)
 ∧ ((sI s 93 (ix (sI s 91 2))) = v1 → Q 1))
set_option maxRecDepth 100000 in
set_option maxHeartbeats 40000000 in
theorem w_X4_isAt {G : xG} (hG : yG G) {z : Nat} {s : yS} {v1 : Int32} {Q : Int32 → Prop} (H : W_X4_isAt s v1 Q) : xC G mX4_isAt [.ref (q_b G + 91), .int v1] (hS G s) z 0 0 (yPi G z s Q) := by
  have hW := hG.1
  have hcl := hG.2.1
  have hty := hG.2.2.1
  have hO : xO G mX4_isAt tbX4_isAt ptX4_isAt := ⟨tkX4_isAt, pkX4_isAt hcl⟩
  unfold W_X4_isAt at H
  refine xC.of hW (by decide) rfl (Nat.le_of_ble_eq_true rfl) ?_
  refine s_aload_n (nx := 1) hO rfl rfl rfl ?_
  refine s_getf (v := .ref (q_b G + 92)) (nx := 4) hO rfl rfl (hs_o4 kc91) rfl rfl ?_
  refine s_getf (v := .ref (q_b G + 93)) (nx := 7) hO rfl rfl (hs_o8 kc92) rfl rfl ?_
  refine s_aload_n (nx := 8) hO rfl rfl rfl ?_
  refine s_getf (v := .int (sI s 91 2)) (nx := 11) hO rfl rfl (hs_o4 kc91) rfl rfl ?_
  obtain ⟨b1, H⟩ := H
  refine s_iald (nx := 12) hO rfl (hs_I kc93) b1 rfl ?_
  refine s_iload_n (nx := 13) hO rfl rfl rfl ?_
  refine s_icmp_ne (nx := 16) hO rfl rfl (fun c13 => ?_) (fun c13 => ?_)
  · replace H := H.1 c13
    refine s_iconst (x := 0) (nx := 21) hO rfl (by decide) rfl ?_
    exact s_iret hO rfl rfl rfl ⟨rfl, _, rfl, rfl, H⟩
  · replace H := H.2 c13
    refine s_iconst (x := 1) (nx := 17) hO rfl (by decide) rfl ?_
    refine s_goto hO rfl ?_
    exact s_iret hO rfl rfl rfl ⟨rfl, _, rfl, rfl, H⟩
def W_X4_take (s : yS) (v1 : Int32) (Q : Int32 → yS → Prop) : Prop :=
 vp_in (sI s 91 2) 8193 ∧ 
 ∀ P21 : Int32 → Prop, (∀ (y2 : Int32), (((y2 = 0 → ∀ s3 : yS, s3 = wI s 91 2 ((sI s 91 2) + 0) → 
   zb y2 ∧ Q y2 s3)
  ∧ (¬ y2 = 0 → ∀ s5 : yS, s5 = wI s 91 2 ((sI s 91 2) + 1) → 
   zb y2 ∧ Q y2 s5))) → P21 y2) → 
 ((¬ (sI s 93 (ix (sI s 91 2))) = v1 → P21 0)
 ∧ ((sI s 93 (ix (sI s 91 2))) = v1 → P21 1))
set_option maxRecDepth 100000 in
set_option maxHeartbeats 40000000 in
theorem w_X4_take {G : xG} (hG : yG G) {z : Nat} {s : yS} {v1 : Int32} {Q : Int32 → yS → Prop} (H : W_X4_take s v1 Q) : xC G mX4_take [.ref (q_b G + 91), .int v1] (hS G s) z 0 0 (yQi G z Q) := by
  have hW := hG.1
  have hcl := hG.2.1
  have hty := hG.2.2.1
  have hO : xO G mX4_take tbX4_take ptX4_take := ⟨tkX4_take, pkX4_take hcl⟩
  unfold W_X4_take at H
  refine xC.of hW (by decide) rfl (Nat.le_of_ble_eq_true rfl) ?_
  refine s_aload_n (nx := 1) hO rfl rfl rfl ?_
  refine s_getf (v := .ref (q_b G + 92)) (nx := 4) hO rfl rfl (hs_o4 kc91) rfl rfl ?_
  refine s_getf (v := .ref (q_b G + 93)) (nx := 7) hO rfl rfl (hs_o8 kc92) rfl rfl ?_
  refine s_aload_n (nx := 8) hO rfl rfl rfl ?_
  refine s_getf (v := .int (sI s 91 2)) (nx := 11) hO rfl rfl (hs_o4 kc91) rfl rfl ?_
  obtain ⟨b1, H⟩ := H
  refine s_iald (nx := 12) hO rfl (hs_I kc93) b1 rfl ?_
  refine s_iload_n (nx := 13) hO rfl rfl rfl ?_
  refine goK (H (fun (y2 : Int32) => xEx G mX4_take 21 [(0, .ref (q_b G + 91))] [.int y2] (hS G s) z 0 0 (yQi G z Q)) (fun y2 H => ?_)) (fun H => ?_)
  · show xEx G mX4_take 21 [(0, .ref (q_b G + 91))] [.int y2] (hS G s) z 0 0 (yQi G z Q)
    refine s_istore_n (nx := 22) (l' := [(2, .int y2), (0, .ref (q_b G + 91))]) hO rfl (by decide) rfl rfl ?_
    refine s_aload_n (nx := 23) hO rfl rfl rfl ?_
    refine s_dup (nx := 24) hO rfl rfl rfl ?_
    refine s_getf (v := .int (sI s 91 2)) (nx := 27) hO rfl rfl (hs_o4 kc91) rfl rfl ?_
    refine s_iload_n (nx := 28) hO rfl rfl rfl ?_
    refine s_if_eq (nx := 31) hO rfl rfl (fun c28 => ?_) (fun c28 => ?_)
    · replace H := H.1 c28
      refine s_iconst (x := 0) (nx := 36) hO rfl (by decide) rfl ?_
      refine s_iadd (nx := 37) hO rfl rfl ?_
      refine goV (wI s 91 2 ((sI s 91 2) + 0)) (fun s3 es3 => ?_)
      replace H := H s3 es3
      refine s_putf (nx := 40) hO rfl rfl (hs_o4 kc91) (Nat.le_of_ble_eq_true rfl) (by rw [hty]; rfl) (by rw [hty]; rfl) pX4_2 rfl ?_
      refine xEx.at (up_oI4 kc91 es3) ?_
      refine s_iload_n (nx := 41) hO rfl rfl rfl ?_
      obtain ⟨b4, H⟩ := H
      exact s_iret hO rfl rfl (zb_n b4) ⟨rfl, _, _, rfl, rfl, H⟩
    · replace H := H.2 c28
      refine s_iconst (x := 1) (nx := 32) hO rfl (by decide) rfl ?_
      refine s_goto hO rfl ?_
      refine s_iadd (nx := 37) hO rfl rfl ?_
      refine goV (wI s 91 2 ((sI s 91 2) + 1)) (fun s5 es5 => ?_)
      replace H := H s5 es5
      refine s_putf (nx := 40) hO rfl rfl (hs_o4 kc91) (Nat.le_of_ble_eq_true rfl) (by rw [hty]; rfl) (by rw [hty]; rfl) pX4_2 rfl ?_
      refine xEx.at (up_oI4 kc91 es5) ?_
      refine s_iload_n (nx := 41) hO rfl rfl rfl ?_
      obtain ⟨b6, H⟩ := H
      exact s_iret hO rfl rfl (zb_n b6) ⟨rfl, _, _, rfl, rfl, H⟩
  refine s_icmp_ne (nx := 16) hO rfl rfl (fun c13 => ?_) (fun c13 => ?_)
  · replace H := H.1 c13
    refine s_iconst (x := 0) (nx := 21) hO rfl (by decide) rfl ?_
    exact xEx.loc (x_sub1 (List.Mem.head _) x_sub0) H
  · replace H := H.2 c13
    refine s_iconst (x := 1) (nx := 17) hO rfl (by decide) rfl ?_
    refine s_goto hO rfl ?_
    exact xEx.loc (x_sub1 (List.Mem.head _) x_sub0) H
def W_X4_refuse (s : yS) (Q : Int32 → yS → Prop) : Prop :=
 vp_in (sI s 91 2) 8193 ∧ 
 ∀ x2 : Int32, x2 = (sI s 93 (ix (sI s 91 2))) → 
 ((¬ x2 = 1 → ((¬ x2 = 0 → ∀ s3 : yS, s3 = wI s 91 0 (nI 2) → 
   vp_in (sI s3 91 2) 8193 ∧ 
   ∀ s5 : yS, s5 = wI s3 91 1 (sI s3 94 (ix (sI s3 91 2))) → 
   Q 0 s5)
  ∧ (x2 = 0 → ∀ s6 : yS, s6 = wI s 91 0 (nI 3) → 
   vp_in (sI s6 91 2) 8193 ∧ 
   ∀ s8 : yS, s8 = wI s6 91 1 (sI s6 94 (ix (sI s6 91 2))) → 
   Q 0 s8)))
 ∧ (x2 = 1 → ∀ s9 : yS, s9 = wI s 91 0 1 → 
  vp_in (sI s9 91 2) 8193 ∧ 
  ∀ s11 : yS, s11 = wI s9 91 1 (sI s9 94 (ix (sI s9 91 2))) → 
  Q 0 s11))
set_option maxRecDepth 100000 in
set_option maxHeartbeats 40000000 in
theorem w_X4_refuse {G : xG} (hG : yG G) {z : Nat} {s : yS} {Q : Int32 → yS → Prop} (H : W_X4_refuse s Q) : xC G mX4_refuse [.ref (q_b G + 91)] (hS G s) z 0 0 (yQi G z Q) := by
  have hW := hG.1
  have hcl := hG.2.1
  have hty := hG.2.2.1
  have hO : xO G mX4_refuse tbX4_refuse ptX4_refuse := ⟨tkX4_refuse, pkX4_refuse hcl⟩
  unfold W_X4_refuse at H
  refine xC.of hW (by decide) rfl (Nat.le_of_ble_eq_true rfl) ?_
  refine s_aload_n (nx := 1) hO rfl rfl rfl ?_
  refine s_getf (v := .ref (q_b G + 92)) (nx := 4) hO rfl rfl (hs_o4 kc91) rfl rfl ?_
  refine s_getf (v := .ref (q_b G + 93)) (nx := 7) hO rfl rfl (hs_o8 kc92) rfl rfl ?_
  refine s_aload_n (nx := 8) hO rfl rfl rfl ?_
  refine s_getf (v := .int (sI s 91 2)) (nx := 11) hO rfl rfl (hs_o4 kc91) rfl rfl ?_
  obtain ⟨b1, H⟩ := H
  refine s_iald (nx := 12) hO rfl (hs_I kc93) b1 rfl ?_
  refine goV ((sI s 93 (ix (sI s 91 2)))) (fun x2 ex2 => ?_)
  replace H := H x2 ex2
  refine e_istore_n (nx := 13) (l' := [(1, .int x2), (0, .ref (q_b G + 91))]) ex2 hO rfl (by decide) rfl rfl ?_
  refine s_aload_n (nx := 14) hO rfl rfl rfl ?_
  refine s_iload_n (nx := 15) hO rfl rfl rfl ?_
  refine s_iconst (x := 1) (nx := 16) hO rfl (by decide) rfl ?_
  refine s_icmp_ne (nx := 19) hO rfl rfl (fun c16 => ?_) (fun c16 => ?_)
  · replace H := H.1 c16
    refine s_iload_n (nx := 24) hO rfl rfl rfl ?_
    refine s_if_ne (nx := 27) hO rfl rfl (fun c24 => ?_) (fun c24 => ?_)
    · replace H := H.1 c24
      refine s_iconst (x := (nI 2)) (nx := 32) hO rfl (by decide) rfl ?_
      refine goV (wI s 91 0 (nI 2)) (fun s3 es3 => ?_)
      replace H := H s3 es3
      refine s_putf (nx := 35) hO rfl rfl (hs_o4 kc91) (Nat.le_of_ble_eq_true rfl) (by rw [hty]; rfl) (by rw [hty]; rfl) pX4_0 rfl ?_
      refine xEx.at (up_oI4 kc91 es3) ?_
      refine s_aload_n (nx := 36) hO rfl rfl rfl ?_
      refine s_aload_n (nx := 37) hO rfl rfl rfl ?_
      refine s_getf (v := .ref (q_b G + 92)) (nx := 40) hO rfl rfl (hs_o4 kc91) rfl rfl ?_
      refine s_getf (v := .ref (q_b G + 94)) (nx := 43) hO rfl rfl (hs_o8 kc92) rfl rfl ?_
      refine s_aload_n (nx := 44) hO rfl rfl rfl ?_
      refine s_getf (v := .int (sI s3 91 2)) (nx := 47) hO rfl rfl (hs_o4 kc91) rfl rfl ?_
      obtain ⟨b4, H⟩ := H
      refine s_iald (nx := 48) hO rfl (hs_I kc94) b4 rfl ?_
      refine goV (wI s3 91 1 (sI s3 94 (ix (sI s3 91 2)))) (fun s5 es5 => ?_)
      replace H := H s5 es5
      refine s_putf (nx := 51) hO rfl rfl (hs_o4 kc91) (Nat.le_of_ble_eq_true rfl) (by rw [hty]; rfl) (by rw [hty]; rfl) pX4_1 rfl ?_
      refine xEx.at (up_oI4 kc91 es5) ?_
      refine s_iconst (x := 0) (nx := 52) hO rfl (by decide) rfl ?_
      exact s_iret hO rfl rfl rfl ⟨rfl, _, _, rfl, rfl, H⟩
    · replace H := H.2 c24
      refine s_iconst (x := (nI 3)) (nx := 28) hO rfl (by decide) rfl ?_
      refine s_goto hO rfl ?_
      refine goV (wI s 91 0 (nI 3)) (fun s6 es6 => ?_)
      replace H := H s6 es6
      refine s_putf (nx := 35) hO rfl rfl (hs_o4 kc91) (Nat.le_of_ble_eq_true rfl) (by rw [hty]; rfl) (by rw [hty]; rfl) pX4_0 rfl ?_
      refine xEx.at (up_oI4 kc91 es6) ?_
      refine s_aload_n (nx := 36) hO rfl rfl rfl ?_
      refine s_aload_n (nx := 37) hO rfl rfl rfl ?_
      refine s_getf (v := .ref (q_b G + 92)) (nx := 40) hO rfl rfl (hs_o4 kc91) rfl rfl ?_
      refine s_getf (v := .ref (q_b G + 94)) (nx := 43) hO rfl rfl (hs_o8 kc92) rfl rfl ?_
      refine s_aload_n (nx := 44) hO rfl rfl rfl ?_
      refine s_getf (v := .int (sI s6 91 2)) (nx := 47) hO rfl rfl (hs_o4 kc91) rfl rfl ?_
      obtain ⟨b7, H⟩ := H
      refine s_iald (nx := 48) hO rfl (hs_I kc94) b7 rfl ?_
      refine goV (wI s6 91 1 (sI s6 94 (ix (sI s6 91 2)))) (fun s8 es8 => ?_)
      replace H := H s8 es8
      refine s_putf (nx := 51) hO rfl rfl (hs_o4 kc91) (Nat.le_of_ble_eq_true rfl) (by rw [hty]; rfl) (by rw [hty]; rfl) pX4_1 rfl ?_
      refine xEx.at (up_oI4 kc91 es8) ?_
      refine s_iconst (x := 0) (nx := 52) hO rfl (by decide) rfl ?_
      exact s_iret hO rfl rfl rfl ⟨rfl, _, _, rfl, rfl, H⟩
  · replace H := H.2 c16
    refine s_iconst (x := 1) (nx := 20) hO rfl (by decide) rfl ?_
    refine s_goto hO rfl ?_
    refine goV (wI s 91 0 1) (fun s9 es9 => ?_)
    replace H := H s9 es9
    refine s_putf (nx := 35) hO rfl rfl (hs_o4 kc91) (Nat.le_of_ble_eq_true rfl) (by rw [hty]; rfl) (by rw [hty]; rfl) pX4_0 rfl ?_
    refine xEx.at (up_oI4 kc91 es9) ?_
    refine s_aload_n (nx := 36) hO rfl rfl rfl ?_
    refine s_aload_n (nx := 37) hO rfl rfl rfl ?_
    refine s_getf (v := .ref (q_b G + 92)) (nx := 40) hO rfl rfl (hs_o4 kc91) rfl rfl ?_
    refine s_getf (v := .ref (q_b G + 94)) (nx := 43) hO rfl rfl (hs_o8 kc92) rfl rfl ?_
    refine s_aload_n (nx := 44) hO rfl rfl rfl ?_
    refine s_getf (v := .int (sI s9 91 2)) (nx := 47) hO rfl rfl (hs_o4 kc91) rfl rfl ?_
    obtain ⟨b10, H⟩ := H
    refine s_iald (nx := 48) hO rfl (hs_I kc94) b10 rfl ?_
    refine goV (wI s9 91 1 (sI s9 94 (ix (sI s9 91 2)))) (fun s11 es11 => ?_)
    replace H := H s11 es11
    refine s_putf (nx := 51) hO rfl rfl (hs_o4 kc91) (Nat.le_of_ble_eq_true rfl) (by rw [hty]; rfl) (by rw [hty]; rfl) pX4_1 rfl ?_
    refine xEx.at (up_oI4 kc91 es11) ?_
    refine s_iconst (x := 0) (nx := 52) hO rfl (by decide) rfl ?_
    exact s_iret hO rfl rfl rfl ⟨rfl, _, _, rfl, rfl, H⟩
def W_X4_takeWord (s : yS) (v1 : Int32) (Q : Int32 → yS → Prop) : Prop :=
 vp_in (sI s 91 2) 8193 ∧ 
 ∀ P40 : Int32 → Prop, (∀ (y2 : Int32), (((y2 = 0 → ∀ s3 : yS, s3 = wI s 91 2 ((sI s 91 2) + 0) → 
   zb y2 ∧ Q y2 s3)
  ∧ (¬ y2 = 0 → ∀ s5 : yS, s5 = wI s 91 2 ((sI s 91 2) + 1) → 
   zb y2 ∧ Q y2 s5))) → P40 y2) → 
 ((¬ (sI s 93 (ix (sI s 91 2))) = (nI 6) → P40 0)
 ∧ ((sI s 93 (ix (sI s 91 2))) = (nI 6) → vp_in (sI s 91 2) 8193 ∧ 
  ((¬ (lg_cmp (sJ s 95 (ix (sI s 91 2))) (v1).toInt64) = 0 → P40 0)
  ∧ ((lg_cmp (sJ s 95 (ix (sI s 91 2))) (v1).toInt64) = 0 → P40 1))))
set_option maxRecDepth 100000 in
set_option maxHeartbeats 40000000 in
theorem w_X4_takeWord {G : xG} (hG : yG G) {z : Nat} {s : yS} {v1 : Int32} {Q : Int32 → yS → Prop} (H : W_X4_takeWord s v1 Q) : xC G mX4_takeWord [.ref (q_b G + 91), .int v1] (hS G s) z 0 0 (yQi G z Q) := by
  have hW := hG.1
  have hcl := hG.2.1
  have hty := hG.2.2.1
  have hO : xO G mX4_takeWord tbX4_takeWord ptX4_takeWord := ⟨tkX4_takeWord, pkX4_takeWord hcl⟩
  unfold W_X4_takeWord at H
  refine xC.of hW (by decide) rfl (Nat.le_of_ble_eq_true rfl) ?_
  refine s_aload_n (nx := 1) hO rfl rfl rfl ?_
  refine s_getf (v := .ref (q_b G + 92)) (nx := 4) hO rfl rfl (hs_o4 kc91) rfl rfl ?_
  refine s_getf (v := .ref (q_b G + 93)) (nx := 7) hO rfl rfl (hs_o8 kc92) rfl rfl ?_
  refine s_aload_n (nx := 8) hO rfl rfl rfl ?_
  refine s_getf (v := .int (sI s 91 2)) (nx := 11) hO rfl rfl (hs_o4 kc91) rfl rfl ?_
  obtain ⟨b1, H⟩ := H
  refine s_iald (nx := 12) hO rfl (hs_I kc93) b1 rfl ?_
  refine s_bipush (x := (nI 6)) (nx := 14) hO rfl (by decide) rfl ?_
  refine goK (H (fun (y2 : Int32) => xEx G mX4_takeWord 40 [(0, .ref (q_b G + 91))] [.int y2] (hS G s) z 0 0 (yQi G z Q)) (fun y2 H => ?_)) (fun H => ?_)
  · show xEx G mX4_takeWord 40 [(0, .ref (q_b G + 91))] [.int y2] (hS G s) z 0 0 (yQi G z Q)
    refine s_istore_n (nx := 41) (l' := [(2, .int y2), (0, .ref (q_b G + 91))]) hO rfl (by decide) rfl rfl ?_
    refine s_aload_n (nx := 42) hO rfl rfl rfl ?_
    refine s_dup (nx := 43) hO rfl rfl rfl ?_
    refine s_getf (v := .int (sI s 91 2)) (nx := 46) hO rfl rfl (hs_o4 kc91) rfl rfl ?_
    refine s_iload_n (nx := 47) hO rfl rfl rfl ?_
    refine s_if_eq (nx := 50) hO rfl rfl (fun c47 => ?_) (fun c47 => ?_)
    · replace H := H.1 c47
      refine s_iconst (x := 0) (nx := 55) hO rfl (by decide) rfl ?_
      refine s_iadd (nx := 56) hO rfl rfl ?_
      refine goV (wI s 91 2 ((sI s 91 2) + 0)) (fun s3 es3 => ?_)
      replace H := H s3 es3
      refine s_putf (nx := 59) hO rfl rfl (hs_o4 kc91) (Nat.le_of_ble_eq_true rfl) (by rw [hty]; rfl) (by rw [hty]; rfl) pX4_2 rfl ?_
      refine xEx.at (up_oI4 kc91 es3) ?_
      refine s_iload_n (nx := 60) hO rfl rfl rfl ?_
      obtain ⟨b4, H⟩ := H
      exact s_iret hO rfl rfl (zb_n b4) ⟨rfl, _, _, rfl, rfl, H⟩
    · replace H := H.2 c47
      refine s_iconst (x := 1) (nx := 51) hO rfl (by decide) rfl ?_
      refine s_goto hO rfl ?_
      refine s_iadd (nx := 56) hO rfl rfl ?_
      refine goV (wI s 91 2 ((sI s 91 2) + 1)) (fun s5 es5 => ?_)
      replace H := H s5 es5
      refine s_putf (nx := 59) hO rfl rfl (hs_o4 kc91) (Nat.le_of_ble_eq_true rfl) (by rw [hty]; rfl) (by rw [hty]; rfl) pX4_2 rfl ?_
      refine xEx.at (up_oI4 kc91 es5) ?_
      refine s_iload_n (nx := 60) hO rfl rfl rfl ?_
      obtain ⟨b6, H⟩ := H
      exact s_iret hO rfl rfl (zb_n b6) ⟨rfl, _, _, rfl, rfl, H⟩
  refine s_icmp_ne (nx := 17) hO rfl rfl (fun c14 => ?_) (fun c14 => ?_)
  · replace H := H.1 c14
    refine s_iconst (x := 0) (nx := 40) hO rfl (by decide) rfl ?_
    exact xEx.loc (x_sub1 (List.Mem.head _) x_sub0) H
  · replace H := H.2 c14
    refine s_aload_n (nx := 18) hO rfl rfl rfl ?_
    refine s_getf (v := .ref (q_b G + 92)) (nx := 21) hO rfl rfl (hs_o4 kc91) rfl rfl ?_
    refine s_getf (v := .ref (q_b G + 95)) (nx := 24) hO rfl rfl (hs_o8 kc92) rfl rfl ?_
    refine s_aload_n (nx := 25) hO rfl rfl rfl ?_
    refine s_getf (v := .int (sI s 91 2)) (nx := 28) hO rfl rfl (hs_o4 kc91) rfl rfl ?_
    obtain ⟨b7, H⟩ := H
    refine s_lald (nx := 29) hO rfl (hs_J kc95) b7 rfl ?_
    refine s_iload_n (nx := 30) hO rfl rfl rfl ?_
    refine s_i2l (nx := 31) hO rfl rfl ?_
    refine s_lcmp (nx := 32) hO rfl rfl ?_
    refine s_if_ne (nx := 35) hO rfl rfl (fun c32 => ?_) (fun c32 => ?_)
    · replace H := H.1 c32
      refine s_iconst (x := 0) (nx := 40) hO rfl (by decide) rfl ?_
      exact xEx.loc (x_sub1 (List.Mem.head _) x_sub0) H
    · replace H := H.2 c32
      refine s_iconst (x := 1) (nx := 36) hO rfl (by decide) rfl ?_
      refine s_goto hO rfl ?_
      exact xEx.loc (x_sub1 (List.Mem.head _) x_sub0) H
def W_X4_takeNewName (s : yS) (a1 n1 : Nat) (v2 : Int32) (Q : Int32 → yS → Prop) : Prop :=
 vp_in (sI s 91 2) 8193 ∧ 
 ∀ P21 : Int32 → Prop, (∀ (y2 : Int32), (∀ P25 : Int32 → Int32 → Prop, (∀ (x3 : Int32) (x4 : Int32), (((v2 ≤ x4 → vp_in (sI s 91 2) 8193 ∧ 
    vp_in v2 n1 ∧ ∀ s7 : yS, s7 = wJ s a1 (ix v2) (sJ s 95 (ix (sI s 91 2))) → 
    ((x3 = 0 → ∀ s8 : yS, s8 = wI s7 91 2 ((sI s7 91 2) + 0) → 
     zb x3 ∧ Q x3 s8)
    ∧ (¬ x3 = 0 → ∀ s10 : yS, s10 = wI s7 91 2 ((sI s7 91 2) + 1) → 
     zb x3 ∧ Q x3 s10)))
   ∧ (¬ v2 ≤ x4 → ∀ P60 : Int32 → Prop, (∀ (y12 : Int32), (∀ x13 : Int32, x13 = (x4 + 1) → 
     P25 y12 x13) → P60 y12) → 
    ((x3 = 0 → P60 0)
    ∧ (¬ x3 = 0 → vp_in x4 n1 ∧ 
     vp_in (sI s 91 2) 8193 ∧ 
     (((lg_cmp (sJ s a1 (ix x4)) (sJ s 95 (ix (sI s 91 2)))) = 0 → P60 0)
     ∧ (¬ (lg_cmp (sJ s a1 (ix x4)) (sJ s 95 (ix (sI s 91 2)))) = 0 → P60 1))))))) → P25 x3 x4) → 
  P25 y2 0) → P21 y2) → 
 ((¬ (sI s 93 (ix (sI s 91 2))) = (nI 5) → P21 0)
 ∧ ((sI s 93 (ix (sI s 91 2))) = (nI 5) → P21 1))
set_option maxRecDepth 100000 in
set_option maxHeartbeats 40000000 in
theorem w_X4_takeNewName {G : xG} (hG : yG G) {z : Nat} {s : yS} {a1 n1 : Nat} {v2 : Int32} {Q : Int32 → yS → Prop} (ha1 : kd a1 = some (3, n1)) (H : W_X4_takeNewName s a1 n1 v2 Q) : xC G mX4_takeNewName [.ref (q_b G + 91), .ref (q_b G + a1), .int v2] (hS G s) z 0 0 (yQi G z Q) := by
  have hW := hG.1
  have hcl := hG.2.1
  have hty := hG.2.2.1
  have hO : xO G mX4_takeNewName tbX4_takeNewName ptX4_takeNewName := ⟨tkX4_takeNewName, pkX4_takeNewName hcl⟩
  unfold W_X4_takeNewName at H
  refine xC.of hW (by decide) rfl (Nat.le_of_ble_eq_true rfl) ?_
  refine s_aload_n (nx := 1) hO rfl rfl rfl ?_
  refine s_getf (v := .ref (q_b G + 92)) (nx := 4) hO rfl rfl (hs_o4 kc91) rfl rfl ?_
  refine s_getf (v := .ref (q_b G + 93)) (nx := 7) hO rfl rfl (hs_o8 kc92) rfl rfl ?_
  refine s_aload_n (nx := 8) hO rfl rfl rfl ?_
  refine s_getf (v := .int (sI s 91 2)) (nx := 11) hO rfl rfl (hs_o4 kc91) rfl rfl ?_
  obtain ⟨b1, H⟩ := H
  refine s_iald (nx := 12) hO rfl (hs_I kc93) b1 rfl ?_
  refine s_iconst (x := (nI 5)) (nx := 13) hO rfl (by decide) rfl ?_
  refine goK (H (fun (y2 : Int32) => xEx G mX4_takeNewName 21 [(0, .ref (q_b G + 91)), (1, .ref (q_b G + a1)), (2, .int v2)] [.int y2] (hS G s) z 0 0 (yQi G z Q)) (fun y2 H => ?_)) (fun H => ?_)
  · show xEx G mX4_takeNewName 21 [(0, .ref (q_b G + 91)), (1, .ref (q_b G + a1)), (2, .int v2)] [.int y2] (hS G s) z 0 0 (yQi G z Q)
    refine s_istore_n (nx := 22) (l' := [(3, .int y2), (0, .ref (q_b G + 91)), (1, .ref (q_b G + a1)), (2, .int v2)]) hO rfl (by decide) rfl rfl ?_
    refine s_iconst (x := 0) (nx := 23) hO rfl (by decide) rfl ?_
    refine goK (H (fun (x3 : Int32) (x4 : Int32) => xEx G mX4_takeNewName 25 [(0, .ref (q_b G + 91)), (1, .ref (q_b G + a1)), (2, .int v2), (3, .int x3), (4, .int x4)] [] (hS G s) z 0 0 (yQi G z Q)) (fun x3 x4 H => ?_)) (fun H => ?_)
    · show xEx G mX4_takeNewName 25 [(0, .ref (q_b G + 91)), (1, .ref (q_b G + a1)), (2, .int v2), (3, .int x3), (4, .int x4)] [] (hS G s) z 0 0 (yQi G z Q)
      refine s_iload (nx := 27) hO rfl rfl rfl ?_
      refine s_iload_n (nx := 28) hO rfl rfl rfl ?_
      refine s_icmp_ge (nx := 31) hO rfl rfl (fun c28 => ?_) (fun c28 => ?_)
      · replace H := H.1 c28
        refine s_aload_n (nx := 68) hO rfl rfl rfl ?_
        refine s_iload_n (nx := 69) hO rfl rfl rfl ?_
        refine s_aload_n (nx := 70) hO rfl rfl rfl ?_
        refine s_getf (v := .ref (q_b G + 92)) (nx := 73) hO rfl rfl (hs_o4 kc91) rfl rfl ?_
        refine s_getf (v := .ref (q_b G + 95)) (nx := 76) hO rfl rfl (hs_o8 kc92) rfl rfl ?_
        refine s_aload_n (nx := 77) hO rfl rfl rfl ?_
        refine s_getf (v := .int (sI s 91 2)) (nx := 80) hO rfl rfl (hs_o4 kc91) rfl rfl ?_
        obtain ⟨b5, H⟩ := H
        refine s_lald (nx := 81) hO rfl (hs_J kc95) b5 rfl ?_
        obtain ⟨b6, H⟩ := H
        refine goV (wJ s a1 (ix v2) (sJ s 95 (ix (sI s 91 2)))) (fun s7 es7 => ?_)
        replace H := H s7 es7
        refine s_last (nx := 82) hO rfl (hs_J ha1) b6 rfl ?_
        refine xEx.at (up_J ha1 es7) ?_
        refine s_aload_n (nx := 83) hO rfl rfl rfl ?_
        refine s_dup (nx := 84) hO rfl rfl rfl ?_
        refine s_getf (v := .int (sI s7 91 2)) (nx := 87) hO rfl rfl (hs_o4 kc91) rfl rfl ?_
        refine s_iload_n (nx := 88) hO rfl rfl rfl ?_
        refine s_if_eq (nx := 91) hO rfl rfl (fun c88 => ?_) (fun c88 => ?_)
        · replace H := H.1 c88
          refine s_iconst (x := 0) (nx := 96) hO rfl (by decide) rfl ?_
          refine s_iadd (nx := 97) hO rfl rfl ?_
          refine goV (wI s7 91 2 ((sI s7 91 2) + 0)) (fun s8 es8 => ?_)
          replace H := H s8 es8
          refine s_putf (nx := 100) hO rfl rfl (hs_o4 kc91) (Nat.le_of_ble_eq_true rfl) (by rw [hty]; rfl) (by rw [hty]; rfl) pX4_2 rfl ?_
          refine xEx.at (up_oI4 kc91 es8) ?_
          refine s_iload_n (nx := 101) hO rfl rfl rfl ?_
          obtain ⟨b9, H⟩ := H
          exact s_iret hO rfl rfl (zb_n b9) ⟨rfl, _, _, rfl, rfl, H⟩
        · replace H := H.2 c88
          refine s_iconst (x := 1) (nx := 92) hO rfl (by decide) rfl ?_
          refine s_goto hO rfl ?_
          refine s_iadd (nx := 97) hO rfl rfl ?_
          refine goV (wI s7 91 2 ((sI s7 91 2) + 1)) (fun s10 es10 => ?_)
          replace H := H s10 es10
          refine s_putf (nx := 100) hO rfl rfl (hs_o4 kc91) (Nat.le_of_ble_eq_true rfl) (by rw [hty]; rfl) (by rw [hty]; rfl) pX4_2 rfl ?_
          refine xEx.at (up_oI4 kc91 es10) ?_
          refine s_iload_n (nx := 101) hO rfl rfl rfl ?_
          obtain ⟨b11, H⟩ := H
          exact s_iret hO rfl rfl (zb_n b11) ⟨rfl, _, _, rfl, rfl, H⟩
      · replace H := H.2 c28
        refine s_iload_n (nx := 32) hO rfl rfl rfl ?_
        refine goK (H (fun (y12 : Int32) => xEx G mX4_takeNewName 60 [(0, .ref (q_b G + 91)), (1, .ref (q_b G + a1)), (2, .int v2), (4, .int x4)] [.int y12] (hS G s) z 0 0 (yQi G z Q)) (fun y12 H => ?_)) (fun H => ?_)
        · show xEx G mX4_takeNewName 60 [(0, .ref (q_b G + 91)), (1, .ref (q_b G + a1)), (2, .int v2), (4, .int x4)] [.int y12] (hS G s) z 0 0 (yQi G z Q)
          refine s_istore_n (nx := 61) (l' := [(3, .int y12), (0, .ref (q_b G + 91)), (1, .ref (q_b G + a1)), (2, .int v2), (4, .int x4)]) hO rfl (by decide) rfl rfl ?_
          refine goV ((x4 + 1)) (fun x13 ex13 => ?_)
          replace H := H x13 ex13
          refine e_iinc (nx := 64) (l' := [(4, .int x13), (3, .int y12), (0, .ref (q_b G + 91)), (1, .ref (q_b G + a1)), (2, .int v2)]) ex13 hO rfl (by decide) rfl rfl rfl rfl ?_
          refine s_goto hO rfl ?_
          exact xEx.loc (x_sub1 (List.Mem.tail _ (List.Mem.tail _ (List.Mem.head _))) (x_sub1 (List.Mem.tail _ (List.Mem.tail _ (List.Mem.tail _ (List.Mem.head _)))) (x_sub1 (List.Mem.tail _ (List.Mem.tail _ (List.Mem.tail _ (List.Mem.tail _ (List.Mem.head _))))) (x_sub1 (List.Mem.tail _ (List.Mem.head _)) (x_sub1 (List.Mem.head _) x_sub0))))) H
        refine s_if_eq (nx := 35) hO rfl rfl (fun c32 => ?_) (fun c32 => ?_)
        · replace H := H.1 c32
          refine s_iconst (x := 0) (nx := 60) hO rfl (by decide) rfl ?_
          exact xEx.loc (x_sub1 (List.Mem.head _) (x_sub1 (List.Mem.tail _ (List.Mem.head _)) (x_sub1 (List.Mem.tail _ (List.Mem.tail _ (List.Mem.head _))) (x_sub1 (List.Mem.tail _ (List.Mem.tail _ (List.Mem.tail _ (List.Mem.tail _ (List.Mem.head _))))) x_sub0)))) H
        · replace H := H.2 c32
          refine s_aload_n (nx := 36) hO rfl rfl rfl ?_
          refine s_iload (nx := 38) hO rfl rfl rfl ?_
          obtain ⟨b14, H⟩ := H
          refine s_lald (nx := 39) hO rfl (hs_J ha1) b14 rfl ?_
          refine s_aload_n (nx := 40) hO rfl rfl rfl ?_
          refine s_getf (v := .ref (q_b G + 92)) (nx := 43) hO rfl rfl (hs_o4 kc91) rfl rfl ?_
          refine s_getf (v := .ref (q_b G + 95)) (nx := 46) hO rfl rfl (hs_o8 kc92) rfl rfl ?_
          refine s_aload_n (nx := 47) hO rfl rfl rfl ?_
          refine s_getf (v := .int (sI s 91 2)) (nx := 50) hO rfl rfl (hs_o4 kc91) rfl rfl ?_
          obtain ⟨b15, H⟩ := H
          refine s_lald (nx := 51) hO rfl (hs_J kc95) b15 rfl ?_
          refine s_lcmp (nx := 52) hO rfl rfl ?_
          refine s_if_eq (nx := 55) hO rfl rfl (fun c52 => ?_) (fun c52 => ?_)
          · replace H := H.1 c52
            refine s_iconst (x := 0) (nx := 60) hO rfl (by decide) rfl ?_
            exact xEx.loc (x_sub1 (List.Mem.head _) (x_sub1 (List.Mem.tail _ (List.Mem.head _)) (x_sub1 (List.Mem.tail _ (List.Mem.tail _ (List.Mem.head _))) (x_sub1 (List.Mem.tail _ (List.Mem.tail _ (List.Mem.tail _ (List.Mem.tail _ (List.Mem.head _))))) x_sub0)))) H
          · replace H := H.2 c52
            refine s_iconst (x := 1) (nx := 56) hO rfl (by decide) rfl ?_
            refine s_goto hO rfl ?_
            exact xEx.loc (x_sub1 (List.Mem.head _) (x_sub1 (List.Mem.tail _ (List.Mem.head _)) (x_sub1 (List.Mem.tail _ (List.Mem.tail _ (List.Mem.head _))) (x_sub1 (List.Mem.tail _ (List.Mem.tail _ (List.Mem.tail _ (List.Mem.tail _ (List.Mem.head _))))) x_sub0)))) H
    refine s_istore (nx := 25) (l' := [(4, .int 0), (3, .int y2), (0, .ref (q_b G + 91)), (1, .ref (q_b G + a1)), (2, .int v2)]) hO rfl (by decide) rfl rfl ?_
    exact xEx.loc (x_sub1 (List.Mem.tail _ (List.Mem.tail _ (List.Mem.head _))) (x_sub1 (List.Mem.tail _ (List.Mem.tail _ (List.Mem.tail _ (List.Mem.head _)))) (x_sub1 (List.Mem.tail _ (List.Mem.tail _ (List.Mem.tail _ (List.Mem.tail _ (List.Mem.head _))))) (x_sub1 (List.Mem.tail _ (List.Mem.head _)) (x_sub1 (List.Mem.head _) x_sub0))))) H
  refine s_icmp_ne (nx := 16) hO rfl rfl (fun c13 => ?_) (fun c13 => ?_)
  · replace H := H.1 c13
    refine s_iconst (x := 0) (nx := 21) hO rfl (by decide) rfl ?_
    exact xEx.loc (x_sub1 (List.Mem.head _) (x_sub1 (List.Mem.tail _ (List.Mem.head _)) (x_sub1 (List.Mem.tail _ (List.Mem.tail _ (List.Mem.head _))) x_sub0))) H
  · replace H := H.2 c13
    refine s_iconst (x := 1) (nx := 17) hO rfl (by decide) rfl ?_
    refine s_goto hO rfl ?_
    exact xEx.loc (x_sub1 (List.Mem.head _) (x_sub1 (List.Mem.tail _ (List.Mem.head _)) (x_sub1 (List.Mem.tail _ (List.Mem.tail _ (List.Mem.head _))) x_sub0))) H
def W_X4_takeNumber (s : yS) (v1 : Int32) (v2 : Int32) (Q : Int32 → yS → Prop) : Prop :=
 vp_in (sI s 91 2) 8193 ∧ 
 ∀ x2 : Int64, x2 = (sJ s 95 (ix (sI s 91 2))) → 
 vp_in (sI s 91 2) 8193 ∧ 
 ∀ P48 : Int32 → Prop, (∀ (y4 : Int32), (∀ s5 : yS, s5 = wI s 91 3 (x2).toInt32 → 
  ((y4 = 0 → ∀ s6 : yS, s6 = wI s5 91 2 ((sI s5 91 2) + 0) → 
   zb y4 ∧ Q y4 s6)
  ∧ (¬ y4 = 0 → ∀ s8 : yS, s8 = wI s5 91 2 ((sI s5 91 2) + 1) → 
   zb y4 ∧ Q y4 s8))) → P48 y4) → 
 ((¬ (sI s 93 (ix (sI s 91 2))) = (nI 4) → P48 0)
 ∧ ((sI s 93 (ix (sI s 91 2))) = (nI 4) → (((lg_cmp x2 (v1).toInt64) < 0 → P48 0)
  ∧ (¬ (lg_cmp x2 (v1).toInt64) < 0 → ((0 < (lg_cmp x2 (v2).toInt64) → P48 0)
   ∧ (¬ 0 < (lg_cmp x2 (v2).toInt64) → P48 1))))))
set_option maxRecDepth 100000 in
set_option maxHeartbeats 40000000 in
theorem w_X4_takeNumber {G : xG} (hG : yG G) {z : Nat} {s : yS} {v1 : Int32} {v2 : Int32} {Q : Int32 → yS → Prop} (H : W_X4_takeNumber s v1 v2 Q) : xC G mX4_takeNumber [.ref (q_b G + 91), .int v1, .int v2] (hS G s) z 0 0 (yQi G z Q) := by
  have hW := hG.1
  have hcl := hG.2.1
  have hty := hG.2.2.1
  have hO : xO G mX4_takeNumber tbX4_takeNumber ptX4_takeNumber := ⟨tkX4_takeNumber, pkX4_takeNumber hcl⟩
  unfold W_X4_takeNumber at H
  refine xC.of hW (by decide) rfl (Nat.le_of_ble_eq_true rfl) ?_
  refine s_aload_n (nx := 1) hO rfl rfl rfl ?_
  refine s_getf (v := .ref (q_b G + 92)) (nx := 4) hO rfl rfl (hs_o4 kc91) rfl rfl ?_
  refine s_getf (v := .ref (q_b G + 95)) (nx := 7) hO rfl rfl (hs_o8 kc92) rfl rfl ?_
  refine s_aload_n (nx := 8) hO rfl rfl rfl ?_
  refine s_getf (v := .int (sI s 91 2)) (nx := 11) hO rfl rfl (hs_o4 kc91) rfl rfl ?_
  obtain ⟨b1, H⟩ := H
  refine s_lald (nx := 12) hO rfl (hs_J kc95) b1 rfl ?_
  refine goV ((sJ s 95 (ix (sI s 91 2)))) (fun x2 ex2 => ?_)
  replace H := H x2 ex2
  refine e_lstore_n (nx := 13) (l' := [(3, .long x2), (0, .ref (q_b G + 91)), (1, .int v1), (2, .int v2)]) ex2 hO rfl (by decide) rfl rfl ?_
  refine s_aload_n (nx := 14) hO rfl rfl rfl ?_
  refine s_getf (v := .ref (q_b G + 92)) (nx := 17) hO rfl rfl (hs_o4 kc91) rfl rfl ?_
  refine s_getf (v := .ref (q_b G + 93)) (nx := 20) hO rfl rfl (hs_o8 kc92) rfl rfl ?_
  refine s_aload_n (nx := 21) hO rfl rfl rfl ?_
  refine s_getf (v := .int (sI s 91 2)) (nx := 24) hO rfl rfl (hs_o4 kc91) rfl rfl ?_
  obtain ⟨b3, H⟩ := H
  refine s_iald (nx := 25) hO rfl (hs_I kc93) b3 rfl ?_
  refine s_iconst (x := (nI 4)) (nx := 26) hO rfl (by decide) rfl ?_
  refine goK (H (fun (y4 : Int32) => xEx G mX4_takeNumber 48 [(0, .ref (q_b G + 91)), (3, .long x2)] [.int y4] (hS G s) z 0 0 (yQi G z Q)) (fun y4 H => ?_)) (fun H => ?_)
  · show xEx G mX4_takeNumber 48 [(0, .ref (q_b G + 91)), (3, .long x2)] [.int y4] (hS G s) z 0 0 (yQi G z Q)
    refine s_istore (nx := 50) (l' := [(5, .int y4), (0, .ref (q_b G + 91)), (3, .long x2)]) hO rfl (by decide) rfl rfl ?_
    refine s_aload_n (nx := 51) hO rfl rfl rfl ?_
    refine s_lload_n (nx := 52) hO rfl rfl rfl ?_
    refine s_l2i (nx := 53) hO rfl rfl ?_
    refine goV (wI s 91 3 (x2).toInt32) (fun s5 es5 => ?_)
    replace H := H s5 es5
    refine s_putf (nx := 56) hO rfl rfl (hs_o4 kc91) (Nat.le_of_ble_eq_true rfl) (by rw [hty]; rfl) (by rw [hty]; rfl) pX4_3 rfl ?_
    refine xEx.at (up_oI4 kc91 es5) ?_
    refine s_aload_n (nx := 57) hO rfl rfl rfl ?_
    refine s_dup (nx := 58) hO rfl rfl rfl ?_
    refine s_getf (v := .int (sI s5 91 2)) (nx := 61) hO rfl rfl (hs_o4 kc91) rfl rfl ?_
    refine s_iload (nx := 63) hO rfl rfl rfl ?_
    refine s_if_eq (nx := 66) hO rfl rfl (fun c63 => ?_) (fun c63 => ?_)
    · replace H := H.1 c63
      refine s_iconst (x := 0) (nx := 71) hO rfl (by decide) rfl ?_
      refine s_iadd (nx := 72) hO rfl rfl ?_
      refine goV (wI s5 91 2 ((sI s5 91 2) + 0)) (fun s6 es6 => ?_)
      replace H := H s6 es6
      refine s_putf (nx := 75) hO rfl rfl (hs_o4 kc91) (Nat.le_of_ble_eq_true rfl) (by rw [hty]; rfl) (by rw [hty]; rfl) pX4_2 rfl ?_
      refine xEx.at (up_oI4 kc91 es6) ?_
      refine s_iload (nx := 77) hO rfl rfl rfl ?_
      obtain ⟨b7, H⟩ := H
      exact s_iret hO rfl rfl (zb_n b7) ⟨rfl, _, _, rfl, rfl, H⟩
    · replace H := H.2 c63
      refine s_iconst (x := 1) (nx := 67) hO rfl (by decide) rfl ?_
      refine s_goto hO rfl ?_
      refine s_iadd (nx := 72) hO rfl rfl ?_
      refine goV (wI s5 91 2 ((sI s5 91 2) + 1)) (fun s8 es8 => ?_)
      replace H := H s8 es8
      refine s_putf (nx := 75) hO rfl rfl (hs_o4 kc91) (Nat.le_of_ble_eq_true rfl) (by rw [hty]; rfl) (by rw [hty]; rfl) pX4_2 rfl ?_
      refine xEx.at (up_oI4 kc91 es8) ?_
      refine s_iload (nx := 77) hO rfl rfl rfl ?_
      obtain ⟨b9, H⟩ := H
      exact s_iret hO rfl rfl (zb_n b9) ⟨rfl, _, _, rfl, rfl, H⟩
  refine s_icmp_ne (nx := 29) hO rfl rfl (fun c26 => ?_) (fun c26 => ?_)
  · replace H := H.1 c26
    refine s_iconst (x := 0) (nx := 48) hO rfl (by decide) rfl ?_
    exact xEx.loc (x_sub1 (List.Mem.tail _ (List.Mem.head _)) (x_sub1 (List.Mem.head _) x_sub0)) H
  · replace H := H.2 c26
    refine s_lload_n (nx := 30) hO rfl rfl rfl ?_
    refine s_iload_n (nx := 31) hO rfl rfl rfl ?_
    refine s_i2l (nx := 32) hO rfl rfl ?_
    refine s_lcmp (nx := 33) hO rfl rfl ?_
    refine s_if_lt (nx := 36) hO rfl rfl (fun c33 => ?_) (fun c33 => ?_)
    · replace H := H.1 c33
      refine s_iconst (x := 0) (nx := 48) hO rfl (by decide) rfl ?_
      exact xEx.loc (x_sub1 (List.Mem.tail _ (List.Mem.head _)) (x_sub1 (List.Mem.head _) x_sub0)) H
    · replace H := H.2 c33
      refine s_lload_n (nx := 37) hO rfl rfl rfl ?_
      refine s_iload_n (nx := 38) hO rfl rfl rfl ?_
      refine s_i2l (nx := 39) hO rfl rfl ?_
      refine s_lcmp (nx := 40) hO rfl rfl ?_
      refine s_if_gt (nx := 43) hO rfl rfl (fun c40 => ?_) (fun c40 => ?_)
      · replace H := H.1 c40
        refine s_iconst (x := 0) (nx := 48) hO rfl (by decide) rfl ?_
        exact xEx.loc (x_sub1 (List.Mem.tail _ (List.Mem.head _)) (x_sub1 (List.Mem.head _) x_sub0)) H
      · replace H := H.2 c40
        refine s_iconst (x := 1) (nx := 44) hO rfl (by decide) rfl ?_
        refine s_goto hO rfl ?_
        exact xEx.loc (x_sub1 (List.Mem.tail _ (List.Mem.head _)) (x_sub1 (List.Mem.head _) x_sub0)) H
def W_X4_readSubject (s : yS) (Q : Int32 → yS → Prop) : Prop :=
 ∃ p1 : Nat, sR s 91 4 = p1 + 1 ∧ kd p1 = some (7, 0) ∧ 
 ∀ x2 : Int32, x2 = (sI s p1 5) → 
 W_X4_takeWord s (nI 5) 
 (fun r3 s4 => ∀ P32 : yS → Prop, (∀ (s5 : yS), (vp_in (sI s5 91 2) 8193 ∧ 
  vp_in x2 864 ∧ ∀ s8 : yS, s8 = wI s5 102 (ix x2) (sI s5 94 (ix (sI s5 91 2))) → 
  vp_in (sI s8 91 2) 8193 ∧ 
  vp_in x2 864 ∧ ∀ s11 : yS, s11 = wJ s8 101 (ix x2) (sJ s8 95 (ix (sI s8 91 2))) → 
  ∀ P92 : yS → Prop, (∀ (s12 : yS), (W_X4_refuse s12 
   (fun r13 s14 => zb r13 ∧ Q r13 s14)) → P92 s12) → 
  ∀ P97 : yS → Prop, (∀ (s16 : yS), (∃ p17 : Nat, sR s16 91 4 = p17 + 1 ∧ kd p17 = some (7, 0) ∧ 
   ((r3 = 0 → vp_in x2 864 ∧ ∀ s19 : yS, s19 = wI s16 (p17 + 6) (ix x2) (nI 3) → 
    Q 1 s19)
   ∧ (¬ r3 = 0 → vp_in x2 864 ∧ ∀ s21 : yS, s21 = wI s16 (p17 + 6) (ix x2) (sI s16 91 3) → 
    Q 1 s21))) → P97 s16) → 
  ((r3 = 0 → W_X4_take s11 (nI 5) 
   (fun r22 s23 => ((¬ r22 = 0 → P97 s23)
   ∧ (r22 = 0 → P92 s23))))
  ∧ (¬ r3 = 0 → W_X4_takeNumber s11 0 (nI 2) 
   (fun r24 s25 => ((¬ r24 = 0 → P97 s25)
   ∧ (r24 = 0 → P92 s25)))))) → P32 s5) → 
 ((¬ r3 = 0 → P32 s4)
 ∧ (r3 = 0 → W_X4_takeWord s4 (nI 6) 
  (fun r26 s27 => ((¬ r26 = 0 → P32 s27)
  ∧ (r26 = 0 → W_X4_refuse s27 
   (fun r28 s29 => zb r28 ∧ Q r28 s29)))))))
set_option maxRecDepth 100000 in
set_option maxHeartbeats 40000000 in
theorem w_X4_readSubject {G : xG} (hG : yG G) {z : Nat} {s : yS} {Q : Int32 → yS → Prop} (H : W_X4_readSubject s Q) : xC G mX4_readSubject [.ref (q_b G + 91)] (hS G s) z 0 0 (yQi G z Q) := by
  have hW := hG.1
  have hcl := hG.2.1
  have hty := hG.2.2.1
  have hO : xO G mX4_readSubject tbX4_readSubject ptX4_readSubject := ⟨tkX4_readSubject, pkX4_readSubject hcl⟩
  unfold W_X4_readSubject at H
  refine xC.of hW (by decide) rfl (Nat.le_of_ble_eq_true rfl) ?_
  refine s_aload_n (nx := 1) hO rfl rfl rfl ?_
  obtain ⟨p1, ep1, kp1, H⟩ := H
  refine s_getf (v := .ref (q_b G + p1)) (nx := 4) hO rfl rfl (hs_o4 kc91) (congrArg some (rv_at ep1)) rfl ?_
  refine s_getf (v := .int (sI s p1 5)) (nx := 7) hO rfl rfl (hs_o3 kp1) rfl rfl ?_
  refine goV ((sI s p1 5)) (fun x2 ex2 => ?_)
  replace H := H x2 ex2
  refine e_istore_n (nx := 8) (l' := [(1, .int x2), (0, .ref (q_b G + 91))]) ex2 hO rfl (by decide) rfl rfl ?_
  refine s_aload_n (nx := 9) hO rfl rfl rfl ?_
  refine s_iconst (x := (nI 5)) (nx := 10) hO rfl (by decide) rfl ?_
  refine s_callV [.int (nI 5)] (ci := 4) (F := TX4) (N := 12) (nx := 13) hO rfl kX4_readSubject_78 (by rw [hcl]; rfl) (hs_o4 kc91) (w_X4_takeWord hG H) rfl rfl (Nat.le_of_ble_eq_true rfl) (Nat.zero_le _) (Nat.zero_le _) rfl (k_Qi (fun r3 s4 H => ?_))
  refine s_istore_n (nx := 14) (l' := [(2, .int r3), (1, .int x2), (0, .ref (q_b G + 91))]) hO rfl (by decide) rfl rfl ?_
  refine s_iload_n (nx := 15) hO rfl rfl rfl ?_
  refine goK (H (fun (s5 : yS) => xEx G mX4_readSubject 32 [(0, .ref (q_b G + 91)), (1, .int x2), (2, .int r3)] [] (hS G s5) z 0 0 (yQi G z Q)) (fun s5 H => ?_)) (fun H => ?_)
  · show xEx G mX4_readSubject 32 [(0, .ref (q_b G + 91)), (1, .int x2), (2, .int r3)] [] (hS G s5) z 0 0 (yQi G z Q)
    refine s_aload_n (nx := 33) hO rfl rfl rfl ?_
    refine s_getf (v := .ref (q_b G + 102)) (nx := 36) hO rfl rfl (hs_o4 kc91) rfl rfl ?_
    refine s_iload_n (nx := 37) hO rfl rfl rfl ?_
    refine s_aload_n (nx := 38) hO rfl rfl rfl ?_
    refine s_getf (v := .ref (q_b G + 92)) (nx := 41) hO rfl rfl (hs_o4 kc91) rfl rfl ?_
    refine s_getf (v := .ref (q_b G + 94)) (nx := 44) hO rfl rfl (hs_o8 kc92) rfl rfl ?_
    refine s_aload_n (nx := 45) hO rfl rfl rfl ?_
    refine s_getf (v := .int (sI s5 91 2)) (nx := 48) hO rfl rfl (hs_o4 kc91) rfl rfl ?_
    obtain ⟨b6, H⟩ := H
    refine s_iald (nx := 49) hO rfl (hs_I kc94) b6 rfl ?_
    obtain ⟨b7, H⟩ := H
    refine goV (wI s5 102 (ix x2) (sI s5 94 (ix (sI s5 91 2)))) (fun s8 es8 => ?_)
    replace H := H s8 es8
    refine s_iast (nx := 50) hO rfl (hs_I kc102) b7 rfl ?_
    refine xEx.at (up_I kc102 es8) ?_
    refine s_aload_n (nx := 51) hO rfl rfl rfl ?_
    refine s_getf (v := .ref (q_b G + 101)) (nx := 54) hO rfl rfl (hs_o4 kc91) rfl rfl ?_
    refine s_iload_n (nx := 55) hO rfl rfl rfl ?_
    refine s_aload_n (nx := 56) hO rfl rfl rfl ?_
    refine s_getf (v := .ref (q_b G + 92)) (nx := 59) hO rfl rfl (hs_o4 kc91) rfl rfl ?_
    refine s_getf (v := .ref (q_b G + 95)) (nx := 62) hO rfl rfl (hs_o8 kc92) rfl rfl ?_
    refine s_aload_n (nx := 63) hO rfl rfl rfl ?_
    refine s_getf (v := .int (sI s8 91 2)) (nx := 66) hO rfl rfl (hs_o4 kc91) rfl rfl ?_
    obtain ⟨b9, H⟩ := H
    refine s_lald (nx := 67) hO rfl (hs_J kc95) b9 rfl ?_
    obtain ⟨b10, H⟩ := H
    refine goV (wJ s8 101 (ix x2) (sJ s8 95 (ix (sI s8 91 2)))) (fun s11 es11 => ?_)
    replace H := H s11 es11
    refine s_last (nx := 68) hO rfl (hs_J kc101) b10 rfl ?_
    refine xEx.at (up_J kc101 es11) ?_
    refine s_iload_n (nx := 69) hO rfl rfl rfl ?_
    refine goK (H (fun (s12 : yS) => xEx G mX4_readSubject 92 [(0, .ref (q_b G + 91))] [] (hS G s12) z 0 0 (yQi G z Q)) (fun s12 H => ?_)) (fun H => ?_)
    · show xEx G mX4_readSubject 92 [(0, .ref (q_b G + 91))] [] (hS G s12) z 0 0 (yQi G z Q)
      refine s_aload_n (nx := 93) hO rfl rfl rfl ?_
      refine s_callV [] (ci := 4) (F := TX4) (N := 12) (nx := 96) hO rfl kX4_readSubject_71 (by rw [hcl]; rfl) (hs_o4 kc91) (w_X4_refuse hG H) rfl rfl (Nat.le_of_ble_eq_true rfl) (Nat.zero_le _) (Nat.zero_le _) rfl (k_Qi (fun r13 s14 H => ?_))
      obtain ⟨b15, H⟩ := H
      exact s_iret hO rfl rfl (zb_n b15) ⟨rfl, _, _, rfl, rfl, H⟩
    refine goK (H (fun (s16 : yS) => xEx G mX4_readSubject 97 [(0, .ref (q_b G + 91)), (1, .int x2), (2, .int r3)] [] (hS G s16) z 0 0 (yQi G z Q)) (fun s16 H => ?_)) (fun H => ?_)
    · show xEx G mX4_readSubject 97 [(0, .ref (q_b G + 91)), (1, .int x2), (2, .int r3)] [] (hS G s16) z 0 0 (yQi G z Q)
      refine s_aload_n (nx := 98) hO rfl rfl rfl ?_
      obtain ⟨p17, ep17, kp17, H⟩ := H
      refine s_getf (v := .ref (q_b G + p17)) (nx := 101) hO rfl rfl (hs_o4 kc91) (congrArg some (rv_at ep17)) rfl ?_
      refine s_getf (v := .ref (q_b G + (p17 + 6))) (nx := 104) hO rfl rfl (hs_o3 kp17) rfl rfl ?_
      refine s_iload_n (nx := 105) hO rfl rfl rfl ?_
      refine s_iload_n (nx := 106) hO rfl rfl rfl ?_
      refine s_if_eq (nx := 109) hO rfl rfl (fun c106 => ?_) (fun c106 => ?_)
      · replace H := H.1 c106
        refine s_iconst (x := (nI 3)) (nx := 117) hO rfl (by decide) rfl ?_
        obtain ⟨b18, H⟩ := H
        refine goV (wI s16 (p17 + 6) (ix x2) (nI 3)) (fun s19 es19 => ?_)
        replace H := H s19 es19
        refine s_iast (nx := 118) hO rfl (hs_I (kf3_12 kp17)) b18 rfl ?_
        refine xEx.at (up_I (kf3_12 kp17) es19) ?_
        refine s_iconst (x := 1) (nx := 119) hO rfl (by decide) rfl ?_
        exact s_iret hO rfl rfl rfl ⟨rfl, _, _, rfl, rfl, H⟩
      · replace H := H.2 c106
        refine s_aload_n (nx := 110) hO rfl rfl rfl ?_
        refine s_getf (v := .int (sI s16 91 3)) (nx := 113) hO rfl rfl (hs_o4 kc91) rfl rfl ?_
        refine s_goto hO rfl ?_
        obtain ⟨b20, H⟩ := H
        refine goV (wI s16 (p17 + 6) (ix x2) (sI s16 91 3)) (fun s21 es21 => ?_)
        replace H := H s21 es21
        refine s_iast (nx := 118) hO rfl (hs_I (kf3_12 kp17)) b20 rfl ?_
        refine xEx.at (up_I (kf3_12 kp17) es21) ?_
        refine s_iconst (x := 1) (nx := 119) hO rfl (by decide) rfl ?_
        exact s_iret hO rfl rfl rfl ⟨rfl, _, _, rfl, rfl, H⟩
    refine s_if_eq (nx := 72) hO rfl rfl (fun c69 => ?_) (fun c69 => ?_)
    · replace H := H.1 c69
      refine s_aload_n (nx := 85) hO rfl rfl rfl ?_
      refine s_iconst (x := (nI 5)) (nx := 86) hO rfl (by decide) rfl ?_
      refine s_callV [.int (nI 5)] (ci := 4) (F := TX4) (N := 12) (nx := 89) hO rfl kX4_readSubject_68 (by rw [hcl]; rfl) (hs_o4 kc91) (w_X4_take hG H) rfl rfl (Nat.le_of_ble_eq_true rfl) (Nat.zero_le _) (Nat.zero_le _) rfl (k_Qi (fun r22 s23 H => ?_))
      refine s_if_ne (nx := 92) hO rfl rfl (fun c89 => ?_) (fun c89 => ?_)
      · replace H := H.1 c89
        exact xEx.loc (x_sub1 (List.Mem.head _) (x_sub1 (List.Mem.tail _ (List.Mem.head _)) (x_sub1 (List.Mem.tail _ (List.Mem.tail _ (List.Mem.head _))) x_sub0))) H
      · replace H := H.2 c89
        exact xEx.loc (x_sub1 (List.Mem.head _) x_sub0) H
    · replace H := H.2 c69
      refine s_aload_n (nx := 73) hO rfl rfl rfl ?_
      refine s_iconst (x := 0) (nx := 74) hO rfl (by decide) rfl ?_
      refine s_iconst (x := (nI 2)) (nx := 75) hO rfl (by decide) rfl ?_
      refine s_callV [.int 0, .int (nI 2)] (ci := 4) (F := TX4) (N := 12) (nx := 78) hO rfl kX4_readSubject_107 (by rw [hcl]; rfl) (hs_o4 kc91) (w_X4_takeNumber hG H) rfl rfl (Nat.le_of_ble_eq_true rfl) (Nat.zero_le _) (Nat.zero_le _) rfl (k_Qi (fun r24 s25 H => ?_))
      refine s_if_ne (nx := 81) hO rfl rfl (fun c78 => ?_) (fun c78 => ?_)
      · replace H := H.1 c78
        exact xEx.loc (x_sub1 (List.Mem.head _) (x_sub1 (List.Mem.tail _ (List.Mem.head _)) (x_sub1 (List.Mem.tail _ (List.Mem.tail _ (List.Mem.head _))) x_sub0))) H
      · replace H := H.2 c78
        refine s_goto hO rfl ?_
        exact xEx.loc (x_sub1 (List.Mem.head _) x_sub0) H
  refine s_if_ne (nx := 18) hO rfl rfl (fun c15 => ?_) (fun c15 => ?_)
  · replace H := H.1 c15
    exact xEx.loc (x_sub1 (List.Mem.tail _ (List.Mem.tail _ (List.Mem.head _))) (x_sub1 (List.Mem.tail _ (List.Mem.head _)) (x_sub1 (List.Mem.head _) x_sub0))) H
  · replace H := H.2 c15
    refine s_aload_n (nx := 19) hO rfl rfl rfl ?_
    refine s_bipush (x := (nI 6)) (nx := 21) hO rfl (by decide) rfl ?_
    refine s_callV [.int (nI 6)] (ci := 4) (F := TX4) (N := 12) (nx := 24) hO rfl kX4_readSubject_78 (by rw [hcl]; rfl) (hs_o4 kc91) (w_X4_takeWord hG H) rfl rfl (Nat.le_of_ble_eq_true rfl) (Nat.zero_le _) (Nat.zero_le _) rfl (k_Qi (fun r26 s27 H => ?_))
    refine s_if_ne (nx := 27) hO rfl rfl (fun c24 => ?_) (fun c24 => ?_)
    · replace H := H.1 c24
      exact xEx.loc (x_sub1 (List.Mem.tail _ (List.Mem.tail _ (List.Mem.head _))) (x_sub1 (List.Mem.tail _ (List.Mem.head _)) (x_sub1 (List.Mem.head _) x_sub0))) H
    · replace H := H.2 c24
      refine s_aload_n (nx := 28) hO rfl rfl rfl ?_
      refine s_callV [] (ci := 4) (F := TX4) (N := 12) (nx := 31) hO rfl kX4_readSubject_71 (by rw [hcl]; rfl) (hs_o4 kc91) (w_X4_refuse hG H) rfl rfl (Nat.le_of_ble_eq_true rfl) (Nat.zero_le _) (Nat.zero_le _) rfl (k_Qi (fun r28 s29 H => ?_))
      obtain ⟨b30, H⟩ := H
      exact s_iret hO rfl rfl (zb_n b30) ⟨rfl, _, _, rfl, rfl, H⟩
def W_X4_readGuard (s : yS) (Q : Int32 → yS → Prop) : Prop :=
 ∀ P2 : Int32 → yS → Prop, (∀ (x1 : Int32) (s2 : yS), (∀ P38 : yS → Prop, (∀ (s3 : yS), (W_X4_readSubject s3 
   (fun r4 s5 => ((¬ r4 = 0 → ∃ p6 : Nat, sR s5 91 4 = p6 + 1 ∧ kd p6 = some (7, 0) ∧ 
    ∀ x7 : Int32, x7 = (sI s5 p6 5) → 
    W_X4_takeWord s5 (nI 9) 
    (fun r8 s9 => ∀ P82 : Int32 → yS → Prop, (∀ (y10 : Int32) (s11 : yS), (∀ P102 : yS → Prop, (∀ (s12 : yS), (W_X4_takeNumber s12 ((-2147483648)) ((2147483647)) 
      (fun r13 s14 => ((¬ r13 = 0 → ∃ p15 : Nat, sR s14 91 4 = p15 + 1 ∧ kd p15 = some (7, 0) ∧ 
       vp_in x7 864 ∧ ∀ s17 : yS, s17 = wI s14 (p15 + 7) (ix x7) y10 → 
       ∃ p18 : Nat, sR s17 91 4 = p18 + 1 ∧ kd p18 = some (7, 0) ∧ 
       vp_in x7 864 ∧ ∀ s20 : yS, s20 = wI s17 (p18 + 8) (ix x7) (sI s17 91 3) → 
       ∃ p21 : Nat, sR s20 91 4 = p21 + 1 ∧ kd p21 = some (7, 0) ∧ 
       ((¬ (x1 - x1 / (nI 2) * (nI 2)) = 1 → vp_in x7 864 ∧ ∀ s23 : yS, s23 = wI s20 (p21 + 9) (ix x7) (vp_nar .boolean 0) → 
        ∃ p24 : Nat, sR s23 91 4 = p24 + 1 ∧ kd p24 = some (7, 0) ∧ 
        ∀ s25 : yS, s25 = wI s23 p24 5 ((sI s23 p24 5) + 1) → 
        ∀ P178 : Int32 → yS → Prop, (∀ (x26 : Int32) (s27 : yS), (((x1 < x26 → Q 1 s27)
         ∧ (¬ x1 < x26 → W_X4_take s27 (nI 3) 
          (fun r28 s29 => ((¬ r28 = 0 → ∀ x30 : Int32, x30 = (x26 + 1) → 
           P178 x30 s29)
          ∧ (r28 = 0 → W_X4_refuse s29 
           (fun r31 s32 => zb r31 ∧ Q r31 s32))))))) → P178 x26 s27) → 
        P178 0 s25)
       ∧ ((x1 - x1 / (nI 2) * (nI 2)) = 1 → vp_in x7 864 ∧ ∀ s35 : yS, s35 = wI s20 (p21 + 9) (ix x7) (vp_nar .boolean 1) → 
        ∃ p36 : Nat, sR s35 91 4 = p36 + 1 ∧ kd p36 = some (7, 0) ∧ 
        ∀ s37 : yS, s37 = wI s35 p36 5 ((sI s35 p36 5) + 1) → 
        ∀ P178_40 : Int32 → yS → Prop, (∀ (x38 : Int32) (s39 : yS), (((x1 < x38 → Q 1 s39)
         ∧ (¬ x1 < x38 → W_X4_take s39 (nI 3) 
          (fun r41 s42 => ((¬ r41 = 0 → ∀ x43 : Int32, x43 = (x38 + 1) → 
           P178_40 x43 s42)
          ∧ (r41 = 0 → W_X4_refuse s42 
           (fun r44 s45 => zb r44 ∧ Q r44 s45))))))) → P178_40 x38 s39) → 
        P178_40 0 s37)))
      ∧ (r13 = 0 → W_X4_refuse s14 
       (fun r47 s48 => zb r47 ∧ Q r47 s48))))) → P102 s12) → 
     ((¬ y10 = (nI 2) → P102 s11)
     ∧ (y10 = (nI 2) → W_X4_takeWord s11 (nI 11) 
      (fun r50 s51 => ((¬ r50 = 0 → P102 s51)
      ∧ (r50 = 0 → W_X4_refuse s51 
       (fun r52 s53 => zb r52 ∧ Q r52 s53))))))) → P82 y10 s11) → 
    ((r8 = 0 → W_X4_takeWord s9 (nI 10) 
     (fun r55 s56 => ((r55 = 0 → P82 (nI 2) s56)
     ∧ (¬ r55 = 0 → P82 1 s56))))
    ∧ (¬ r8 = 0 → P82 0 s9))))
   ∧ (r4 = 0 → Q 0 s5)))) → P38 s3) → 
  (((sI s2 92 3) ≤ x1 → P38 s2)
  ∧ (¬ (sI s2 92 3) ≤ x1 → W_X4_takeWord s2 (nI 7) 
   (fun r57 s58 => ((r57 = 0 → P38 s58)
   ∧ (¬ r57 = 0 → ∀ x59 : Int32, x59 = (x1 + 1) → 
    W_X4_take s58 (nI 2) 
    (fun r60 s61 => ((¬ r60 = 0 → P2 x59 s61)
    ∧ (r60 = 0 → W_X4_refuse s61 
     (fun r62 s63 => zb r62 ∧ Q r62 s63)))))))))) → P2 x1 s2) → 
 P2 0 s
set_option maxRecDepth 100000 in
set_option maxHeartbeats 40000000 in
theorem w_X4_readGuard {G : xG} (hG : yG G) {z : Nat} {s : yS} {Q : Int32 → yS → Prop} (H : W_X4_readGuard s Q) : xC G mX4_readGuard [.ref (q_b G + 91)] (hS G s) z 0 0 (yQi G z Q) := by
  have hW := hG.1
  have hcl := hG.2.1
  have hty := hG.2.2.1
  have hO : xO G mX4_readGuard tbX4_readGuard ptX4_readGuard := ⟨tkX4_readGuard, pkX4_readGuard hcl⟩
  unfold W_X4_readGuard at H
  refine xC.of hW (by decide) rfl (Nat.le_of_ble_eq_true rfl) ?_
  refine s_iconst (x := 0) (nx := 1) hO rfl (by decide) rfl ?_
  refine goK (H (fun (x1 : Int32) (s2 : yS) => xEx G mX4_readGuard 2 [(0, .ref (q_b G + 91)), (1, .int x1)] [] (hS G s2) z 0 0 (yQi G z Q)) (fun x1 s2 H => ?_)) (fun H => ?_)
  · show xEx G mX4_readGuard 2 [(0, .ref (q_b G + 91)), (1, .int x1)] [] (hS G s2) z 0 0 (yQi G z Q)
    refine s_iload_n (nx := 3) hO rfl rfl rfl ?_
    refine s_aload_n (nx := 4) hO rfl rfl rfl ?_
    refine s_getf (v := .ref (q_b G + 92)) (nx := 7) hO rfl rfl (hs_o4 kc91) rfl rfl ?_
    refine s_getf (v := .int (sI s2 92 3)) (nx := 10) hO rfl rfl (hs_o8 kc92) rfl rfl ?_
    refine goK (H (fun (s3 : yS) => xEx G mX4_readGuard 38 [(0, .ref (q_b G + 91)), (1, .int x1)] [] (hS G s3) z 0 0 (yQi G z Q)) (fun s3 H => ?_)) (fun H => ?_)
    · show xEx G mX4_readGuard 38 [(0, .ref (q_b G + 91)), (1, .int x1)] [] (hS G s3) z 0 0 (yQi G z Q)
      refine s_aload_n (nx := 39) hO rfl rfl rfl ?_
      refine s_callV [] (ci := 4) (F := TX4) (N := 12) (nx := 42) hO rfl kX4_readGuard_146 (by rw [hcl]; rfl) (hs_o4 kc91) (w_X4_readSubject hG H) rfl rfl (Nat.le_of_ble_eq_true rfl) (Nat.zero_le _) (Nat.zero_le _) rfl (k_Qi (fun r4 s5 H => ?_))
      refine s_if_ne (nx := 45) hO rfl rfl (fun c42 => ?_) (fun c42 => ?_)
      · replace H := H.1 c42
        refine s_aload_n (nx := 48) hO rfl rfl rfl ?_
        obtain ⟨p6, ep6, kp6, H⟩ := H
        refine s_getf (v := .ref (q_b G + p6)) (nx := 51) hO rfl rfl (hs_o4 kc91) (congrArg some (rv_at ep6)) rfl ?_
        refine s_getf (v := .int (sI s5 p6 5)) (nx := 54) hO rfl rfl (hs_o3 kp6) rfl rfl ?_
        refine goV ((sI s5 p6 5)) (fun x7 ex7 => ?_)
        replace H := H x7 ex7
        refine e_istore_n (nx := 55) (l' := [(2, .int x7), (0, .ref (q_b G + 91)), (1, .int x1)]) ex7 hO rfl (by decide) rfl rfl ?_
        refine s_aload_n (nx := 56) hO rfl rfl rfl ?_
        refine s_bipush (x := (nI 9)) (nx := 58) hO rfl (by decide) rfl ?_
        refine s_callV [.int (nI 9)] (ci := 4) (F := TX4) (N := 12) (nx := 61) hO rfl kX4_readGuard_78 (by rw [hcl]; rfl) (hs_o4 kc91) (w_X4_takeWord hG H) rfl rfl (Nat.le_of_ble_eq_true rfl) (Nat.zero_le _) (Nat.zero_le _) rfl (k_Qi (fun r8 s9 H => ?_))
        refine goK (H (fun (y10 : Int32) (s11 : yS) => xEx G mX4_readGuard 82 [(0, .ref (q_b G + 91)), (1, .int x1), (2, .int x7)] [.int y10] (hS G s11) z 0 0 (yQi G z Q)) (fun y10 s11 H => ?_)) (fun H => ?_)
        · show xEx G mX4_readGuard 82 [(0, .ref (q_b G + 91)), (1, .int x1), (2, .int x7)] [.int y10] (hS G s11) z 0 0 (yQi G z Q)
          refine s_istore_n (nx := 83) (l' := [(3, .int y10), (0, .ref (q_b G + 91)), (1, .int x1), (2, .int x7)]) hO rfl (by decide) rfl rfl ?_
          refine s_iload_n (nx := 84) hO rfl rfl rfl ?_
          refine s_iconst (x := (nI 2)) (nx := 85) hO rfl (by decide) rfl ?_
          refine goK (H (fun (s12 : yS) => xEx G mX4_readGuard 102 [(0, .ref (q_b G + 91)), (1, .int x1), (2, .int x7), (3, .int y10)] [] (hS G s12) z 0 0 (yQi G z Q)) (fun s12 H => ?_)) (fun H => ?_)
          · show xEx G mX4_readGuard 102 [(0, .ref (q_b G + 91)), (1, .int x1), (2, .int x7), (3, .int y10)] [] (hS G s12) z 0 0 (yQi G z Q)
            refine s_aload_n (nx := 103) hO rfl rfl rfl ?_
            refine s_ldc (x := ((-2147483648))) (nx := 105) hO rfl rfl rfl ?_
            refine s_ldc (x := ((2147483647))) (nx := 107) hO rfl rfl rfl ?_
            refine s_callV [.int ((-2147483648)), .int ((2147483647))] (ci := 4) (F := TX4) (N := 12) (nx := 110) hO rfl kX4_readGuard_107 (by rw [hcl]; rfl) (hs_o4 kc91) (w_X4_takeNumber hG H) rfl rfl (Nat.le_of_ble_eq_true rfl) (Nat.zero_le _) (Nat.zero_le _) rfl (k_Qi (fun r13 s14 H => ?_))
            refine s_if_ne (nx := 113) hO rfl rfl (fun c110 => ?_) (fun c110 => ?_)
            · replace H := H.1 c110
              refine s_aload_n (nx := 119) hO rfl rfl rfl ?_
              obtain ⟨p15, ep15, kp15, H⟩ := H
              refine s_getf (v := .ref (q_b G + p15)) (nx := 122) hO rfl rfl (hs_o4 kc91) (congrArg some (rv_at ep15)) rfl ?_
              refine s_getf (v := .ref (q_b G + (p15 + 7))) (nx := 125) hO rfl rfl (hs_o3 kp15) rfl rfl ?_
              refine s_iload_n (nx := 126) hO rfl rfl rfl ?_
              refine s_iload_n (nx := 127) hO rfl rfl rfl ?_
              obtain ⟨b16, H⟩ := H
              refine goV (wI s14 (p15 + 7) (ix x7) y10) (fun s17 es17 => ?_)
              replace H := H s17 es17
              refine s_iast (nx := 128) hO rfl (hs_I (kf3_13 kp15)) b16 rfl ?_
              refine xEx.at (up_I (kf3_13 kp15) es17) ?_
              refine s_aload_n (nx := 129) hO rfl rfl rfl ?_
              obtain ⟨p18, ep18, kp18, H⟩ := H
              refine s_getf (v := .ref (q_b G + p18)) (nx := 132) hO rfl rfl (hs_o4 kc91) (congrArg some (rv_at ep18)) rfl ?_
              refine s_getf (v := .ref (q_b G + (p18 + 8))) (nx := 135) hO rfl rfl (hs_o3 kp18) rfl rfl ?_
              refine s_iload_n (nx := 136) hO rfl rfl rfl ?_
              refine s_aload_n (nx := 137) hO rfl rfl rfl ?_
              refine s_getf (v := .int (sI s17 91 3)) (nx := 140) hO rfl rfl (hs_o4 kc91) rfl rfl ?_
              obtain ⟨b19, H⟩ := H
              refine goV (wI s17 (p18 + 8) (ix x7) (sI s17 91 3)) (fun s20 es20 => ?_)
              replace H := H s20 es20
              refine s_iast (nx := 141) hO rfl (hs_I (kf3_14 kp18)) b19 rfl ?_
              refine xEx.at (up_I (kf3_14 kp18) es20) ?_
              refine s_aload_n (nx := 142) hO rfl rfl rfl ?_
              obtain ⟨p21, ep21, kp21, H⟩ := H
              refine s_getf (v := .ref (q_b G + p21)) (nx := 145) hO rfl rfl (hs_o4 kc91) (congrArg some (rv_at ep21)) rfl ?_
              refine s_getf (v := .ref (q_b G + (p21 + 9))) (nx := 148) hO rfl rfl (hs_o3 kp21) rfl rfl ?_
              refine s_iload_n (nx := 149) hO rfl rfl rfl ?_
              refine s_iload_n (nx := 150) hO rfl rfl rfl ?_
              refine s_iconst (x := (nI 2)) (nx := 151) hO rfl (by decide) rfl ?_
              refine s_irem (nx := 152) hO rfl (by decide) rfl ?_
              refine s_iconst (x := 1) (nx := 153) hO rfl (by decide) rfl ?_
              refine s_icmp_ne (nx := 156) hO rfl rfl (fun c153 => ?_) (fun c153 => ?_)
              · replace H := H.1 c153
                refine s_iconst (x := 0) (nx := 161) hO rfl (by decide) rfl ?_
                obtain ⟨b22, H⟩ := H
                refine goV (wI s20 (p21 + 9) (ix x7) (vp_nar .boolean 0)) (fun s23 es23 => ?_)
                replace H := H s23 es23
                refine s_zast (nx := 162) hO rfl (hs_Z (kf3_15 kp21)) b22 rfl ?_
                refine xEx.at (up_Z (kf3_15 kp21) es23) ?_
                refine s_aload_n (nx := 163) hO rfl rfl rfl ?_
                obtain ⟨p24, ep24, kp24, H⟩ := H
                refine s_getf (v := .ref (q_b G + p24)) (nx := 166) hO rfl rfl (hs_o4 kc91) (congrArg some (rv_at ep24)) rfl ?_
                refine s_dup (nx := 167) hO rfl rfl rfl ?_
                refine s_getf (v := .int (sI s23 p24 5)) (nx := 170) hO rfl rfl (hs_o3 kp24) rfl rfl ?_
                refine s_iconst (x := 1) (nx := 171) hO rfl (by decide) rfl ?_
                refine s_iadd (nx := 172) hO rfl rfl ?_
                refine goV (wI s23 p24 5 ((sI s23 p24 5) + 1)) (fun s25 es25 => ?_)
                replace H := H s25 es25
                refine s_putf (nx := 175) hO rfl rfl (hs_o3 kp24) (Nat.le_of_ble_eq_true rfl) (by rw [hty]; rfl) (by rw [hty]; rfl) pX3_5 rfl ?_
                refine xEx.at (up_oI3 kp24 es25) ?_
                refine s_iconst (x := 0) (nx := 176) hO rfl (by decide) rfl ?_
                refine goK (H (fun (x26 : Int32) (s27 : yS) => xEx G mX4_readGuard 178 [(0, .ref (q_b G + 91)), (1, .int x1), (4, .int x26)] [] (hS G s27) z 0 0 (yQi G z Q)) (fun x26 s27 H => ?_)) (fun H => ?_)
                · show xEx G mX4_readGuard 178 [(0, .ref (q_b G + 91)), (1, .int x1), (4, .int x26)] [] (hS G s27) z 0 0 (yQi G z Q)
                  refine s_iload (nx := 180) hO rfl rfl rfl ?_
                  refine s_iload_n (nx := 181) hO rfl rfl rfl ?_
                  refine s_icmp_gt (nx := 184) hO rfl rfl (fun c181 => ?_) (fun c181 => ?_)
                  · replace H := H.1 c181
                    refine s_iconst (x := 1) (nx := 204) hO rfl (by decide) rfl ?_
                    exact s_iret hO rfl rfl rfl ⟨rfl, _, _, rfl, rfl, H⟩
                  · replace H := H.2 c181
                    refine s_aload_n (nx := 185) hO rfl rfl rfl ?_
                    refine s_iconst (x := (nI 3)) (nx := 186) hO rfl (by decide) rfl ?_
                    refine s_callV [.int (nI 3)] (ci := 4) (F := TX4) (N := 12) (nx := 189) hO rfl kX4_readGuard_68 (by rw [hcl]; rfl) (hs_o4 kc91) (w_X4_take hG H) rfl rfl (Nat.le_of_ble_eq_true rfl) (Nat.zero_le _) (Nat.zero_le _) rfl (k_Qi (fun r28 s29 H => ?_))
                    refine s_if_ne (nx := 192) hO rfl rfl (fun c189 => ?_) (fun c189 => ?_)
                    · replace H := H.1 c189
                      refine goV ((x26 + 1)) (fun x30 ex30 => ?_)
                      replace H := H x30 ex30
                      refine e_iinc (nx := 200) (l' := [(4, .int x30), (0, .ref (q_b G + 91)), (1, .int x1)]) ex30 hO rfl (by decide) rfl rfl rfl rfl ?_
                      refine s_goto hO rfl ?_
                      exact xEx.loc (x_sub1 (List.Mem.tail _ (List.Mem.head _)) (x_sub1 (List.Mem.tail _ (List.Mem.tail _ (List.Mem.head _))) (x_sub1 (List.Mem.head _) x_sub0))) H
                    · replace H := H.2 c189
                      refine s_aload_n (nx := 193) hO rfl rfl rfl ?_
                      refine s_callV [] (ci := 4) (F := TX4) (N := 12) (nx := 196) hO rfl kX4_readGuard_71 (by rw [hcl]; rfl) (hs_o4 kc91) (w_X4_refuse hG H) rfl rfl (Nat.le_of_ble_eq_true rfl) (Nat.zero_le _) (Nat.zero_le _) rfl (k_Qi (fun r31 s32 H => ?_))
                      obtain ⟨b33, H⟩ := H
                      exact s_iret hO rfl rfl (zb_n b33) ⟨rfl, _, _, rfl, rfl, H⟩
                refine s_istore (nx := 178) (l' := [(4, .int 0), (0, .ref (q_b G + 91)), (1, .int x1), (2, .int x7), (3, .int y10)]) hO rfl (by decide) rfl rfl ?_
                exact xEx.loc (x_sub1 (List.Mem.tail _ (List.Mem.head _)) (x_sub1 (List.Mem.tail _ (List.Mem.tail _ (List.Mem.head _))) (x_sub1 (List.Mem.head _) x_sub0))) H
              · replace H := H.2 c153
                refine s_iconst (x := 1) (nx := 157) hO rfl (by decide) rfl ?_
                refine s_goto hO rfl ?_
                obtain ⟨b34, H⟩ := H
                refine goV (wI s20 (p21 + 9) (ix x7) (vp_nar .boolean 1)) (fun s35 es35 => ?_)
                replace H := H s35 es35
                refine s_zast (nx := 162) hO rfl (hs_Z (kf3_15 kp21)) b34 rfl ?_
                refine xEx.at (up_Z (kf3_15 kp21) es35) ?_
                refine s_aload_n (nx := 163) hO rfl rfl rfl ?_
                obtain ⟨p36, ep36, kp36, H⟩ := H
                refine s_getf (v := .ref (q_b G + p36)) (nx := 166) hO rfl rfl (hs_o4 kc91) (congrArg some (rv_at ep36)) rfl ?_
                refine s_dup (nx := 167) hO rfl rfl rfl ?_
                refine s_getf (v := .int (sI s35 p36 5)) (nx := 170) hO rfl rfl (hs_o3 kp36) rfl rfl ?_
                refine s_iconst (x := 1) (nx := 171) hO rfl (by decide) rfl ?_
                refine s_iadd (nx := 172) hO rfl rfl ?_
                refine goV (wI s35 p36 5 ((sI s35 p36 5) + 1)) (fun s37 es37 => ?_)
                replace H := H s37 es37
                refine s_putf (nx := 175) hO rfl rfl (hs_o3 kp36) (Nat.le_of_ble_eq_true rfl) (by rw [hty]; rfl) (by rw [hty]; rfl) pX3_5 rfl ?_
                refine xEx.at (up_oI3 kp36 es37) ?_
                refine s_iconst (x := 0) (nx := 176) hO rfl (by decide) rfl ?_
                refine goK (H (fun (x38 : Int32) (s39 : yS) => xEx G mX4_readGuard 178 [(0, .ref (q_b G + 91)), (1, .int x1), (4, .int x38)] [] (hS G s39) z 0 0 (yQi G z Q)) (fun x38 s39 H => ?_)) (fun H => ?_)
                · show xEx G mX4_readGuard 178 [(0, .ref (q_b G + 91)), (1, .int x1), (4, .int x38)] [] (hS G s39) z 0 0 (yQi G z Q)
                  refine s_iload (nx := 180) hO rfl rfl rfl ?_
                  refine s_iload_n (nx := 181) hO rfl rfl rfl ?_
                  refine s_icmp_gt (nx := 184) hO rfl rfl (fun c181 => ?_) (fun c181 => ?_)
                  · replace H := H.1 c181
                    refine s_iconst (x := 1) (nx := 204) hO rfl (by decide) rfl ?_
                    exact s_iret hO rfl rfl rfl ⟨rfl, _, _, rfl, rfl, H⟩
                  · replace H := H.2 c181
                    refine s_aload_n (nx := 185) hO rfl rfl rfl ?_
                    refine s_iconst (x := (nI 3)) (nx := 186) hO rfl (by decide) rfl ?_
                    refine s_callV [.int (nI 3)] (ci := 4) (F := TX4) (N := 12) (nx := 189) hO rfl kX4_readGuard_68 (by rw [hcl]; rfl) (hs_o4 kc91) (w_X4_take hG H) rfl rfl (Nat.le_of_ble_eq_true rfl) (Nat.zero_le _) (Nat.zero_le _) rfl (k_Qi (fun r41 s42 H => ?_))
                    refine s_if_ne (nx := 192) hO rfl rfl (fun c189 => ?_) (fun c189 => ?_)
                    · replace H := H.1 c189
                      refine goV ((x38 + 1)) (fun x43 ex43 => ?_)
                      replace H := H x43 ex43
                      refine e_iinc (nx := 200) (l' := [(4, .int x43), (0, .ref (q_b G + 91)), (1, .int x1)]) ex43 hO rfl (by decide) rfl rfl rfl rfl ?_
                      refine s_goto hO rfl ?_
                      exact xEx.loc (x_sub1 (List.Mem.tail _ (List.Mem.head _)) (x_sub1 (List.Mem.tail _ (List.Mem.tail _ (List.Mem.head _))) (x_sub1 (List.Mem.head _) x_sub0))) H
                    · replace H := H.2 c189
                      refine s_aload_n (nx := 193) hO rfl rfl rfl ?_
                      refine s_callV [] (ci := 4) (F := TX4) (N := 12) (nx := 196) hO rfl kX4_readGuard_71 (by rw [hcl]; rfl) (hs_o4 kc91) (w_X4_refuse hG H) rfl rfl (Nat.le_of_ble_eq_true rfl) (Nat.zero_le _) (Nat.zero_le _) rfl (k_Qi (fun r44 s45 H => ?_))
                      obtain ⟨b46, H⟩ := H
                      exact s_iret hO rfl rfl (zb_n b46) ⟨rfl, _, _, rfl, rfl, H⟩
                refine s_istore (nx := 178) (l' := [(4, .int 0), (0, .ref (q_b G + 91)), (1, .int x1), (2, .int x7), (3, .int y10)]) hO rfl (by decide) rfl rfl ?_
                exact xEx.loc (x_sub1 (List.Mem.tail _ (List.Mem.head _)) (x_sub1 (List.Mem.tail _ (List.Mem.tail _ (List.Mem.head _))) (x_sub1 (List.Mem.head _) x_sub0))) H
            · replace H := H.2 c110
              refine s_aload_n (nx := 114) hO rfl rfl rfl ?_
              refine s_callV [] (ci := 4) (F := TX4) (N := 12) (nx := 117) hO rfl kX4_readGuard_71 (by rw [hcl]; rfl) (hs_o4 kc91) (w_X4_refuse hG H) rfl rfl (Nat.le_of_ble_eq_true rfl) (Nat.zero_le _) (Nat.zero_le _) rfl (k_Qi (fun r47 s48 H => ?_))
              obtain ⟨b49, H⟩ := H
              exact s_iret hO rfl rfl (zb_n b49) ⟨rfl, _, _, rfl, rfl, H⟩
          refine s_icmp_ne (nx := 88) hO rfl rfl (fun c85 => ?_) (fun c85 => ?_)
          · replace H := H.1 c85
            exact xEx.loc (x_sub1 (List.Mem.tail _ (List.Mem.head _)) (x_sub1 (List.Mem.tail _ (List.Mem.tail _ (List.Mem.head _))) (x_sub1 (List.Mem.tail _ (List.Mem.tail _ (List.Mem.tail _ (List.Mem.head _)))) (x_sub1 (List.Mem.head _) x_sub0)))) H
          · replace H := H.2 c85
            refine s_aload_n (nx := 89) hO rfl rfl rfl ?_
            refine s_bipush (x := (nI 11)) (nx := 91) hO rfl (by decide) rfl ?_
            refine s_callV [.int (nI 11)] (ci := 4) (F := TX4) (N := 12) (nx := 94) hO rfl kX4_readGuard_78 (by rw [hcl]; rfl) (hs_o4 kc91) (w_X4_takeWord hG H) rfl rfl (Nat.le_of_ble_eq_true rfl) (Nat.zero_le _) (Nat.zero_le _) rfl (k_Qi (fun r50 s51 H => ?_))
            refine s_if_ne (nx := 97) hO rfl rfl (fun c94 => ?_) (fun c94 => ?_)
            · replace H := H.1 c94
              exact xEx.loc (x_sub1 (List.Mem.tail _ (List.Mem.head _)) (x_sub1 (List.Mem.tail _ (List.Mem.tail _ (List.Mem.head _))) (x_sub1 (List.Mem.tail _ (List.Mem.tail _ (List.Mem.tail _ (List.Mem.head _)))) (x_sub1 (List.Mem.head _) x_sub0)))) H
            · replace H := H.2 c94
              refine s_aload_n (nx := 98) hO rfl rfl rfl ?_
              refine s_callV [] (ci := 4) (F := TX4) (N := 12) (nx := 101) hO rfl kX4_readGuard_71 (by rw [hcl]; rfl) (hs_o4 kc91) (w_X4_refuse hG H) rfl rfl (Nat.le_of_ble_eq_true rfl) (Nat.zero_le _) (Nat.zero_le _) rfl (k_Qi (fun r52 s53 H => ?_))
              obtain ⟨b54, H⟩ := H
              exact s_iret hO rfl rfl (zb_n b54) ⟨rfl, _, _, rfl, rfl, H⟩
        refine s_if_eq (nx := 64) hO rfl rfl (fun c61 => ?_) (fun c61 => ?_)
        · replace H := H.1 c61
          refine s_aload_n (nx := 69) hO rfl rfl rfl ?_
          refine s_bipush (x := (nI 10)) (nx := 71) hO rfl (by decide) rfl ?_
          refine s_callV [.int (nI 10)] (ci := 4) (F := TX4) (N := 12) (nx := 74) hO rfl kX4_readGuard_78 (by rw [hcl]; rfl) (hs_o4 kc91) (w_X4_takeWord hG H) rfl rfl (Nat.le_of_ble_eq_true rfl) (Nat.zero_le _) (Nat.zero_le _) rfl (k_Qi (fun r55 s56 H => ?_))
          refine s_if_eq (nx := 77) hO rfl rfl (fun c74 => ?_) (fun c74 => ?_)
          · replace H := H.1 c74
            refine s_iconst (x := (nI 2)) (nx := 82) hO rfl (by decide) rfl ?_
            exact xEx.loc (x_sub1 (List.Mem.tail _ (List.Mem.head _)) (x_sub1 (List.Mem.tail _ (List.Mem.tail _ (List.Mem.head _))) (x_sub1 (List.Mem.head _) x_sub0))) H
          · replace H := H.2 c74
            refine s_iconst (x := 1) (nx := 78) hO rfl (by decide) rfl ?_
            refine s_goto hO rfl ?_
            exact xEx.loc (x_sub1 (List.Mem.tail _ (List.Mem.head _)) (x_sub1 (List.Mem.tail _ (List.Mem.tail _ (List.Mem.head _))) (x_sub1 (List.Mem.head _) x_sub0))) H
        · replace H := H.2 c61
          refine s_iconst (x := 0) (nx := 65) hO rfl (by decide) rfl ?_
          refine s_goto hO rfl ?_
          exact xEx.loc (x_sub1 (List.Mem.tail _ (List.Mem.head _)) (x_sub1 (List.Mem.tail _ (List.Mem.tail _ (List.Mem.head _))) (x_sub1 (List.Mem.head _) x_sub0))) H
      · replace H := H.2 c42
        refine s_iconst (x := 0) (nx := 46) hO rfl (by decide) rfl ?_
        exact s_iret hO rfl rfl rfl ⟨rfl, _, _, rfl, rfl, H⟩
    refine s_icmp_ge (nx := 13) hO rfl rfl (fun c10 => ?_) (fun c10 => ?_)
    · replace H := H.1 c10
      exact xEx.loc (x_sub1 (List.Mem.head _) (x_sub1 (List.Mem.tail _ (List.Mem.head _)) x_sub0)) H
    · replace H := H.2 c10
      refine s_aload_n (nx := 14) hO rfl rfl rfl ?_
      refine s_bipush (x := (nI 7)) (nx := 16) hO rfl (by decide) rfl ?_
      refine s_callV [.int (nI 7)] (ci := 4) (F := TX4) (N := 12) (nx := 19) hO rfl kX4_readGuard_78 (by rw [hcl]; rfl) (hs_o4 kc91) (w_X4_takeWord hG H) rfl rfl (Nat.le_of_ble_eq_true rfl) (Nat.zero_le _) (Nat.zero_le _) rfl (k_Qi (fun r57 s58 H => ?_))
      refine s_if_eq (nx := 22) hO rfl rfl (fun c19 => ?_) (fun c19 => ?_)
      · replace H := H.1 c19
        exact xEx.loc (x_sub1 (List.Mem.head _) (x_sub1 (List.Mem.tail _ (List.Mem.head _)) x_sub0)) H
      · replace H := H.2 c19
        refine goV ((x1 + 1)) (fun x59 ex59 => ?_)
        replace H := H x59 ex59
        refine e_iinc (nx := 25) (l' := [(1, .int x59), (0, .ref (q_b G + 91))]) ex59 hO rfl (by decide) rfl rfl rfl rfl ?_
        refine s_aload_n (nx := 26) hO rfl rfl rfl ?_
        refine s_iconst (x := (nI 2)) (nx := 27) hO rfl (by decide) rfl ?_
        refine s_callV [.int (nI 2)] (ci := 4) (F := TX4) (N := 12) (nx := 30) hO rfl kX4_readGuard_68 (by rw [hcl]; rfl) (hs_o4 kc91) (w_X4_take hG H) rfl rfl (Nat.le_of_ble_eq_true rfl) (Nat.zero_le _) (Nat.zero_le _) rfl (k_Qi (fun r60 s61 H => ?_))
        refine s_if_ne (nx := 33) hO rfl rfl (fun c30 => ?_) (fun c30 => ?_)
        · replace H := H.1 c30
          exact xEx.loc (x_sub1 (List.Mem.tail _ (List.Mem.head _)) (x_sub1 (List.Mem.head _) x_sub0)) H
        · replace H := H.2 c30
          refine s_aload_n (nx := 34) hO rfl rfl rfl ?_
          refine s_callV [] (ci := 4) (F := TX4) (N := 12) (nx := 37) hO rfl kX4_readGuard_71 (by rw [hcl]; rfl) (hs_o4 kc91) (w_X4_refuse hG H) rfl rfl (Nat.le_of_ble_eq_true rfl) (Nat.zero_le _) (Nat.zero_le _) rfl (k_Qi (fun r62 s63 H => ?_))
          obtain ⟨b64, H⟩ := H
          exact s_iret hO rfl rfl (zb_n b64) ⟨rfl, _, _, rfl, rfl, H⟩
  refine s_istore_n (nx := 2) (l' := [(1, .int 0), (0, .ref (q_b G + 91))]) hO rfl (by decide) rfl rfl ?_
  exact xEx.loc (x_sub1 (List.Mem.tail _ (List.Mem.head _)) (x_sub1 (List.Mem.head _) x_sub0)) H

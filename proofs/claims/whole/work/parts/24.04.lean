def W_X4_readClause (s : yS) (Q : Int32 → yS → Prop) : Prop :=
 W_X4_takeWord s (nI 8) 
 (fun r1 s2 => ∀ P26 : yS → Prop, (∀ (s3 : yS), (∃ p4 : Nat, sR s3 91 4 = p4 + 1 ∧ kd p4 = some (7, 0) ∧ 
  ∃ p5 : Nat, sR s3 91 4 = p5 + 1 ∧ kd p5 = some (7, 0) ∧ 
  ∀ P53 : Int32 → Prop, (∀ (y6 : Int32), (vp_in (sI s3 p5 4) 216 ∧ ∀ s8 : yS, s8 = wI s3 (p4 + 3) (ix (sI s3 p5 4)) y6 → 
   ∀ P56 : Int32 → yS → Prop, (∀ (x9 : Int32) (s10 : yS), (∀ P84 : yS → Prop, (∀ (s11 : yS), (∃ p12 : Nat, sR s11 91 4 = p12 + 1 ∧ kd p12 = some (7, 0) ∧ 
     ∀ s13 : yS, s13 = wI s11 p12 4 ((sI s11 p12 4) + 1) → 
     ∃ p14 : Nat, sR s13 91 4 = p14 + 1 ∧ kd p14 = some (7, 0) ∧ 
     ∃ p15 : Nat, sR s13 91 4 = p15 + 1 ∧ kd p15 = some (7, 0) ∧ 
     ∃ p16 : Nat, sR s13 91 4 = p16 + 1 ∧ kd p16 = some (7, 0) ∧ 
     vp_in (sI s13 p15 4) 217 ∧ ∀ s18 : yS, s18 = wI s13 (p14 + 5) (ix (sI s13 p15 4)) (sI s13 p16 5) → 
     Q 1 s18) → P84 s11) → 
    (((nI 4) ≤ x9 → P84 s10)
    ∧ (¬ (nI 4) ≤ x9 → W_X4_take s10 (nI 2) 
     (fun r19 s20 => ((r19 = 0 → P84 s20)
     ∧ (¬ r19 = 0 → W_X4_readGuard s20 
      (fun r21 s22 => ((¬ r21 = 0 → ∀ x23 : Int32, x23 = (x9 + 1) → 
       P56 x23 s22)
      ∧ (r21 = 0 → Q 0 s22))))))))) → P56 x9 s10) → 
   P56 0 s8) → P53 y6) → 
  ((r1 = 0 → P53 (sI s3 91 3))
  ∧ (¬ r1 = 0 → P53 (nI 16)))) → P26 s3) → 
 ((¬ r1 = 0 → P26 s2)
 ∧ (r1 = 0 → W_X4_takeNumber s2 0 (nI 15) 
  (fun r24 s25 => ((¬ r24 = 0 → P26 s25)
  ∧ (r24 = 0 → W_X4_refuse s25 
   (fun r26 s27 => zb r26 ∧ Q r26 s27)))))))
set_option maxRecDepth 100000 in
set_option maxHeartbeats 40000000 in
theorem w_X4_readClause {G : xG} (hG : yG G) {z : Nat} {s : yS} {Q : Int32 → yS → Prop} (H : W_X4_readClause s Q) : xC G mX4_readClause [.ref (q_b G + 91)] (hS G s) z 0 0 (yQi G z Q) := by
  have hW := hG.1
  have hcl := hG.2.1
  have hty := hG.2.2.1
  have hO : xO G mX4_readClause tbX4_readClause ptX4_readClause := ⟨tkX4_readClause, pkX4_readClause hcl⟩
  unfold W_X4_readClause at H
  refine xC.of hW (by decide) rfl (Nat.le_of_ble_eq_true rfl) ?_
  refine s_aload_n (nx := 1) hO rfl rfl rfl ?_
  refine s_bipush (x := (nI 8)) (nx := 3) hO rfl (by decide) rfl ?_
  refine s_callV [.int (nI 8)] (ci := 4) (F := TX4) (N := 12) (nx := 6) hO rfl kX4_readClause_78 (by rw [hcl]; rfl) (hs_o4 kc91) (w_X4_takeWord hG H) rfl rfl (Nat.le_of_ble_eq_true rfl) (Nat.zero_le _) (Nat.zero_le _) rfl (k_Qi (fun r1 s2 H => ?_))
  refine s_istore_n (nx := 7) (l' := [(1, .int r1), (0, .ref (q_b G + 91))]) hO rfl (by decide) rfl rfl ?_
  refine s_iload_n (nx := 8) hO rfl rfl rfl ?_
  refine goK (H (fun (s3 : yS) => xEx G mX4_readClause 26 [(0, .ref (q_b G + 91)), (1, .int r1)] [] (hS G s3) z 0 0 (yQi G z Q)) (fun s3 H => ?_)) (fun H => ?_)
  · show xEx G mX4_readClause 26 [(0, .ref (q_b G + 91)), (1, .int r1)] [] (hS G s3) z 0 0 (yQi G z Q)
    refine s_aload_n (nx := 27) hO rfl rfl rfl ?_
    obtain ⟨p4, ep4, kp4, H⟩ := H
    refine s_getf (v := .ref (q_b G + p4)) (nx := 30) hO rfl rfl (hs_o4 kc91) (congrArg some (rv_at ep4)) rfl ?_
    refine s_getf (v := .ref (q_b G + (p4 + 3))) (nx := 33) hO rfl rfl (hs_o3 kp4) rfl rfl ?_
    refine s_aload_n (nx := 34) hO rfl rfl rfl ?_
    obtain ⟨p5, ep5, kp5, H⟩ := H
    refine s_getf (v := .ref (q_b G + p5)) (nx := 37) hO rfl rfl (hs_o4 kc91) (congrArg some (rv_at ep5)) rfl ?_
    refine s_getf (v := .int (sI s3 p5 4)) (nx := 40) hO rfl rfl (hs_o3 kp5) rfl rfl ?_
    refine s_iload_n (nx := 41) hO rfl rfl rfl ?_
    refine goK (H (fun (y6 : Int32) => xEx G mX4_readClause 53 [(0, .ref (q_b G + 91))] [.int y6, .int (sI s3 p5 4), .ref (q_b G + (p4 + 3))] (hS G s3) z 0 0 (yQi G z Q)) (fun y6 H => ?_)) (fun H => ?_)
    · show xEx G mX4_readClause 53 [(0, .ref (q_b G + 91))] [.int y6, .int (sI s3 p5 4), .ref (q_b G + (p4 + 3))] (hS G s3) z 0 0 (yQi G z Q)
      obtain ⟨b7, H⟩ := H
      refine goV (wI s3 (p4 + 3) (ix (sI s3 p5 4)) y6) (fun s8 es8 => ?_)
      replace H := H s8 es8
      refine s_iast (nx := 54) hO rfl (hs_I (kf3_9 kp4)) b7 rfl ?_
      refine xEx.at (up_I (kf3_9 kp4) es8) ?_
      refine s_iconst (x := 0) (nx := 55) hO rfl (by decide) rfl ?_
      refine goK (H (fun (x9 : Int32) (s10 : yS) => xEx G mX4_readClause 56 [(0, .ref (q_b G + 91)), (2, .int x9)] [] (hS G s10) z 0 0 (yQi G z Q)) (fun x9 s10 H => ?_)) (fun H => ?_)
      · show xEx G mX4_readClause 56 [(0, .ref (q_b G + 91)), (2, .int x9)] [] (hS G s10) z 0 0 (yQi G z Q)
        refine s_iload_n (nx := 57) hO rfl rfl rfl ?_
        refine s_iconst (x := (nI 4)) (nx := 58) hO rfl (by decide) rfl ?_
        refine goK (H (fun (s11 : yS) => xEx G mX4_readClause 84 [(0, .ref (q_b G + 91))] [] (hS G s11) z 0 0 (yQi G z Q)) (fun s11 H => ?_)) (fun H => ?_)
        · show xEx G mX4_readClause 84 [(0, .ref (q_b G + 91))] [] (hS G s11) z 0 0 (yQi G z Q)
          refine s_aload_n (nx := 85) hO rfl rfl rfl ?_
          obtain ⟨p12, ep12, kp12, H⟩ := H
          refine s_getf (v := .ref (q_b G + p12)) (nx := 88) hO rfl rfl (hs_o4 kc91) (congrArg some (rv_at ep12)) rfl ?_
          refine s_dup (nx := 89) hO rfl rfl rfl ?_
          refine s_getf (v := .int (sI s11 p12 4)) (nx := 92) hO rfl rfl (hs_o3 kp12) rfl rfl ?_
          refine s_iconst (x := 1) (nx := 93) hO rfl (by decide) rfl ?_
          refine s_iadd (nx := 94) hO rfl rfl ?_
          refine goV (wI s11 p12 4 ((sI s11 p12 4) + 1)) (fun s13 es13 => ?_)
          replace H := H s13 es13
          refine s_putf (nx := 97) hO rfl rfl (hs_o3 kp12) (Nat.le_of_ble_eq_true rfl) (by rw [hty]; rfl) (by rw [hty]; rfl) pX3_4 rfl ?_
          refine xEx.at (up_oI3 kp12 es13) ?_
          refine s_aload_n (nx := 98) hO rfl rfl rfl ?_
          obtain ⟨p14, ep14, kp14, H⟩ := H
          refine s_getf (v := .ref (q_b G + p14)) (nx := 101) hO rfl rfl (hs_o4 kc91) (congrArg some (rv_at ep14)) rfl ?_
          refine s_getf (v := .ref (q_b G + (p14 + 5))) (nx := 104) hO rfl rfl (hs_o3 kp14) rfl rfl ?_
          refine s_aload_n (nx := 105) hO rfl rfl rfl ?_
          obtain ⟨p15, ep15, kp15, H⟩ := H
          refine s_getf (v := .ref (q_b G + p15)) (nx := 108) hO rfl rfl (hs_o4 kc91) (congrArg some (rv_at ep15)) rfl ?_
          refine s_getf (v := .int (sI s13 p15 4)) (nx := 111) hO rfl rfl (hs_o3 kp15) rfl rfl ?_
          refine s_aload_n (nx := 112) hO rfl rfl rfl ?_
          obtain ⟨p16, ep16, kp16, H⟩ := H
          refine s_getf (v := .ref (q_b G + p16)) (nx := 115) hO rfl rfl (hs_o4 kc91) (congrArg some (rv_at ep16)) rfl ?_
          refine s_getf (v := .int (sI s13 p16 5)) (nx := 118) hO rfl rfl (hs_o3 kp16) rfl rfl ?_
          obtain ⟨b17, H⟩ := H
          refine goV (wI s13 (p14 + 5) (ix (sI s13 p15 4)) (sI s13 p16 5)) (fun s18 es18 => ?_)
          replace H := H s18 es18
          refine s_iast (nx := 119) hO rfl (hs_I (kf3_11 kp14)) b17 rfl ?_
          refine xEx.at (up_I (kf3_11 kp14) es18) ?_
          refine s_iconst (x := 1) (nx := 120) hO rfl (by decide) rfl ?_
          exact s_iret hO rfl rfl rfl ⟨rfl, _, _, rfl, rfl, H⟩
        refine s_icmp_ge (nx := 61) hO rfl rfl (fun c58 => ?_) (fun c58 => ?_)
        · replace H := H.1 c58
          exact xEx.loc (x_sub1 (List.Mem.head _) x_sub0) H
        · replace H := H.2 c58
          refine s_aload_n (nx := 62) hO rfl rfl rfl ?_
          refine s_iconst (x := (nI 2)) (nx := 63) hO rfl (by decide) rfl ?_
          refine s_callV [.int (nI 2)] (ci := 4) (F := TX4) (N := 12) (nx := 66) hO rfl kX4_readClause_68 (by rw [hcl]; rfl) (hs_o4 kc91) (w_X4_take hG H) rfl rfl (Nat.le_of_ble_eq_true rfl) (Nat.zero_le _) (Nat.zero_le _) rfl (k_Qi (fun r19 s20 H => ?_))
          refine s_if_eq (nx := 69) hO rfl rfl (fun c66 => ?_) (fun c66 => ?_)
          · replace H := H.1 c66
            exact xEx.loc (x_sub1 (List.Mem.head _) x_sub0) H
          · replace H := H.2 c66
            refine s_aload_n (nx := 70) hO rfl rfl rfl ?_
            refine s_callV [] (ci := 4) (F := TX4) (N := 12) (nx := 73) hO rfl kX4_readClause_134 (by rw [hcl]; rfl) (hs_o4 kc91) (w_X4_readGuard hG H) rfl rfl (Nat.le_of_ble_eq_true rfl) (Nat.zero_le _) (Nat.zero_le _) rfl (k_Qi (fun r21 s22 H => ?_))
            refine s_if_ne (nx := 76) hO rfl rfl (fun c73 => ?_) (fun c73 => ?_)
            · replace H := H.1 c73
              refine goV ((x9 + 1)) (fun x23 ex23 => ?_)
              replace H := H x23 ex23
              refine e_iinc (nx := 81) (l' := [(2, .int x23), (0, .ref (q_b G + 91))]) ex23 hO rfl (by decide) rfl rfl rfl rfl ?_
              refine s_goto hO rfl ?_
              exact xEx.loc (x_sub1 (List.Mem.tail _ (List.Mem.head _)) (x_sub1 (List.Mem.head _) x_sub0)) H
            · replace H := H.2 c73
              refine s_iconst (x := 0) (nx := 77) hO rfl (by decide) rfl ?_
              exact s_iret hO rfl rfl rfl ⟨rfl, _, _, rfl, rfl, H⟩
      refine s_istore_n (nx := 56) (l' := [(2, .int 0), (0, .ref (q_b G + 91))]) hO rfl (by decide) rfl rfl ?_
      exact xEx.loc (x_sub1 (List.Mem.tail _ (List.Mem.head _)) (x_sub1 (List.Mem.head _) x_sub0)) H
    refine s_if_eq (nx := 44) hO rfl rfl (fun c41 => ?_) (fun c41 => ?_)
    · replace H := H.1 c41
      refine s_aload_n (nx := 50) hO rfl rfl rfl ?_
      refine s_getf (v := .int (sI s3 91 3)) (nx := 53) hO rfl rfl (hs_o4 kc91) rfl rfl ?_
      exact xEx.loc (x_sub1 (List.Mem.head _) x_sub0) H
    · replace H := H.2 c41
      refine s_bipush (x := (nI 16)) (nx := 46) hO rfl (by decide) rfl ?_
      refine s_goto hO rfl ?_
      exact xEx.loc (x_sub1 (List.Mem.head _) x_sub0) H
  refine s_if_ne (nx := 11) hO rfl rfl (fun c8 => ?_) (fun c8 => ?_)
  · replace H := H.1 c8
    exact xEx.loc (x_sub1 (List.Mem.tail _ (List.Mem.head _)) (x_sub1 (List.Mem.head _) x_sub0)) H
  · replace H := H.2 c8
    refine s_aload_n (nx := 12) hO rfl rfl rfl ?_
    refine s_iconst (x := 0) (nx := 13) hO rfl (by decide) rfl ?_
    refine s_bipush (x := (nI 15)) (nx := 15) hO rfl (by decide) rfl ?_
    refine s_callV [.int 0, .int (nI 15)] (ci := 4) (F := TX4) (N := 12) (nx := 18) hO rfl kX4_readClause_107 (by rw [hcl]; rfl) (hs_o4 kc91) (w_X4_takeNumber hG H) rfl rfl (Nat.le_of_ble_eq_true rfl) (Nat.zero_le _) (Nat.zero_le _) rfl (k_Qi (fun r24 s25 H => ?_))
    refine s_if_ne (nx := 21) hO rfl rfl (fun c18 => ?_) (fun c18 => ?_)
    · replace H := H.1 c18
      exact xEx.loc (x_sub1 (List.Mem.tail _ (List.Mem.head _)) (x_sub1 (List.Mem.head _) x_sub0)) H
    · replace H := H.2 c18
      refine s_aload_n (nx := 22) hO rfl rfl rfl ?_
      refine s_callV [] (ci := 4) (F := TX4) (N := 12) (nx := 25) hO rfl kX4_readClause_71 (by rw [hcl]; rfl) (hs_o4 kc91) (w_X4_refuse hG H) rfl rfl (Nat.le_of_ble_eq_true rfl) (Nat.zero_le _) (Nat.zero_le _) rfl (k_Qi (fun r26 s27 H => ?_))
      obtain ⟨b28, H⟩ := H
      exact s_iret hO rfl rfl (zb_n b28) ⟨rfl, _, _, rfl, rfl, H⟩
def W_X4_readWay (s : yS) (Q : Int32 → yS → Prop) : Prop :=
 W_X4_takeWord s (nI 4) 
 (fun r1 s2 => ((¬ r1 = 0 → ∃ p3 : Nat, sR s2 91 4 = p3 + 1 ∧ kd p3 = some (7, 0) ∧ 
  ∀ x4 : Int32, x4 = (sI s2 p3 4) → 
  W_X4_readClause s2 
  (fun r5 s6 => ((¬ r5 = 0 → vp_in (sI s6 91 2) 8193 ∧ 
   vp_in x4 216 ∧ ∀ s9 : yS, s9 = wJ s6 99 (ix x4) (sJ s6 95 (ix (sI s6 91 2))) → 
   vp_in (sI s9 91 2) 8193 ∧ 
   vp_in x4 216 ∧ ∀ s12 : yS, s12 = wI s9 100 (ix x4) (sI s9 94 (ix (sI s9 91 2))) → 
   W_X4_take s12 (nI 5) 
   (fun r13 s14 => ∀ P82 : yS → Prop, (∀ (s15 : yS), (W_X4_refuse s15 
    (fun r16 s17 => ((r16 = 0 → Q 0 s17)
    ∧ (¬ r16 = 0 → Q 1 s17)))) → P82 s15) → 
   ((r13 = 0 → P82 s14)
   ∧ (¬ r13 = 0 → W_X4_take s14 (nI 3) 
    (fun r18 s19 => ((¬ r18 = 0 → Q 1 s19)
    ∧ (r18 = 0 → P82 s19)))))))
  ∧ (r5 = 0 → Q 0 s6))))
 ∧ (r1 = 0 → W_X4_refuse s2 
  (fun r20 s21 => zb r20 ∧ Q r20 s21))))
set_option maxRecDepth 100000 in
set_option maxHeartbeats 40000000 in
theorem w_X4_readWay {G : xG} (hG : yG G) {z : Nat} {s : yS} {Q : Int32 → yS → Prop} (H : W_X4_readWay s Q) : xC G mX4_readWay [.ref (q_b G + 91)] (hS G s) z 0 0 (yQi G z Q) := by
  have hW := hG.1
  have hcl := hG.2.1
  have hty := hG.2.2.1
  have hO : xO G mX4_readWay tbX4_readWay ptX4_readWay := ⟨tkX4_readWay, pkX4_readWay hcl⟩
  unfold W_X4_readWay at H
  refine xC.of hW (by decide) rfl (Nat.le_of_ble_eq_true rfl) ?_
  refine s_aload_n (nx := 1) hO rfl rfl rfl ?_
  refine s_iconst (x := (nI 4)) (nx := 2) hO rfl (by decide) rfl ?_
  refine s_callV [.int (nI 4)] (ci := 4) (F := TX4) (N := 12) (nx := 5) hO rfl kX4_readWay_78 (by rw [hcl]; rfl) (hs_o4 kc91) (w_X4_takeWord hG H) rfl rfl (Nat.le_of_ble_eq_true rfl) (Nat.zero_le _) (Nat.zero_le _) rfl (k_Qi (fun r1 s2 H => ?_))
  refine s_if_ne (nx := 8) hO rfl rfl (fun c5 => ?_) (fun c5 => ?_)
  · replace H := H.1 c5
    refine s_aload_n (nx := 14) hO rfl rfl rfl ?_
    obtain ⟨p3, ep3, kp3, H⟩ := H
    refine s_getf (v := .ref (q_b G + p3)) (nx := 17) hO rfl rfl (hs_o4 kc91) (congrArg some (rv_at ep3)) rfl ?_
    refine s_getf (v := .int (sI s2 p3 4)) (nx := 20) hO rfl rfl (hs_o3 kp3) rfl rfl ?_
    refine goV ((sI s2 p3 4)) (fun x4 ex4 => ?_)
    replace H := H x4 ex4
    refine e_istore_n (nx := 21) (l' := [(1, .int x4), (0, .ref (q_b G + 91))]) ex4 hO rfl (by decide) rfl rfl ?_
    refine s_aload_n (nx := 22) hO rfl rfl rfl ?_
    refine s_callV [] (ci := 4) (F := TX4) (N := 12) (nx := 25) hO rfl kX4_readWay_128 (by rw [hcl]; rfl) (hs_o4 kc91) (w_X4_readClause hG H) rfl rfl (Nat.le_of_ble_eq_true rfl) (Nat.zero_le _) (Nat.zero_le _) rfl (k_Qi (fun r5 s6 H => ?_))
    refine s_if_ne (nx := 28) hO rfl rfl (fun c25 => ?_) (fun c25 => ?_)
    · replace H := H.1 c25
      refine s_aload_n (nx := 31) hO rfl rfl rfl ?_
      refine s_getf (v := .ref (q_b G + 99)) (nx := 34) hO rfl rfl (hs_o4 kc91) rfl rfl ?_
      refine s_iload_n (nx := 35) hO rfl rfl rfl ?_
      refine s_aload_n (nx := 36) hO rfl rfl rfl ?_
      refine s_getf (v := .ref (q_b G + 92)) (nx := 39) hO rfl rfl (hs_o4 kc91) rfl rfl ?_
      refine s_getf (v := .ref (q_b G + 95)) (nx := 42) hO rfl rfl (hs_o8 kc92) rfl rfl ?_
      refine s_aload_n (nx := 43) hO rfl rfl rfl ?_
      refine s_getf (v := .int (sI s6 91 2)) (nx := 46) hO rfl rfl (hs_o4 kc91) rfl rfl ?_
      obtain ⟨b7, H⟩ := H
      refine s_lald (nx := 47) hO rfl (hs_J kc95) b7 rfl ?_
      obtain ⟨b8, H⟩ := H
      refine goV (wJ s6 99 (ix x4) (sJ s6 95 (ix (sI s6 91 2)))) (fun s9 es9 => ?_)
      replace H := H s9 es9
      refine s_last (nx := 48) hO rfl (hs_J kc99) b8 rfl ?_
      refine xEx.at (up_J kc99 es9) ?_
      refine s_aload_n (nx := 49) hO rfl rfl rfl ?_
      refine s_getf (v := .ref (q_b G + 100)) (nx := 52) hO rfl rfl (hs_o4 kc91) rfl rfl ?_
      refine s_iload_n (nx := 53) hO rfl rfl rfl ?_
      refine s_aload_n (nx := 54) hO rfl rfl rfl ?_
      refine s_getf (v := .ref (q_b G + 92)) (nx := 57) hO rfl rfl (hs_o4 kc91) rfl rfl ?_
      refine s_getf (v := .ref (q_b G + 94)) (nx := 60) hO rfl rfl (hs_o8 kc92) rfl rfl ?_
      refine s_aload_n (nx := 61) hO rfl rfl rfl ?_
      refine s_getf (v := .int (sI s9 91 2)) (nx := 64) hO rfl rfl (hs_o4 kc91) rfl rfl ?_
      obtain ⟨b10, H⟩ := H
      refine s_iald (nx := 65) hO rfl (hs_I kc94) b10 rfl ?_
      obtain ⟨b11, H⟩ := H
      refine goV (wI s9 100 (ix x4) (sI s9 94 (ix (sI s9 91 2)))) (fun s12 es12 => ?_)
      replace H := H s12 es12
      refine s_iast (nx := 66) hO rfl (hs_I kc100) b11 rfl ?_
      refine xEx.at (up_I kc100 es12) ?_
      refine s_aload_n (nx := 67) hO rfl rfl rfl ?_
      refine s_iconst (x := (nI 5)) (nx := 68) hO rfl (by decide) rfl ?_
      refine s_callV [.int (nI 5)] (ci := 4) (F := TX4) (N := 12) (nx := 71) hO rfl kX4_readWay_68 (by rw [hcl]; rfl) (hs_o4 kc91) (w_X4_take hG H) rfl rfl (Nat.le_of_ble_eq_true rfl) (Nat.zero_le _) (Nat.zero_le _) rfl (k_Qi (fun r13 s14 H => ?_))
      refine goK (H (fun (s15 : yS) => xEx G mX4_readWay 82 [(0, .ref (q_b G + 91))] [] (hS G s15) z 0 0 (yQi G z Q)) (fun s15 H => ?_)) (fun H => ?_)
      · show xEx G mX4_readWay 82 [(0, .ref (q_b G + 91))] [] (hS G s15) z 0 0 (yQi G z Q)
        refine s_aload_n (nx := 83) hO rfl rfl rfl ?_
        refine s_callV [] (ci := 4) (F := TX4) (N := 12) (nx := 86) hO rfl kX4_readWay_71 (by rw [hcl]; rfl) (hs_o4 kc91) (w_X4_refuse hG H) rfl rfl (Nat.le_of_ble_eq_true rfl) (Nat.zero_le _) (Nat.zero_le _) rfl (k_Qi (fun r16 s17 H => ?_))
        refine s_if_eq (nx := 89) hO rfl rfl (fun c86 => ?_) (fun c86 => ?_)
        · replace H := H.1 c86
          refine s_iconst (x := 0) (nx := 94) hO rfl (by decide) rfl ?_
          exact s_iret hO rfl rfl rfl ⟨rfl, _, _, rfl, rfl, H⟩
        · replace H := H.2 c86
          refine s_iconst (x := 1) (nx := 90) hO rfl (by decide) rfl ?_
          refine s_goto hO rfl ?_
          exact s_iret hO rfl rfl rfl ⟨rfl, _, _, rfl, rfl, H⟩
      refine s_if_eq (nx := 74) hO rfl rfl (fun c71 => ?_) (fun c71 => ?_)
      · replace H := H.1 c71
        exact xEx.loc (x_sub1 (List.Mem.tail _ (List.Mem.head _)) x_sub0) H
      · replace H := H.2 c71
        refine s_aload_n (nx := 75) hO rfl rfl rfl ?_
        refine s_iconst (x := (nI 3)) (nx := 76) hO rfl (by decide) rfl ?_
        refine s_callV [.int (nI 3)] (ci := 4) (F := TX4) (N := 12) (nx := 79) hO rfl kX4_readWay_68 (by rw [hcl]; rfl) (hs_o4 kc91) (w_X4_take hG H) rfl rfl (Nat.le_of_ble_eq_true rfl) (Nat.zero_le _) (Nat.zero_le _) rfl (k_Qi (fun r18 s19 H => ?_))
        refine s_if_ne (nx := 82) hO rfl rfl (fun c79 => ?_) (fun c79 => ?_)
        · replace H := H.1 c79
          refine s_iconst (x := 1) (nx := 90) hO rfl (by decide) rfl ?_
          refine s_goto hO rfl ?_
          exact s_iret hO rfl rfl rfl ⟨rfl, _, _, rfl, rfl, H⟩
        · replace H := H.2 c79
          exact xEx.loc (x_sub1 (List.Mem.tail _ (List.Mem.head _)) x_sub0) H
    · replace H := H.2 c25
      refine s_iconst (x := 0) (nx := 29) hO rfl (by decide) rfl ?_
      exact s_iret hO rfl rfl rfl ⟨rfl, _, _, rfl, rfl, H⟩
  · replace H := H.2 c5
    refine s_aload_n (nx := 9) hO rfl rfl rfl ?_
    refine s_callV [] (ci := 4) (F := TX4) (N := 12) (nx := 12) hO rfl kX4_readWay_71 (by rw [hcl]; rfl) (hs_o4 kc91) (w_X4_refuse hG H) rfl rfl (Nat.le_of_ble_eq_true rfl) (Nat.zero_le _) (Nat.zero_le _) rfl (k_Qi (fun r20 s21 H => ?_))
    obtain ⟨b22, H⟩ := H
    exact s_iret hO rfl rfl (zb_n b22) ⟨rfl, _, _, rfl, rfl, H⟩
def W_X4_readNode (s : yS) (Q : Int32 → yS → Prop) : Prop :=
 ∃ p1 : Nat, sR s 91 4 = p1 + 1 ∧ kd p1 = some (7, 0) ∧ 
 ∀ x2 : Int32, x2 = (sI s p1 1) → 
 W_X4_takeNewName s 98 24 x2 
 (fun r3 s4 => ((¬ r3 = 0 → ∃ p5 : Nat, sR s4 91 4 = p5 + 1 ∧ kd p5 = some (7, 0) ∧ 
  ∃ p6 : Nat, sR s4 91 4 = p6 + 1 ∧ kd p6 = some (7, 0) ∧ 
  ∃ p7 : Nat, sR s4 91 4 = p7 + 1 ∧ kd p7 = some (7, 0) ∧ 
  vp_in ((sI s4 p6 0) + x2) 31 ∧ ∀ s9 : yS, s9 = wI s4 (p5 + 2) (ix ((sI s4 p6 0) + x2)) (sI s4 p7 4) → 
  ∃ p10 : Nat, sR s9 91 4 = p10 + 1 ∧ kd p10 = some (7, 0) ∧ 
  ∀ s11 : yS, s11 = wI s9 p10 1 ((sI s9 p10 1) + 1) → 
  ∀ P64 : Int32 → yS → Prop, (∀ (x12 : Int32) (s13 : yS), (∀ P93 : yS → Prop, (∀ (s14 : yS), (W_X4_take s14 (nI 3) 
    (fun r15 s16 => ((¬ r15 = 0 → Q 1 s16)
    ∧ (r15 = 0 → W_X4_refuse s16 
     (fun r17 s18 => ((r17 = 0 → Q 0 s18)
     ∧ (¬ r17 = 0 → Q 1 s18))))))) → P93 s14) → 
   (((nI 8) ≤ x12 → P93 s13)
   ∧ (¬ (nI 8) ≤ x12 → W_X4_take s13 (nI 2) 
    (fun r19 s20 => ((r19 = 0 → P93 s20)
    ∧ (¬ r19 = 0 → W_X4_readWay s20 
     (fun r21 s22 => ((¬ r21 = 0 → ∀ x23 : Int32, x23 = (x12 + 1) → 
      P64 x23 s22)
     ∧ (r21 = 0 → Q 0 s22))))))))) → P64 x12 s13) → 
  P64 0 s11)
 ∧ (r3 = 0 → W_X4_refuse s4 
  (fun r24 s25 => zb r24 ∧ Q r24 s25))))
set_option maxRecDepth 100000 in
set_option maxHeartbeats 40000000 in
theorem w_X4_readNode {G : xG} (hG : yG G) {z : Nat} {s : yS} {Q : Int32 → yS → Prop} (H : W_X4_readNode s Q) : xC G mX4_readNode [.ref (q_b G + 91)] (hS G s) z 0 0 (yQi G z Q) := by
  have hW := hG.1
  have hcl := hG.2.1
  have hty := hG.2.2.1
  have hO : xO G mX4_readNode tbX4_readNode ptX4_readNode := ⟨tkX4_readNode, pkX4_readNode hcl⟩
  unfold W_X4_readNode at H
  refine xC.of hW (by decide) rfl (Nat.le_of_ble_eq_true rfl) ?_
  refine s_aload_n (nx := 1) hO rfl rfl rfl ?_
  obtain ⟨p1, ep1, kp1, H⟩ := H
  refine s_getf (v := .ref (q_b G + p1)) (nx := 4) hO rfl rfl (hs_o4 kc91) (congrArg some (rv_at ep1)) rfl ?_
  refine s_getf (v := .int (sI s p1 1)) (nx := 7) hO rfl rfl (hs_o3 kp1) rfl rfl ?_
  refine goV ((sI s p1 1)) (fun x2 ex2 => ?_)
  replace H := H x2 ex2
  refine e_istore_n (nx := 8) (l' := [(1, .int x2), (0, .ref (q_b G + 91))]) ex2 hO rfl (by decide) rfl rfl ?_
  refine s_aload_n (nx := 9) hO rfl rfl rfl ?_
  refine s_aload_n (nx := 10) hO rfl rfl rfl ?_
  refine s_getf (v := .ref (q_b G + 98)) (nx := 13) hO rfl rfl (hs_o4 kc91) rfl rfl ?_
  refine s_iload_n (nx := 14) hO rfl rfl rfl ?_
  refine s_callV [.ref (q_b G + 98), .int x2] (ci := 4) (F := TX4) (N := 12) (nx := 17) hO rfl kX4_readNode_103 (by rw [hcl]; rfl) (hs_o4 kc91) (w_X4_takeNewName hG kc98 H) rfl rfl (Nat.le_of_ble_eq_true rfl) (Nat.zero_le _) (Nat.zero_le _) rfl (k_Qi (fun r3 s4 H => ?_))
  refine s_if_ne (nx := 20) hO rfl rfl (fun c17 => ?_) (fun c17 => ?_)
  · replace H := H.1 c17
    refine s_aload_n (nx := 26) hO rfl rfl rfl ?_
    obtain ⟨p5, ep5, kp5, H⟩ := H
    refine s_getf (v := .ref (q_b G + p5)) (nx := 29) hO rfl rfl (hs_o4 kc91) (congrArg some (rv_at ep5)) rfl ?_
    refine s_getf (v := .ref (q_b G + (p5 + 2))) (nx := 32) hO rfl rfl (hs_o3 kp5) rfl rfl ?_
    refine s_aload_n (nx := 33) hO rfl rfl rfl ?_
    obtain ⟨p6, ep6, kp6, H⟩ := H
    refine s_getf (v := .ref (q_b G + p6)) (nx := 36) hO rfl rfl (hs_o4 kc91) (congrArg some (rv_at ep6)) rfl ?_
    refine s_getf (v := .int (sI s4 p6 0)) (nx := 39) hO rfl rfl (hs_o3 kp6) rfl rfl ?_
    refine s_iload_n (nx := 40) hO rfl rfl rfl ?_
    refine s_iadd (nx := 41) hO rfl rfl ?_
    refine s_aload_n (nx := 42) hO rfl rfl rfl ?_
    obtain ⟨p7, ep7, kp7, H⟩ := H
    refine s_getf (v := .ref (q_b G + p7)) (nx := 45) hO rfl rfl (hs_o4 kc91) (congrArg some (rv_at ep7)) rfl ?_
    refine s_getf (v := .int (sI s4 p7 4)) (nx := 48) hO rfl rfl (hs_o3 kp7) rfl rfl ?_
    obtain ⟨b8, H⟩ := H
    refine goV (wI s4 (p5 + 2) (ix ((sI s4 p6 0) + x2)) (sI s4 p7 4)) (fun s9 es9 => ?_)
    replace H := H s9 es9
    refine s_iast (nx := 49) hO rfl (hs_I (kf3_8 kp5)) b8 rfl ?_
    refine xEx.at (up_I (kf3_8 kp5) es9) ?_
    refine s_aload_n (nx := 50) hO rfl rfl rfl ?_
    obtain ⟨p10, ep10, kp10, H⟩ := H
    refine s_getf (v := .ref (q_b G + p10)) (nx := 53) hO rfl rfl (hs_o4 kc91) (congrArg some (rv_at ep10)) rfl ?_
    refine s_dup (nx := 54) hO rfl rfl rfl ?_
    refine s_getf (v := .int (sI s9 p10 1)) (nx := 57) hO rfl rfl (hs_o3 kp10) rfl rfl ?_
    refine s_iconst (x := 1) (nx := 58) hO rfl (by decide) rfl ?_
    refine s_iadd (nx := 59) hO rfl rfl ?_
    refine goV (wI s9 p10 1 ((sI s9 p10 1) + 1)) (fun s11 es11 => ?_)
    replace H := H s11 es11
    refine s_putf (nx := 62) hO rfl rfl (hs_o3 kp10) (Nat.le_of_ble_eq_true rfl) (by rw [hty]; rfl) (by rw [hty]; rfl) pX3_1 rfl ?_
    refine xEx.at (up_oI3 kp10 es11) ?_
    refine s_iconst (x := 0) (nx := 63) hO rfl (by decide) rfl ?_
    refine goK (H (fun (x12 : Int32) (s13 : yS) => xEx G mX4_readNode 64 [(0, .ref (q_b G + 91)), (2, .int x12)] [] (hS G s13) z 0 0 (yQi G z Q)) (fun x12 s13 H => ?_)) (fun H => ?_)
    · show xEx G mX4_readNode 64 [(0, .ref (q_b G + 91)), (2, .int x12)] [] (hS G s13) z 0 0 (yQi G z Q)
      refine s_iload_n (nx := 65) hO rfl rfl rfl ?_
      refine s_bipush (x := (nI 8)) (nx := 67) hO rfl (by decide) rfl ?_
      refine goK (H (fun (s14 : yS) => xEx G mX4_readNode 93 [(0, .ref (q_b G + 91))] [] (hS G s14) z 0 0 (yQi G z Q)) (fun s14 H => ?_)) (fun H => ?_)
      · show xEx G mX4_readNode 93 [(0, .ref (q_b G + 91))] [] (hS G s14) z 0 0 (yQi G z Q)
        refine s_aload_n (nx := 94) hO rfl rfl rfl ?_
        refine s_iconst (x := (nI 3)) (nx := 95) hO rfl (by decide) rfl ?_
        refine s_callV [.int (nI 3)] (ci := 4) (F := TX4) (N := 12) (nx := 98) hO rfl kX4_readNode_68 (by rw [hcl]; rfl) (hs_o4 kc91) (w_X4_take hG H) rfl rfl (Nat.le_of_ble_eq_true rfl) (Nat.zero_le _) (Nat.zero_le _) rfl (k_Qi (fun r15 s16 H => ?_))
        refine s_if_ne (nx := 101) hO rfl rfl (fun c98 => ?_) (fun c98 => ?_)
        · replace H := H.1 c98
          refine s_iconst (x := 1) (nx := 109) hO rfl (by decide) rfl ?_
          refine s_goto hO rfl ?_
          exact s_iret hO rfl rfl rfl ⟨rfl, _, _, rfl, rfl, H⟩
        · replace H := H.2 c98
          refine s_aload_n (nx := 102) hO rfl rfl rfl ?_
          refine s_callV [] (ci := 4) (F := TX4) (N := 12) (nx := 105) hO rfl kX4_readNode_71 (by rw [hcl]; rfl) (hs_o4 kc91) (w_X4_refuse hG H) rfl rfl (Nat.le_of_ble_eq_true rfl) (Nat.zero_le _) (Nat.zero_le _) rfl (k_Qi (fun r17 s18 H => ?_))
          refine s_if_eq (nx := 108) hO rfl rfl (fun c105 => ?_) (fun c105 => ?_)
          · replace H := H.1 c105
            refine s_iconst (x := 0) (nx := 113) hO rfl (by decide) rfl ?_
            exact s_iret hO rfl rfl rfl ⟨rfl, _, _, rfl, rfl, H⟩
          · replace H := H.2 c105
            refine s_iconst (x := 1) (nx := 109) hO rfl (by decide) rfl ?_
            refine s_goto hO rfl ?_
            exact s_iret hO rfl rfl rfl ⟨rfl, _, _, rfl, rfl, H⟩
      refine s_icmp_ge (nx := 70) hO rfl rfl (fun c67 => ?_) (fun c67 => ?_)
      · replace H := H.1 c67
        exact xEx.loc (x_sub1 (List.Mem.head _) x_sub0) H
      · replace H := H.2 c67
        refine s_aload_n (nx := 71) hO rfl rfl rfl ?_
        refine s_iconst (x := (nI 2)) (nx := 72) hO rfl (by decide) rfl ?_
        refine s_callV [.int (nI 2)] (ci := 4) (F := TX4) (N := 12) (nx := 75) hO rfl kX4_readNode_68 (by rw [hcl]; rfl) (hs_o4 kc91) (w_X4_take hG H) rfl rfl (Nat.le_of_ble_eq_true rfl) (Nat.zero_le _) (Nat.zero_le _) rfl (k_Qi (fun r19 s20 H => ?_))
        refine s_if_eq (nx := 78) hO rfl rfl (fun c75 => ?_) (fun c75 => ?_)
        · replace H := H.1 c75
          exact xEx.loc (x_sub1 (List.Mem.head _) x_sub0) H
        · replace H := H.2 c75
          refine s_aload_n (nx := 79) hO rfl rfl rfl ?_
          refine s_callV [] (ci := 4) (F := TX4) (N := 12) (nx := 82) hO rfl kX4_readNode_122 (by rw [hcl]; rfl) (hs_o4 kc91) (w_X4_readWay hG H) rfl rfl (Nat.le_of_ble_eq_true rfl) (Nat.zero_le _) (Nat.zero_le _) rfl (k_Qi (fun r21 s22 H => ?_))
          refine s_if_ne (nx := 85) hO rfl rfl (fun c82 => ?_) (fun c82 => ?_)
          · replace H := H.1 c82
            refine goV ((x12 + 1)) (fun x23 ex23 => ?_)
            replace H := H x23 ex23
            refine e_iinc (nx := 90) (l' := [(2, .int x23), (0, .ref (q_b G + 91))]) ex23 hO rfl (by decide) rfl rfl rfl rfl ?_
            refine s_goto hO rfl ?_
            exact xEx.loc (x_sub1 (List.Mem.tail _ (List.Mem.head _)) (x_sub1 (List.Mem.head _) x_sub0)) H
          · replace H := H.2 c82
            refine s_iconst (x := 0) (nx := 86) hO rfl (by decide) rfl ?_
            exact s_iret hO rfl rfl rfl ⟨rfl, _, _, rfl, rfl, H⟩
    refine s_istore_n (nx := 64) (l' := [(2, .int 0), (1, .int x2), (0, .ref (q_b G + 91))]) hO rfl (by decide) rfl rfl ?_
    exact xEx.loc (x_sub1 (List.Mem.tail _ (List.Mem.tail _ (List.Mem.head _))) (x_sub1 (List.Mem.head _) x_sub0)) H
  · replace H := H.2 c17
    refine s_aload_n (nx := 21) hO rfl rfl rfl ?_
    refine s_callV [] (ci := 4) (F := TX4) (N := 12) (nx := 24) hO rfl kX4_readNode_71 (by rw [hcl]; rfl) (hs_o4 kc91) (w_X4_refuse hG H) rfl rfl (Nat.le_of_ble_eq_true rfl) (Nat.zero_le _) (Nat.zero_le _) rfl (k_Qi (fun r24 s25 H => ?_))
    obtain ⟨b26, H⟩ := H
    exact s_iret hO rfl rfl (zb_n b26) ⟨rfl, _, _, rfl, rfl, H⟩
def W_X4_readRule (s : yS) (Q : Int32 → yS → Prop) : Prop :=
 W_X4_takeWord s (nI 2) 
 (fun r1 s2 => ∀ P23 : yS → Prop, (∀ (s3 : yS), (∃ p4 : Nat, sR s3 91 4 = p4 + 1 ∧ kd p4 = some (7, 0) ∧ 
  ∃ p5 : Nat, sR s3 91 4 = p5 + 1 ∧ kd p5 = some (7, 0) ∧ 
  ∀ P46 : Int32 → Prop, (∀ (y6 : Int32), (vp_in (sI s3 p5 4) 216 ∧ ∀ s8 : yS, s8 = wI s3 (p4 + 4) (ix (sI s3 p5 4)) y6 → 
   W_X4_readClause s8 
   (fun r9 s10 => ((r9 = 0 → Q 0 s10)
   ∧ (¬ r9 = 0 → W_X4_take s10 (nI 3) 
    (fun r11 s12 => ((¬ r11 = 0 → Q 1 s12)
    ∧ (r11 = 0 → W_X4_refuse s12 
     (fun r13 s14 => ((r13 = 0 → Q 0 s14)
     ∧ (¬ r13 = 0 → Q 1 s14)))))))))) → P46 y6) → 
  ((r1 = 0 → P46 0)
  ∧ (¬ r1 = 0 → P46 1))) → P23 s3) → 
 ((¬ r1 = 0 → P23 s2)
 ∧ (r1 = 0 → W_X4_takeWord s2 (nI 3) 
  (fun r15 s16 => ((¬ r15 = 0 → P23 s16)
  ∧ (r15 = 0 → W_X4_refuse s16 
   (fun r17 s18 => zb r17 ∧ Q r17 s18)))))))
set_option maxRecDepth 100000 in
set_option maxHeartbeats 40000000 in
theorem w_X4_readRule {G : xG} (hG : yG G) {z : Nat} {s : yS} {Q : Int32 → yS → Prop} (H : W_X4_readRule s Q) : xC G mX4_readRule [.ref (q_b G + 91)] (hS G s) z 0 0 (yQi G z Q) := by
  have hW := hG.1
  have hcl := hG.2.1
  have hty := hG.2.2.1
  have hO : xO G mX4_readRule tbX4_readRule ptX4_readRule := ⟨tkX4_readRule, pkX4_readRule hcl⟩
  unfold W_X4_readRule at H
  refine xC.of hW (by decide) rfl (Nat.le_of_ble_eq_true rfl) ?_
  refine s_aload_n (nx := 1) hO rfl rfl rfl ?_
  refine s_iconst (x := (nI 2)) (nx := 2) hO rfl (by decide) rfl ?_
  refine s_callV [.int (nI 2)] (ci := 4) (F := TX4) (N := 12) (nx := 5) hO rfl kX4_readRule_78 (by rw [hcl]; rfl) (hs_o4 kc91) (w_X4_takeWord hG H) rfl rfl (Nat.le_of_ble_eq_true rfl) (Nat.zero_le _) (Nat.zero_le _) rfl (k_Qi (fun r1 s2 H => ?_))
  refine s_istore_n (nx := 6) (l' := [(1, .int r1), (0, .ref (q_b G + 91))]) hO rfl (by decide) rfl rfl ?_
  refine s_iload_n (nx := 7) hO rfl rfl rfl ?_
  refine goK (H (fun (s3 : yS) => xEx G mX4_readRule 23 [(0, .ref (q_b G + 91)), (1, .int r1)] [] (hS G s3) z 0 0 (yQi G z Q)) (fun s3 H => ?_)) (fun H => ?_)
  · show xEx G mX4_readRule 23 [(0, .ref (q_b G + 91)), (1, .int r1)] [] (hS G s3) z 0 0 (yQi G z Q)
    refine s_aload_n (nx := 24) hO rfl rfl rfl ?_
    obtain ⟨p4, ep4, kp4, H⟩ := H
    refine s_getf (v := .ref (q_b G + p4)) (nx := 27) hO rfl rfl (hs_o4 kc91) (congrArg some (rv_at ep4)) rfl ?_
    refine s_getf (v := .ref (q_b G + (p4 + 4))) (nx := 30) hO rfl rfl (hs_o3 kp4) rfl rfl ?_
    refine s_aload_n (nx := 31) hO rfl rfl rfl ?_
    obtain ⟨p5, ep5, kp5, H⟩ := H
    refine s_getf (v := .ref (q_b G + p5)) (nx := 34) hO rfl rfl (hs_o4 kc91) (congrArg some (rv_at ep5)) rfl ?_
    refine s_getf (v := .int (sI s3 p5 4)) (nx := 37) hO rfl rfl (hs_o3 kp5) rfl rfl ?_
    refine s_iload_n (nx := 38) hO rfl rfl rfl ?_
    refine goK (H (fun (y6 : Int32) => xEx G mX4_readRule 46 [(0, .ref (q_b G + 91))] [.int y6, .int (sI s3 p5 4), .ref (q_b G + (p4 + 4))] (hS G s3) z 0 0 (yQi G z Q)) (fun y6 H => ?_)) (fun H => ?_)
    · show xEx G mX4_readRule 46 [(0, .ref (q_b G + 91))] [.int y6, .int (sI s3 p5 4), .ref (q_b G + (p4 + 4))] (hS G s3) z 0 0 (yQi G z Q)
      obtain ⟨b7, H⟩ := H
      refine goV (wI s3 (p4 + 4) (ix (sI s3 p5 4)) y6) (fun s8 es8 => ?_)
      replace H := H s8 es8
      refine s_iast (nx := 47) hO rfl (hs_I (kf3_10 kp4)) b7 rfl ?_
      refine xEx.at (up_I (kf3_10 kp4) es8) ?_
      refine s_aload_n (nx := 48) hO rfl rfl rfl ?_
      refine s_callV [] (ci := 4) (F := TX4) (N := 12) (nx := 51) hO rfl kX4_readRule_128 (by rw [hcl]; rfl) (hs_o4 kc91) (w_X4_readClause hG H) rfl rfl (Nat.le_of_ble_eq_true rfl) (Nat.zero_le _) (Nat.zero_le _) rfl (k_Qi (fun r9 s10 H => ?_))
      refine s_if_eq (nx := 54) hO rfl rfl (fun c51 => ?_) (fun c51 => ?_)
      · replace H := H.1 c51
        refine s_iconst (x := 0) (nx := 74) hO rfl (by decide) rfl ?_
        exact s_iret hO rfl rfl rfl ⟨rfl, _, _, rfl, rfl, H⟩
      · replace H := H.2 c51
        refine s_aload_n (nx := 55) hO rfl rfl rfl ?_
        refine s_iconst (x := (nI 3)) (nx := 56) hO rfl (by decide) rfl ?_
        refine s_callV [.int (nI 3)] (ci := 4) (F := TX4) (N := 12) (nx := 59) hO rfl kX4_readRule_68 (by rw [hcl]; rfl) (hs_o4 kc91) (w_X4_take hG H) rfl rfl (Nat.le_of_ble_eq_true rfl) (Nat.zero_le _) (Nat.zero_le _) rfl (k_Qi (fun r11 s12 H => ?_))
        refine s_if_ne (nx := 62) hO rfl rfl (fun c59 => ?_) (fun c59 => ?_)
        · replace H := H.1 c59
          refine s_iconst (x := 1) (nx := 70) hO rfl (by decide) rfl ?_
          refine s_goto hO rfl ?_
          exact s_iret hO rfl rfl rfl ⟨rfl, _, _, rfl, rfl, H⟩
        · replace H := H.2 c59
          refine s_aload_n (nx := 63) hO rfl rfl rfl ?_
          refine s_callV [] (ci := 4) (F := TX4) (N := 12) (nx := 66) hO rfl kX4_readRule_71 (by rw [hcl]; rfl) (hs_o4 kc91) (w_X4_refuse hG H) rfl rfl (Nat.le_of_ble_eq_true rfl) (Nat.zero_le _) (Nat.zero_le _) rfl (k_Qi (fun r13 s14 H => ?_))
          refine s_if_eq (nx := 69) hO rfl rfl (fun c66 => ?_) (fun c66 => ?_)
          · replace H := H.1 c66
            refine s_iconst (x := 0) (nx := 74) hO rfl (by decide) rfl ?_
            exact s_iret hO rfl rfl rfl ⟨rfl, _, _, rfl, rfl, H⟩
          · replace H := H.2 c66
            refine s_iconst (x := 1) (nx := 70) hO rfl (by decide) rfl ?_
            refine s_goto hO rfl ?_
            exact s_iret hO rfl rfl rfl ⟨rfl, _, _, rfl, rfl, H⟩
    refine s_if_eq (nx := 41) hO rfl rfl (fun c38 => ?_) (fun c38 => ?_)
    · replace H := H.1 c38
      refine s_iconst (x := 0) (nx := 46) hO rfl (by decide) rfl ?_
      exact xEx.loc (x_sub1 (List.Mem.head _) x_sub0) H
    · replace H := H.2 c38
      refine s_iconst (x := 1) (nx := 42) hO rfl (by decide) rfl ?_
      refine s_goto hO rfl ?_
      exact xEx.loc (x_sub1 (List.Mem.head _) x_sub0) H
  refine s_if_ne (nx := 10) hO rfl rfl (fun c7 => ?_) (fun c7 => ?_)
  · replace H := H.1 c7
    exact xEx.loc (x_sub1 (List.Mem.tail _ (List.Mem.head _)) (x_sub1 (List.Mem.head _) x_sub0)) H
  · replace H := H.2 c7
    refine s_aload_n (nx := 11) hO rfl rfl rfl ?_
    refine s_iconst (x := (nI 3)) (nx := 12) hO rfl (by decide) rfl ?_
    refine s_callV [.int (nI 3)] (ci := 4) (F := TX4) (N := 12) (nx := 15) hO rfl kX4_readRule_78 (by rw [hcl]; rfl) (hs_o4 kc91) (w_X4_takeWord hG H) rfl rfl (Nat.le_of_ble_eq_true rfl) (Nat.zero_le _) (Nat.zero_le _) rfl (k_Qi (fun r15 s16 H => ?_))
    refine s_if_ne (nx := 18) hO rfl rfl (fun c15 => ?_) (fun c15 => ?_)
    · replace H := H.1 c15
      exact xEx.loc (x_sub1 (List.Mem.tail _ (List.Mem.head _)) (x_sub1 (List.Mem.head _) x_sub0)) H
    · replace H := H.2 c15
      refine s_aload_n (nx := 19) hO rfl rfl rfl ?_
      refine s_callV [] (ci := 4) (F := TX4) (N := 12) (nx := 22) hO rfl kX4_readRule_71 (by rw [hcl]; rfl) (hs_o4 kc91) (w_X4_refuse hG H) rfl rfl (Nat.le_of_ble_eq_true rfl) (Nat.zero_le _) (Nat.zero_le _) rfl (k_Qi (fun r17 s18 H => ?_))
      obtain ⟨b19, H⟩ := H
      exact s_iret hO rfl rfl (zb_n b19) ⟨rfl, _, _, rfl, rfl, H⟩
def W_X4_readCounter (s : yS) (Q : Int32 → yS → Prop) : Prop :=
 ∃ p1 : Nat, sR s 91 4 = p1 + 1 ∧ kd p1 = some (7, 0) ∧ 
 ∀ x2 : Int32, x2 = (sI s p1 0) → 
 W_X4_takeNewName s 97 6 x2 
 (fun r3 s4 => ∀ P30 : yS → Prop, (∀ (s5 : yS), (W_X4_refuse s5 
  (fun r6 s7 => zb r6 ∧ Q r6 s7)) → P30 s5) → 
 ((r3 = 0 → P30 s4)
 ∧ (¬ r3 = 0 → W_X4_takeNumber s4 1 (nI 15) 
  (fun r9 s10 => ((¬ r9 = 0 → ∃ p11 : Nat, sR s10 91 4 = p11 + 1 ∧ kd p11 = some (7, 0) ∧ 
   vp_in x2 6 ∧ ∀ s13 : yS, s13 = wI s10 (p11 + 1) (ix x2) (sI s10 91 3) → 
   ∃ p14 : Nat, sR s13 91 4 = p14 + 1 ∧ kd p14 = some (7, 0) ∧ 
   ∃ p15 : Nat, sR s13 91 4 = p15 + 1 ∧ kd p15 = some (7, 0) ∧ 
   vp_in x2 31 ∧ ∀ s17 : yS, s17 = wI s13 (p14 + 2) (ix x2) (sI s13 p15 4) → 
   ∃ p18 : Nat, sR s17 91 4 = p18 + 1 ∧ kd p18 = some (7, 0) ∧ 
   ∀ s19 : yS, s19 = wI s17 p18 0 ((sI s17 p18 0) + 1) → 
   ∀ P79 : Int32 → yS → Prop, (∀ (x20 : Int32) (s21 : yS), (∀ P107 : yS → Prop, (∀ (s22 : yS), (W_X4_take s22 (nI 3) 
     (fun r23 s24 => ((¬ r23 = 0 → Q 1 s24)
     ∧ (r23 = 0 → W_X4_refuse s24 
      (fun r25 s26 => ((r25 = 0 → Q 0 s26)
      ∧ (¬ r25 = 0 → Q 1 s26))))))) → P107 s22) → 
    (((nI 4) ≤ x20 → P107 s21)
    ∧ (¬ (nI 4) ≤ x20 → W_X4_take s21 (nI 2) 
     (fun r27 s28 => ((r27 = 0 → P107 s28)
     ∧ (¬ r27 = 0 → W_X4_readRule s28 
      (fun r29 s30 => ((¬ r29 = 0 → ∀ x31 : Int32, x31 = (x20 + 1) → 
       P79 x31 s30)
      ∧ (r29 = 0 → Q 0 s30))))))))) → P79 x20 s21) → 
   P79 0 s19)
  ∧ (r9 = 0 → P30 s10))))))
set_option maxRecDepth 100000 in
set_option maxHeartbeats 40000000 in
theorem w_X4_readCounter {G : xG} (hG : yG G) {z : Nat} {s : yS} {Q : Int32 → yS → Prop} (H : W_X4_readCounter s Q) : xC G mX4_readCounter [.ref (q_b G + 91)] (hS G s) z 0 0 (yQi G z Q) := by
  have hW := hG.1
  have hcl := hG.2.1
  have hty := hG.2.2.1
  have hO : xO G mX4_readCounter tbX4_readCounter ptX4_readCounter := ⟨tkX4_readCounter, pkX4_readCounter hcl⟩
  unfold W_X4_readCounter at H
  refine xC.of hW (by decide) rfl (Nat.le_of_ble_eq_true rfl) ?_
  refine s_aload_n (nx := 1) hO rfl rfl rfl ?_
  obtain ⟨p1, ep1, kp1, H⟩ := H
  refine s_getf (v := .ref (q_b G + p1)) (nx := 4) hO rfl rfl (hs_o4 kc91) (congrArg some (rv_at ep1)) rfl ?_
  refine s_getf (v := .int (sI s p1 0)) (nx := 7) hO rfl rfl (hs_o3 kp1) rfl rfl ?_
  refine goV ((sI s p1 0)) (fun x2 ex2 => ?_)
  replace H := H x2 ex2
  refine e_istore_n (nx := 8) (l' := [(1, .int x2), (0, .ref (q_b G + 91))]) ex2 hO rfl (by decide) rfl rfl ?_
  refine s_aload_n (nx := 9) hO rfl rfl rfl ?_
  refine s_aload_n (nx := 10) hO rfl rfl rfl ?_
  refine s_getf (v := .ref (q_b G + 97)) (nx := 13) hO rfl rfl (hs_o4 kc91) rfl rfl ?_
  refine s_iload_n (nx := 14) hO rfl rfl rfl ?_
  refine s_callV [.ref (q_b G + 97), .int x2] (ci := 4) (F := TX4) (N := 12) (nx := 17) hO rfl kX4_readCounter_103 (by rw [hcl]; rfl) (hs_o4 kc91) (w_X4_takeNewName hG kc97 H) rfl rfl (Nat.le_of_ble_eq_true rfl) (Nat.zero_le _) (Nat.zero_le _) rfl (k_Qi (fun r3 s4 H => ?_))
  refine goK (H (fun (s5 : yS) => xEx G mX4_readCounter 30 [(0, .ref (q_b G + 91))] [] (hS G s5) z 0 0 (yQi G z Q)) (fun s5 H => ?_)) (fun H => ?_)
  · show xEx G mX4_readCounter 30 [(0, .ref (q_b G + 91))] [] (hS G s5) z 0 0 (yQi G z Q)
    refine s_aload_n (nx := 31) hO rfl rfl rfl ?_
    refine s_callV [] (ci := 4) (F := TX4) (N := 12) (nx := 34) hO rfl kX4_readCounter_71 (by rw [hcl]; rfl) (hs_o4 kc91) (w_X4_refuse hG H) rfl rfl (Nat.le_of_ble_eq_true rfl) (Nat.zero_le _) (Nat.zero_le _) rfl (k_Qi (fun r6 s7 H => ?_))
    obtain ⟨b8, H⟩ := H
    exact s_iret hO rfl rfl (zb_n b8) ⟨rfl, _, _, rfl, rfl, H⟩
  refine s_if_eq (nx := 20) hO rfl rfl (fun c17 => ?_) (fun c17 => ?_)
  · replace H := H.1 c17
    exact xEx.loc (x_sub1 (List.Mem.tail _ (List.Mem.head _)) x_sub0) H
  · replace H := H.2 c17
    refine s_aload_n (nx := 21) hO rfl rfl rfl ?_
    refine s_iconst (x := 1) (nx := 22) hO rfl (by decide) rfl ?_
    refine s_bipush (x := (nI 15)) (nx := 24) hO rfl (by decide) rfl ?_
    refine s_callV [.int 1, .int (nI 15)] (ci := 4) (F := TX4) (N := 12) (nx := 27) hO rfl kX4_readCounter_107 (by rw [hcl]; rfl) (hs_o4 kc91) (w_X4_takeNumber hG H) rfl rfl (Nat.le_of_ble_eq_true rfl) (Nat.zero_le _) (Nat.zero_le _) rfl (k_Qi (fun r9 s10 H => ?_))
    refine s_if_ne (nx := 30) hO rfl rfl (fun c27 => ?_) (fun c27 => ?_)
    · replace H := H.1 c27
      refine s_aload_n (nx := 36) hO rfl rfl rfl ?_
      obtain ⟨p11, ep11, kp11, H⟩ := H
      refine s_getf (v := .ref (q_b G + p11)) (nx := 39) hO rfl rfl (hs_o4 kc91) (congrArg some (rv_at ep11)) rfl ?_
      refine s_getf (v := .ref (q_b G + (p11 + 1))) (nx := 42) hO rfl rfl (hs_o3 kp11) rfl rfl ?_
      refine s_iload_n (nx := 43) hO rfl rfl rfl ?_
      refine s_aload_n (nx := 44) hO rfl rfl rfl ?_
      refine s_getf (v := .int (sI s10 91 3)) (nx := 47) hO rfl rfl (hs_o4 kc91) rfl rfl ?_
      obtain ⟨b12, H⟩ := H
      refine goV (wI s10 (p11 + 1) (ix x2) (sI s10 91 3)) (fun s13 es13 => ?_)
      replace H := H s13 es13
      refine s_iast (nx := 48) hO rfl (hs_I (kf3_7 kp11)) b12 rfl ?_
      refine xEx.at (up_I (kf3_7 kp11) es13) ?_
      refine s_aload_n (nx := 49) hO rfl rfl rfl ?_
      obtain ⟨p14, ep14, kp14, H⟩ := H
      refine s_getf (v := .ref (q_b G + p14)) (nx := 52) hO rfl rfl (hs_o4 kc91) (congrArg some (rv_at ep14)) rfl ?_
      refine s_getf (v := .ref (q_b G + (p14 + 2))) (nx := 55) hO rfl rfl (hs_o3 kp14) rfl rfl ?_
      refine s_iload_n (nx := 56) hO rfl rfl rfl ?_
      refine s_aload_n (nx := 57) hO rfl rfl rfl ?_
      obtain ⟨p15, ep15, kp15, H⟩ := H
      refine s_getf (v := .ref (q_b G + p15)) (nx := 60) hO rfl rfl (hs_o4 kc91) (congrArg some (rv_at ep15)) rfl ?_
      refine s_getf (v := .int (sI s13 p15 4)) (nx := 63) hO rfl rfl (hs_o3 kp15) rfl rfl ?_
      obtain ⟨b16, H⟩ := H
      refine goV (wI s13 (p14 + 2) (ix x2) (sI s13 p15 4)) (fun s17 es17 => ?_)
      replace H := H s17 es17
      refine s_iast (nx := 64) hO rfl (hs_I (kf3_8 kp14)) b16 rfl ?_
      refine xEx.at (up_I (kf3_8 kp14) es17) ?_
      refine s_aload_n (nx := 65) hO rfl rfl rfl ?_
      obtain ⟨p18, ep18, kp18, H⟩ := H
      refine s_getf (v := .ref (q_b G + p18)) (nx := 68) hO rfl rfl (hs_o4 kc91) (congrArg some (rv_at ep18)) rfl ?_
      refine s_dup (nx := 69) hO rfl rfl rfl ?_
      refine s_getf (v := .int (sI s17 p18 0)) (nx := 72) hO rfl rfl (hs_o3 kp18) rfl rfl ?_
      refine s_iconst (x := 1) (nx := 73) hO rfl (by decide) rfl ?_
      refine s_iadd (nx := 74) hO rfl rfl ?_
      refine goV (wI s17 p18 0 ((sI s17 p18 0) + 1)) (fun s19 es19 => ?_)
      replace H := H s19 es19
      refine s_putf (nx := 77) hO rfl rfl (hs_o3 kp18) (Nat.le_of_ble_eq_true rfl) (by rw [hty]; rfl) (by rw [hty]; rfl) pX3_0 rfl ?_
      refine xEx.at (up_oI3 kp18 es19) ?_
      refine s_iconst (x := 0) (nx := 78) hO rfl (by decide) rfl ?_
      refine goK (H (fun (x20 : Int32) (s21 : yS) => xEx G mX4_readCounter 79 [(0, .ref (q_b G + 91)), (2, .int x20)] [] (hS G s21) z 0 0 (yQi G z Q)) (fun x20 s21 H => ?_)) (fun H => ?_)
      · show xEx G mX4_readCounter 79 [(0, .ref (q_b G + 91)), (2, .int x20)] [] (hS G s21) z 0 0 (yQi G z Q)
        refine s_iload_n (nx := 80) hO rfl rfl rfl ?_
        refine s_iconst (x := (nI 4)) (nx := 81) hO rfl (by decide) rfl ?_
        refine goK (H (fun (s22 : yS) => xEx G mX4_readCounter 107 [(0, .ref (q_b G + 91))] [] (hS G s22) z 0 0 (yQi G z Q)) (fun s22 H => ?_)) (fun H => ?_)
        · show xEx G mX4_readCounter 107 [(0, .ref (q_b G + 91))] [] (hS G s22) z 0 0 (yQi G z Q)
          refine s_aload_n (nx := 108) hO rfl rfl rfl ?_
          refine s_iconst (x := (nI 3)) (nx := 109) hO rfl (by decide) rfl ?_
          refine s_callV [.int (nI 3)] (ci := 4) (F := TX4) (N := 12) (nx := 112) hO rfl kX4_readCounter_68 (by rw [hcl]; rfl) (hs_o4 kc91) (w_X4_take hG H) rfl rfl (Nat.le_of_ble_eq_true rfl) (Nat.zero_le _) (Nat.zero_le _) rfl (k_Qi (fun r23 s24 H => ?_))
          refine s_if_ne (nx := 115) hO rfl rfl (fun c112 => ?_) (fun c112 => ?_)
          · replace H := H.1 c112
            refine s_iconst (x := 1) (nx := 123) hO rfl (by decide) rfl ?_
            refine s_goto hO rfl ?_
            exact s_iret hO rfl rfl rfl ⟨rfl, _, _, rfl, rfl, H⟩
          · replace H := H.2 c112
            refine s_aload_n (nx := 116) hO rfl rfl rfl ?_
            refine s_callV [] (ci := 4) (F := TX4) (N := 12) (nx := 119) hO rfl kX4_readCounter_71 (by rw [hcl]; rfl) (hs_o4 kc91) (w_X4_refuse hG H) rfl rfl (Nat.le_of_ble_eq_true rfl) (Nat.zero_le _) (Nat.zero_le _) rfl (k_Qi (fun r25 s26 H => ?_))
            refine s_if_eq (nx := 122) hO rfl rfl (fun c119 => ?_) (fun c119 => ?_)
            · replace H := H.1 c119
              refine s_iconst (x := 0) (nx := 127) hO rfl (by decide) rfl ?_
              exact s_iret hO rfl rfl rfl ⟨rfl, _, _, rfl, rfl, H⟩
            · replace H := H.2 c119
              refine s_iconst (x := 1) (nx := 123) hO rfl (by decide) rfl ?_
              refine s_goto hO rfl ?_
              exact s_iret hO rfl rfl rfl ⟨rfl, _, _, rfl, rfl, H⟩
        refine s_icmp_ge (nx := 84) hO rfl rfl (fun c81 => ?_) (fun c81 => ?_)
        · replace H := H.1 c81
          exact xEx.loc (x_sub1 (List.Mem.head _) x_sub0) H
        · replace H := H.2 c81
          refine s_aload_n (nx := 85) hO rfl rfl rfl ?_
          refine s_iconst (x := (nI 2)) (nx := 86) hO rfl (by decide) rfl ?_
          refine s_callV [.int (nI 2)] (ci := 4) (F := TX4) (N := 12) (nx := 89) hO rfl kX4_readCounter_68 (by rw [hcl]; rfl) (hs_o4 kc91) (w_X4_take hG H) rfl rfl (Nat.le_of_ble_eq_true rfl) (Nat.zero_le _) (Nat.zero_le _) rfl (k_Qi (fun r27 s28 H => ?_))
          refine s_if_eq (nx := 92) hO rfl rfl (fun c89 => ?_) (fun c89 => ?_)
          · replace H := H.1 c89
            exact xEx.loc (x_sub1 (List.Mem.head _) x_sub0) H
          · replace H := H.2 c89
            refine s_aload_n (nx := 93) hO rfl rfl rfl ?_
            refine s_callV [] (ci := 4) (F := TX4) (N := 12) (nx := 96) hO rfl kX4_readCounter_119 (by rw [hcl]; rfl) (hs_o4 kc91) (w_X4_readRule hG H) rfl rfl (Nat.le_of_ble_eq_true rfl) (Nat.zero_le _) (Nat.zero_le _) rfl (k_Qi (fun r29 s30 H => ?_))
            refine s_if_ne (nx := 99) hO rfl rfl (fun c96 => ?_) (fun c96 => ?_)
            · replace H := H.1 c96
              refine goV ((x20 + 1)) (fun x31 ex31 => ?_)
              replace H := H x31 ex31
              refine e_iinc (nx := 104) (l' := [(2, .int x31), (0, .ref (q_b G + 91))]) ex31 hO rfl (by decide) rfl rfl rfl rfl ?_
              refine s_goto hO rfl ?_
              exact xEx.loc (x_sub1 (List.Mem.tail _ (List.Mem.head _)) (x_sub1 (List.Mem.head _) x_sub0)) H
            · replace H := H.2 c96
              refine s_iconst (x := 0) (nx := 100) hO rfl (by decide) rfl ?_
              exact s_iret hO rfl rfl rfl ⟨rfl, _, _, rfl, rfl, H⟩
      refine s_istore_n (nx := 79) (l' := [(2, .int 0), (1, .int x2), (0, .ref (q_b G + 91))]) hO rfl (by decide) rfl rfl ?_
      exact xEx.loc (x_sub1 (List.Mem.tail _ (List.Mem.tail _ (List.Mem.head _))) (x_sub1 (List.Mem.head _) x_sub0)) H
    · replace H := H.2 c27
      exact xEx.loc (x_sub1 (List.Mem.tail _ (List.Mem.head _)) x_sub0) H
def W_X4_refuseLate (s : yS) (v1 : Int32) (v2 : Int32) (Q : Int32 → yS → Prop) : Prop :=
 ∀ s1 : yS, s1 = wI s 91 0 v1 → 
 ∀ s2 : yS, s2 = wI s1 91 1 v2 → 
 Q 0 s2
set_option maxRecDepth 100000 in
set_option maxHeartbeats 40000000 in
theorem w_X4_refuseLate {G : xG} (hG : yG G) {z : Nat} {s : yS} {v1 : Int32} {v2 : Int32} {Q : Int32 → yS → Prop} (H : W_X4_refuseLate s v1 v2 Q) : xC G mX4_refuseLate [.ref (q_b G + 91), .int v1, .int v2] (hS G s) z 0 0 (yQi G z Q) := by
  have hW := hG.1
  have hcl := hG.2.1
  have hty := hG.2.2.1
  have hO : xO G mX4_refuseLate tbX4_refuseLate ptX4_refuseLate := ⟨tkX4_refuseLate, pkX4_refuseLate hcl⟩
  unfold W_X4_refuseLate at H
  refine xC.of hW (by decide) rfl (Nat.le_of_ble_eq_true rfl) ?_
  refine s_aload_n (nx := 1) hO rfl rfl rfl ?_
  refine s_iload_n (nx := 2) hO rfl rfl rfl ?_
  refine goV (wI s 91 0 v1) (fun s1 es1 => ?_)
  replace H := H s1 es1
  refine s_putf (nx := 5) hO rfl rfl (hs_o4 kc91) (Nat.le_of_ble_eq_true rfl) (by rw [hty]; rfl) (by rw [hty]; rfl) pX4_0 rfl ?_
  refine xEx.at (up_oI4 kc91 es1) ?_
  refine s_aload_n (nx := 6) hO rfl rfl rfl ?_
  refine s_iload_n (nx := 7) hO rfl rfl rfl ?_
  refine goV (wI s1 91 1 v2) (fun s2 es2 => ?_)
  replace H := H s2 es2
  refine s_putf (nx := 10) hO rfl rfl (hs_o4 kc91) (Nat.le_of_ble_eq_true rfl) (by rw [hty]; rfl) (by rw [hty]; rfl) pX4_1 rfl ?_
  refine xEx.at (up_oI4 kc91 es2) ?_
  refine s_iconst (x := 0) (nx := 11) hO rfl (by decide) rfl ?_
  exact s_iret hO rfl rfl rfl ⟨rfl, _, _, rfl, rfl, H⟩
def W_X4_parse (s : yS) (a1 n1 : Nat) (v2 : Int32) (o3 : Nat) (Q : Int32 → yS → Prop) : Prop :=
 W_X8_read s a1 n1 v2 
 (fun s1 => ∀ s2 : yS, s2 = wR s1 91 4 (o3 + 1) → 
 ∃ p3 : Nat, sR s2 91 4 = p3 + 1 ∧ kd p3 = some (7, 0) ∧ 
 W_X3_empty s2 p3 
 (fun s4 => ∀ s5 : yS, s5 = wI s4 91 2 0 → 
 ∀ s6 : yS, s6 = wI s5 91 0 0 → 
 ∀ s7 : yS, s7 = wI s6 91 1 (-1) → 
 ∀ P39 : Int32 → yS → Prop, (∀ (x8 : Int32) (s9 : yS), (∀ P162 : Prop, ((∃ p10 : Nat, sR s9 91 4 = p10 + 1 ∧ kd p10 = some (7, 0) ∧ 
   ((0 < (sI s9 p10 1) → Q 1 s9)
   ∧ (¬ 0 < (sI s9 p10 1) → W_X4_refuseLate s9 (nI 4) v2 
    (fun r11 s12 => ((r11 = 0 → Q 0 s12)
    ∧ (¬ r11 = 0 → Q 1 s12)))))) → P162) → 
  (((nI 30) < x8 → P162)
  ∧ (¬ (nI 30) < x8 → W_X4_isAt s9 0 
   (fun r13 => ((¬ r13 = 0 → P162)
   ∧ (r13 = 0 → ∃ p14 : Nat, sR s9 91 4 = p14 + 1 ∧ kd p14 = some (7, 0) ∧ 
    ∀ P74 : yS → Prop, (∀ (s15 : yS), (W_X4_refuse s15 
     (fun r16 s17 => zb r16 ∧ Q r16 s17)) → P74 s15) → 
    (((sI s9 p14 1) = (nI 24) → P74 s9)
    ∧ (¬ (sI s9 p14 1) = (nI 24) → W_X4_take s9 (nI 2) 
     (fun r19 s20 => ((¬ r19 = 0 → ∃ p21 : Nat, sR s20 91 4 = p21 + 1 ∧ kd p21 = some (7, 0) ∧ 
      ∀ P106 : Int32 → Prop, (∀ (y22 : Int32), (W_X4_takeWord s20 1 
       (fun r23 s24 => ∀ P147 : Int32 → yS → Prop, (∀ (y25 : Int32) (s26 : yS), (((¬ y25 = 0 → ∀ x27 : Int32, x27 = (x8 + 1) → 
         P39 x27 s26)
        ∧ (y25 = 0 → Q 0 s26))) → P147 y25 s26) → 
       ((r23 = 0 → ∀ P143 : yS → Prop, (∀ (s28 : yS), (W_X4_refuse s28 
         (fun r29 s30 => P147 r29 s30)) → P143 s28) → 
        ((y22 = 0 → P143 s24)
        ∧ (¬ y22 = 0 → W_X4_takeWord s24 0 
         (fun r31 s32 => ((r31 = 0 → P143 s32)
         ∧ (¬ r31 = 0 → W_X4_readCounter s32 
          (fun r33 s34 => P147 r33 s34)))))))
       ∧ (¬ r23 = 0 → W_X4_readNode s24 
        (fun r35 s36 => P147 r35 s36))))) → P106 y22) → 
      ((¬ (sI s20 p21 1) = 0 → P106 0)
      ∧ ((sI s20 p21 1) = 0 → ∃ p37 : Nat, sR s20 91 4 = p37 + 1 ∧ kd p37 = some (7, 0) ∧ 
       (((nI 6) ≤ (sI s20 p37 0) → P106 0)
       ∧ (¬ (nI 6) ≤ (sI s20 p37 0) → P106 1)))))
     ∧ (r19 = 0 → P74 s20))))))))))) → P39 x8 s9) → 
 P39 0 s7))
set_option maxRecDepth 100000 in
set_option maxHeartbeats 40000000 in
theorem w_X4_parse {G : xG} (hG : yG G) {z : Nat} {s : yS} {a1 n1 : Nat} {v2 : Int32} {o3 : Nat} {Q : Int32 → yS → Prop} (ha1 : kd a1 = some (1, n1)) (ho3 : kd o3 = some (7, 0)) (H : W_X4_parse s a1 n1 v2 o3 Q) : xC G mX4_parse [.ref (q_b G + 91), .ref (q_b G + a1), .int v2, .ref (q_b G + o3)] (hS G s) z 0 0 (yQi G z Q) := by
  have hW := hG.1
  have hcl := hG.2.1
  have hty := hG.2.2.1
  have hO : xO G mX4_parse tbX4_parse ptX4_parse := ⟨tkX4_parse, pkX4_parse hcl⟩
  unfold W_X4_parse at H
  refine xC.of hW (by decide) rfl (Nat.le_of_ble_eq_true rfl) ?_
  refine s_aload_n (nx := 1) hO rfl rfl rfl ?_
  refine s_getf (v := .ref (q_b G + 92)) (nx := 4) hO rfl rfl (hs_o4 kc91) rfl rfl ?_
  refine s_aload_n (nx := 5) hO rfl rfl rfl ?_
  refine s_iload_n (nx := 6) hO rfl rfl rfl ?_
  refine s_callV [.ref (q_b G + a1), .int v2] (ci := 8) (F := TX8) (N := 5) (nx := 9) hO rfl kX4_parse_40 (by rw [hcl]; rfl) (hs_o8 kc92) (w_X8_read hG ha1 H) rfl rfl (Nat.le_of_ble_eq_true rfl) (Nat.zero_le _) (Nat.zero_le _) rfl (k_Qv (fun s1 H => ?_))
  refine s_aload_n (nx := 10) hO rfl rfl rfl ?_
  refine s_aload_n (nx := 11) hO rfl rfl rfl ?_
  refine goV (wR s1 91 4 (o3 + 1)) (fun s2 es2 => ?_)
  replace H := H s2 es2
  refine s_putf (nx := 14) hO rfl rfl (hs_o4 kc91) (Nat.le_of_ble_eq_true rfl) (by rw [hty]; rfl) (by rw [hty]; rfl) pX4_4 rfl ?_
  refine xEx.at (up_oR4 kc91 es2) ?_
  refine s_aload_n (nx := 15) hO rfl rfl rfl ?_
  obtain ⟨p3, ep3, kp3, H⟩ := H
  refine s_getf (v := .ref (q_b G + p3)) (nx := 18) hO rfl rfl (hs_o4 kc91) (congrArg some (rv_at ep3)) rfl ?_
  refine s_callV [] (ci := 3) (F := TX3) (N := 20) (nx := 21) hO rfl kX4_parse_48 (by rw [hcl]; rfl) (hs_o3 kp3) (w_X3_empty hG kp3 H) rfl rfl (Nat.le_of_ble_eq_true rfl) (Nat.zero_le _) (Nat.zero_le _) rfl (k_Qv (fun s4 H => ?_))
  refine s_aload_n (nx := 22) hO rfl rfl rfl ?_
  refine s_iconst (x := 0) (nx := 23) hO rfl (by decide) rfl ?_
  refine goV (wI s4 91 2 0) (fun s5 es5 => ?_)
  replace H := H s5 es5
  refine s_putf (nx := 26) hO rfl rfl (hs_o4 kc91) (Nat.le_of_ble_eq_true rfl) (by rw [hty]; rfl) (by rw [hty]; rfl) pX4_2 rfl ?_
  refine xEx.at (up_oI4 kc91 es5) ?_
  refine s_aload_n (nx := 27) hO rfl rfl rfl ?_
  refine s_iconst (x := 0) (nx := 28) hO rfl (by decide) rfl ?_
  refine goV (wI s5 91 0 0) (fun s6 es6 => ?_)
  replace H := H s6 es6
  refine s_putf (nx := 31) hO rfl rfl (hs_o4 kc91) (Nat.le_of_ble_eq_true rfl) (by rw [hty]; rfl) (by rw [hty]; rfl) pX4_0 rfl ?_
  refine xEx.at (up_oI4 kc91 es6) ?_
  refine s_aload_n (nx := 32) hO rfl rfl rfl ?_
  refine s_iconst (x := (-1)) (nx := 33) hO rfl (by decide) rfl ?_
  refine goV (wI s6 91 1 (-1)) (fun s7 es7 => ?_)
  replace H := H s7 es7
  refine s_putf (nx := 36) hO rfl rfl (hs_o4 kc91) (Nat.le_of_ble_eq_true rfl) (by rw [hty]; rfl) (by rw [hty]; rfl) pX4_1 rfl ?_
  refine xEx.at (up_oI4 kc91 es7) ?_
  refine s_iconst (x := 0) (nx := 37) hO rfl (by decide) rfl ?_
  refine goK (H (fun (x8 : Int32) (s9 : yS) => xEx G mX4_parse 39 [(0, .ref (q_b G + 91)), (2, .int v2), (4, .int x8)] [] (hS G s9) z 0 0 (yQi G z Q)) (fun x8 s9 H => ?_)) (fun H => ?_)
  · show xEx G mX4_parse 39 [(0, .ref (q_b G + 91)), (2, .int v2), (4, .int x8)] [] (hS G s9) z 0 0 (yQi G z Q)
    refine s_iload (nx := 41) hO rfl rfl rfl ?_
    refine s_bipush (x := (nI 30)) (nx := 43) hO rfl (by decide) rfl ?_
    refine goK (H (xEx G mX4_parse 162 [(0, .ref (q_b G + 91)), (2, .int v2)] [] (hS G s9) z 0 0 (yQi G z Q)) (fun H => ?_)) (fun H => ?_)
    · show xEx G mX4_parse 162 [(0, .ref (q_b G + 91)), (2, .int v2)] [] (hS G s9) z 0 0 (yQi G z Q)
      refine s_aload_n (nx := 163) hO rfl rfl rfl ?_
      obtain ⟨p10, ep10, kp10, H⟩ := H
      refine s_getf (v := .ref (q_b G + p10)) (nx := 166) hO rfl rfl (hs_o4 kc91) (congrArg some (rv_at ep10)) rfl ?_
      refine s_getf (v := .int (sI s9 p10 1)) (nx := 169) hO rfl rfl (hs_o3 kp10) rfl rfl ?_
      refine s_if_gt (nx := 172) hO rfl rfl (fun c169 => ?_) (fun c169 => ?_)
      · replace H := H.1 c169
        refine s_iconst (x := 1) (nx := 182) hO rfl (by decide) rfl ?_
        refine s_goto hO rfl ?_
        exact s_iret hO rfl rfl rfl ⟨rfl, _, _, rfl, rfl, H⟩
      · replace H := H.2 c169
        refine s_aload_n (nx := 173) hO rfl rfl rfl ?_
        refine s_iconst (x := (nI 4)) (nx := 174) hO rfl (by decide) rfl ?_
        refine s_iload_n (nx := 175) hO rfl rfl rfl ?_
        refine s_callV [.int (nI 4), .int v2] (ci := 4) (F := TX4) (N := 12) (nx := 178) hO rfl kX4_parse_87 (by rw [hcl]; rfl) (hs_o4 kc91) (w_X4_refuseLate hG H) rfl rfl (Nat.le_of_ble_eq_true rfl) (Nat.zero_le _) (Nat.zero_le _) rfl (k_Qi (fun r11 s12 H => ?_))
        refine s_if_eq (nx := 181) hO rfl rfl (fun c178 => ?_) (fun c178 => ?_)
        · replace H := H.1 c178
          refine s_iconst (x := 0) (nx := 186) hO rfl (by decide) rfl ?_
          exact s_iret hO rfl rfl rfl ⟨rfl, _, _, rfl, rfl, H⟩
        · replace H := H.2 c178
          refine s_iconst (x := 1) (nx := 182) hO rfl (by decide) rfl ?_
          refine s_goto hO rfl ?_
          exact s_iret hO rfl rfl rfl ⟨rfl, _, _, rfl, rfl, H⟩
    refine s_icmp_gt (nx := 46) hO rfl rfl (fun c43 => ?_) (fun c43 => ?_)
    · replace H := H.1 c43
      exact xEx.loc (x_sub1 (List.Mem.head _) (x_sub1 (List.Mem.tail _ (List.Mem.head _)) x_sub0)) H
    · replace H := H.2 c43
      refine s_aload_n (nx := 47) hO rfl rfl rfl ?_
      refine s_iconst (x := 0) (nx := 48) hO rfl (by decide) rfl ?_
      refine s_callV [.int 0] (ci := 4) (F := TX4) (N := 12) (nx := 51) hO rfl kX4_parse_61 (by rw [hcl]; rfl) (hs_o4 kc91) (w_X4_isAt hG H) rfl rfl (Nat.le_of_ble_eq_true rfl) (Nat.zero_le _) (Nat.zero_le _) rfl (k_Pi (fun r13 H => ?_))
      refine s_if_ne (nx := 54) hO rfl rfl (fun c51 => ?_) (fun c51 => ?_)
      · replace H := H.1 c51
        exact xEx.loc (x_sub1 (List.Mem.head _) (x_sub1 (List.Mem.tail _ (List.Mem.head _)) x_sub0)) H
      · replace H := H.2 c51
        refine s_aload_n (nx := 55) hO rfl rfl rfl ?_
        obtain ⟨p14, ep14, kp14, H⟩ := H
        refine s_getf (v := .ref (q_b G + p14)) (nx := 58) hO rfl rfl (hs_o4 kc91) (congrArg some (rv_at ep14)) rfl ?_
        refine s_getf (v := .int (sI s9 p14 1)) (nx := 61) hO rfl rfl (hs_o3 kp14) rfl rfl ?_
        refine s_bipush (x := (nI 24)) (nx := 63) hO rfl (by decide) rfl ?_
        refine goK (H (fun (s15 : yS) => xEx G mX4_parse 74 [(0, .ref (q_b G + 91))] [] (hS G s15) z 0 0 (yQi G z Q)) (fun s15 H => ?_)) (fun H => ?_)
        · show xEx G mX4_parse 74 [(0, .ref (q_b G + 91))] [] (hS G s15) z 0 0 (yQi G z Q)
          refine s_aload_n (nx := 75) hO rfl rfl rfl ?_
          refine s_callV [] (ci := 4) (F := TX4) (N := 12) (nx := 78) hO rfl kX4_parse_71 (by rw [hcl]; rfl) (hs_o4 kc91) (w_X4_refuse hG H) rfl rfl (Nat.le_of_ble_eq_true rfl) (Nat.zero_le _) (Nat.zero_le _) rfl (k_Qi (fun r16 s17 H => ?_))
          obtain ⟨b18, H⟩ := H
          exact s_iret hO rfl rfl (zb_n b18) ⟨rfl, _, _, rfl, rfl, H⟩
        refine s_icmp_eq (nx := 66) hO rfl rfl (fun c63 => ?_) (fun c63 => ?_)
        · replace H := H.1 c63
          exact xEx.loc (x_sub1 (List.Mem.head _) x_sub0) H
        · replace H := H.2 c63
          refine s_aload_n (nx := 67) hO rfl rfl rfl ?_
          refine s_iconst (x := (nI 2)) (nx := 68) hO rfl (by decide) rfl ?_
          refine s_callV [.int (nI 2)] (ci := 4) (F := TX4) (N := 12) (nx := 71) hO rfl kX4_parse_68 (by rw [hcl]; rfl) (hs_o4 kc91) (w_X4_take hG H) rfl rfl (Nat.le_of_ble_eq_true rfl) (Nat.zero_le _) (Nat.zero_le _) rfl (k_Qi (fun r19 s20 H => ?_))
          refine s_if_ne (nx := 74) hO rfl rfl (fun c71 => ?_) (fun c71 => ?_)
          · replace H := H.1 c71
            refine s_aload_n (nx := 80) hO rfl rfl rfl ?_
            obtain ⟨p21, ep21, kp21, H⟩ := H
            refine s_getf (v := .ref (q_b G + p21)) (nx := 83) hO rfl rfl (hs_o4 kc91) (congrArg some (rv_at ep21)) rfl ?_
            refine s_getf (v := .int (sI s20 p21 1)) (nx := 86) hO rfl rfl (hs_o3 kp21) rfl rfl ?_
            refine goK (H (fun (y22 : Int32) => xEx G mX4_parse 106 [(0, .ref (q_b G + 91)), (2, .int v2), (4, .int x8)] [.int y22] (hS G s20) z 0 0 (yQi G z Q)) (fun y22 H => ?_)) (fun H => ?_)
            · show xEx G mX4_parse 106 [(0, .ref (q_b G + 91)), (2, .int v2), (4, .int x8)] [.int y22] (hS G s20) z 0 0 (yQi G z Q)
              refine s_istore (nx := 108) (l' := [(5, .int y22), (0, .ref (q_b G + 91)), (2, .int v2), (4, .int x8)]) hO rfl (by decide) rfl rfl ?_
              refine s_aload_n (nx := 109) hO rfl rfl rfl ?_
              refine s_iconst (x := 1) (nx := 110) hO rfl (by decide) rfl ?_
              refine s_callV [.int 1] (ci := 4) (F := TX4) (N := 12) (nx := 113) hO rfl kX4_parse_78 (by rw [hcl]; rfl) (hs_o4 kc91) (w_X4_takeWord hG H) rfl rfl (Nat.le_of_ble_eq_true rfl) (Nat.zero_le _) (Nat.zero_le _) rfl (k_Qi (fun r23 s24 H => ?_))
              refine goK (H (fun (y25 : Int32) (s26 : yS) => xEx G mX4_parse 147 [(0, .ref (q_b G + 91)), (2, .int v2), (4, .int x8)] [.int y25] (hS G s26) z 0 0 (yQi G z Q)) (fun y25 s26 H => ?_)) (fun H => ?_)
              · show xEx G mX4_parse 147 [(0, .ref (q_b G + 91)), (2, .int v2), (4, .int x8)] [.int y25] (hS G s26) z 0 0 (yQi G z Q)
                refine s_istore (nx := 149) (l' := [(6, .int y25), (0, .ref (q_b G + 91)), (2, .int v2), (4, .int x8)]) hO rfl (by decide) rfl rfl ?_
                refine s_iload (nx := 151) hO rfl rfl rfl ?_
                refine s_if_ne (nx := 154) hO rfl rfl (fun c151 => ?_) (fun c151 => ?_)
                · replace H := H.1 c151
                  refine goV ((x8 + 1)) (fun x27 ex27 => ?_)
                  replace H := H x27 ex27
                  refine e_iinc (nx := 159) (l' := [(4, .int x27), (6, .int y25), (0, .ref (q_b G + 91)), (2, .int v2)]) ex27 hO rfl (by decide) rfl rfl rfl rfl ?_
                  refine s_goto hO rfl ?_
                  exact xEx.loc (x_sub1 (List.Mem.tail _ (List.Mem.tail _ (List.Mem.head _))) (x_sub1 (List.Mem.tail _ (List.Mem.tail _ (List.Mem.tail _ (List.Mem.head _)))) (x_sub1 (List.Mem.head _) x_sub0))) H
                · replace H := H.2 c151
                  refine s_iconst (x := 0) (nx := 155) hO rfl (by decide) rfl ?_
                  exact s_iret hO rfl rfl rfl ⟨rfl, _, _, rfl, rfl, H⟩
              refine s_if_eq (nx := 116) hO rfl rfl (fun c113 => ?_) (fun c113 => ?_)
              · replace H := H.1 c113
                refine s_iload (nx := 125) hO rfl rfl rfl ?_
                refine goK (H (fun (s28 : yS) => xEx G mX4_parse 143 [(0, .ref (q_b G + 91)), (2, .int v2), (4, .int x8)] [] (hS G s28) z 0 0 (yQi G z Q)) (fun s28 H => ?_)) (fun H => ?_)
                · show xEx G mX4_parse 143 [(0, .ref (q_b G + 91)), (2, .int v2), (4, .int x8)] [] (hS G s28) z 0 0 (yQi G z Q)
                  refine s_aload_n (nx := 144) hO rfl rfl rfl ?_
                  refine s_callV [] (ci := 4) (F := TX4) (N := 12) (nx := 147) hO rfl kX4_parse_71 (by rw [hcl]; rfl) (hs_o4 kc91) (w_X4_refuse hG H) rfl rfl (Nat.le_of_ble_eq_true rfl) (Nat.zero_le _) (Nat.zero_le _) rfl (k_Qi (fun r29 s30 H => ?_))
                  exact xEx.loc (x_sub1 (List.Mem.head _) (x_sub1 (List.Mem.tail _ (List.Mem.head _)) (x_sub1 (List.Mem.tail _ (List.Mem.tail _ (List.Mem.head _))) x_sub0))) H
                refine s_if_eq (nx := 128) hO rfl rfl (fun c125 => ?_) (fun c125 => ?_)
                · replace H := H.1 c125
                  exact xEx.loc (x_sub1 (List.Mem.tail _ (List.Mem.head _)) (x_sub1 (List.Mem.tail _ (List.Mem.tail _ (List.Mem.head _))) (x_sub1 (List.Mem.tail _ (List.Mem.tail _ (List.Mem.tail _ (List.Mem.head _)))) x_sub0))) H
                · replace H := H.2 c125
                  refine s_aload_n (nx := 129) hO rfl rfl rfl ?_
                  refine s_iconst (x := 0) (nx := 130) hO rfl (by decide) rfl ?_
                  refine s_callV [.int 0] (ci := 4) (F := TX4) (N := 12) (nx := 133) hO rfl kX4_parse_78 (by rw [hcl]; rfl) (hs_o4 kc91) (w_X4_takeWord hG H) rfl rfl (Nat.le_of_ble_eq_true rfl) (Nat.zero_le _) (Nat.zero_le _) rfl (k_Qi (fun r31 s32 H => ?_))
                  refine s_if_eq (nx := 136) hO rfl rfl (fun c133 => ?_) (fun c133 => ?_)
                  · replace H := H.1 c133
                    exact xEx.loc (x_sub1 (List.Mem.tail _ (List.Mem.head _)) (x_sub1 (List.Mem.tail _ (List.Mem.tail _ (List.Mem.head _))) (x_sub1 (List.Mem.tail _ (List.Mem.tail _ (List.Mem.tail _ (List.Mem.head _)))) x_sub0))) H
                  · replace H := H.2 c133
                    refine s_aload_n (nx := 137) hO rfl rfl rfl ?_
                    refine s_callV [] (ci := 4) (F := TX4) (N := 12) (nx := 140) hO rfl kX4_parse_84 (by rw [hcl]; rfl) (hs_o4 kc91) (w_X4_readCounter hG H) rfl rfl (Nat.le_of_ble_eq_true rfl) (Nat.zero_le _) (Nat.zero_le _) rfl (k_Qi (fun r33 s34 H => ?_))
                    refine s_goto hO rfl ?_
                    exact xEx.loc (x_sub1 (List.Mem.tail _ (List.Mem.head _)) (x_sub1 (List.Mem.tail _ (List.Mem.tail _ (List.Mem.head _))) (x_sub1 (List.Mem.tail _ (List.Mem.tail _ (List.Mem.tail _ (List.Mem.head _)))) x_sub0))) H
              · replace H := H.2 c113
                refine s_aload_n (nx := 117) hO rfl rfl rfl ?_
                refine s_callV [] (ci := 4) (F := TX4) (N := 12) (nx := 120) hO rfl kX4_parse_81 (by rw [hcl]; rfl) (hs_o4 kc91) (w_X4_readNode hG H) rfl rfl (Nat.le_of_ble_eq_true rfl) (Nat.zero_le _) (Nat.zero_le _) rfl (k_Qi (fun r35 s36 H => ?_))
                refine s_goto hO rfl ?_
                exact xEx.loc (x_sub1 (List.Mem.tail _ (List.Mem.head _)) (x_sub1 (List.Mem.tail _ (List.Mem.tail _ (List.Mem.head _))) (x_sub1 (List.Mem.tail _ (List.Mem.tail _ (List.Mem.tail _ (List.Mem.head _)))) x_sub0))) H
            refine s_if_ne (nx := 89) hO rfl rfl (fun c86 => ?_) (fun c86 => ?_)
            · replace H := H.1 c86
              refine s_iconst (x := 0) (nx := 106) hO rfl (by decide) rfl ?_
              exact xEx.loc (x_sub1 (List.Mem.head _) (x_sub1 (List.Mem.tail _ (List.Mem.head _)) (x_sub1 (List.Mem.tail _ (List.Mem.tail _ (List.Mem.head _))) x_sub0))) H
            · replace H := H.2 c86
              refine s_aload_n (nx := 90) hO rfl rfl rfl ?_
              obtain ⟨p37, ep37, kp37, H⟩ := H
              refine s_getf (v := .ref (q_b G + p37)) (nx := 93) hO rfl rfl (hs_o4 kc91) (congrArg some (rv_at ep37)) rfl ?_
              refine s_getf (v := .int (sI s20 p37 0)) (nx := 96) hO rfl rfl (hs_o3 kp37) rfl rfl ?_
              refine s_bipush (x := (nI 6)) (nx := 98) hO rfl (by decide) rfl ?_
              refine s_icmp_ge (nx := 101) hO rfl rfl (fun c98 => ?_) (fun c98 => ?_)
              · replace H := H.1 c98
                refine s_iconst (x := 0) (nx := 106) hO rfl (by decide) rfl ?_
                exact xEx.loc (x_sub1 (List.Mem.head _) (x_sub1 (List.Mem.tail _ (List.Mem.head _)) (x_sub1 (List.Mem.tail _ (List.Mem.tail _ (List.Mem.head _))) x_sub0))) H
              · replace H := H.2 c98
                refine s_iconst (x := 1) (nx := 102) hO rfl (by decide) rfl ?_
                refine s_goto hO rfl ?_
                exact xEx.loc (x_sub1 (List.Mem.head _) (x_sub1 (List.Mem.tail _ (List.Mem.head _)) (x_sub1 (List.Mem.tail _ (List.Mem.tail _ (List.Mem.head _))) x_sub0))) H
          · replace H := H.2 c71
            exact xEx.loc (x_sub1 (List.Mem.head _) x_sub0) H
  refine s_istore (nx := 39) (l' := [(4, .int 0), (0, .ref (q_b G + 91)), (1, .ref (q_b G + a1)), (2, .int v2), (3, .ref (q_b G + o3))]) hO rfl (by decide) rfl rfl ?_
  exact xEx.loc (x_sub1 (List.Mem.tail _ (List.Mem.head _)) (x_sub1 (List.Mem.tail _ (List.Mem.tail _ (List.Mem.tail _ (List.Mem.head _)))) (x_sub1 (List.Mem.head _) x_sub0))) H
def W_X4_findSubject (s : yS) (v1 : Int32) (v2 : Int32) (Q : Int32 → yS → Prop) : Prop :=
 ∃ p1 : Nat, sR s 91 4 = p1 + 1 ∧ kd p1 = some (7, 0) ∧ 
 vp_in v2 864 ∧ 
 ∀ x3 : Int32, x3 = (sI s (p1 + 6) (ix v2)) → 
 (((nI 3) ≤ x3 → ∀ P52 : Int32 → Prop, (∀ (x4 : Int32), (∃ p5 : Nat, sR s 91 4 = p5 + 1 ∧ kd p5 = some (7, 0) ∧ 
   (((sI s p5 0) ≤ x4 → vp_in v2 864 ∧ 
    W_X4_refuseLate s (nI 5) (sI s 102 (ix v2)) 
    (fun r7 s8 => zb r7 ∧ Q r7 s8))
   ∧ (¬ (sI s p5 0) ≤ x4 → vp_in x4 6 ∧ 
    vp_in v2 864 ∧ 
    ((¬ (lg_cmp (sJ s 97 (ix x4)) (sJ s 101 (ix v2))) = 0 → ∀ x12 : Int32, x12 = (x4 + 1) → 
     P52 x12)
    ∧ ((lg_cmp (sJ s 97 (ix x4)) (sJ s 101 (ix v2))) = 0 → ∃ p13 : Nat, sR s 91 4 = p13 + 1 ∧ kd p13 = some (7, 0) ∧ 
     vp_in v2 864 ∧ ∀ s15 : yS, s15 = wI s (p13 + 6) (ix v2) ((nI 3) + x4) → 
     Q 1 s15))))) → P52 x4) → 
  P52 0)
 ∧ (¬ (nI 3) ≤ x3 → ((v1 = (nI 16) → Q 1 s)
  ∧ (¬ v1 = (nI 16) → ((x3 < (v1 - v1 / (nI 4) * (nI 4)) → Q 1 s)
   ∧ (¬ x3 < (v1 - v1 / (nI 4) * (nI 4)) → vp_in v2 864 ∧ 
    W_X4_refuseLate s (nI 6) (sI s 102 (ix v2)) 
    (fun r17 s18 => ((r17 = 0 → Q 0 s18)
    ∧ (¬ r17 = 0 → Q 1 s18)))))))))
set_option maxRecDepth 100000 in
set_option maxHeartbeats 40000000 in
theorem w_X4_findSubject {G : xG} (hG : yG G) {z : Nat} {s : yS} {v1 : Int32} {v2 : Int32} {Q : Int32 → yS → Prop} (H : W_X4_findSubject s v1 v2 Q) : xC G mX4_findSubject [.ref (q_b G + 91), .int v1, .int v2] (hS G s) z 0 0 (yQi G z Q) := by
  have hW := hG.1
  have hcl := hG.2.1
  have hty := hG.2.2.1
  have hO : xO G mX4_findSubject tbX4_findSubject ptX4_findSubject := ⟨tkX4_findSubject, pkX4_findSubject hcl⟩
  unfold W_X4_findSubject at H
  refine xC.of hW (by decide) rfl (Nat.le_of_ble_eq_true rfl) ?_
  refine s_aload_n (nx := 1) hO rfl rfl rfl ?_
  obtain ⟨p1, ep1, kp1, H⟩ := H
  refine s_getf (v := .ref (q_b G + p1)) (nx := 4) hO rfl rfl (hs_o4 kc91) (congrArg some (rv_at ep1)) rfl ?_
  refine s_getf (v := .ref (q_b G + (p1 + 6))) (nx := 7) hO rfl rfl (hs_o3 kp1) rfl rfl ?_
  refine s_iload_n (nx := 8) hO rfl rfl rfl ?_
  obtain ⟨b2, H⟩ := H
  refine s_iald (nx := 9) hO rfl (hs_I (kf3_12 kp1)) b2 rfl ?_
  refine goV ((sI s (p1 + 6) (ix v2))) (fun x3 ex3 => ?_)
  replace H := H x3 ex3
  refine e_istore_n (nx := 10) (l' := [(3, .int x3), (0, .ref (q_b G + 91)), (1, .int v1), (2, .int v2)]) ex3 hO rfl (by decide) rfl rfl ?_
  refine s_iload_n (nx := 11) hO rfl rfl rfl ?_
  refine s_iconst (x := (nI 3)) (nx := 12) hO rfl (by decide) rfl ?_
  refine s_icmp_ge (nx := 15) hO rfl rfl (fun c12 => ?_) (fun c12 => ?_)
  · replace H := H.1 c12
    refine s_iconst (x := 0) (nx := 50) hO rfl (by decide) rfl ?_
    refine goK (H (fun (x4 : Int32) => xEx G mX4_findSubject 52 [(0, .ref (q_b G + 91)), (2, .int v2), (4, .int x4)] [] (hS G s) z 0 0 (yQi G z Q)) (fun x4 H => ?_)) (fun H => ?_)
    · show xEx G mX4_findSubject 52 [(0, .ref (q_b G + 91)), (2, .int v2), (4, .int x4)] [] (hS G s) z 0 0 (yQi G z Q)
      refine s_iload (nx := 54) hO rfl rfl rfl ?_
      refine s_aload_n (nx := 55) hO rfl rfl rfl ?_
      obtain ⟨p5, ep5, kp5, H⟩ := H
      refine s_getf (v := .ref (q_b G + p5)) (nx := 58) hO rfl rfl (hs_o4 kc91) (congrArg some (rv_at ep5)) rfl ?_
      refine s_getf (v := .int (sI s p5 0)) (nx := 61) hO rfl rfl (hs_o3 kp5) rfl rfl ?_
      refine s_icmp_ge (nx := 64) hO rfl rfl (fun c61 => ?_) (fun c61 => ?_)
      · replace H := H.1 c61
        refine s_aload_n (nx := 103) hO rfl rfl rfl ?_
        refine s_iconst (x := (nI 5)) (nx := 104) hO rfl (by decide) rfl ?_
        refine s_aload_n (nx := 105) hO rfl rfl rfl ?_
        refine s_getf (v := .ref (q_b G + 102)) (nx := 108) hO rfl rfl (hs_o4 kc91) rfl rfl ?_
        refine s_iload_n (nx := 109) hO rfl rfl rfl ?_
        obtain ⟨b6, H⟩ := H
        refine s_iald (nx := 110) hO rfl (hs_I kc102) b6 rfl ?_
        refine s_callV [.int (nI 5), .int (sI s 102 (ix v2))] (ci := 4) (F := TX4) (N := 12) (nx := 113) hO rfl kX4_findSubject_87 (by rw [hcl]; rfl) (hs_o4 kc91) (w_X4_refuseLate hG H) rfl rfl (Nat.le_of_ble_eq_true rfl) (Nat.zero_le _) (Nat.zero_le _) rfl (k_Qi (fun r7 s8 H => ?_))
        obtain ⟨b9, H⟩ := H
        exact s_iret hO rfl rfl (zb_n b9) ⟨rfl, _, _, rfl, rfl, H⟩
      · replace H := H.2 c61
        refine s_aload_n (nx := 65) hO rfl rfl rfl ?_
        refine s_getf (v := .ref (q_b G + 97)) (nx := 68) hO rfl rfl (hs_o4 kc91) rfl rfl ?_
        refine s_iload (nx := 70) hO rfl rfl rfl ?_
        obtain ⟨b10, H⟩ := H
        refine s_lald (nx := 71) hO rfl (hs_J kc97) b10 rfl ?_
        refine s_aload_n (nx := 72) hO rfl rfl rfl ?_
        refine s_getf (v := .ref (q_b G + 101)) (nx := 75) hO rfl rfl (hs_o4 kc91) rfl rfl ?_
        refine s_iload_n (nx := 76) hO rfl rfl rfl ?_
        obtain ⟨b11, H⟩ := H
        refine s_lald (nx := 77) hO rfl (hs_J kc101) b11 rfl ?_
        refine s_lcmp (nx := 78) hO rfl rfl ?_
        refine s_if_ne (nx := 81) hO rfl rfl (fun c78 => ?_) (fun c78 => ?_)
        · replace H := H.1 c78
          refine goV ((x4 + 1)) (fun x12 ex12 => ?_)
          replace H := H x12 ex12
          refine e_iinc (nx := 99) (l' := [(4, .int x12), (0, .ref (q_b G + 91)), (2, .int v2)]) ex12 hO rfl (by decide) rfl rfl rfl rfl ?_
          refine s_goto hO rfl ?_
          exact xEx.loc (x_sub1 (List.Mem.tail _ (List.Mem.head _)) (x_sub1 (List.Mem.tail _ (List.Mem.tail _ (List.Mem.head _))) (x_sub1 (List.Mem.head _) x_sub0))) H
        · replace H := H.2 c78
          refine s_aload_n (nx := 82) hO rfl rfl rfl ?_
          obtain ⟨p13, ep13, kp13, H⟩ := H
          refine s_getf (v := .ref (q_b G + p13)) (nx := 85) hO rfl rfl (hs_o4 kc91) (congrArg some (rv_at ep13)) rfl ?_
          refine s_getf (v := .ref (q_b G + (p13 + 6))) (nx := 88) hO rfl rfl (hs_o3 kp13) rfl rfl ?_
          refine s_iload_n (nx := 89) hO rfl rfl rfl ?_
          refine s_iconst (x := (nI 3)) (nx := 90) hO rfl (by decide) rfl ?_
          refine s_iload (nx := 92) hO rfl rfl rfl ?_
          refine s_iadd (nx := 93) hO rfl rfl ?_
          obtain ⟨b14, H⟩ := H
          refine goV (wI s (p13 + 6) (ix v2) ((nI 3) + x4)) (fun s15 es15 => ?_)
          replace H := H s15 es15
          refine s_iast (nx := 94) hO rfl (hs_I (kf3_12 kp13)) b14 rfl ?_
          refine xEx.at (up_I (kf3_12 kp13) es15) ?_
          refine s_iconst (x := 1) (nx := 95) hO rfl (by decide) rfl ?_
          exact s_iret hO rfl rfl rfl ⟨rfl, _, _, rfl, rfl, H⟩
    refine s_istore (nx := 52) (l' := [(4, .int 0), (3, .int x3), (0, .ref (q_b G + 91)), (1, .int v1), (2, .int v2)]) hO rfl (by decide) rfl rfl ?_
    exact xEx.loc (x_sub1 (List.Mem.tail _ (List.Mem.tail _ (List.Mem.head _))) (x_sub1 (List.Mem.tail _ (List.Mem.tail _ (List.Mem.tail _ (List.Mem.tail _ (List.Mem.head _))))) (x_sub1 (List.Mem.head _) x_sub0))) H
  · replace H := H.2 c12
    refine s_iload_n (nx := 16) hO rfl rfl rfl ?_
    refine s_bipush (x := (nI 16)) (nx := 18) hO rfl (by decide) rfl ?_
    refine s_icmp_eq (nx := 21) hO rfl rfl (fun c18 => ?_) (fun c18 => ?_)
    · replace H := H.1 c18
      refine s_iconst (x := 1) (nx := 44) hO rfl (by decide) rfl ?_
      refine s_goto hO rfl ?_
      exact s_iret hO rfl rfl rfl ⟨rfl, _, _, rfl, rfl, H⟩
    · replace H := H.2 c18
      refine s_iload_n (nx := 22) hO rfl rfl rfl ?_
      refine s_iload_n (nx := 23) hO rfl rfl rfl ?_
      refine s_iconst (x := (nI 4)) (nx := 24) hO rfl (by decide) rfl ?_
      refine s_irem (nx := 25) hO rfl (by decide) rfl ?_
      refine s_icmp_lt (nx := 28) hO rfl rfl (fun c25 => ?_) (fun c25 => ?_)
      · replace H := H.1 c25
        refine s_iconst (x := 1) (nx := 44) hO rfl (by decide) rfl ?_
        refine s_goto hO rfl ?_
        exact s_iret hO rfl rfl rfl ⟨rfl, _, _, rfl, rfl, H⟩
      · replace H := H.2 c25
        refine s_aload_n (nx := 29) hO rfl rfl rfl ?_
        refine s_bipush (x := (nI 6)) (nx := 31) hO rfl (by decide) rfl ?_
        refine s_aload_n (nx := 32) hO rfl rfl rfl ?_
        refine s_getf (v := .ref (q_b G + 102)) (nx := 35) hO rfl rfl (hs_o4 kc91) rfl rfl ?_
        refine s_iload_n (nx := 36) hO rfl rfl rfl ?_
        obtain ⟨b16, H⟩ := H
        refine s_iald (nx := 37) hO rfl (hs_I kc102) b16 rfl ?_
        refine s_callV [.int (nI 6), .int (sI s 102 (ix v2))] (ci := 4) (F := TX4) (N := 12) (nx := 40) hO rfl kX4_findSubject_87 (by rw [hcl]; rfl) (hs_o4 kc91) (w_X4_refuseLate hG H) rfl rfl (Nat.le_of_ble_eq_true rfl) (Nat.zero_le _) (Nat.zero_le _) rfl (k_Qi (fun r17 s18 H => ?_))
        refine s_if_eq (nx := 43) hO rfl rfl (fun c40 => ?_) (fun c40 => ?_)
        · replace H := H.1 c40
          refine s_iconst (x := 0) (nx := 48) hO rfl (by decide) rfl ?_
          exact s_iret hO rfl rfl rfl ⟨rfl, _, _, rfl, rfl, H⟩
        · replace H := H.2 c40
          refine s_iconst (x := 1) (nx := 44) hO rfl (by decide) rfl ?_
          refine s_goto hO rfl ?_
          exact s_iret hO rfl rfl rfl ⟨rfl, _, _, rfl, rfl, H⟩
def W_X4_findTarget (s : yS) (v1 : Int32) (Q : yS → Prop) : Prop :=
 ∀ P2 : Int32 → Prop, (∀ (x1 : Int32), (∃ p2 : Nat, sR s 91 4 = p2 + 1 ∧ kd p2 = some (7, 0) ∧ 
  (((sI s p2 1) ≤ x1 → vp_in v1 216 ∧ 
   W_X4_refuseLate s (nI 5) (sI s 100 (ix v1)) 
   (fun r4 s5 => Q s5))
  ∧ (¬ (sI s p2 1) ≤ x1 → vp_in x1 24 ∧ 
   vp_in v1 216 ∧ 
   ((¬ (lg_cmp (sJ s 98 (ix x1)) (sJ s 99 (ix v1))) = 0 → ∀ x8 : Int32, x8 = (x1 + 1) → 
    P2 x8)
   ∧ ((lg_cmp (sJ s 98 (ix x1)) (sJ s 99 (ix v1))) = 0 → ∃ p9 : Nat, sR s 91 4 = p9 + 1 ∧ kd p9 = some (7, 0) ∧ 
    vp_in v1 216 ∧ ∀ s11 : yS, s11 = wI s (p9 + 4) (ix v1) x1 → 
    Q s11))))) → P2 x1) → 
 P2 0
set_option maxRecDepth 100000 in
set_option maxHeartbeats 40000000 in
theorem w_X4_findTarget {G : xG} (hG : yG G) {z : Nat} {s : yS} {v1 : Int32} {Q : yS → Prop} (H : W_X4_findTarget s v1 Q) : xC G mX4_findTarget [.ref (q_b G + 91), .int v1] (hS G s) z 0 0 (yQv G z Q) := by
  have hW := hG.1
  have hcl := hG.2.1
  have hty := hG.2.2.1
  have hO : xO G mX4_findTarget tbX4_findTarget ptX4_findTarget := ⟨tkX4_findTarget, pkX4_findTarget hcl⟩
  unfold W_X4_findTarget at H
  refine xC.of hW (by decide) rfl (Nat.le_of_ble_eq_true rfl) ?_
  refine s_iconst (x := 0) (nx := 1) hO rfl (by decide) rfl ?_
  refine goK (H (fun (x1 : Int32) => xEx G mX4_findTarget 2 [(0, .ref (q_b G + 91)), (1, .int v1), (2, .int x1)] [] (hS G s) z 0 0 (yQv G z Q)) (fun x1 H => ?_)) (fun H => ?_)
  · show xEx G mX4_findTarget 2 [(0, .ref (q_b G + 91)), (1, .int v1), (2, .int x1)] [] (hS G s) z 0 0 (yQv G z Q)
    refine s_iload_n (nx := 3) hO rfl rfl rfl ?_
    refine s_aload_n (nx := 4) hO rfl rfl rfl ?_
    obtain ⟨p2, ep2, kp2, H⟩ := H
    refine s_getf (v := .ref (q_b G + p2)) (nx := 7) hO rfl rfl (hs_o4 kc91) (congrArg some (rv_at ep2)) rfl ?_
    refine s_getf (v := .int (sI s p2 1)) (nx := 10) hO rfl rfl (hs_o3 kp2) rfl rfl ?_
    refine s_icmp_ge (nx := 13) hO rfl rfl (fun c10 => ?_) (fun c10 => ?_)
    · replace H := H.1 c10
      refine s_aload_n (nx := 47) hO rfl rfl rfl ?_
      refine s_iconst (x := (nI 5)) (nx := 48) hO rfl (by decide) rfl ?_
      refine s_aload_n (nx := 49) hO rfl rfl rfl ?_
      refine s_getf (v := .ref (q_b G + 100)) (nx := 52) hO rfl rfl (hs_o4 kc91) rfl rfl ?_
      refine s_iload_n (nx := 53) hO rfl rfl rfl ?_
      obtain ⟨b3, H⟩ := H
      refine s_iald (nx := 54) hO rfl (hs_I kc100) b3 rfl ?_
      refine s_callV [.int (nI 5), .int (sI s 100 (ix v1))] (ci := 4) (F := TX4) (N := 12) (nx := 57) hO rfl kX4_findTarget_87 (by rw [hcl]; rfl) (hs_o4 kc91) (w_X4_refuseLate hG H) rfl rfl (Nat.le_of_ble_eq_true rfl) (Nat.zero_le _) (Nat.zero_le _) rfl (k_Qi (fun r4 s5 H => ?_))
      refine s_pop (nx := 58) hO rfl rfl rfl ?_
      exact s_vret hO rfl rfl ⟨rfl, _, rfl, rfl, H⟩
    · replace H := H.2 c10
      refine s_aload_n (nx := 14) hO rfl rfl rfl ?_
      refine s_getf (v := .ref (q_b G + 98)) (nx := 17) hO rfl rfl (hs_o4 kc91) rfl rfl ?_
      refine s_iload_n (nx := 18) hO rfl rfl rfl ?_
      obtain ⟨b6, H⟩ := H
      refine s_lald (nx := 19) hO rfl (hs_J kc98) b6 rfl ?_
      refine s_aload_n (nx := 20) hO rfl rfl rfl ?_
      refine s_getf (v := .ref (q_b G + 99)) (nx := 23) hO rfl rfl (hs_o4 kc91) rfl rfl ?_
      refine s_iload_n (nx := 24) hO rfl rfl rfl ?_
      obtain ⟨b7, H⟩ := H
      refine s_lald (nx := 25) hO rfl (hs_J kc99) b7 rfl ?_
      refine s_lcmp (nx := 26) hO rfl rfl ?_
      refine s_if_ne (nx := 29) hO rfl rfl (fun c26 => ?_) (fun c26 => ?_)
      · replace H := H.1 c26
        refine goV ((x1 + 1)) (fun x8 ex8 => ?_)
        replace H := H x8 ex8
        refine e_iinc (nx := 43) (l' := [(2, .int x8), (0, .ref (q_b G + 91)), (1, .int v1)]) ex8 hO rfl (by decide) rfl rfl rfl rfl ?_
        refine s_goto hO rfl ?_
        exact xEx.loc (x_sub1 (List.Mem.tail _ (List.Mem.head _)) (x_sub1 (List.Mem.tail _ (List.Mem.tail _ (List.Mem.head _))) (x_sub1 (List.Mem.head _) x_sub0))) H
      · replace H := H.2 c26
        refine s_aload_n (nx := 30) hO rfl rfl rfl ?_
        obtain ⟨p9, ep9, kp9, H⟩ := H
        refine s_getf (v := .ref (q_b G + p9)) (nx := 33) hO rfl rfl (hs_o4 kc91) (congrArg some (rv_at ep9)) rfl ?_
        refine s_getf (v := .ref (q_b G + (p9 + 4))) (nx := 36) hO rfl rfl (hs_o3 kp9) rfl rfl ?_
        refine s_iload_n (nx := 37) hO rfl rfl rfl ?_
        refine s_iload_n (nx := 38) hO rfl rfl rfl ?_
        obtain ⟨b10, H⟩ := H
        refine goV (wI s (p9 + 4) (ix v1) x1) (fun s11 es11 => ?_)
        replace H := H s11 es11
        refine s_iast (nx := 39) hO rfl (hs_I (kf3_10 kp9)) b10 rfl ?_
        refine xEx.at (up_I (kf3_10 kp9) es11) ?_
        exact s_vret hO rfl rfl ⟨rfl, _, rfl, rfl, H⟩
  refine s_istore_n (nx := 2) (l' := [(2, .int 0), (0, .ref (q_b G + 91)), (1, .int v1)]) hO rfl (by decide) rfl rfl ?_
  exact xEx.loc (x_sub1 (List.Mem.tail _ (List.Mem.head _)) (x_sub1 (List.Mem.tail _ (List.Mem.tail _ (List.Mem.head _))) (x_sub1 (List.Mem.head _) x_sub0))) H
def W_X4_findNames (s : yS) (Q : Int32 → yS → Prop) : Prop :=
 ∃ p1 : Nat, sR s 91 4 = p1 + 1 ∧ kd p1 = some (7, 0) ∧ 
 W_X3_close s p1 
 (fun s2 => ∀ P9 : Int32 → yS → Prop, (∀ (x3 : Int32) (s4 : yS), (∃ p5 : Nat, sR s4 91 4 = p5 + 1 ∧ kd p5 = some (7, 0) ∧ 
  (((sI s4 p5 4) ≤ x3 → Q (sI s4 91 0) s4)
  ∧ (¬ (sI s4 p5 4) ≤ x3 → ((¬ (sI s4 91 0) = 0 → Q (sI s4 91 0) s4)
   ∧ ((sI s4 91 0) = 0 → ∃ p6 : Nat, sR s4 91 4 = p6 + 1 ∧ kd p6 = some (7, 0) ∧ 
    vp_in x3 217 ∧ 
    ∀ P39 : Int32 → Int32 → yS → Prop, (∀ (x8 : Int32) (x9 : Int32) (s10 : yS), (∃ p11 : Nat, sR s10 91 4 = p11 + 1 ∧ kd p11 = some (7, 0) ∧ 
     vp_in (x3 + 1) 217 ∧ 
     ∀ P79 : Prop, ((∀ P99 : yS → Prop, (∀ (s13 : yS), (∀ x14 : Int32, x14 = (x3 + 1) → 
       P9 x14 s13) → P99 s13) → 
      ((x8 = 0 → P99 s10)
      ∧ (¬ x8 = 0 → ∃ p15 : Nat, sR s10 91 4 = p15 + 1 ∧ kd p15 = some (7, 0) ∧ 
       W_X3_firstWay s10 p15 
       (fun r16 => ((x3 < r16 → P99 s10)
       ∧ (¬ x3 < r16 → W_X4_findTarget s10 x3 
        (fun s17 => P99 s17))))))) → P79) → 
     (((sI s10 (p11 + 5) (ix (x3 + 1))) ≤ x9 → P79)
     ∧ (¬ (sI s10 (p11 + 5) (ix (x3 + 1))) ≤ x9 → ((x8 = 0 → P79)
      ∧ (¬ x8 = 0 → ∃ p18 : Nat, sR s10 91 4 = p18 + 1 ∧ kd p18 = some (7, 0) ∧ 
       vp_in x3 216 ∧ 
       W_X4_findSubject s10 (sI s10 (p18 + 3) (ix x3)) x9 
       (fun r20 s21 => ∀ x22 : Int32, x22 = (x9 + 1) → 
       P39 r20 x22 s21)))))) → P39 x8 x9 s10) → 
    ∀ x23 : Int32, x23 = (sI s4 (p6 + 5) (ix x3)) → 
    P39 1 x23 s4))))) → P9 x3 s4) → 
 P9 0 s2)
set_option maxRecDepth 100000 in
set_option maxHeartbeats 40000000 in
theorem w_X4_findNames {G : xG} (hG : yG G) {z : Nat} {s : yS} {Q : Int32 → yS → Prop} (H : W_X4_findNames s Q) : xC G mX4_findNames [.ref (q_b G + 91)] (hS G s) z 0 0 (yQi G z Q) := by
  have hW := hG.1
  have hcl := hG.2.1
  have hty := hG.2.2.1
  have hO : xO G mX4_findNames tbX4_findNames ptX4_findNames := ⟨tkX4_findNames, pkX4_findNames hcl⟩
  unfold W_X4_findNames at H
  refine xC.of hW (by decide) rfl (Nat.le_of_ble_eq_true rfl) ?_
  refine s_aload_n (nx := 1) hO rfl rfl rfl ?_
  obtain ⟨p1, ep1, kp1, H⟩ := H
  refine s_getf (v := .ref (q_b G + p1)) (nx := 4) hO rfl rfl (hs_o4 kc91) (congrArg some (rv_at ep1)) rfl ?_
  refine s_callV [] (ci := 3) (F := TX3) (N := 20) (nx := 7) hO rfl kX4_findNames_166 (by rw [hcl]; rfl) (hs_o3 kp1) (w_X3_close hG kp1 H) rfl rfl (Nat.le_of_ble_eq_true rfl) (Nat.zero_le _) (Nat.zero_le _) rfl (k_Qv (fun s2 H => ?_))
  refine s_iconst (x := 0) (nx := 8) hO rfl (by decide) rfl ?_
  refine goK (H (fun (x3 : Int32) (s4 : yS) => xEx G mX4_findNames 9 [(0, .ref (q_b G + 91)), (1, .int x3)] [] (hS G s4) z 0 0 (yQi G z Q)) (fun x3 s4 H => ?_)) (fun H => ?_)
  · show xEx G mX4_findNames 9 [(0, .ref (q_b G + 91)), (1, .int x3)] [] (hS G s4) z 0 0 (yQi G z Q)
    refine s_iload_n (nx := 10) hO rfl rfl rfl ?_
    refine s_aload_n (nx := 11) hO rfl rfl rfl ?_
    obtain ⟨p5, ep5, kp5, H⟩ := H
    refine s_getf (v := .ref (q_b G + p5)) (nx := 14) hO rfl rfl (hs_o4 kc91) (congrArg some (rv_at ep5)) rfl ?_
    refine s_getf (v := .int (sI s4 p5 4)) (nx := 17) hO rfl rfl (hs_o3 kp5) rfl rfl ?_
    refine s_icmp_ge (nx := 20) hO rfl rfl (fun c17 => ?_) (fun c17 => ?_)
    · replace H := H.1 c17
      refine s_aload_n (nx := 106) hO rfl rfl rfl ?_
      refine s_getf (v := .int (sI s4 91 0)) (nx := 109) hO rfl rfl (hs_o4 kc91) rfl rfl ?_
      exact s_iret hO rfl rfl rfl ⟨rfl, _, _, rfl, rfl, H⟩
    · replace H := H.2 c17
      refine s_aload_n (nx := 21) hO rfl rfl rfl ?_
      refine s_getf (v := .int (sI s4 91 0)) (nx := 24) hO rfl rfl (hs_o4 kc91) rfl rfl ?_
      refine s_if_ne (nx := 27) hO rfl rfl (fun c24 => ?_) (fun c24 => ?_)
      · replace H := H.1 c24
        refine s_aload_n (nx := 106) hO rfl rfl rfl ?_
        refine s_getf (v := .int (sI s4 91 0)) (nx := 109) hO rfl rfl (hs_o4 kc91) rfl rfl ?_
        exact s_iret hO rfl rfl rfl ⟨rfl, _, _, rfl, rfl, H⟩
      · replace H := H.2 c24
        refine s_iconst (x := 1) (nx := 28) hO rfl (by decide) rfl ?_
        refine s_istore_n (nx := 29) (l' := [(2, .int 1), (0, .ref (q_b G + 91)), (1, .int x3)]) hO rfl (by decide) rfl rfl ?_
        refine s_aload_n (nx := 30) hO rfl rfl rfl ?_
        obtain ⟨p6, ep6, kp6, H⟩ := H
        refine s_getf (v := .ref (q_b G + p6)) (nx := 33) hO rfl rfl (hs_o4 kc91) (congrArg some (rv_at ep6)) rfl ?_
        refine s_getf (v := .ref (q_b G + (p6 + 5))) (nx := 36) hO rfl rfl (hs_o3 kp6) rfl rfl ?_
        refine s_iload_n (nx := 37) hO rfl rfl rfl ?_
        obtain ⟨b7, H⟩ := H
        refine s_iald (nx := 38) hO rfl (hs_I (kf3_11 kp6)) b7 rfl ?_
        refine goK (H (fun (x8 : Int32) (x9 : Int32) (s10 : yS) => xEx G mX4_findNames 39 [(0, .ref (q_b G + 91)), (1, .int x3), (2, .int x8), (3, .int x9)] [] (hS G s10) z 0 0 (yQi G z Q)) (fun x8 x9 s10 H => ?_)) (fun H => ?_)
        · show xEx G mX4_findNames 39 [(0, .ref (q_b G + 91)), (1, .int x3), (2, .int x8), (3, .int x9)] [] (hS G s10) z 0 0 (yQi G z Q)
          refine s_iload_n (nx := 40) hO rfl rfl rfl ?_
          refine s_aload_n (nx := 41) hO rfl rfl rfl ?_
          obtain ⟨p11, ep11, kp11, H⟩ := H
          refine s_getf (v := .ref (q_b G + p11)) (nx := 44) hO rfl rfl (hs_o4 kc91) (congrArg some (rv_at ep11)) rfl ?_
          refine s_getf (v := .ref (q_b G + (p11 + 5))) (nx := 47) hO rfl rfl (hs_o3 kp11) rfl rfl ?_
          refine s_iload_n (nx := 48) hO rfl rfl rfl ?_
          refine s_iconst (x := 1) (nx := 49) hO rfl (by decide) rfl ?_
          refine s_iadd (nx := 50) hO rfl rfl ?_
          obtain ⟨b12, H⟩ := H
          refine s_iald (nx := 51) hO rfl (hs_I (kf3_11 kp11)) b12 rfl ?_
          refine goK (H (xEx G mX4_findNames 79 [(0, .ref (q_b G + 91)), (1, .int x3), (2, .int x8)] [] (hS G s10) z 0 0 (yQi G z Q)) (fun H => ?_)) (fun H => ?_)
          · show xEx G mX4_findNames 79 [(0, .ref (q_b G + 91)), (1, .int x3), (2, .int x8)] [] (hS G s10) z 0 0 (yQi G z Q)
            refine s_iload_n (nx := 80) hO rfl rfl rfl ?_
            refine goK (H (fun (s13 : yS) => xEx G mX4_findNames 99 [(0, .ref (q_b G + 91)), (1, .int x3)] [] (hS G s13) z 0 0 (yQi G z Q)) (fun s13 H => ?_)) (fun H => ?_)
            · show xEx G mX4_findNames 99 [(0, .ref (q_b G + 91)), (1, .int x3)] [] (hS G s13) z 0 0 (yQi G z Q)
              refine goV ((x3 + 1)) (fun x14 ex14 => ?_)
              replace H := H x14 ex14
              refine e_iinc (nx := 102) (l' := [(1, .int x14), (0, .ref (q_b G + 91))]) ex14 hO rfl (by decide) rfl rfl rfl rfl ?_
              refine s_goto hO rfl ?_
              exact xEx.loc (x_sub1 (List.Mem.tail _ (List.Mem.head _)) (x_sub1 (List.Mem.head _) x_sub0)) H
            refine s_if_eq (nx := 83) hO rfl rfl (fun c80 => ?_) (fun c80 => ?_)
            · replace H := H.1 c80
              exact xEx.loc (x_sub1 (List.Mem.head _) (x_sub1 (List.Mem.tail _ (List.Mem.head _)) x_sub0)) H
            · replace H := H.2 c80
              refine s_iload_n (nx := 84) hO rfl rfl rfl ?_
              refine s_aload_n (nx := 85) hO rfl rfl rfl ?_
              obtain ⟨p15, ep15, kp15, H⟩ := H
              refine s_getf (v := .ref (q_b G + p15)) (nx := 88) hO rfl rfl (hs_o4 kc91) (congrArg some (rv_at ep15)) rfl ?_
              refine s_callV [] (ci := 3) (F := TX3) (N := 20) (nx := 91) hO rfl kX4_findNames_172 (by rw [hcl]; rfl) (hs_o3 kp15) (w_X3_firstWay hG kp15 H) rfl rfl (Nat.le_of_ble_eq_true rfl) (Nat.zero_le _) (Nat.zero_le _) rfl (k_Pi (fun r16 H => ?_))
              refine s_icmp_lt (nx := 94) hO rfl rfl (fun c91 => ?_) (fun c91 => ?_)
              · replace H := H.1 c91
                exact xEx.loc (x_sub1 (List.Mem.head _) (x_sub1 (List.Mem.tail _ (List.Mem.head _)) x_sub0)) H
              · replace H := H.2 c91
                refine s_aload_n (nx := 95) hO rfl rfl rfl ?_
                refine s_iload_n (nx := 96) hO rfl rfl rfl ?_
                refine s_callV [.int x3] (ci := 4) (F := TX4) (N := 12) (nx := 99) hO rfl kX4_findNames_176 (by rw [hcl]; rfl) (hs_o4 kc91) (w_X4_findTarget hG H) rfl rfl (Nat.le_of_ble_eq_true rfl) (Nat.zero_le _) (Nat.zero_le _) rfl (k_Qv (fun s17 H => ?_))
                exact xEx.loc (x_sub1 (List.Mem.head _) (x_sub1 (List.Mem.tail _ (List.Mem.head _)) x_sub0)) H
          refine s_icmp_ge (nx := 54) hO rfl rfl (fun c51 => ?_) (fun c51 => ?_)
          · replace H := H.1 c51
            exact xEx.loc (x_sub1 (List.Mem.head _) (x_sub1 (List.Mem.tail _ (List.Mem.head _)) (x_sub1 (List.Mem.tail _ (List.Mem.tail _ (List.Mem.head _))) x_sub0))) H
          · replace H := H.2 c51
            refine s_iload_n (nx := 55) hO rfl rfl rfl ?_
            refine s_if_eq (nx := 58) hO rfl rfl (fun c55 => ?_) (fun c55 => ?_)
            · replace H := H.1 c55
              exact xEx.loc (x_sub1 (List.Mem.head _) (x_sub1 (List.Mem.tail _ (List.Mem.head _)) (x_sub1 (List.Mem.tail _ (List.Mem.tail _ (List.Mem.head _))) x_sub0))) H
            · replace H := H.2 c55
              refine s_aload_n (nx := 59) hO rfl rfl rfl ?_
              refine s_aload_n (nx := 60) hO rfl rfl rfl ?_
              obtain ⟨p18, ep18, kp18, H⟩ := H
              refine s_getf (v := .ref (q_b G + p18)) (nx := 63) hO rfl rfl (hs_o4 kc91) (congrArg some (rv_at ep18)) rfl ?_
              refine s_getf (v := .ref (q_b G + (p18 + 3))) (nx := 66) hO rfl rfl (hs_o3 kp18) rfl rfl ?_
              refine s_iload_n (nx := 67) hO rfl rfl rfl ?_
              obtain ⟨b19, H⟩ := H
              refine s_iald (nx := 68) hO rfl (hs_I (kf3_9 kp18)) b19 rfl ?_
              refine s_iload_n (nx := 69) hO rfl rfl rfl ?_
              refine s_callV [.int (sI s10 (p18 + 3) (ix x3)), .int x9] (ci := 4) (F := TX4) (N := 12) (nx := 72) hO rfl kX4_findNames_169 (by rw [hcl]; rfl) (hs_o4 kc91) (w_X4_findSubject hG H) rfl rfl (Nat.le_of_ble_eq_true rfl) (Nat.zero_le _) (Nat.zero_le _) rfl (k_Qi (fun r20 s21 H => ?_))
              refine s_istore_n (nx := 73) (l' := [(2, .int r20), (0, .ref (q_b G + 91)), (1, .int x3), (3, .int x9)]) hO rfl (by decide) rfl rfl ?_
              refine goV ((x9 + 1)) (fun x22 ex22 => ?_)
              replace H := H x22 ex22
              refine e_iinc (nx := 76) (l' := [(3, .int x22), (2, .int r20), (0, .ref (q_b G + 91)), (1, .int x3)]) ex22 hO rfl (by decide) rfl rfl rfl rfl ?_
              refine s_goto hO rfl ?_
              exact xEx.loc (x_sub1 (List.Mem.tail _ (List.Mem.tail _ (List.Mem.head _))) (x_sub1 (List.Mem.tail _ (List.Mem.tail _ (List.Mem.tail _ (List.Mem.head _)))) (x_sub1 (List.Mem.tail _ (List.Mem.head _)) (x_sub1 (List.Mem.head _) x_sub0)))) H
        refine goV ((sI s4 (p6 + 5) (ix x3))) (fun x23 ex23 => ?_)
        replace H := H x23 ex23
        refine e_istore_n (nx := 39) (l' := [(3, .int x23), (2, .int 1), (0, .ref (q_b G + 91)), (1, .int x3)]) ex23 hO rfl (by decide) rfl rfl ?_
        exact xEx.loc (x_sub1 (List.Mem.tail _ (List.Mem.tail _ (List.Mem.head _))) (x_sub1 (List.Mem.tail _ (List.Mem.tail _ (List.Mem.tail _ (List.Mem.head _)))) (x_sub1 (List.Mem.tail _ (List.Mem.head _)) (x_sub1 (List.Mem.head _) x_sub0)))) H
  refine s_istore_n (nx := 9) (l' := [(1, .int 0), (0, .ref (q_b G + 91))]) hO rfl (by decide) rfl rfl ?_
  exact xEx.loc (x_sub1 (List.Mem.tail _ (List.Mem.head _)) (x_sub1 (List.Mem.head _) x_sub0)) H
def W_X5_codeCount (s : yS) (g : Nat) (Q : Int32 → Prop) : Prop :=
 ∀ P4 : Int32 → Int32 → Prop, (∀ (x1 : Int32) (x2 : Int32), ((((sI s g 0) ≤ x2 → Q x1)
  ∧ (¬ (sI s g 0) ≤ x2 → vp_in x2 12 ∧ 
   ∀ x4 : Int32, x4 = (x1 + (sI s (g + 5) (ix x2))) → 
   ∀ x5 : Int32, x5 = (x2 + 1) → 
   P4 x4 x5))) → P4 x1 x2) → 
 P4 0 0
set_option maxRecDepth 100000 in
set_option maxHeartbeats 40000000 in
theorem w_X5_codeCount {G : xG} (hG : yG G) {z : Nat} {s : yS} {g : Nat} {Q : Int32 → Prop} (hg : kd g = some (9, 0)) (H : W_X5_codeCount s g Q) : xC G mX5_codeCount [.ref (q_b G + g)] (hS G s) z 0 0 (yPi G z s Q) := by
  have hW := hG.1
  have hcl := hG.2.1
  have hty := hG.2.2.1
  have hO : xO G mX5_codeCount tbX5_codeCount ptX5_codeCount := ⟨tkX5_codeCount, pkX5_codeCount hcl⟩
  unfold W_X5_codeCount at H
  refine xC.of hW (by decide) rfl (Nat.le_of_ble_eq_true rfl) ?_
  refine s_iconst (x := 0) (nx := 1) hO rfl (by decide) rfl ?_
  refine s_istore_n (nx := 2) (l' := [(1, .int 0), (0, .ref (q_b G + g))]) hO rfl (by decide) rfl rfl ?_
  refine s_iconst (x := 0) (nx := 3) hO rfl (by decide) rfl ?_
  refine goK (H (fun (x1 : Int32) (x2 : Int32) => xEx G mX5_codeCount 4 [(0, .ref (q_b G + g)), (1, .int x1), (2, .int x2)] [] (hS G s) z 0 0 (yPi G z s Q)) (fun x1 x2 H => ?_)) (fun H => ?_)
  · show xEx G mX5_codeCount 4 [(0, .ref (q_b G + g)), (1, .int x1), (2, .int x2)] [] (hS G s) z 0 0 (yPi G z s Q)
    refine s_iload_n (nx := 5) hO rfl rfl rfl ?_
    refine s_aload_n (nx := 6) hO rfl rfl rfl ?_
    refine s_getf (v := .int (sI s g 0)) (nx := 9) hO rfl rfl (hs_o5 hg) rfl rfl ?_
    refine s_icmp_ge (nx := 12) hO rfl rfl (fun c9 => ?_) (fun c9 => ?_)
    · replace H := H.1 c9
      refine s_iload_n (nx := 28) hO rfl rfl rfl ?_
      exact s_iret hO rfl rfl rfl ⟨rfl, _, rfl, rfl, H⟩
    · replace H := H.2 c9
      refine s_iload_n (nx := 13) hO rfl rfl rfl ?_
      refine s_aload_n (nx := 14) hO rfl rfl rfl ?_
      refine s_getf (v := .ref (q_b G + (g + 5))) (nx := 17) hO rfl rfl (hs_o5 hg) rfl rfl ?_
      refine s_iload_n (nx := 18) hO rfl rfl rfl ?_
      obtain ⟨b3, H⟩ := H
      refine s_iald (nx := 19) hO rfl (hs_I (kf5_5 hg)) b3 rfl ?_
      refine s_iadd (nx := 20) hO rfl rfl ?_
      refine goV ((x1 + (sI s (g + 5) (ix x2)))) (fun x4 ex4 => ?_)
      replace H := H x4 ex4
      refine e_istore_n (nx := 21) (l' := [(1, .int x4), (0, .ref (q_b G + g)), (2, .int x2)]) ex4 hO rfl (by decide) rfl rfl ?_
      refine goV ((x2 + 1)) (fun x5 ex5 => ?_)
      replace H := H x5 ex5
      refine e_iinc (nx := 24) (l' := [(2, .int x5), (1, .int x4), (0, .ref (q_b G + g))]) ex5 hO rfl (by decide) rfl rfl rfl rfl ?_
      refine s_goto hO rfl ?_
      exact xEx.loc (x_sub1 (List.Mem.tail _ (List.Mem.tail _ (List.Mem.head _))) (x_sub1 (List.Mem.tail _ (List.Mem.head _)) (x_sub1 (List.Mem.head _) x_sub0))) H
  refine s_istore_n (nx := 4) (l' := [(2, .int 0), (1, .int 0), (0, .ref (q_b G + g))]) hO rfl (by decide) rfl rfl ?_
  exact xEx.loc (x_sub1 (List.Mem.tail _ (List.Mem.tail _ (List.Mem.head _))) (x_sub1 (List.Mem.tail _ (List.Mem.head _)) (x_sub1 (List.Mem.head _) x_sub0))) H
def W_X5_hasGuard (s : yS) (g : Nat) (Q : Int32 → Prop) : Prop :=
 ∀ P2 : Int32 → Prop, (∀ (x1 : Int32), ((((sI s g 0) ≤ x1 → Q 0)
  ∧ (¬ (sI s g 0) ≤ x1 → ∀ P12 : Int32 → Prop, (∀ (x2 : Int32), (vp_in x1 12 ∧ 
    (((sI s (g + 5) (ix x1)) ≤ x2 → ∀ x4 : Int32, x4 = (x1 + 1) → 
     P2 x4)
    ∧ (¬ (sI s (g + 5) (ix x1)) ≤ x2 → vp_in ((x1 * (nI 400)) + x2) 4800 ∧ 
     ((¬ (sI s (g + 7) (ix ((x1 * (nI 400)) + x2))) = (nI 29) → ∀ x6 : Int32, x6 = (x2 + 1) → 
      P12 x6)
     ∧ ((sI s (g + 7) (ix ((x1 * (nI 400)) + x2))) = (nI 29) → Q 1))))) → P12 x2) → 
   P12 0))) → P2 x1) → 
 P2 0
set_option maxRecDepth 100000 in
set_option maxHeartbeats 40000000 in
theorem w_X5_hasGuard {G : xG} (hG : yG G) {z : Nat} {s : yS} {g : Nat} {Q : Int32 → Prop} (hg : kd g = some (9, 0)) (H : W_X5_hasGuard s g Q) : xC G mX5_hasGuard [.ref (q_b G + g)] (hS G s) z 0 0 (yPi G z s Q) := by
  have hW := hG.1
  have hcl := hG.2.1
  have hty := hG.2.2.1
  have hO : xO G mX5_hasGuard tbX5_hasGuard ptX5_hasGuard := ⟨tkX5_hasGuard, pkX5_hasGuard hcl⟩
  unfold W_X5_hasGuard at H
  refine xC.of hW (by decide) rfl (Nat.le_of_ble_eq_true rfl) ?_
  refine s_iconst (x := 0) (nx := 1) hO rfl (by decide) rfl ?_
  refine goK (H (fun (x1 : Int32) => xEx G mX5_hasGuard 2 [(0, .ref (q_b G + g)), (1, .int x1)] [] (hS G s) z 0 0 (yPi G z s Q)) (fun x1 H => ?_)) (fun H => ?_)
  · show xEx G mX5_hasGuard 2 [(0, .ref (q_b G + g)), (1, .int x1)] [] (hS G s) z 0 0 (yPi G z s Q)
    refine s_iload_n (nx := 3) hO rfl rfl rfl ?_
    refine s_aload_n (nx := 4) hO rfl rfl rfl ?_
    refine s_getf (v := .int (sI s g 0)) (nx := 7) hO rfl rfl (hs_o5 hg) rfl rfl ?_
    refine s_icmp_ge (nx := 10) hO rfl rfl (fun c7 => ?_) (fun c7 => ?_)
    · replace H := H.1 c7
      refine s_iconst (x := 0) (nx := 54) hO rfl (by decide) rfl ?_
      exact s_iret hO rfl rfl rfl ⟨rfl, _, rfl, rfl, H⟩
    · replace H := H.2 c7
      refine s_iconst (x := 0) (nx := 11) hO rfl (by decide) rfl ?_
      refine goK (H (fun (x2 : Int32) => xEx G mX5_hasGuard 12 [(0, .ref (q_b G + g)), (1, .int x1), (2, .int x2)] [] (hS G s) z 0 0 (yPi G z s Q)) (fun x2 H => ?_)) (fun H => ?_)
      · show xEx G mX5_hasGuard 12 [(0, .ref (q_b G + g)), (1, .int x1), (2, .int x2)] [] (hS G s) z 0 0 (yPi G z s Q)
        refine s_iload_n (nx := 13) hO rfl rfl rfl ?_
        refine s_aload_n (nx := 14) hO rfl rfl rfl ?_
        refine s_getf (v := .ref (q_b G + (g + 5))) (nx := 17) hO rfl rfl (hs_o5 hg) rfl rfl ?_
        refine s_iload_n (nx := 18) hO rfl rfl rfl ?_
        obtain ⟨b3, H⟩ := H
        refine s_iald (nx := 19) hO rfl (hs_I (kf5_5 hg)) b3 rfl ?_
        refine s_icmp_ge (nx := 22) hO rfl rfl (fun c19 => ?_) (fun c19 => ?_)
        · replace H := H.1 c19
          refine goV ((x1 + 1)) (fun x4 ex4 => ?_)
          replace H := H x4 ex4
          refine e_iinc (nx := 50) (l' := [(1, .int x4), (0, .ref (q_b G + g)), (2, .int x2)]) ex4 hO rfl (by decide) rfl rfl rfl rfl ?_
          refine s_goto hO rfl ?_
          exact xEx.loc (x_sub1 (List.Mem.tail _ (List.Mem.head _)) (x_sub1 (List.Mem.head _) x_sub0)) H
        · replace H := H.2 c19
          refine s_aload_n (nx := 23) hO rfl rfl rfl ?_
          refine s_getf (v := .ref (q_b G + (g + 7))) (nx := 26) hO rfl rfl (hs_o5 hg) rfl rfl ?_
          refine s_iload_n (nx := 27) hO rfl rfl rfl ?_
          refine s_sipush (x := (nI 400)) (nx := 30) hO rfl (by decide) rfl ?_
          refine s_imul (nx := 31) hO rfl rfl ?_
          refine s_iload_n (nx := 32) hO rfl rfl rfl ?_
          refine s_iadd (nx := 33) hO rfl rfl ?_
          obtain ⟨b5, H⟩ := H
          refine s_iald (nx := 34) hO rfl (hs_I (kf5_7 hg)) b5 rfl ?_
          refine s_bipush (x := (nI 29)) (nx := 36) hO rfl (by decide) rfl ?_
          refine s_icmp_ne (nx := 39) hO rfl rfl (fun c36 => ?_) (fun c36 => ?_)
          · replace H := H.1 c36
            refine goV ((x2 + 1)) (fun x6 ex6 => ?_)
            replace H := H x6 ex6
            refine e_iinc (nx := 44) (l' := [(2, .int x6), (0, .ref (q_b G + g)), (1, .int x1)]) ex6 hO rfl (by decide) rfl rfl rfl rfl ?_
            refine s_goto hO rfl ?_
            exact xEx.loc (x_sub1 (List.Mem.tail _ (List.Mem.head _)) (x_sub1 (List.Mem.tail _ (List.Mem.tail _ (List.Mem.head _))) (x_sub1 (List.Mem.head _) x_sub0))) H
          · replace H := H.2 c36
            refine s_iconst (x := 1) (nx := 40) hO rfl (by decide) rfl ?_
            exact s_iret hO rfl rfl rfl ⟨rfl, _, rfl, rfl, H⟩
      refine s_istore_n (nx := 12) (l' := [(2, .int 0), (0, .ref (q_b G + g)), (1, .int x1)]) hO rfl (by decide) rfl rfl ?_
      exact xEx.loc (x_sub1 (List.Mem.tail _ (List.Mem.head _)) (x_sub1 (List.Mem.tail _ (List.Mem.tail _ (List.Mem.head _))) (x_sub1 (List.Mem.head _) x_sub0))) H
  refine s_istore_n (nx := 2) (l' := [(1, .int 0), (0, .ref (q_b G + g))]) hO rfl (by decide) rfl rfl ?_
  exact xEx.loc (x_sub1 (List.Mem.tail _ (List.Mem.head _)) (x_sub1 (List.Mem.head _) x_sub0)) H
def W_X5_put (s : yS) (a1 n1 : Nat) (v2 : Int32) (v3 : Int32) (v4 : Int32) (Q : Int32 → yS → Prop) : Prop :=
 ∀ P3 : Int32 → yS → Prop, (∀ (x1 : Int32) (s2 : yS), (((v4 ≤ x1 → Q (v2 + v4) s2)
  ∧ (¬ v4 ≤ x1 → vp_in (v2 + x1) n1 ∧ ∀ s4 : yS, s4 = wI s2 a1 (ix (v2 + x1)) (vp_nar .byte ((v3 >>> (((nI 8) * ((v4 - 1) - x1)) &&& 31))).toInt8.toInt32) → 
   ∀ x5 : Int32, x5 = (x1 + 1) → 
   P3 x5 s4))) → P3 x1 s2) → 
 P3 0 s
set_option maxRecDepth 100000 in
set_option maxHeartbeats 40000000 in
theorem w_X5_put {G : xG} (hG : yG G) {z : Nat} {s : yS} {a1 n1 : Nat} {v2 : Int32} {v3 : Int32} {v4 : Int32} {Q : Int32 → yS → Prop} (ha1 : kd a1 = some (1, n1)) (H : W_X5_put s a1 n1 v2 v3 v4 Q) : xC G mX5_put [.ref (q_b G + a1), .int v2, .int v3, .int v4] (hS G s) z 0 0 (yQi G z Q) := by
  have hW := hG.1
  have hcl := hG.2.1
  have hty := hG.2.2.1
  have hO : xO G mX5_put tbX5_put ptX5_put := ⟨tkX5_put, pkX5_put hcl⟩
  unfold W_X5_put at H
  refine xC.of hW (by decide) rfl (Nat.le_of_ble_eq_true rfl) ?_
  refine s_iconst (x := 0) (nx := 1) hO rfl (by decide) rfl ?_
  refine goK (H (fun (x1 : Int32) (s2 : yS) => xEx G mX5_put 3 [(0, .ref (q_b G + a1)), (1, .int v2), (2, .int v3), (3, .int v4), (4, .int x1)] [] (hS G s2) z 0 0 (yQi G z Q)) (fun x1 s2 H => ?_)) (fun H => ?_)
  · show xEx G mX5_put 3 [(0, .ref (q_b G + a1)), (1, .int v2), (2, .int v3), (3, .int v4), (4, .int x1)] [] (hS G s2) z 0 0 (yQi G z Q)
    refine s_iload (nx := 5) hO rfl rfl rfl ?_
    refine s_iload_n (nx := 6) hO rfl rfl rfl ?_
    refine s_icmp_ge (nx := 9) hO rfl rfl (fun c6 => ?_) (fun c6 => ?_)
    · replace H := H.1 c6
      refine s_iload_n (nx := 34) hO rfl rfl rfl ?_
      refine s_iload_n (nx := 35) hO rfl rfl rfl ?_
      refine s_iadd (nx := 36) hO rfl rfl ?_
      exact s_iret hO rfl rfl rfl ⟨rfl, _, _, rfl, rfl, H⟩
    · replace H := H.2 c6
      refine s_aload_n (nx := 10) hO rfl rfl rfl ?_
      refine s_iload_n (nx := 11) hO rfl rfl rfl ?_
      refine s_iload (nx := 13) hO rfl rfl rfl ?_
      refine s_iadd (nx := 14) hO rfl rfl ?_
      refine s_iload_n (nx := 15) hO rfl rfl rfl ?_
      refine s_bipush (x := (nI 8)) (nx := 17) hO rfl (by decide) rfl ?_
      refine s_iload_n (nx := 18) hO rfl rfl rfl ?_
      refine s_iconst (x := 1) (nx := 19) hO rfl (by decide) rfl ?_
      refine s_isub (nx := 20) hO rfl rfl ?_
      refine s_iload (nx := 22) hO rfl rfl rfl ?_
      refine s_isub (nx := 23) hO rfl rfl ?_
      refine s_imul (nx := 24) hO rfl rfl ?_
      refine s_ishr (nx := 25) hO rfl rfl ?_
      refine s_i2b (nx := 26) hO rfl rfl ?_
      obtain ⟨b3, H⟩ := H
      refine goV (wI s2 a1 (ix (v2 + x1)) (vp_nar .byte ((v3 >>> (((nI 8) * ((v4 - 1) - x1)) &&& 31))).toInt8.toInt32)) (fun s4 es4 => ?_)
      replace H := H s4 es4
      refine s_bast (nx := 27) hO rfl (hs_B ha1) b3 rfl ?_
      refine xEx.at (up_B ha1 es4) ?_
      refine goV ((x1 + 1)) (fun x5 ex5 => ?_)
      replace H := H x5 ex5
      refine e_iinc (nx := 30) (l' := [(4, .int x5), (0, .ref (q_b G + a1)), (1, .int v2), (2, .int v3), (3, .int v4)]) ex5 hO rfl (by decide) rfl rfl rfl rfl ?_
      refine s_goto hO rfl ?_
      exact xEx.loc (x_sub1 (List.Mem.tail _ (List.Mem.head _)) (x_sub1 (List.Mem.tail _ (List.Mem.tail _ (List.Mem.head _))) (x_sub1 (List.Mem.tail _ (List.Mem.tail _ (List.Mem.tail _ (List.Mem.head _)))) (x_sub1 (List.Mem.tail _ (List.Mem.tail _ (List.Mem.tail _ (List.Mem.tail _ (List.Mem.head _))))) (x_sub1 (List.Mem.head _) x_sub0))))) H
  refine s_istore (nx := 3) (l' := [(4, .int 0), (0, .ref (q_b G + a1)), (1, .int v2), (2, .int v3), (3, .int v4)]) hO rfl (by decide) rfl rfl ?_
  exact xEx.loc (x_sub1 (List.Mem.tail _ (List.Mem.head _)) (x_sub1 (List.Mem.tail _ (List.Mem.tail _ (List.Mem.head _))) (x_sub1 (List.Mem.tail _ (List.Mem.tail _ (List.Mem.tail _ (List.Mem.head _)))) (x_sub1 (List.Mem.tail _ (List.Mem.tail _ (List.Mem.tail _ (List.Mem.tail _ (List.Mem.head _))))) (x_sub1 (List.Mem.head _) x_sub0))))) H
def W_X5_writeHandler (s : yS) (g : Nat) (a1 n1 : Nat) (v2 : Int32) (v3 : Int32) (Q : Int32 → yS → Prop) : Prop :=
 vp_in v3 72 ∧ 
 W_X5_put s a1 n1 v2 (sI s (g + 13) (ix v3)) (nI 2) 
 (fun r2 s3 => vp_in v3 72 ∧ 
 W_X5_put s3 a1 n1 r2 (sI s3 (g + 14) (ix v3)) (nI 2) 
 (fun r5 s6 => vp_in v3 72 ∧ 
 W_X5_put s6 a1 n1 r5 (sI s6 (g + 15) (ix v3)) (nI 2) 
 (fun r8 s9 => vp_in v3 72 ∧ 
 ∀ P61 : Int32 → Prop, (∀ (y11 : Int32), (W_X5_put s9 a1 n1 r8 y11 1 
  (fun r12 s13 => vp_in v3 72 ∧ 
  (((sI s13 (g + 16) (ix v3)) = 0 → vp_in v3 72 ∧ 
   W_X5_put s13 a1 n1 r12 (sI s13 (g + 17) (ix v3)) (nI 4) 
   (fun r16 s17 => Q r16 s17))
  ∧ (¬ (sI s13 (g + 16) (ix v3)) = 0 → Q r12 s13)))) → P61 y11) → 
 (((sI s9 (g + 16) (ix v3)) = 0 → P61 1)
 ∧ (¬ (sI s9 (g + 16) (ix v3)) = 0 → P61 0)))))
set_option maxRecDepth 100000 in
set_option maxHeartbeats 40000000 in
theorem w_X5_writeHandler {G : xG} (hG : yG G) {z : Nat} {s : yS} {g : Nat} {a1 n1 : Nat} {v2 : Int32} {v3 : Int32} {Q : Int32 → yS → Prop} (hg : kd g = some (9, 0)) (ha1 : kd a1 = some (1, n1)) (H : W_X5_writeHandler s g a1 n1 v2 v3 Q) : xC G mX5_writeHandler [.ref (q_b G + g), .ref (q_b G + a1), .int v2, .int v3] (hS G s) z 0 0 (yQi G z Q) := by
  have hW := hG.1
  have hcl := hG.2.1
  have hty := hG.2.2.1
  have hO : xO G mX5_writeHandler tbX5_writeHandler ptX5_writeHandler := ⟨tkX5_writeHandler, pkX5_writeHandler hcl⟩
  unfold W_X5_writeHandler at H
  refine xC.of hW (by decide) rfl (Nat.le_of_ble_eq_true rfl) ?_
  refine s_aload_n (nx := 1) hO rfl rfl rfl ?_
  refine s_iload_n (nx := 2) hO rfl rfl rfl ?_
  refine s_aload_n (nx := 3) hO rfl rfl rfl ?_
  refine s_getf (v := .ref (q_b G + (g + 13))) (nx := 6) hO rfl rfl (hs_o5 hg) rfl rfl ?_
  refine s_iload_n (nx := 7) hO rfl rfl rfl ?_
  obtain ⟨b1, H⟩ := H
  refine s_iald (nx := 8) hO rfl (hs_I (kf5_14 hg)) b1 rfl ?_
  refine s_iconst (x := (nI 2)) (nx := 9) hO rfl (by decide) rfl ?_
  refine s_callS [.ref (q_b G + a1), .int v2, .int (sI s (g + 13) (ix v3)), .int (nI 2)] (nx := 12) hO rfl kX5_writeHandler_81 (w_X5_put hG ha1 H) rfl rfl (Nat.le_of_ble_eq_true rfl) (Nat.zero_le _) (Nat.zero_le _) rfl (k_Qi (fun r2 s3 H => ?_))
  refine s_istore (nx := 14) (l' := [(4, .int r2), (0, .ref (q_b G + g)), (1, .ref (q_b G + a1)), (2, .int v2), (3, .int v3)]) hO rfl (by decide) rfl rfl ?_
  refine s_aload_n (nx := 15) hO rfl rfl rfl ?_
  refine s_iload (nx := 17) hO rfl rfl rfl ?_
  refine s_aload_n (nx := 18) hO rfl rfl rfl ?_
  refine s_getf (v := .ref (q_b G + (g + 14))) (nx := 21) hO rfl rfl (hs_o5 hg) rfl rfl ?_
  refine s_iload_n (nx := 22) hO rfl rfl rfl ?_
  obtain ⟨b4, H⟩ := H
  refine s_iald (nx := 23) hO rfl (hs_I (kf5_15 hg)) b4 rfl ?_
  refine s_iconst (x := (nI 2)) (nx := 24) hO rfl (by decide) rfl ?_
  refine s_callS [.ref (q_b G + a1), .int r2, .int (sI s3 (g + 14) (ix v3)), .int (nI 2)] (nx := 27) hO rfl kX5_writeHandler_81 (w_X5_put hG ha1 H) rfl rfl (Nat.le_of_ble_eq_true rfl) (Nat.zero_le _) (Nat.zero_le _) rfl (k_Qi (fun r5 s6 H => ?_))
  refine s_istore (nx := 29) (l' := [(4, .int r5), (0, .ref (q_b G + g)), (1, .ref (q_b G + a1)), (2, .int v2), (3, .int v3)]) hO rfl (by decide) rfl rfl ?_
  refine s_aload_n (nx := 30) hO rfl rfl rfl ?_
  refine s_iload (nx := 32) hO rfl rfl rfl ?_
  refine s_aload_n (nx := 33) hO rfl rfl rfl ?_
  refine s_getf (v := .ref (q_b G + (g + 15))) (nx := 36) hO rfl rfl (hs_o5 hg) rfl rfl ?_
  refine s_iload_n (nx := 37) hO rfl rfl rfl ?_
  obtain ⟨b7, H⟩ := H
  refine s_iald (nx := 38) hO rfl (hs_I (kf5_16 hg)) b7 rfl ?_
  refine s_iconst (x := (nI 2)) (nx := 39) hO rfl (by decide) rfl ?_
  refine s_callS [.ref (q_b G + a1), .int r5, .int (sI s6 (g + 15) (ix v3)), .int (nI 2)] (nx := 42) hO rfl kX5_writeHandler_81 (w_X5_put hG ha1 H) rfl rfl (Nat.le_of_ble_eq_true rfl) (Nat.zero_le _) (Nat.zero_le _) rfl (k_Qi (fun r8 s9 H => ?_))
  refine s_istore (nx := 44) (l' := [(4, .int r8), (0, .ref (q_b G + g)), (1, .ref (q_b G + a1)), (2, .int v2), (3, .int v3)]) hO rfl (by decide) rfl rfl ?_
  refine s_aload_n (nx := 45) hO rfl rfl rfl ?_
  refine s_iload (nx := 47) hO rfl rfl rfl ?_
  refine s_aload_n (nx := 48) hO rfl rfl rfl ?_
  refine s_getf (v := .ref (q_b G + (g + 16))) (nx := 51) hO rfl rfl (hs_o5 hg) rfl rfl ?_
  refine s_iload_n (nx := 52) hO rfl rfl rfl ?_
  obtain ⟨b10, H⟩ := H
  refine s_zald (nx := 53) hO rfl (hs_Z (kf5_17 hg)) b10 rfl ?_
  refine goK (H (fun (y11 : Int32) => xEx G mX5_writeHandler 61 [(0, .ref (q_b G + g)), (1, .ref (q_b G + a1)), (3, .int v3)] [.int y11, .int r8, .ref (q_b G + a1)] (hS G s9) z 0 0 (yQi G z Q)) (fun y11 H => ?_)) (fun H => ?_)
  · show xEx G mX5_writeHandler 61 [(0, .ref (q_b G + g)), (1, .ref (q_b G + a1)), (3, .int v3)] [.int y11, .int r8, .ref (q_b G + a1)] (hS G s9) z 0 0 (yQi G z Q)
    refine s_iconst (x := 1) (nx := 62) hO rfl (by decide) rfl ?_
    refine s_callS [.ref (q_b G + a1), .int r8, .int y11, .int 1] (nx := 65) hO rfl kX5_writeHandler_81 (w_X5_put hG ha1 H) rfl rfl (Nat.le_of_ble_eq_true rfl) (Nat.zero_le _) (Nat.zero_le _) rfl (k_Qi (fun r12 s13 H => ?_))
    refine s_istore (nx := 67) (l' := [(4, .int r12), (0, .ref (q_b G + g)), (1, .ref (q_b G + a1)), (3, .int v3)]) hO rfl (by decide) rfl rfl ?_
    refine s_aload_n (nx := 68) hO rfl rfl rfl ?_
    refine s_getf (v := .ref (q_b G + (g + 16))) (nx := 71) hO rfl rfl (hs_o5 hg) rfl rfl ?_
    refine s_iload_n (nx := 72) hO rfl rfl rfl ?_
    obtain ⟨b14, H⟩ := H
    refine s_zald (nx := 73) hO rfl (hs_Z (kf5_17 hg)) b14 rfl ?_
    refine s_if_eq (nx := 76) hO rfl rfl (fun c73 => ?_) (fun c73 => ?_)
    · replace H := H.1 c73
      refine s_aload_n (nx := 82) hO rfl rfl rfl ?_
      refine s_iload (nx := 84) hO rfl rfl rfl ?_
      refine s_aload_n (nx := 85) hO rfl rfl rfl ?_
      refine s_getf (v := .ref (q_b G + (g + 17))) (nx := 88) hO rfl rfl (hs_o5 hg) rfl rfl ?_
      refine s_iload_n (nx := 89) hO rfl rfl rfl ?_
      obtain ⟨b15, H⟩ := H
      refine s_iald (nx := 90) hO rfl (hs_I (kf5_18 hg)) b15 rfl ?_
      refine s_iconst (x := (nI 4)) (nx := 91) hO rfl (by decide) rfl ?_
      refine s_callS [.ref (q_b G + a1), .int r12, .int (sI s13 (g + 17) (ix v3)), .int (nI 4)] (nx := 94) hO rfl kX5_writeHandler_81 (w_X5_put hG ha1 H) rfl rfl (Nat.le_of_ble_eq_true rfl) (Nat.zero_le _) (Nat.zero_le _) rfl (k_Qi (fun r16 s17 H => ?_))
      exact s_iret hO rfl rfl rfl ⟨rfl, _, _, rfl, rfl, H⟩
    · replace H := H.2 c73
      refine s_iload (nx := 78) hO rfl rfl rfl ?_
      refine s_goto hO rfl ?_
      exact s_iret hO rfl rfl rfl ⟨rfl, _, _, rfl, rfl, H⟩
  refine s_if_eq (nx := 56) hO rfl rfl (fun c53 => ?_) (fun c53 => ?_)
  · replace H := H.1 c53
    refine s_iconst (x := 1) (nx := 61) hO rfl (by decide) rfl ?_
    exact xEx.loc (x_sub1 (List.Mem.tail _ (List.Mem.head _)) (x_sub1 (List.Mem.tail _ (List.Mem.tail _ (List.Mem.head _))) (x_sub1 (List.Mem.tail _ (List.Mem.tail _ (List.Mem.tail _ (List.Mem.tail _ (List.Mem.head _))))) x_sub0))) H
  · replace H := H.2 c53
    refine s_iconst (x := 0) (nx := 57) hO rfl (by decide) rfl ?_
    refine s_goto hO rfl ?_
    exact xEx.loc (x_sub1 (List.Mem.tail _ (List.Mem.head _)) (x_sub1 (List.Mem.tail _ (List.Mem.tail _ (List.Mem.head _))) (x_sub1 (List.Mem.tail _ (List.Mem.tail _ (List.Mem.tail _ (List.Mem.tail _ (List.Mem.head _))))) x_sub0))) H
def W_X5_write (s : yS) (g : Nat) (a1 n1 : Nat) (Q : Int32 → yS → Prop) : Prop :=
 W_X5_byteLength s g 
 (fun r1 => ((r1 ≤ (nI n1) → W_X5_put s a1 n1 0 (((1195770112)) ||| (sI s g 0)) (nI 4) 
  (fun r2 s3 => ∀ P27 : Int32 → Int32 → yS → Prop, (∀ (x4 : Int32) (x5 : Int32) (s6 : yS), ((((sI s6 g 0) ≤ x5 → Q x4 s6)
   ∧ (¬ (sI s6 g 0) ≤ x5 → vp_in x5 12 ∧ 
    W_X5_put s6 a1 n1 x4 (sI s6 (g + 1) (ix x5)) 1 
    (fun r8 s9 => vp_in x5 12 ∧ 
    W_X5_put s9 a1 n1 r8 (sI s9 (g + 2) (ix x5)) 1 
    (fun r11 s12 => vp_in x5 12 ∧ 
    W_X5_put s12 a1 n1 r11 (sI s12 (g + 3) (ix x5)) (nI 2) 
    (fun r14 s15 => vp_in x5 12 ∧ 
    W_X5_put s15 a1 n1 r14 (sI s15 (g + 4) (ix x5)) 1 
    (fun r17 s18 => vp_in x5 12 ∧ 
    W_X5_put s18 a1 n1 r17 (sI s18 (g + 5) (ix x5)) (nI 2) 
    (fun r20 s21 => ∀ P107 : Int32 → Int32 → yS → Prop, (∀ (x22 : Int32) (x23 : Int32) (s24 : yS), (vp_in x5 12 ∧ 
     ((((x5 * (nI 400)) + (sI s24 (g + 5) (ix x5))) ≤ x23 → vp_in x5 12 ∧ 
      W_X5_put s24 a1 n1 x22 (sI s24 (g + 6) (ix x5)) 1 
      (fun r27 s28 => ∀ P187 : Int32 → Int32 → yS → Prop, (∀ (x29 : Int32) (x30 : Int32) (s31 : yS), (vp_in x5 12 ∧ 
       ((((x5 * (nI 6)) + (sI s31 (g + 6) (ix x5))) ≤ x30 → ∀ x33 : Int32, x33 = (x5 + 1) → 
        P27 x29 x33 s31)
       ∧ (¬ ((x5 * (nI 6)) + (sI s31 (g + 6) (ix x5))) ≤ x30 → W_X5_writeHandler s31 g a1 n1 x29 x30 
        (fun r34 s35 => ∀ x36 : Int32, x36 = (x30 + 1) → 
        P187 r34 x36 s35)))) → P187 x29 x30 s31) → 
      ∀ x37 : Int32, x37 = (x5 * (nI 6)) → 
      P187 r27 x37 s28))
     ∧ (¬ ((x5 * (nI 400)) + (sI s24 (g + 5) (ix x5))) ≤ x23 → vp_in x23 4800 ∧ 
      W_X5_put s24 a1 n1 x22 (sI s24 (g + 7) (ix x23)) 1 
      (fun r39 s40 => vp_in x23 4800 ∧ 
      vp_in x23 4800 ∧ 
      vp_in (sI s40 (g + 7) (ix x23)) 30 ∧ 
      W_X5_put s40 a1 n1 r39 (sI s40 (g + 8) (ix x23)) (g_wid.getD (ix (sI s40 (g + 7) (ix x23))) 0) 
      (fun r44 s45 => ∀ x46 : Int32, x46 = (x23 + 1) → 
      P107 r44 x46 s45))))) → P107 x22 x23 s24) → 
    ∀ x47 : Int32, x47 = (x5 * (nI 400)) → 
    P107 r20 x47 s21)))))))) → P27 x4 x5 s6) → 
  P27 r2 0 s3))
 ∧ (¬ r1 ≤ (nI n1) → Q 0 s)))
set_option maxRecDepth 100000 in
set_option maxHeartbeats 40000000 in
theorem w_X5_write {G : xG} (hG : yG G) {z : Nat} {s : yS} {g : Nat} {a1 n1 : Nat} {Q : Int32 → yS → Prop} (hg : kd g = some (9, 0)) (ha1 : kd a1 = some (1, n1)) (H : W_X5_write s g a1 n1 Q) : xC G mX5_write [.ref (q_b G + g), .ref (q_b G + a1)] (hS G s) z 0 0 (yQi G z Q) := by
  have hW := hG.1
  have hcl := hG.2.1
  have hty := hG.2.2.1
  obtain ⟨t0, t1, hf0, hf1, hr1, hr2⟩ := hG.2.2.2.1
  have hO : xO G mX5_write tbX5_write ptX5_write := ⟨tkX5_write, pkX5_write hcl hf0⟩
  unfold W_X5_write at H
  refine xC.of hW (by decide) rfl (Nat.le_of_ble_eq_true rfl) ?_
  refine s_aload_n (nx := 1) hO rfl rfl rfl ?_
  refine s_callV [] (ci := 5) (F := TX5) (N := 19) (nx := 4) hO rfl kX5_write_76 (by rw [hcl]; rfl) (hs_o5 hg) (w_X5_byteLength hG hg H) rfl rfl (Nat.le_of_ble_eq_true rfl) (Nat.zero_le _) (Nat.zero_le _) rfl (k_Pi (fun r1 H => ?_))
  refine s_aload_n (nx := 5) hO rfl rfl rfl ?_
  refine s_alen (nx := 6) hO rfl (hs_B ha1) (by simp) rfl ?_
  refine s_icmp_le (nx := 9) hO rfl rfl (fun c6 => ?_) (fun c6 => ?_)
  · replace H := H.1 c6
    refine s_aload_n (nx := 12) hO rfl rfl rfl ?_
    refine s_iconst (x := 0) (nx := 13) hO rfl (by decide) rfl ?_
    refine s_ldc (x := ((1195770112))) (nx := 15) hO rfl rfl rfl ?_
    refine s_aload_n (nx := 16) hO rfl rfl rfl ?_
    refine s_getf (v := .int (sI s g 0)) (nx := 19) hO rfl rfl (hs_o5 hg) rfl rfl ?_
    refine s_ior (nx := 20) hO rfl rfl ?_
    refine s_iconst (x := (nI 4)) (nx := 21) hO rfl (by decide) rfl ?_
    refine s_callS [.ref (q_b G + a1), .int 0, .int (((1195770112)) ||| (sI s g 0)), .int (nI 4)] (nx := 24) hO rfl kX5_write_81 (w_X5_put hG ha1 H) rfl rfl (Nat.le_of_ble_eq_true rfl) (Nat.zero_le _) (Nat.zero_le _) rfl (k_Qi (fun r2 s3 H => ?_))
    refine s_istore_n (nx := 25) (l' := [(2, .int r2), (0, .ref (q_b G + g)), (1, .ref (q_b G + a1))]) hO rfl (by decide) rfl rfl ?_
    refine s_iconst (x := 0) (nx := 26) hO rfl (by decide) rfl ?_
    refine goK (H (fun (x4 : Int32) (x5 : Int32) (s6 : yS) => xEx G mX5_write 27 [(0, .ref (q_b G + g)), (1, .ref (q_b G + a1)), (2, .int x4), (3, .int x5)] [] (hS G s6) z 0 0 (yQi G z Q)) (fun x4 x5 s6 H => ?_)) (fun H => ?_)
    · show xEx G mX5_write 27 [(0, .ref (q_b G + g)), (1, .ref (q_b G + a1)), (2, .int x4), (3, .int x5)] [] (hS G s6) z 0 0 (yQi G z Q)
      refine s_iload_n (nx := 28) hO rfl rfl rfl ?_
      refine s_aload_n (nx := 29) hO rfl rfl rfl ?_
      refine s_getf (v := .int (sI s6 g 0)) (nx := 32) hO rfl rfl (hs_o5 hg) rfl rfl ?_
      refine s_icmp_ge (nx := 35) hO rfl rfl (fun c32 => ?_) (fun c32 => ?_)
      · replace H := H.1 c32
        refine s_iload_n (nx := 225) hO rfl rfl rfl ?_
        exact s_iret hO rfl rfl rfl ⟨rfl, _, _, rfl, rfl, H⟩
      · replace H := H.2 c32
        refine s_aload_n (nx := 36) hO rfl rfl rfl ?_
        refine s_iload_n (nx := 37) hO rfl rfl rfl ?_
        refine s_aload_n (nx := 38) hO rfl rfl rfl ?_
        refine s_getf (v := .ref (q_b G + (g + 1))) (nx := 41) hO rfl rfl (hs_o5 hg) rfl rfl ?_
        refine s_iload_n (nx := 42) hO rfl rfl rfl ?_
        obtain ⟨b7, H⟩ := H
        refine s_iald (nx := 43) hO rfl (hs_I (kf5_1 hg)) b7 rfl ?_
        refine s_iconst (x := 1) (nx := 44) hO rfl (by decide) rfl ?_
        refine s_callS [.ref (q_b G + a1), .int x4, .int (sI s6 (g + 1) (ix x5)), .int 1] (nx := 47) hO rfl kX5_write_81 (w_X5_put hG ha1 H) rfl rfl (Nat.le_of_ble_eq_true rfl) (Nat.zero_le _) (Nat.zero_le _) rfl (k_Qi (fun r8 s9 H => ?_))
        refine s_istore_n (nx := 48) (l' := [(2, .int r8), (0, .ref (q_b G + g)), (1, .ref (q_b G + a1)), (3, .int x5)]) hO rfl (by decide) rfl rfl ?_
        refine s_aload_n (nx := 49) hO rfl rfl rfl ?_
        refine s_iload_n (nx := 50) hO rfl rfl rfl ?_
        refine s_aload_n (nx := 51) hO rfl rfl rfl ?_
        refine s_getf (v := .ref (q_b G + (g + 2))) (nx := 54) hO rfl rfl (hs_o5 hg) rfl rfl ?_
        refine s_iload_n (nx := 55) hO rfl rfl rfl ?_
        obtain ⟨b10, H⟩ := H
        refine s_iald (nx := 56) hO rfl (hs_I (kf5_2 hg)) b10 rfl ?_
        refine s_iconst (x := 1) (nx := 57) hO rfl (by decide) rfl ?_
        refine s_callS [.ref (q_b G + a1), .int r8, .int (sI s9 (g + 2) (ix x5)), .int 1] (nx := 60) hO rfl kX5_write_81 (w_X5_put hG ha1 H) rfl rfl (Nat.le_of_ble_eq_true rfl) (Nat.zero_le _) (Nat.zero_le _) rfl (k_Qi (fun r11 s12 H => ?_))
        refine s_istore_n (nx := 61) (l' := [(2, .int r11), (0, .ref (q_b G + g)), (1, .ref (q_b G + a1)), (3, .int x5)]) hO rfl (by decide) rfl rfl ?_
        refine s_aload_n (nx := 62) hO rfl rfl rfl ?_
        refine s_iload_n (nx := 63) hO rfl rfl rfl ?_
        refine s_aload_n (nx := 64) hO rfl rfl rfl ?_
        refine s_getf (v := .ref (q_b G + (g + 3))) (nx := 67) hO rfl rfl (hs_o5 hg) rfl rfl ?_
        refine s_iload_n (nx := 68) hO rfl rfl rfl ?_
        obtain ⟨b13, H⟩ := H
        refine s_iald (nx := 69) hO rfl (hs_I (kf5_3 hg)) b13 rfl ?_
        refine s_iconst (x := (nI 2)) (nx := 70) hO rfl (by decide) rfl ?_
        refine s_callS [.ref (q_b G + a1), .int r11, .int (sI s12 (g + 3) (ix x5)), .int (nI 2)] (nx := 73) hO rfl kX5_write_81 (w_X5_put hG ha1 H) rfl rfl (Nat.le_of_ble_eq_true rfl) (Nat.zero_le _) (Nat.zero_le _) rfl (k_Qi (fun r14 s15 H => ?_))
        refine s_istore_n (nx := 74) (l' := [(2, .int r14), (0, .ref (q_b G + g)), (1, .ref (q_b G + a1)), (3, .int x5)]) hO rfl (by decide) rfl rfl ?_
        refine s_aload_n (nx := 75) hO rfl rfl rfl ?_
        refine s_iload_n (nx := 76) hO rfl rfl rfl ?_
        refine s_aload_n (nx := 77) hO rfl rfl rfl ?_
        refine s_getf (v := .ref (q_b G + (g + 4))) (nx := 80) hO rfl rfl (hs_o5 hg) rfl rfl ?_
        refine s_iload_n (nx := 81) hO rfl rfl rfl ?_
        obtain ⟨b16, H⟩ := H
        refine s_iald (nx := 82) hO rfl (hs_I (kf5_4 hg)) b16 rfl ?_
        refine s_iconst (x := 1) (nx := 83) hO rfl (by decide) rfl ?_
        refine s_callS [.ref (q_b G + a1), .int r14, .int (sI s15 (g + 4) (ix x5)), .int 1] (nx := 86) hO rfl kX5_write_81 (w_X5_put hG ha1 H) rfl rfl (Nat.le_of_ble_eq_true rfl) (Nat.zero_le _) (Nat.zero_le _) rfl (k_Qi (fun r17 s18 H => ?_))
        refine s_istore_n (nx := 87) (l' := [(2, .int r17), (0, .ref (q_b G + g)), (1, .ref (q_b G + a1)), (3, .int x5)]) hO rfl (by decide) rfl rfl ?_
        refine s_aload_n (nx := 88) hO rfl rfl rfl ?_
        refine s_iload_n (nx := 89) hO rfl rfl rfl ?_
        refine s_aload_n (nx := 90) hO rfl rfl rfl ?_
        refine s_getf (v := .ref (q_b G + (g + 5))) (nx := 93) hO rfl rfl (hs_o5 hg) rfl rfl ?_
        refine s_iload_n (nx := 94) hO rfl rfl rfl ?_
        obtain ⟨b19, H⟩ := H
        refine s_iald (nx := 95) hO rfl (hs_I (kf5_5 hg)) b19 rfl ?_
        refine s_iconst (x := (nI 2)) (nx := 96) hO rfl (by decide) rfl ?_
        refine s_callS [.ref (q_b G + a1), .int r17, .int (sI s18 (g + 5) (ix x5)), .int (nI 2)] (nx := 99) hO rfl kX5_write_81 (w_X5_put hG ha1 H) rfl rfl (Nat.le_of_ble_eq_true rfl) (Nat.zero_le _) (Nat.zero_le _) rfl (k_Qi (fun r20 s21 H => ?_))
        refine s_istore_n (nx := 100) (l' := [(2, .int r20), (0, .ref (q_b G + g)), (1, .ref (q_b G + a1)), (3, .int x5)]) hO rfl (by decide) rfl rfl ?_
        refine s_iload_n (nx := 101) hO rfl rfl rfl ?_
        refine s_sipush (x := (nI 400)) (nx := 104) hO rfl (by decide) rfl ?_
        refine s_imul (nx := 105) hO rfl rfl ?_
        refine goK (H (fun (x22 : Int32) (x23 : Int32) (s24 : yS) => xEx G mX5_write 107 [(0, .ref (q_b G + g)), (1, .ref (q_b G + a1)), (2, .int x22), (3, .int x5), (4, .int x23)] [] (hS G s24) z 0 0 (yQi G z Q)) (fun x22 x23 s24 H => ?_)) (fun H => ?_)
        · show xEx G mX5_write 107 [(0, .ref (q_b G + g)), (1, .ref (q_b G + a1)), (2, .int x22), (3, .int x5), (4, .int x23)] [] (hS G s24) z 0 0 (yQi G z Q)
          refine s_iload (nx := 109) hO rfl rfl rfl ?_
          refine s_iload_n (nx := 110) hO rfl rfl rfl ?_
          refine s_sipush (x := (nI 400)) (nx := 113) hO rfl (by decide) rfl ?_
          refine s_imul (nx := 114) hO rfl rfl ?_
          refine s_aload_n (nx := 115) hO rfl rfl rfl ?_
          refine s_getf (v := .ref (q_b G + (g + 5))) (nx := 118) hO rfl rfl (hs_o5 hg) rfl rfl ?_
          refine s_iload_n (nx := 119) hO rfl rfl rfl ?_
          obtain ⟨b25, H⟩ := H
          refine s_iald (nx := 120) hO rfl (hs_I (kf5_5 hg)) b25 rfl ?_
          refine s_iadd (nx := 121) hO rfl rfl ?_
          refine s_icmp_ge (nx := 124) hO rfl rfl (fun c121 => ?_) (fun c121 => ?_)
          · replace H := H.1 c121
            refine s_aload_n (nx := 169) hO rfl rfl rfl ?_
            refine s_iload_n (nx := 170) hO rfl rfl rfl ?_
            refine s_aload_n (nx := 171) hO rfl rfl rfl ?_
            refine s_getf (v := .ref (q_b G + (g + 6))) (nx := 174) hO rfl rfl (hs_o5 hg) rfl rfl ?_
            refine s_iload_n (nx := 175) hO rfl rfl rfl ?_
            obtain ⟨b26, H⟩ := H
            refine s_iald (nx := 176) hO rfl (hs_I (kf5_6 hg)) b26 rfl ?_
            refine s_iconst (x := 1) (nx := 177) hO rfl (by decide) rfl ?_
            refine s_callS [.ref (q_b G + a1), .int x22, .int (sI s24 (g + 6) (ix x5)), .int 1] (nx := 180) hO rfl kX5_write_81 (w_X5_put hG ha1 H) rfl rfl (Nat.le_of_ble_eq_true rfl) (Nat.zero_le _) (Nat.zero_le _) rfl (k_Qi (fun r27 s28 H => ?_))
            refine s_istore_n (nx := 181) (l' := [(2, .int r27), (0, .ref (q_b G + g)), (1, .ref (q_b G + a1)), (3, .int x5), (4, .int x23)]) hO rfl (by decide) rfl rfl ?_
            refine s_iload_n (nx := 182) hO rfl rfl rfl ?_
            refine s_bipush (x := (nI 6)) (nx := 184) hO rfl (by decide) rfl ?_
            refine s_imul (nx := 185) hO rfl rfl ?_
            refine goK (H (fun (x29 : Int32) (x30 : Int32) (s31 : yS) => xEx G mX5_write 187 [(0, .ref (q_b G + g)), (1, .ref (q_b G + a1)), (2, .int x29), (3, .int x5), (4, .int x30)] [] (hS G s31) z 0 0 (yQi G z Q)) (fun x29 x30 s31 H => ?_)) (fun H => ?_)
            · show xEx G mX5_write 187 [(0, .ref (q_b G + g)), (1, .ref (q_b G + a1)), (2, .int x29), (3, .int x5), (4, .int x30)] [] (hS G s31) z 0 0 (yQi G z Q)
              refine s_iload (nx := 189) hO rfl rfl rfl ?_
              refine s_iload_n (nx := 190) hO rfl rfl rfl ?_
              refine s_bipush (x := (nI 6)) (nx := 192) hO rfl (by decide) rfl ?_
              refine s_imul (nx := 193) hO rfl rfl ?_
              refine s_aload_n (nx := 194) hO rfl rfl rfl ?_
              refine s_getf (v := .ref (q_b G + (g + 6))) (nx := 197) hO rfl rfl (hs_o5 hg) rfl rfl ?_
              refine s_iload_n (nx := 198) hO rfl rfl rfl ?_
              obtain ⟨b32, H⟩ := H
              refine s_iald (nx := 199) hO rfl (hs_I (kf5_6 hg)) b32 rfl ?_
              refine s_iadd (nx := 200) hO rfl rfl ?_
              refine s_icmp_ge (nx := 203) hO rfl rfl (fun c200 => ?_) (fun c200 => ?_)
              · replace H := H.1 c200
                refine goV ((x5 + 1)) (fun x33 ex33 => ?_)
                replace H := H x33 ex33
                refine e_iinc (nx := 221) (l' := [(3, .int x33), (0, .ref (q_b G + g)), (1, .ref (q_b G + a1)), (2, .int x29), (4, .int x30)]) ex33 hO rfl (by decide) rfl rfl rfl rfl ?_
                refine s_goto hO rfl ?_
                exact xEx.loc (x_sub1 (List.Mem.tail _ (List.Mem.head _)) (x_sub1 (List.Mem.tail _ (List.Mem.tail _ (List.Mem.head _))) (x_sub1 (List.Mem.tail _ (List.Mem.tail _ (List.Mem.tail _ (List.Mem.head _)))) (x_sub1 (List.Mem.head _) x_sub0)))) H
              · replace H := H.2 c200
                refine s_aload_n (nx := 204) hO rfl rfl rfl ?_
                refine s_aload_n (nx := 205) hO rfl rfl rfl ?_
                refine s_iload_n (nx := 206) hO rfl rfl rfl ?_
                refine s_iload (nx := 208) hO rfl rfl rfl ?_
                refine s_callV [.ref (q_b G + a1), .int x29, .int x30] (ci := 5) (F := TX5) (N := 19) (nx := 211) hO rfl kX5_write_85 (by rw [hcl]; rfl) (hs_o5 hg) (w_X5_writeHandler hG hg ha1 H) rfl rfl (Nat.le_of_ble_eq_true rfl) (Nat.zero_le _) (Nat.zero_le _) rfl (k_Qi (fun r34 s35 H => ?_))
                refine s_istore_n (nx := 212) (l' := [(2, .int r34), (0, .ref (q_b G + g)), (1, .ref (q_b G + a1)), (3, .int x5), (4, .int x30)]) hO rfl (by decide) rfl rfl ?_
                refine goV ((x30 + 1)) (fun x36 ex36 => ?_)
                replace H := H x36 ex36
                refine e_iinc (nx := 215) (l' := [(4, .int x36), (2, .int r34), (0, .ref (q_b G + g)), (1, .ref (q_b G + a1)), (3, .int x5)]) ex36 hO rfl (by decide) rfl rfl rfl rfl ?_
                refine s_goto hO rfl ?_
                exact xEx.loc (x_sub1 (List.Mem.tail _ (List.Mem.tail _ (List.Mem.head _))) (x_sub1 (List.Mem.tail _ (List.Mem.tail _ (List.Mem.tail _ (List.Mem.head _)))) (x_sub1 (List.Mem.tail _ (List.Mem.head _)) (x_sub1 (List.Mem.tail _ (List.Mem.tail _ (List.Mem.tail _ (List.Mem.tail _ (List.Mem.head _))))) (x_sub1 (List.Mem.head _) x_sub0))))) H
            refine goV ((x5 * (nI 6))) (fun x37 ex37 => ?_)
            replace H := H x37 ex37
            refine e_istore (nx := 187) (l' := [(4, .int x37), (2, .int r27), (0, .ref (q_b G + g)), (1, .ref (q_b G + a1)), (3, .int x5)]) ex37 hO rfl (by decide) rfl rfl ?_
            exact xEx.loc (x_sub1 (List.Mem.tail _ (List.Mem.tail _ (List.Mem.head _))) (x_sub1 (List.Mem.tail _ (List.Mem.tail _ (List.Mem.tail _ (List.Mem.head _)))) (x_sub1 (List.Mem.tail _ (List.Mem.head _)) (x_sub1 (List.Mem.tail _ (List.Mem.tail _ (List.Mem.tail _ (List.Mem.tail _ (List.Mem.head _))))) (x_sub1 (List.Mem.head _) x_sub0))))) H
          · replace H := H.2 c121
            refine s_aload_n (nx := 125) hO rfl rfl rfl ?_
            refine s_iload_n (nx := 126) hO rfl rfl rfl ?_
            refine s_aload_n (nx := 127) hO rfl rfl rfl ?_
            refine s_getf (v := .ref (q_b G + (g + 7))) (nx := 130) hO rfl rfl (hs_o5 hg) rfl rfl ?_
            refine s_iload (nx := 132) hO rfl rfl rfl ?_
            obtain ⟨b38, H⟩ := H
            refine s_iald (nx := 133) hO rfl (hs_I (kf5_7 hg)) b38 rfl ?_
            refine s_iconst (x := 1) (nx := 134) hO rfl (by decide) rfl ?_
            refine s_callS [.ref (q_b G + a1), .int x22, .int (sI s24 (g + 7) (ix x23)), .int 1] (nx := 137) hO rfl kX5_write_81 (w_X5_put hG ha1 H) rfl rfl (Nat.le_of_ble_eq_true rfl) (Nat.zero_le _) (Nat.zero_le _) rfl (k_Qi (fun r39 s40 H => ?_))
            refine s_istore_n (nx := 138) (l' := [(2, .int r39), (0, .ref (q_b G + g)), (1, .ref (q_b G + a1)), (3, .int x5), (4, .int x23)]) hO rfl (by decide) rfl rfl ?_
            refine s_aload_n (nx := 139) hO rfl rfl rfl ?_
            refine s_iload_n (nx := 140) hO rfl rfl rfl ?_
            refine s_aload_n (nx := 141) hO rfl rfl rfl ?_
            refine s_getf (v := .ref (q_b G + (g + 8))) (nx := 144) hO rfl rfl (hs_o5 hg) rfl rfl ?_
            refine s_iload (nx := 146) hO rfl rfl rfl ?_
            obtain ⟨b41, H⟩ := H
            refine s_iald (nx := 147) hO rfl (hs_I (kf5_8 hg)) b41 rfl ?_
            refine s_gets (nx := 150) hO rfl rfl hf0 rfl ?_
            refine s_aload_n (nx := 151) hO rfl rfl rfl ?_
            refine s_getf (v := .ref (q_b G + (g + 7))) (nx := 154) hO rfl rfl (hs_o5 hg) rfl rfl ?_
            refine s_iload (nx := 156) hO rfl rfl rfl ?_
            obtain ⟨b42, H⟩ := H
            refine s_iald (nx := 157) hO rfl (hs_I (kf5_7 hg)) b42 rfl ?_
            obtain ⟨b43, H⟩ := H
            refine s_roI (v := .int (g_wid.getD (ix (sI s40 (g + 7) (ix x23))) 0)) (nx := 158) hO rfl hr1 b43 rfl rfl ?_
            refine s_callS [.ref (q_b G + a1), .int r39, .int (sI s40 (g + 8) (ix x23)), .int (g_wid.getD (ix (sI s40 (g + 7) (ix x23))) 0)] (nx := 161) hO rfl kX5_write_81 (w_X5_put hG ha1 H) rfl rfl (Nat.le_of_ble_eq_true rfl) (Nat.zero_le _) (Nat.zero_le _) rfl (k_Qi (fun r44 s45 H => ?_))
            refine s_istore_n (nx := 162) (l' := [(2, .int r44), (0, .ref (q_b G + g)), (1, .ref (q_b G + a1)), (3, .int x5), (4, .int x23)]) hO rfl (by decide) rfl rfl ?_
            refine goV ((x23 + 1)) (fun x46 ex46 => ?_)
            replace H := H x46 ex46
            refine e_iinc (nx := 165) (l' := [(4, .int x46), (2, .int r44), (0, .ref (q_b G + g)), (1, .ref (q_b G + a1)), (3, .int x5)]) ex46 hO rfl (by decide) rfl rfl rfl rfl ?_
            refine s_goto hO rfl ?_
            exact xEx.loc (x_sub1 (List.Mem.tail _ (List.Mem.tail _ (List.Mem.head _))) (x_sub1 (List.Mem.tail _ (List.Mem.tail _ (List.Mem.tail _ (List.Mem.head _)))) (x_sub1 (List.Mem.tail _ (List.Mem.head _)) (x_sub1 (List.Mem.tail _ (List.Mem.tail _ (List.Mem.tail _ (List.Mem.tail _ (List.Mem.head _))))) (x_sub1 (List.Mem.head _) x_sub0))))) H
        refine goV ((x5 * (nI 400))) (fun x47 ex47 => ?_)
        replace H := H x47 ex47
        refine e_istore (nx := 107) (l' := [(4, .int x47), (2, .int r20), (0, .ref (q_b G + g)), (1, .ref (q_b G + a1)), (3, .int x5)]) ex47 hO rfl (by decide) rfl rfl ?_
        exact xEx.loc (x_sub1 (List.Mem.tail _ (List.Mem.tail _ (List.Mem.head _))) (x_sub1 (List.Mem.tail _ (List.Mem.tail _ (List.Mem.tail _ (List.Mem.head _)))) (x_sub1 (List.Mem.tail _ (List.Mem.head _)) (x_sub1 (List.Mem.tail _ (List.Mem.tail _ (List.Mem.tail _ (List.Mem.tail _ (List.Mem.head _))))) (x_sub1 (List.Mem.head _) x_sub0))))) H
    refine s_istore_n (nx := 27) (l' := [(3, .int 0), (2, .int r2), (0, .ref (q_b G + g)), (1, .ref (q_b G + a1))]) hO rfl (by decide) rfl rfl ?_
    exact xEx.loc (x_sub1 (List.Mem.tail _ (List.Mem.tail _ (List.Mem.head _))) (x_sub1 (List.Mem.tail _ (List.Mem.tail _ (List.Mem.tail _ (List.Mem.head _)))) (x_sub1 (List.Mem.tail _ (List.Mem.head _)) (x_sub1 (List.Mem.head _) x_sub0)))) H
  · replace H := H.2 c6
    refine s_iconst (x := 0) (nx := 10) hO rfl (by decide) rfl ?_
    exact s_iret hO rfl rfl rfl ⟨rfl, _, _, rfl, rfl, H⟩
def W_X6_refuse (s : yS) (v1 : Int32) (v2 : Int32) (Q : Int32 → yS → Prop) : Prop :=
 ∀ s1 : yS, s1 = wI s 113 1 v1 → 
 ∀ s2 : yS, s2 = wI s1 113 0 v2 → 
 Q 0 s2
set_option maxRecDepth 100000 in
set_option maxHeartbeats 40000000 in
theorem w_X6_refuse {G : xG} (hG : yG G) {z : Nat} {s : yS} {v1 : Int32} {v2 : Int32} {Q : Int32 → yS → Prop} (H : W_X6_refuse s v1 v2 Q) : xC G mX6_refuse [.ref (q_b G + 113), .int v1, .int v2] (hS G s) z 0 0 (yQi G z Q) := by
  have hW := hG.1
  have hcl := hG.2.1
  have hty := hG.2.2.1
  have hO : xO G mX6_refuse tbX6_refuse ptX6_refuse := ⟨tkX6_refuse, pkX6_refuse hcl⟩
  unfold W_X6_refuse at H
  refine xC.of hW (by decide) rfl (Nat.le_of_ble_eq_true rfl) ?_
  refine s_aload_n (nx := 1) hO rfl rfl rfl ?_
  refine s_iload_n (nx := 2) hO rfl rfl rfl ?_
  refine goV (wI s 113 1 v1) (fun s1 es1 => ?_)
  replace H := H s1 es1
  refine s_putf (nx := 5) hO rfl rfl (hs_o6 kc113) (Nat.le_of_ble_eq_true rfl) (by rw [hty]; rfl) (by rw [hty]; rfl) pX6_1 rfl ?_
  refine xEx.at (up_oI6 kc113 es1) ?_
  refine s_aload_n (nx := 6) hO rfl rfl rfl ?_
  refine s_iload_n (nx := 7) hO rfl rfl rfl ?_
  refine goV (wI s1 113 0 v2) (fun s2 es2 => ?_)
  replace H := H s2 es2
  refine s_putf (nx := 10) hO rfl rfl (hs_o6 kc113) (Nat.le_of_ble_eq_true rfl) (by rw [hty]; rfl) (by rw [hty]; rfl) pX6_0 rfl ?_
  refine xEx.at (up_oI6 kc113 es2) ?_
  refine s_iconst (x := 0) (nx := 11) hO rfl (by decide) rfl ?_
  exact s_iret hO rfl rfl rfl ⟨rfl, _, _, rfl, rfl, H⟩
def W_X6_readBegin (s : yS) (Q : Int32 → yS → Prop) : Prop :=
 ∀ P2 : Int32 → Prop, (∀ (x1 : Int32), ((((nI 3) ≤ x1 → ∀ s2 : yS, s2 = wI s 113 4 (nI 3) → 
   Q 1 s2)
  ∧ (¬ (nI 3) ≤ x1 → ((x1 < (sI s 113 3) → ∃ p3 : Nat, sR s 113 2 = p3 + 1 ∧ kd p3 = some (1, 8192) ∧ 
    vp_in x1 8192 ∧ 
    vp_in x1 3 ∧ 
    (((sI s p3 (ix x1)) = (g_beg.getD (ix x1) 0) → ∀ x6 : Int32, x6 = (x1 + 1) → 
     P2 x6)
    ∧ (¬ (sI s p3 (ix x1)) = (g_beg.getD (ix x1) 0) → W_X6_refuse s (nI 2) x1 
     (fun r7 s8 => zb r7 ∧ Q r7 s8))))
   ∧ (¬ x1 < (sI s 113 3) → W_X6_refuse s 1 (sI s 113 3) 
    (fun r10 s11 => zb r10 ∧ Q r10 s11)))))) → P2 x1) → 
 P2 0
set_option maxRecDepth 100000 in
set_option maxHeartbeats 40000000 in
theorem w_X6_readBegin {G : xG} (hG : yG G) {z : Nat} {s : yS} {Q : Int32 → yS → Prop} (H : W_X6_readBegin s Q) : xC G mX6_readBegin [.ref (q_b G + 113)] (hS G s) z 0 0 (yQi G z Q) := by
  have hW := hG.1
  have hcl := hG.2.1
  have hty := hG.2.2.1
  obtain ⟨t0, t1, hf0, hf1, hr1, hr2⟩ := hG.2.2.2.1
  have hO : xO G mX6_readBegin tbX6_readBegin ptX6_readBegin := ⟨tkX6_readBegin, pkX6_readBegin hcl hf1⟩
  unfold W_X6_readBegin at H
  refine xC.of hW (by decide) rfl (Nat.le_of_ble_eq_true rfl) ?_
  refine s_iconst (x := 0) (nx := 1) hO rfl (by decide) rfl ?_
  refine goK (H (fun (x1 : Int32) => xEx G mX6_readBegin 2 [(0, .ref (q_b G + 113)), (1, .int x1)] [] (hS G s) z 0 0 (yQi G z Q)) (fun x1 H => ?_)) (fun H => ?_)
  · show xEx G mX6_readBegin 2 [(0, .ref (q_b G + 113)), (1, .int x1)] [] (hS G s) z 0 0 (yQi G z Q)
    refine s_iload_n (nx := 3) hO rfl rfl rfl ?_
    refine s_gets (nx := 6) hO rfl rfl hf1 rfl ?_
    refine s_rolen (nx := 7) hO rfl hr2 rfl ?_
    refine s_icmp_ge (nx := 10) hO rfl rfl (fun c7 => ?_) (fun c7 => ?_)
    · replace H := H.1 c7
      refine s_aload_n (nx := 56) hO rfl rfl rfl ?_
      refine s_gets (nx := 59) hO rfl rfl hf1 rfl ?_
      refine s_rolen (nx := 60) hO rfl hr2 rfl ?_
      refine goV (wI s 113 4 (nI 3)) (fun s2 es2 => ?_)
      replace H := H s2 es2
      refine s_putf (nx := 63) hO rfl rfl (hs_o6 kc113) (Nat.le_of_ble_eq_true rfl) (by rw [hty]; rfl) (by rw [hty]; rfl) pX6_4 rfl ?_
      refine xEx.at (up_oI6 kc113 es2) ?_
      refine s_iconst (x := 1) (nx := 64) hO rfl (by decide) rfl ?_
      exact s_iret hO rfl rfl rfl ⟨rfl, _, _, rfl, rfl, H⟩
    · replace H := H.2 c7
      refine s_iload_n (nx := 11) hO rfl rfl rfl ?_
      refine s_aload_n (nx := 12) hO rfl rfl rfl ?_
      refine s_getf (v := .int (sI s 113 3)) (nx := 15) hO rfl rfl (hs_o6 kc113) rfl rfl ?_
      refine s_icmp_lt (nx := 18) hO rfl rfl (fun c15 => ?_) (fun c15 => ?_)
      · replace H := H.1 c15
        refine s_aload_n (nx := 29) hO rfl rfl rfl ?_
        obtain ⟨p3, ep3, kp3, H⟩ := H
        refine s_getf (v := .ref (q_b G + p3)) (nx := 32) hO rfl rfl (hs_o6 kc113) (congrArg some (rv_at ep3)) rfl ?_
        refine s_iload_n (nx := 33) hO rfl rfl rfl ?_
        obtain ⟨b4, H⟩ := H
        refine s_bald (nx := 34) hO rfl (hs_B kp3) b4 rfl ?_
        refine s_gets (nx := 37) hO rfl rfl hf1 rfl ?_
        refine s_iload_n (nx := 38) hO rfl rfl rfl ?_
        obtain ⟨b5, H⟩ := H
        refine s_roB (v := .int (g_beg.getD (ix x1) 0)) (nx := 39) hO rfl hr2 b5 rfl rfl ?_
        refine s_icmp_eq (nx := 42) hO rfl rfl (fun c39 => ?_) (fun c39 => ?_)
        · replace H := H.1 c39
          refine goV ((x1 + 1)) (fun x6 ex6 => ?_)
          replace H := H x6 ex6
          refine e_iinc (nx := 52) (l' := [(1, .int x6), (0, .ref (q_b G + 113))]) ex6 hO rfl (by decide) rfl rfl rfl rfl ?_
          refine s_goto hO rfl ?_
          exact xEx.loc (x_sub1 (List.Mem.tail _ (List.Mem.head _)) (x_sub1 (List.Mem.head _) x_sub0)) H
        · replace H := H.2 c39
          refine s_aload_n (nx := 43) hO rfl rfl rfl ?_
          refine s_iconst (x := (nI 2)) (nx := 44) hO rfl (by decide) rfl ?_
          refine s_iload_n (nx := 45) hO rfl rfl rfl ?_
          refine s_callV [.int (nI 2), .int x1] (ci := 6) (F := TX6) (N := 7) (nx := 48) hO rfl kX6_readBegin_61 (by rw [hcl]; rfl) (hs_o6 kc113) (w_X6_refuse hG H) rfl rfl (Nat.le_of_ble_eq_true rfl) (Nat.zero_le _) (Nat.zero_le _) rfl (k_Qi (fun r7 s8 H => ?_))
          obtain ⟨b9, H⟩ := H
          exact s_iret hO rfl rfl (zb_n b9) ⟨rfl, _, _, rfl, rfl, H⟩
      · replace H := H.2 c15
        refine s_aload_n (nx := 19) hO rfl rfl rfl ?_
        refine s_iconst (x := 1) (nx := 20) hO rfl (by decide) rfl ?_
        refine s_aload_n (nx := 21) hO rfl rfl rfl ?_
        refine s_getf (v := .int (sI s 113 3)) (nx := 24) hO rfl rfl (hs_o6 kc113) rfl rfl ?_
        refine s_callV [.int 1, .int (sI s 113 3)] (ci := 6) (F := TX6) (N := 7) (nx := 27) hO rfl kX6_readBegin_61 (by rw [hcl]; rfl) (hs_o6 kc113) (w_X6_refuse hG H) rfl rfl (Nat.le_of_ble_eq_true rfl) (Nat.zero_le _) (Nat.zero_le _) rfl (k_Qi (fun r10 s11 H => ?_))
        obtain ⟨b12, H⟩ := H
        exact s_iret hO rfl rfl (zb_n b12) ⟨rfl, _, _, rfl, rfl, H⟩
  refine s_istore_n (nx := 2) (l' := [(1, .int 0), (0, .ref (q_b G + 113))]) hO rfl (by decide) rfl rfl ?_
  exact xEx.loc (x_sub1 (List.Mem.tail _ (List.Mem.head _)) (x_sub1 (List.Mem.head _) x_sub0)) H
def W_X6_take (s : yS) (v1 : Int32) (v2 : Int32) (v3 : Int32) (Q : Int32 → yS → Prop) : Prop :=
 ((((sI s 113 4) + v1) ≤ (sI s 113 3) → ∀ P29 : Int32 → Int32 → Prop, (∀ (x1 : Int32) (x2 : Int32), (((v1 ≤ x2 → ∀ P77 : Prop, ((W_X6_refuse s (nI 3) (sI s 113 4) 
     (fun r3 s4 => zb r3 ∧ Q r3 s4)) → P77) → 
    ((x1 < v2 → P77)
    ∧ (¬ x1 < v2 → ((x1 ≤ v3 → ∀ s6 : yS, s6 = wI s 113 5 x1 → 
      ∀ s7 : yS, s7 = wI s6 113 4 ((sI s6 113 4) + v1) → 
      Q 1 s7)
     ∧ (¬ x1 ≤ v3 → P77)))))
   ∧ (¬ v1 ≤ x2 → ∃ p8 : Nat, sR s 113 2 = p8 + 1 ∧ kd p8 = some (1, 8192) ∧ 
    vp_in ((sI s 113 4) + x2) 8192 ∧ 
    ∀ x10 : Int32, x10 = ((x1 <<< ((nI 8) &&& 31)) ||| ((sI s p8 (ix ((sI s 113 4) + x2))) &&& (nI 255))) → 
    ∀ x11 : Int32, x11 = (x2 + 1) → 
    P29 x10 x11))) → P29 x1 x2) → 
  P29 0 0)
 ∧ (¬ ((sI s 113 4) + v1) ≤ (sI s 113 3) → W_X6_refuse s 1 (sI s 113 3) 
  (fun r12 s13 => zb r12 ∧ Q r12 s13)))
set_option maxRecDepth 100000 in
set_option maxHeartbeats 40000000 in
theorem w_X6_take {G : xG} (hG : yG G) {z : Nat} {s : yS} {v1 : Int32} {v2 : Int32} {v3 : Int32} {Q : Int32 → yS → Prop} (H : W_X6_take s v1 v2 v3 Q) : xC G mX6_take [.ref (q_b G + 113), .int v1, .int v2, .int v3] (hS G s) z 0 0 (yQi G z Q) := by
  have hW := hG.1
  have hcl := hG.2.1
  have hty := hG.2.2.1
  have hO : xO G mX6_take tbX6_take ptX6_take := ⟨tkX6_take, pkX6_take hcl⟩
  unfold W_X6_take at H
  refine xC.of hW (by decide) rfl (Nat.le_of_ble_eq_true rfl) ?_
  refine s_aload_n (nx := 1) hO rfl rfl rfl ?_
  refine s_getf (v := .int (sI s 113 4)) (nx := 4) hO rfl rfl (hs_o6 kc113) rfl rfl ?_
  refine s_iload_n (nx := 5) hO rfl rfl rfl ?_
  refine s_iadd (nx := 6) hO rfl rfl ?_
  refine s_aload_n (nx := 7) hO rfl rfl rfl ?_
  refine s_getf (v := .int (sI s 113 3)) (nx := 10) hO rfl rfl (hs_o6 kc113) rfl rfl ?_
  refine s_icmp_le (nx := 13) hO rfl rfl (fun c10 => ?_) (fun c10 => ?_)
  · replace H := H.1 c10
    refine s_iconst (x := 0) (nx := 24) hO rfl (by decide) rfl ?_
    refine s_istore (nx := 26) (l' := [(4, .int 0), (0, .ref (q_b G + 113)), (1, .int v1), (2, .int v2), (3, .int v3)]) hO rfl (by decide) rfl rfl ?_
    refine s_iconst (x := 0) (nx := 27) hO rfl (by decide) rfl ?_
    refine goK (H (fun (x1 : Int32) (x2 : Int32) => xEx G mX6_take 29 [(0, .ref (q_b G + 113)), (1, .int v1), (2, .int v2), (3, .int v3), (4, .int x1), (5, .int x2)] [] (hS G s) z 0 0 (yQi G z Q)) (fun x1 x2 H => ?_)) (fun H => ?_)
    · show xEx G mX6_take 29 [(0, .ref (q_b G + 113)), (1, .int v1), (2, .int v2), (3, .int v3), (4, .int x1), (5, .int x2)] [] (hS G s) z 0 0 (yQi G z Q)
      refine s_iload (nx := 31) hO rfl rfl rfl ?_
      refine s_iload_n (nx := 32) hO rfl rfl rfl ?_
      refine s_icmp_ge (nx := 35) hO rfl rfl (fun c32 => ?_) (fun c32 => ?_)
      · replace H := H.1 c32
        refine s_iload (nx := 67) hO rfl rfl rfl ?_
        refine s_iload_n (nx := 68) hO rfl rfl rfl ?_
        refine goK (H (xEx G mX6_take 77 [(0, .ref (q_b G + 113))] [] (hS G s) z 0 0 (yQi G z Q)) (fun H => ?_)) (fun H => ?_)
        · show xEx G mX6_take 77 [(0, .ref (q_b G + 113))] [] (hS G s) z 0 0 (yQi G z Q)
          refine s_aload_n (nx := 78) hO rfl rfl rfl ?_
          refine s_iconst (x := (nI 3)) (nx := 79) hO rfl (by decide) rfl ?_
          refine s_aload_n (nx := 80) hO rfl rfl rfl ?_
          refine s_getf (v := .int (sI s 113 4)) (nx := 83) hO rfl rfl (hs_o6 kc113) rfl rfl ?_
          refine s_callV [.int (nI 3), .int (sI s 113 4)] (ci := 6) (F := TX6) (N := 7) (nx := 86) hO rfl kX6_take_61 (by rw [hcl]; rfl) (hs_o6 kc113) (w_X6_refuse hG H) rfl rfl (Nat.le_of_ble_eq_true rfl) (Nat.zero_le _) (Nat.zero_le _) rfl (k_Qi (fun r3 s4 H => ?_))
          obtain ⟨b5, H⟩ := H
          exact s_iret hO rfl rfl (zb_n b5) ⟨rfl, _, _, rfl, rfl, H⟩
        refine s_icmp_lt (nx := 71) hO rfl rfl (fun c68 => ?_) (fun c68 => ?_)
        · replace H := H.1 c68
          exact xEx.loc (x_sub1 (List.Mem.head _) x_sub0) H
        · replace H := H.2 c68
          refine s_iload (nx := 73) hO rfl rfl rfl ?_
          refine s_iload_n (nx := 74) hO rfl rfl rfl ?_
          refine s_icmp_le (nx := 77) hO rfl rfl (fun c74 => ?_) (fun c74 => ?_)
          · replace H := H.1 c74
            refine s_aload_n (nx := 88) hO rfl rfl rfl ?_
            refine s_iload (nx := 90) hO rfl rfl rfl ?_
            refine goV (wI s 113 5 x1) (fun s6 es6 => ?_)
            replace H := H s6 es6
            refine s_putf (nx := 93) hO rfl rfl (hs_o6 kc113) (Nat.le_of_ble_eq_true rfl) (by rw [hty]; rfl) (by rw [hty]; rfl) pX6_5 rfl ?_
            refine xEx.at (up_oI6 kc113 es6) ?_
            refine s_aload_n (nx := 94) hO rfl rfl rfl ?_
            refine s_dup (nx := 95) hO rfl rfl rfl ?_
            refine s_getf (v := .int (sI s6 113 4)) (nx := 98) hO rfl rfl (hs_o6 kc113) rfl rfl ?_
            refine s_iload_n (nx := 99) hO rfl rfl rfl ?_
            refine s_iadd (nx := 100) hO rfl rfl ?_
            refine goV (wI s6 113 4 ((sI s6 113 4) + v1)) (fun s7 es7 => ?_)
            replace H := H s7 es7
            refine s_putf (nx := 103) hO rfl rfl (hs_o6 kc113) (Nat.le_of_ble_eq_true rfl) (by rw [hty]; rfl) (by rw [hty]; rfl) pX6_4 rfl ?_
            refine xEx.at (up_oI6 kc113 es7) ?_
            refine s_iconst (x := 1) (nx := 104) hO rfl (by decide) rfl ?_
            exact s_iret hO rfl rfl rfl ⟨rfl, _, _, rfl, rfl, H⟩
          · replace H := H.2 c74
            exact xEx.loc (x_sub1 (List.Mem.head _) x_sub0) H
      · replace H := H.2 c32
        refine s_iload (nx := 37) hO rfl rfl rfl ?_
        refine s_bipush (x := (nI 8)) (nx := 39) hO rfl (by decide) rfl ?_
        refine s_ishl (nx := 40) hO rfl rfl ?_
        refine s_aload_n (nx := 41) hO rfl rfl rfl ?_
        obtain ⟨p8, ep8, kp8, H⟩ := H
        refine s_getf (v := .ref (q_b G + p8)) (nx := 44) hO rfl rfl (hs_o6 kc113) (congrArg some (rv_at ep8)) rfl ?_
        refine s_aload_n (nx := 45) hO rfl rfl rfl ?_
        refine s_getf (v := .int (sI s 113 4)) (nx := 48) hO rfl rfl (hs_o6 kc113) rfl rfl ?_
        refine s_iload (nx := 50) hO rfl rfl rfl ?_
        refine s_iadd (nx := 51) hO rfl rfl ?_
        obtain ⟨b9, H⟩ := H
        refine s_bald (nx := 52) hO rfl (hs_B kp8) b9 rfl ?_
        refine s_sipush (x := (nI 255)) (nx := 55) hO rfl (by decide) rfl ?_
        refine s_iand (nx := 56) hO rfl rfl ?_
        refine s_ior (nx := 57) hO rfl rfl ?_
        refine goV (((x1 <<< ((nI 8) &&& 31)) ||| ((sI s p8 (ix ((sI s 113 4) + x2))) &&& (nI 255)))) (fun x10 ex10 => ?_)
        replace H := H x10 ex10
        refine e_istore (nx := 59) (l' := [(4, .int x10), (0, .ref (q_b G + 113)), (1, .int v1), (2, .int v2), (3, .int v3), (5, .int x2)]) ex10 hO rfl (by decide) rfl rfl ?_
        refine goV ((x2 + 1)) (fun x11 ex11 => ?_)
        replace H := H x11 ex11
        refine e_iinc (nx := 62) (l' := [(5, .int x11), (4, .int x10), (0, .ref (q_b G + 113)), (1, .int v1), (2, .int v2), (3, .int v3)]) ex11 hO rfl (by decide) rfl rfl rfl rfl ?_
        refine s_goto hO rfl ?_
        exact xEx.loc (x_sub1 (List.Mem.tail _ (List.Mem.tail _ (List.Mem.head _))) (x_sub1 (List.Mem.tail _ (List.Mem.tail _ (List.Mem.tail _ (List.Mem.head _)))) (x_sub1 (List.Mem.tail _ (List.Mem.tail _ (List.Mem.tail _ (List.Mem.tail _ (List.Mem.head _))))) (x_sub1 (List.Mem.tail _ (List.Mem.tail _ (List.Mem.tail _ (List.Mem.tail _ (List.Mem.tail _ (List.Mem.head _)))))) (x_sub1 (List.Mem.tail _ (List.Mem.head _)) (x_sub1 (List.Mem.head _) x_sub0)))))) H
    refine s_istore (nx := 29) (l' := [(5, .int 0), (4, .int 0), (0, .ref (q_b G + 113)), (1, .int v1), (2, .int v2), (3, .int v3)]) hO rfl (by decide) rfl rfl ?_
    exact xEx.loc (x_sub1 (List.Mem.tail _ (List.Mem.tail _ (List.Mem.head _))) (x_sub1 (List.Mem.tail _ (List.Mem.tail _ (List.Mem.tail _ (List.Mem.head _)))) (x_sub1 (List.Mem.tail _ (List.Mem.tail _ (List.Mem.tail _ (List.Mem.tail _ (List.Mem.head _))))) (x_sub1 (List.Mem.tail _ (List.Mem.tail _ (List.Mem.tail _ (List.Mem.tail _ (List.Mem.tail _ (List.Mem.head _)))))) (x_sub1 (List.Mem.tail _ (List.Mem.head _)) (x_sub1 (List.Mem.head _) x_sub0)))))) H
  · replace H := H.2 c10
    refine s_aload_n (nx := 14) hO rfl rfl rfl ?_
    refine s_iconst (x := 1) (nx := 15) hO rfl (by decide) rfl ?_
    refine s_aload_n (nx := 16) hO rfl rfl rfl ?_
    refine s_getf (v := .int (sI s 113 3)) (nx := 19) hO rfl rfl (hs_o6 kc113) rfl rfl ?_
    refine s_callV [.int 1, .int (sI s 113 3)] (ci := 6) (F := TX6) (N := 7) (nx := 22) hO rfl kX6_take_61 (by rw [hcl]; rfl) (hs_o6 kc113) (w_X6_refuse hG H) rfl rfl (Nat.le_of_ble_eq_true rfl) (Nat.zero_le _) (Nat.zero_le _) rfl (k_Qi (fun r12 s13 H => ?_))
    obtain ⟨b14, H⟩ := H
    exact s_iret hO rfl rfl (zb_n b14) ⟨rfl, _, _, rfl, rfl, H⟩

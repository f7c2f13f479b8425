def W_X6_readHead (s : yS) (v1 : Int32) (Q : Int32 → yS → Prop) : Prop :=
 ((¬ v1 = 0 → W_X6_take s 1 0 (nI 4) 
  (fun r1 s2 => ((¬ r1 = 0 → ∃ p3 : Nat, sR s2 113 6 = p3 + 1 ∧ kd p3 = some (9, 0) ∧ 
   vp_in v1 12 ∧ ∀ s5 : yS, s5 = wI s2 (p3 + 1) (ix v1) (sI s2 113 5) → 
   ∃ p6 : Nat, sR s5 113 6 = p6 + 1 ∧ kd p6 = some (9, 0) ∧ 
   vp_in v1 12 ∧ 
   W_X6_take s5 1 (sI s5 (p6 + 1) (ix v1)) (nI 12) 
   (fun r8 s9 => ((¬ r8 = 0 → ∃ p10 : Nat, sR s9 113 6 = p10 + 1 ∧ kd p10 = some (9, 0) ∧ 
    vp_in v1 12 ∧ ∀ s12 : yS, s12 = wI s9 (p10 + 2) (ix v1) (sI s9 113 5) → 
    ∃ p13 : Nat, sR s12 113 6 = p13 + 1 ∧ kd p13 = some (9, 0) ∧ 
    vp_in v1 12 ∧ 
    W_X6_take s12 (nI 2) 0 ((1 <<< ((sI s12 (p13 + 2) (ix v1)) &&& 31)) - 1) 
    (fun r15 s16 => ((¬ r15 = 0 → ∃ p17 : Nat, sR s16 113 6 = p17 + 1 ∧ kd p17 = some (9, 0) ∧ 
     vp_in v1 12 ∧ ∀ s19 : yS, s19 = wI s16 (p17 + 3) (ix v1) (sI s16 113 5) → 
     ((¬ v1 = 0 → W_X6_take s19 1 0 (nI 2) 
      (fun r20 s21 => ((¬ r20 = 0 → ∃ p22 : Nat, sR s21 113 6 = p22 + 1 ∧ kd p22 = some (9, 0) ∧ 
       vp_in v1 12 ∧ ∀ s24 : yS, s24 = wI s21 (p22 + 4) (ix v1) (sI s21 113 5) → 
       W_X6_take s24 (nI 2) 1 (nI 400) 
       (fun r25 s26 => ((¬ r25 = 0 → ∃ p27 : Nat, sR s26 113 6 = p27 + 1 ∧ kd p27 = some (9, 0) ∧ 
        W_X5_setSize s26 p27 v1 (sI s26 113 5) 
        (fun s28 => Q 1 s28))
       ∧ (r25 = 0 → Q 0 s26))))
      ∧ (r20 = 0 → Q 0 s21))))
     ∧ (v1 = 0 → W_X6_take s19 1 0 1 
      (fun r29 s30 => ((¬ r29 = 0 → ∃ p31 : Nat, sR s30 113 6 = p31 + 1 ∧ kd p31 = some (9, 0) ∧ 
       vp_in v1 12 ∧ ∀ s33 : yS, s33 = wI s30 (p31 + 4) (ix v1) (sI s30 113 5) → 
       W_X6_take s33 (nI 2) 1 (nI 400) 
       (fun r34 s35 => ((¬ r34 = 0 → ∃ p36 : Nat, sR s35 113 6 = p36 + 1 ∧ kd p36 = some (9, 0) ∧ 
        W_X5_setSize s35 p36 v1 (sI s35 113 5) 
        (fun s37 => Q 1 s37))
       ∧ (r34 = 0 → Q 0 s35))))
      ∧ (r29 = 0 → Q 0 s30))))))
    ∧ (r15 = 0 → Q 0 s16))))
   ∧ (r8 = 0 → Q 0 s9))))
  ∧ (r1 = 0 → Q 0 s2))))
 ∧ (v1 = 0 → W_X6_take s 1 0 0 
  (fun r38 s39 => ((¬ r38 = 0 → ∃ p40 : Nat, sR s39 113 6 = p40 + 1 ∧ kd p40 = some (9, 0) ∧ 
   vp_in v1 12 ∧ ∀ s42 : yS, s42 = wI s39 (p40 + 1) (ix v1) (sI s39 113 5) → 
   ∃ p43 : Nat, sR s42 113 6 = p43 + 1 ∧ kd p43 = some (9, 0) ∧ 
   vp_in v1 12 ∧ 
   W_X6_take s42 1 (sI s42 (p43 + 1) (ix v1)) (nI 12) 
   (fun r45 s46 => ((¬ r45 = 0 → ∃ p47 : Nat, sR s46 113 6 = p47 + 1 ∧ kd p47 = some (9, 0) ∧ 
    vp_in v1 12 ∧ ∀ s49 : yS, s49 = wI s46 (p47 + 2) (ix v1) (sI s46 113 5) → 
    ∃ p50 : Nat, sR s49 113 6 = p50 + 1 ∧ kd p50 = some (9, 0) ∧ 
    vp_in v1 12 ∧ 
    W_X6_take s49 (nI 2) 0 ((1 <<< ((sI s49 (p50 + 2) (ix v1)) &&& 31)) - 1) 
    (fun r52 s53 => ((¬ r52 = 0 → ∃ p54 : Nat, sR s53 113 6 = p54 + 1 ∧ kd p54 = some (9, 0) ∧ 
     vp_in v1 12 ∧ ∀ s56 : yS, s56 = wI s53 (p54 + 3) (ix v1) (sI s53 113 5) → 
     ((¬ v1 = 0 → W_X6_take s56 1 0 (nI 2) 
      (fun r57 s58 => ((¬ r57 = 0 → ∃ p59 : Nat, sR s58 113 6 = p59 + 1 ∧ kd p59 = some (9, 0) ∧ 
       vp_in v1 12 ∧ ∀ s61 : yS, s61 = wI s58 (p59 + 4) (ix v1) (sI s58 113 5) → 
       W_X6_take s61 (nI 2) 1 (nI 400) 
       (fun r62 s63 => ((¬ r62 = 0 → ∃ p64 : Nat, sR s63 113 6 = p64 + 1 ∧ kd p64 = some (9, 0) ∧ 
        W_X5_setSize s63 p64 v1 (sI s63 113 5) 
        (fun s65 => Q 1 s65))
       ∧ (r62 = 0 → Q 0 s63))))
      ∧ (r57 = 0 → Q 0 s58))))
     ∧ (v1 = 0 → W_X6_take s56 1 0 1 
      (fun r66 s67 => ((¬ r66 = 0 → ∃ p68 : Nat, sR s67 113 6 = p68 + 1 ∧ kd p68 = some (9, 0) ∧ 
       vp_in v1 12 ∧ ∀ s70 : yS, s70 = wI s67 (p68 + 4) (ix v1) (sI s67 113 5) → 
       W_X6_take s70 (nI 2) 1 (nI 400) 
       (fun r71 s72 => ((¬ r71 = 0 → ∃ p73 : Nat, sR s72 113 6 = p73 + 1 ∧ kd p73 = some (9, 0) ∧ 
        W_X5_setSize s72 p73 v1 (sI s72 113 5) 
        (fun s74 => Q 1 s74))
       ∧ (r71 = 0 → Q 0 s72))))
      ∧ (r66 = 0 → Q 0 s67))))))
    ∧ (r52 = 0 → Q 0 s53))))
   ∧ (r45 = 0 → Q 0 s46))))
  ∧ (r38 = 0 → Q 0 s39)))))
set_option maxRecDepth 100000 in
set_option maxHeartbeats 40000000 in
theorem w_X6_readHead {G : xG} (hG : yG G) {z : Nat} {s : yS} {v1 : Int32} {Q : Int32 → yS → Prop} (H : W_X6_readHead s v1 Q) : xC G mX6_readHead [.ref (q_b G + 113), .int v1] (hS G s) z 0 0 (yQi G z Q) := by
  have hW := hG.1
  have hcl := hG.2.1
  have hty := hG.2.2.1
  have hO : xO G mX6_readHead tbX6_readHead ptX6_readHead := ⟨tkX6_readHead, pkX6_readHead hcl⟩
  unfold W_X6_readHead at H
  refine xC.of hW (by decide) rfl (Nat.le_of_ble_eq_true rfl) ?_
  refine s_aload_n (nx := 1) hO rfl rfl rfl ?_
  refine s_iconst (x := 1) (nx := 2) hO rfl (by decide) rfl ?_
  refine s_iconst (x := 0) (nx := 3) hO rfl (by decide) rfl ?_
  refine s_iload_n (nx := 4) hO rfl rfl rfl ?_
  refine s_if_ne (nx := 7) hO rfl rfl (fun c4 => ?_) (fun c4 => ?_)
  · replace H := H.1 c4
    refine s_iconst (x := (nI 4)) (nx := 12) hO rfl (by decide) rfl ?_
    refine s_callV [.int 1, .int 0, .int (nI 4)] (ci := 6) (F := TX6) (N := 7) (nx := 15) hO rfl kX6_readHead_38 (by rw [hcl]; rfl) (hs_o6 kc113) (w_X6_take hG H) rfl rfl (Nat.le_of_ble_eq_true rfl) (Nat.zero_le _) (Nat.zero_le _) rfl (k_Qi (fun r1 s2 H => ?_))
    refine s_if_ne (nx := 18) hO rfl rfl (fun c15 => ?_) (fun c15 => ?_)
    · replace H := H.1 c15
      refine s_aload_n (nx := 21) hO rfl rfl rfl ?_
      obtain ⟨p3, ep3, kp3, H⟩ := H
      refine s_getf (v := .ref (q_b G + p3)) (nx := 24) hO rfl rfl (hs_o6 kc113) (congrArg some (rv_at ep3)) rfl ?_
      refine s_getf (v := .ref (q_b G + (p3 + 1))) (nx := 27) hO rfl rfl (hs_o5 kp3) rfl rfl ?_
      refine s_iload_n (nx := 28) hO rfl rfl rfl ?_
      refine s_aload_n (nx := 29) hO rfl rfl rfl ?_
      refine s_getf (v := .int (sI s2 113 5)) (nx := 32) hO rfl rfl (hs_o6 kc113) rfl rfl ?_
      obtain ⟨b4, H⟩ := H
      refine goV (wI s2 (p3 + 1) (ix v1) (sI s2 113 5)) (fun s5 es5 => ?_)
      replace H := H s5 es5
      refine s_iast (nx := 33) hO rfl (hs_I (kf5_1 kp3)) b4 rfl ?_
      refine xEx.at (up_I (kf5_1 kp3) es5) ?_
      refine s_aload_n (nx := 34) hO rfl rfl rfl ?_
      refine s_iconst (x := 1) (nx := 35) hO rfl (by decide) rfl ?_
      refine s_aload_n (nx := 36) hO rfl rfl rfl ?_
      obtain ⟨p6, ep6, kp6, H⟩ := H
      refine s_getf (v := .ref (q_b G + p6)) (nx := 39) hO rfl rfl (hs_o6 kc113) (congrArg some (rv_at ep6)) rfl ?_
      refine s_getf (v := .ref (q_b G + (p6 + 1))) (nx := 42) hO rfl rfl (hs_o5 kp6) rfl rfl ?_
      refine s_iload_n (nx := 43) hO rfl rfl rfl ?_
      obtain ⟨b7, H⟩ := H
      refine s_iald (nx := 44) hO rfl (hs_I (kf5_1 kp6)) b7 rfl ?_
      refine s_bipush (x := (nI 12)) (nx := 46) hO rfl (by decide) rfl ?_
      refine s_callV [.int 1, .int (sI s5 (p6 + 1) (ix v1)), .int (nI 12)] (ci := 6) (F := TX6) (N := 7) (nx := 49) hO rfl kX6_readHead_38 (by rw [hcl]; rfl) (hs_o6 kc113) (w_X6_take hG H) rfl rfl (Nat.le_of_ble_eq_true rfl) (Nat.zero_le _) (Nat.zero_le _) rfl (k_Qi (fun r8 s9 H => ?_))
      refine s_if_ne (nx := 52) hO rfl rfl (fun c49 => ?_) (fun c49 => ?_)
      · replace H := H.1 c49
        refine s_aload_n (nx := 55) hO rfl rfl rfl ?_
        obtain ⟨p10, ep10, kp10, H⟩ := H
        refine s_getf (v := .ref (q_b G + p10)) (nx := 58) hO rfl rfl (hs_o6 kc113) (congrArg some (rv_at ep10)) rfl ?_
        refine s_getf (v := .ref (q_b G + (p10 + 2))) (nx := 61) hO rfl rfl (hs_o5 kp10) rfl rfl ?_
        refine s_iload_n (nx := 62) hO rfl rfl rfl ?_
        refine s_aload_n (nx := 63) hO rfl rfl rfl ?_
        refine s_getf (v := .int (sI s9 113 5)) (nx := 66) hO rfl rfl (hs_o6 kc113) rfl rfl ?_
        obtain ⟨b11, H⟩ := H
        refine goV (wI s9 (p10 + 2) (ix v1) (sI s9 113 5)) (fun s12 es12 => ?_)
        replace H := H s12 es12
        refine s_iast (nx := 67) hO rfl (hs_I (kf5_2 kp10)) b11 rfl ?_
        refine xEx.at (up_I (kf5_2 kp10) es12) ?_
        refine s_aload_n (nx := 68) hO rfl rfl rfl ?_
        refine s_iconst (x := (nI 2)) (nx := 69) hO rfl (by decide) rfl ?_
        refine s_iconst (x := 0) (nx := 70) hO rfl (by decide) rfl ?_
        refine s_iconst (x := 1) (nx := 71) hO rfl (by decide) rfl ?_
        refine s_aload_n (nx := 72) hO rfl rfl rfl ?_
        obtain ⟨p13, ep13, kp13, H⟩ := H
        refine s_getf (v := .ref (q_b G + p13)) (nx := 75) hO rfl rfl (hs_o6 kc113) (congrArg some (rv_at ep13)) rfl ?_
        refine s_getf (v := .ref (q_b G + (p13 + 2))) (nx := 78) hO rfl rfl (hs_o5 kp13) rfl rfl ?_
        refine s_iload_n (nx := 79) hO rfl rfl rfl ?_
        obtain ⟨b14, H⟩ := H
        refine s_iald (nx := 80) hO rfl (hs_I (kf5_2 kp13)) b14 rfl ?_
        refine s_ishl (nx := 81) hO rfl rfl ?_
        refine s_iconst (x := 1) (nx := 82) hO rfl (by decide) rfl ?_
        refine s_isub (nx := 83) hO rfl rfl ?_
        refine s_callV [.int (nI 2), .int 0, .int ((1 <<< ((sI s12 (p13 + 2) (ix v1)) &&& 31)) - 1)] (ci := 6) (F := TX6) (N := 7) (nx := 86) hO rfl kX6_readHead_38 (by rw [hcl]; rfl) (hs_o6 kc113) (w_X6_take hG H) rfl rfl (Nat.le_of_ble_eq_true rfl) (Nat.zero_le _) (Nat.zero_le _) rfl (k_Qi (fun r15 s16 H => ?_))
        refine s_if_ne (nx := 89) hO rfl rfl (fun c86 => ?_) (fun c86 => ?_)
        · replace H := H.1 c86
          refine s_aload_n (nx := 92) hO rfl rfl rfl ?_
          obtain ⟨p17, ep17, kp17, H⟩ := H
          refine s_getf (v := .ref (q_b G + p17)) (nx := 95) hO rfl rfl (hs_o6 kc113) (congrArg some (rv_at ep17)) rfl ?_
          refine s_getf (v := .ref (q_b G + (p17 + 3))) (nx := 98) hO rfl rfl (hs_o5 kp17) rfl rfl ?_
          refine s_iload_n (nx := 99) hO rfl rfl rfl ?_
          refine s_aload_n (nx := 100) hO rfl rfl rfl ?_
          refine s_getf (v := .int (sI s16 113 5)) (nx := 103) hO rfl rfl (hs_o6 kc113) rfl rfl ?_
          obtain ⟨b18, H⟩ := H
          refine goV (wI s16 (p17 + 3) (ix v1) (sI s16 113 5)) (fun s19 es19 => ?_)
          replace H := H s19 es19
          refine s_iast (nx := 104) hO rfl (hs_I (kf5_3 kp17)) b18 rfl ?_
          refine xEx.at (up_I (kf5_3 kp17) es19) ?_
          refine s_aload_n (nx := 105) hO rfl rfl rfl ?_
          refine s_iconst (x := 1) (nx := 106) hO rfl (by decide) rfl ?_
          refine s_iconst (x := 0) (nx := 107) hO rfl (by decide) rfl ?_
          refine s_iload_n (nx := 108) hO rfl rfl rfl ?_
          refine s_if_ne (nx := 111) hO rfl rfl (fun c108 => ?_) (fun c108 => ?_)
          · replace H := H.1 c108
            refine s_iconst (x := (nI 2)) (nx := 116) hO rfl (by decide) rfl ?_
            refine s_callV [.int 1, .int 0, .int (nI 2)] (ci := 6) (F := TX6) (N := 7) (nx := 119) hO rfl kX6_readHead_38 (by rw [hcl]; rfl) (hs_o6 kc113) (w_X6_take hG H) rfl rfl (Nat.le_of_ble_eq_true rfl) (Nat.zero_le _) (Nat.zero_le _) rfl (k_Qi (fun r20 s21 H => ?_))
            refine s_if_ne (nx := 122) hO rfl rfl (fun c119 => ?_) (fun c119 => ?_)
            · replace H := H.1 c119
              refine s_aload_n (nx := 125) hO rfl rfl rfl ?_
              obtain ⟨p22, ep22, kp22, H⟩ := H
              refine s_getf (v := .ref (q_b G + p22)) (nx := 128) hO rfl rfl (hs_o6 kc113) (congrArg some (rv_at ep22)) rfl ?_
              refine s_getf (v := .ref (q_b G + (p22 + 4))) (nx := 131) hO rfl rfl (hs_o5 kp22) rfl rfl ?_
              refine s_iload_n (nx := 132) hO rfl rfl rfl ?_
              refine s_aload_n (nx := 133) hO rfl rfl rfl ?_
              refine s_getf (v := .int (sI s21 113 5)) (nx := 136) hO rfl rfl (hs_o6 kc113) rfl rfl ?_
              obtain ⟨b23, H⟩ := H
              refine goV (wI s21 (p22 + 4) (ix v1) (sI s21 113 5)) (fun s24 es24 => ?_)
              replace H := H s24 es24
              refine s_iast (nx := 137) hO rfl (hs_I (kf5_4 kp22)) b23 rfl ?_
              refine xEx.at (up_I (kf5_4 kp22) es24) ?_
              refine s_aload_n (nx := 138) hO rfl rfl rfl ?_
              refine s_iconst (x := (nI 2)) (nx := 139) hO rfl (by decide) rfl ?_
              refine s_iconst (x := 1) (nx := 140) hO rfl (by decide) rfl ?_
              refine s_sipush (x := (nI 400)) (nx := 143) hO rfl (by decide) rfl ?_
              refine s_callV [.int (nI 2), .int 1, .int (nI 400)] (ci := 6) (F := TX6) (N := 7) (nx := 146) hO rfl kX6_readHead_38 (by rw [hcl]; rfl) (hs_o6 kc113) (w_X6_take hG H) rfl rfl (Nat.le_of_ble_eq_true rfl) (Nat.zero_le _) (Nat.zero_le _) rfl (k_Qi (fun r25 s26 H => ?_))
              refine s_if_ne (nx := 149) hO rfl rfl (fun c146 => ?_) (fun c146 => ?_)
              · replace H := H.1 c146
                refine s_aload_n (nx := 152) hO rfl rfl rfl ?_
                obtain ⟨p27, ep27, kp27, H⟩ := H
                refine s_getf (v := .ref (q_b G + p27)) (nx := 155) hO rfl rfl (hs_o6 kc113) (congrArg some (rv_at ep27)) rfl ?_
                refine s_iload_n (nx := 156) hO rfl rfl rfl ?_
                refine s_aload_n (nx := 157) hO rfl rfl rfl ?_
                refine s_getf (v := .int (sI s26 113 5)) (nx := 160) hO rfl rfl (hs_o6 kc113) rfl rfl ?_
                refine s_callV [.int v1, .int (sI s26 113 5)] (ci := 5) (F := TX5) (N := 19) (nx := 163) hO rfl kX6_readHead_81 (by rw [hcl]; rfl) (hs_o5 kp27) (w_X5_setSize hG kp27 H) rfl rfl (Nat.le_of_ble_eq_true rfl) (Nat.zero_le _) (Nat.zero_le _) rfl (k_Qv (fun s28 H => ?_))
                refine s_iconst (x := 1) (nx := 164) hO rfl (by decide) rfl ?_
                exact s_iret hO rfl rfl rfl ⟨rfl, _, _, rfl, rfl, H⟩
              · replace H := H.2 c146
                refine s_iconst (x := 0) (nx := 150) hO rfl (by decide) rfl ?_
                exact s_iret hO rfl rfl rfl ⟨rfl, _, _, rfl, rfl, H⟩
            · replace H := H.2 c119
              refine s_iconst (x := 0) (nx := 123) hO rfl (by decide) rfl ?_
              exact s_iret hO rfl rfl rfl ⟨rfl, _, _, rfl, rfl, H⟩
          · replace H := H.2 c108
            refine s_iconst (x := 1) (nx := 112) hO rfl (by decide) rfl ?_
            refine s_goto hO rfl ?_
            refine s_callV [.int 1, .int 0, .int 1] (ci := 6) (F := TX6) (N := 7) (nx := 119) hO rfl kX6_readHead_38 (by rw [hcl]; rfl) (hs_o6 kc113) (w_X6_take hG H) rfl rfl (Nat.le_of_ble_eq_true rfl) (Nat.zero_le _) (Nat.zero_le _) rfl (k_Qi (fun r29 s30 H => ?_))
            refine s_if_ne (nx := 122) hO rfl rfl (fun c119 => ?_) (fun c119 => ?_)
            · replace H := H.1 c119
              refine s_aload_n (nx := 125) hO rfl rfl rfl ?_
              obtain ⟨p31, ep31, kp31, H⟩ := H
              refine s_getf (v := .ref (q_b G + p31)) (nx := 128) hO rfl rfl (hs_o6 kc113) (congrArg some (rv_at ep31)) rfl ?_
              refine s_getf (v := .ref (q_b G + (p31 + 4))) (nx := 131) hO rfl rfl (hs_o5 kp31) rfl rfl ?_
              refine s_iload_n (nx := 132) hO rfl rfl rfl ?_
              refine s_aload_n (nx := 133) hO rfl rfl rfl ?_
              refine s_getf (v := .int (sI s30 113 5)) (nx := 136) hO rfl rfl (hs_o6 kc113) rfl rfl ?_
              obtain ⟨b32, H⟩ := H
              refine goV (wI s30 (p31 + 4) (ix v1) (sI s30 113 5)) (fun s33 es33 => ?_)
              replace H := H s33 es33
              refine s_iast (nx := 137) hO rfl (hs_I (kf5_4 kp31)) b32 rfl ?_
              refine xEx.at (up_I (kf5_4 kp31) es33) ?_
              refine s_aload_n (nx := 138) hO rfl rfl rfl ?_
              refine s_iconst (x := (nI 2)) (nx := 139) hO rfl (by decide) rfl ?_
              refine s_iconst (x := 1) (nx := 140) hO rfl (by decide) rfl ?_
              refine s_sipush (x := (nI 400)) (nx := 143) hO rfl (by decide) rfl ?_
              refine s_callV [.int (nI 2), .int 1, .int (nI 400)] (ci := 6) (F := TX6) (N := 7) (nx := 146) hO rfl kX6_readHead_38 (by rw [hcl]; rfl) (hs_o6 kc113) (w_X6_take hG H) rfl rfl (Nat.le_of_ble_eq_true rfl) (Nat.zero_le _) (Nat.zero_le _) rfl (k_Qi (fun r34 s35 H => ?_))
              refine s_if_ne (nx := 149) hO rfl rfl (fun c146 => ?_) (fun c146 => ?_)
              · replace H := H.1 c146
                refine s_aload_n (nx := 152) hO rfl rfl rfl ?_
                obtain ⟨p36, ep36, kp36, H⟩ := H
                refine s_getf (v := .ref (q_b G + p36)) (nx := 155) hO rfl rfl (hs_o6 kc113) (congrArg some (rv_at ep36)) rfl ?_
                refine s_iload_n (nx := 156) hO rfl rfl rfl ?_
                refine s_aload_n (nx := 157) hO rfl rfl rfl ?_
                refine s_getf (v := .int (sI s35 113 5)) (nx := 160) hO rfl rfl (hs_o6 kc113) rfl rfl ?_
                refine s_callV [.int v1, .int (sI s35 113 5)] (ci := 5) (F := TX5) (N := 19) (nx := 163) hO rfl kX6_readHead_81 (by rw [hcl]; rfl) (hs_o5 kp36) (w_X5_setSize hG kp36 H) rfl rfl (Nat.le_of_ble_eq_true rfl) (Nat.zero_le _) (Nat.zero_le _) rfl (k_Qv (fun s37 H => ?_))
                refine s_iconst (x := 1) (nx := 164) hO rfl (by decide) rfl ?_
                exact s_iret hO rfl rfl rfl ⟨rfl, _, _, rfl, rfl, H⟩
              · replace H := H.2 c146
                refine s_iconst (x := 0) (nx := 150) hO rfl (by decide) rfl ?_
                exact s_iret hO rfl rfl rfl ⟨rfl, _, _, rfl, rfl, H⟩
            · replace H := H.2 c119
              refine s_iconst (x := 0) (nx := 123) hO rfl (by decide) rfl ?_
              exact s_iret hO rfl rfl rfl ⟨rfl, _, _, rfl, rfl, H⟩
        · replace H := H.2 c86
          refine s_iconst (x := 0) (nx := 90) hO rfl (by decide) rfl ?_
          exact s_iret hO rfl rfl rfl ⟨rfl, _, _, rfl, rfl, H⟩
      · replace H := H.2 c49
        refine s_iconst (x := 0) (nx := 53) hO rfl (by decide) rfl ?_
        exact s_iret hO rfl rfl rfl ⟨rfl, _, _, rfl, rfl, H⟩
    · replace H := H.2 c15
      refine s_iconst (x := 0) (nx := 19) hO rfl (by decide) rfl ?_
      exact s_iret hO rfl rfl rfl ⟨rfl, _, _, rfl, rfl, H⟩
  · replace H := H.2 c4
    refine s_iconst (x := 0) (nx := 8) hO rfl (by decide) rfl ?_
    refine s_goto hO rfl ?_
    refine s_callV [.int 1, .int 0, .int 0] (ci := 6) (F := TX6) (N := 7) (nx := 15) hO rfl kX6_readHead_38 (by rw [hcl]; rfl) (hs_o6 kc113) (w_X6_take hG H) rfl rfl (Nat.le_of_ble_eq_true rfl) (Nat.zero_le _) (Nat.zero_le _) rfl (k_Qi (fun r38 s39 H => ?_))
    refine s_if_ne (nx := 18) hO rfl rfl (fun c15 => ?_) (fun c15 => ?_)
    · replace H := H.1 c15
      refine s_aload_n (nx := 21) hO rfl rfl rfl ?_
      obtain ⟨p40, ep40, kp40, H⟩ := H
      refine s_getf (v := .ref (q_b G + p40)) (nx := 24) hO rfl rfl (hs_o6 kc113) (congrArg some (rv_at ep40)) rfl ?_
      refine s_getf (v := .ref (q_b G + (p40 + 1))) (nx := 27) hO rfl rfl (hs_o5 kp40) rfl rfl ?_
      refine s_iload_n (nx := 28) hO rfl rfl rfl ?_
      refine s_aload_n (nx := 29) hO rfl rfl rfl ?_
      refine s_getf (v := .int (sI s39 113 5)) (nx := 32) hO rfl rfl (hs_o6 kc113) rfl rfl ?_
      obtain ⟨b41, H⟩ := H
      refine goV (wI s39 (p40 + 1) (ix v1) (sI s39 113 5)) (fun s42 es42 => ?_)
      replace H := H s42 es42
      refine s_iast (nx := 33) hO rfl (hs_I (kf5_1 kp40)) b41 rfl ?_
      refine xEx.at (up_I (kf5_1 kp40) es42) ?_
      refine s_aload_n (nx := 34) hO rfl rfl rfl ?_
      refine s_iconst (x := 1) (nx := 35) hO rfl (by decide) rfl ?_
      refine s_aload_n (nx := 36) hO rfl rfl rfl ?_
      obtain ⟨p43, ep43, kp43, H⟩ := H
      refine s_getf (v := .ref (q_b G + p43)) (nx := 39) hO rfl rfl (hs_o6 kc113) (congrArg some (rv_at ep43)) rfl ?_
      refine s_getf (v := .ref (q_b G + (p43 + 1))) (nx := 42) hO rfl rfl (hs_o5 kp43) rfl rfl ?_
      refine s_iload_n (nx := 43) hO rfl rfl rfl ?_
      obtain ⟨b44, H⟩ := H
      refine s_iald (nx := 44) hO rfl (hs_I (kf5_1 kp43)) b44 rfl ?_
      refine s_bipush (x := (nI 12)) (nx := 46) hO rfl (by decide) rfl ?_
      refine s_callV [.int 1, .int (sI s42 (p43 + 1) (ix v1)), .int (nI 12)] (ci := 6) (F := TX6) (N := 7) (nx := 49) hO rfl kX6_readHead_38 (by rw [hcl]; rfl) (hs_o6 kc113) (w_X6_take hG H) rfl rfl (Nat.le_of_ble_eq_true rfl) (Nat.zero_le _) (Nat.zero_le _) rfl (k_Qi (fun r45 s46 H => ?_))
      refine s_if_ne (nx := 52) hO rfl rfl (fun c49 => ?_) (fun c49 => ?_)
      · replace H := H.1 c49
        refine s_aload_n (nx := 55) hO rfl rfl rfl ?_
        obtain ⟨p47, ep47, kp47, H⟩ := H
        refine s_getf (v := .ref (q_b G + p47)) (nx := 58) hO rfl rfl (hs_o6 kc113) (congrArg some (rv_at ep47)) rfl ?_
        refine s_getf (v := .ref (q_b G + (p47 + 2))) (nx := 61) hO rfl rfl (hs_o5 kp47) rfl rfl ?_
        refine s_iload_n (nx := 62) hO rfl rfl rfl ?_
        refine s_aload_n (nx := 63) hO rfl rfl rfl ?_
        refine s_getf (v := .int (sI s46 113 5)) (nx := 66) hO rfl rfl (hs_o6 kc113) rfl rfl ?_
        obtain ⟨b48, H⟩ := H
        refine goV (wI s46 (p47 + 2) (ix v1) (sI s46 113 5)) (fun s49 es49 => ?_)
        replace H := H s49 es49
        refine s_iast (nx := 67) hO rfl (hs_I (kf5_2 kp47)) b48 rfl ?_
        refine xEx.at (up_I (kf5_2 kp47) es49) ?_
        refine s_aload_n (nx := 68) hO rfl rfl rfl ?_
        refine s_iconst (x := (nI 2)) (nx := 69) hO rfl (by decide) rfl ?_
        refine s_iconst (x := 0) (nx := 70) hO rfl (by decide) rfl ?_
        refine s_iconst (x := 1) (nx := 71) hO rfl (by decide) rfl ?_
        refine s_aload_n (nx := 72) hO rfl rfl rfl ?_
        obtain ⟨p50, ep50, kp50, H⟩ := H
        refine s_getf (v := .ref (q_b G + p50)) (nx := 75) hO rfl rfl (hs_o6 kc113) (congrArg some (rv_at ep50)) rfl ?_
        refine s_getf (v := .ref (q_b G + (p50 + 2))) (nx := 78) hO rfl rfl (hs_o5 kp50) rfl rfl ?_
        refine s_iload_n (nx := 79) hO rfl rfl rfl ?_
        obtain ⟨b51, H⟩ := H
        refine s_iald (nx := 80) hO rfl (hs_I (kf5_2 kp50)) b51 rfl ?_
        refine s_ishl (nx := 81) hO rfl rfl ?_
        refine s_iconst (x := 1) (nx := 82) hO rfl (by decide) rfl ?_
        refine s_isub (nx := 83) hO rfl rfl ?_
        refine s_callV [.int (nI 2), .int 0, .int ((1 <<< ((sI s49 (p50 + 2) (ix v1)) &&& 31)) - 1)] (ci := 6) (F := TX6) (N := 7) (nx := 86) hO rfl kX6_readHead_38 (by rw [hcl]; rfl) (hs_o6 kc113) (w_X6_take hG H) rfl rfl (Nat.le_of_ble_eq_true rfl) (Nat.zero_le _) (Nat.zero_le _) rfl (k_Qi (fun r52 s53 H => ?_))
        refine s_if_ne (nx := 89) hO rfl rfl (fun c86 => ?_) (fun c86 => ?_)
        · replace H := H.1 c86
          refine s_aload_n (nx := 92) hO rfl rfl rfl ?_
          obtain ⟨p54, ep54, kp54, H⟩ := H
          refine s_getf (v := .ref (q_b G + p54)) (nx := 95) hO rfl rfl (hs_o6 kc113) (congrArg some (rv_at ep54)) rfl ?_
          refine s_getf (v := .ref (q_b G + (p54 + 3))) (nx := 98) hO rfl rfl (hs_o5 kp54) rfl rfl ?_
          refine s_iload_n (nx := 99) hO rfl rfl rfl ?_
          refine s_aload_n (nx := 100) hO rfl rfl rfl ?_
          refine s_getf (v := .int (sI s53 113 5)) (nx := 103) hO rfl rfl (hs_o6 kc113) rfl rfl ?_
          obtain ⟨b55, H⟩ := H
          refine goV (wI s53 (p54 + 3) (ix v1) (sI s53 113 5)) (fun s56 es56 => ?_)
          replace H := H s56 es56
          refine s_iast (nx := 104) hO rfl (hs_I (kf5_3 kp54)) b55 rfl ?_
          refine xEx.at (up_I (kf5_3 kp54) es56) ?_
          refine s_aload_n (nx := 105) hO rfl rfl rfl ?_
          refine s_iconst (x := 1) (nx := 106) hO rfl (by decide) rfl ?_
          refine s_iconst (x := 0) (nx := 107) hO rfl (by decide) rfl ?_
          refine s_iload_n (nx := 108) hO rfl rfl rfl ?_
          refine s_if_ne (nx := 111) hO rfl rfl (fun c108 => ?_) (fun c108 => ?_)
          · replace H := H.1 c108
            refine s_iconst (x := (nI 2)) (nx := 116) hO rfl (by decide) rfl ?_
            refine s_callV [.int 1, .int 0, .int (nI 2)] (ci := 6) (F := TX6) (N := 7) (nx := 119) hO rfl kX6_readHead_38 (by rw [hcl]; rfl) (hs_o6 kc113) (w_X6_take hG H) rfl rfl (Nat.le_of_ble_eq_true rfl) (Nat.zero_le _) (Nat.zero_le _) rfl (k_Qi (fun r57 s58 H => ?_))
            refine s_if_ne (nx := 122) hO rfl rfl (fun c119 => ?_) (fun c119 => ?_)
            · replace H := H.1 c119
              refine s_aload_n (nx := 125) hO rfl rfl rfl ?_
              obtain ⟨p59, ep59, kp59, H⟩ := H
              refine s_getf (v := .ref (q_b G + p59)) (nx := 128) hO rfl rfl (hs_o6 kc113) (congrArg some (rv_at ep59)) rfl ?_
              refine s_getf (v := .ref (q_b G + (p59 + 4))) (nx := 131) hO rfl rfl (hs_o5 kp59) rfl rfl ?_
              refine s_iload_n (nx := 132) hO rfl rfl rfl ?_
              refine s_aload_n (nx := 133) hO rfl rfl rfl ?_
              refine s_getf (v := .int (sI s58 113 5)) (nx := 136) hO rfl rfl (hs_o6 kc113) rfl rfl ?_
              obtain ⟨b60, H⟩ := H
              refine goV (wI s58 (p59 + 4) (ix v1) (sI s58 113 5)) (fun s61 es61 => ?_)
              replace H := H s61 es61
              refine s_iast (nx := 137) hO rfl (hs_I (kf5_4 kp59)) b60 rfl ?_
              refine xEx.at (up_I (kf5_4 kp59) es61) ?_
              refine s_aload_n (nx := 138) hO rfl rfl rfl ?_
              refine s_iconst (x := (nI 2)) (nx := 139) hO rfl (by decide) rfl ?_
              refine s_iconst (x := 1) (nx := 140) hO rfl (by decide) rfl ?_
              refine s_sipush (x := (nI 400)) (nx := 143) hO rfl (by decide) rfl ?_
              refine s_callV [.int (nI 2), .int 1, .int (nI 400)] (ci := 6) (F := TX6) (N := 7) (nx := 146) hO rfl kX6_readHead_38 (by rw [hcl]; rfl) (hs_o6 kc113) (w_X6_take hG H) rfl rfl (Nat.le_of_ble_eq_true rfl) (Nat.zero_le _) (Nat.zero_le _) rfl (k_Qi (fun r62 s63 H => ?_))
              refine s_if_ne (nx := 149) hO rfl rfl (fun c146 => ?_) (fun c146 => ?_)
              · replace H := H.1 c146
                refine s_aload_n (nx := 152) hO rfl rfl rfl ?_
                obtain ⟨p64, ep64, kp64, H⟩ := H
                refine s_getf (v := .ref (q_b G + p64)) (nx := 155) hO rfl rfl (hs_o6 kc113) (congrArg some (rv_at ep64)) rfl ?_
                refine s_iload_n (nx := 156) hO rfl rfl rfl ?_
                refine s_aload_n (nx := 157) hO rfl rfl rfl ?_
                refine s_getf (v := .int (sI s63 113 5)) (nx := 160) hO rfl rfl (hs_o6 kc113) rfl rfl ?_
                refine s_callV [.int v1, .int (sI s63 113 5)] (ci := 5) (F := TX5) (N := 19) (nx := 163) hO rfl kX6_readHead_81 (by rw [hcl]; rfl) (hs_o5 kp64) (w_X5_setSize hG kp64 H) rfl rfl (Nat.le_of_ble_eq_true rfl) (Nat.zero_le _) (Nat.zero_le _) rfl (k_Qv (fun s65 H => ?_))
                refine s_iconst (x := 1) (nx := 164) hO rfl (by decide) rfl ?_
                exact s_iret hO rfl rfl rfl ⟨rfl, _, _, rfl, rfl, H⟩
              · replace H := H.2 c146
                refine s_iconst (x := 0) (nx := 150) hO rfl (by decide) rfl ?_
                exact s_iret hO rfl rfl rfl ⟨rfl, _, _, rfl, rfl, H⟩
            · replace H := H.2 c119
              refine s_iconst (x := 0) (nx := 123) hO rfl (by decide) rfl ?_
              exact s_iret hO rfl rfl rfl ⟨rfl, _, _, rfl, rfl, H⟩
          · replace H := H.2 c108
            refine s_iconst (x := 1) (nx := 112) hO rfl (by decide) rfl ?_
            refine s_goto hO rfl ?_
            refine s_callV [.int 1, .int 0, .int 1] (ci := 6) (F := TX6) (N := 7) (nx := 119) hO rfl kX6_readHead_38 (by rw [hcl]; rfl) (hs_o6 kc113) (w_X6_take hG H) rfl rfl (Nat.le_of_ble_eq_true rfl) (Nat.zero_le _) (Nat.zero_le _) rfl (k_Qi (fun r66 s67 H => ?_))
            refine s_if_ne (nx := 122) hO rfl rfl (fun c119 => ?_) (fun c119 => ?_)
            · replace H := H.1 c119
              refine s_aload_n (nx := 125) hO rfl rfl rfl ?_
              obtain ⟨p68, ep68, kp68, H⟩ := H
              refine s_getf (v := .ref (q_b G + p68)) (nx := 128) hO rfl rfl (hs_o6 kc113) (congrArg some (rv_at ep68)) rfl ?_
              refine s_getf (v := .ref (q_b G + (p68 + 4))) (nx := 131) hO rfl rfl (hs_o5 kp68) rfl rfl ?_
              refine s_iload_n (nx := 132) hO rfl rfl rfl ?_
              refine s_aload_n (nx := 133) hO rfl rfl rfl ?_
              refine s_getf (v := .int (sI s67 113 5)) (nx := 136) hO rfl rfl (hs_o6 kc113) rfl rfl ?_
              obtain ⟨b69, H⟩ := H
              refine goV (wI s67 (p68 + 4) (ix v1) (sI s67 113 5)) (fun s70 es70 => ?_)
              replace H := H s70 es70
              refine s_iast (nx := 137) hO rfl (hs_I (kf5_4 kp68)) b69 rfl ?_
              refine xEx.at (up_I (kf5_4 kp68) es70) ?_
              refine s_aload_n (nx := 138) hO rfl rfl rfl ?_
              refine s_iconst (x := (nI 2)) (nx := 139) hO rfl (by decide) rfl ?_
              refine s_iconst (x := 1) (nx := 140) hO rfl (by decide) rfl ?_
              refine s_sipush (x := (nI 400)) (nx := 143) hO rfl (by decide) rfl ?_
              refine s_callV [.int (nI 2), .int 1, .int (nI 400)] (ci := 6) (F := TX6) (N := 7) (nx := 146) hO rfl kX6_readHead_38 (by rw [hcl]; rfl) (hs_o6 kc113) (w_X6_take hG H) rfl rfl (Nat.le_of_ble_eq_true rfl) (Nat.zero_le _) (Nat.zero_le _) rfl (k_Qi (fun r71 s72 H => ?_))
              refine s_if_ne (nx := 149) hO rfl rfl (fun c146 => ?_) (fun c146 => ?_)
              · replace H := H.1 c146
                refine s_aload_n (nx := 152) hO rfl rfl rfl ?_
                obtain ⟨p73, ep73, kp73, H⟩ := H
                refine s_getf (v := .ref (q_b G + p73)) (nx := 155) hO rfl rfl (hs_o6 kc113) (congrArg some (rv_at ep73)) rfl ?_
                refine s_iload_n (nx := 156) hO rfl rfl rfl ?_
                refine s_aload_n (nx := 157) hO rfl rfl rfl ?_
                refine s_getf (v := .int (sI s72 113 5)) (nx := 160) hO rfl rfl (hs_o6 kc113) rfl rfl ?_
                refine s_callV [.int v1, .int (sI s72 113 5)] (ci := 5) (F := TX5) (N := 19) (nx := 163) hO rfl kX6_readHead_81 (by rw [hcl]; rfl) (hs_o5 kp73) (w_X5_setSize hG kp73 H) rfl rfl (Nat.le_of_ble_eq_true rfl) (Nat.zero_le _) (Nat.zero_le _) rfl (k_Qv (fun s74 H => ?_))
                refine s_iconst (x := 1) (nx := 164) hO rfl (by decide) rfl ?_
                exact s_iret hO rfl rfl rfl ⟨rfl, _, _, rfl, rfl, H⟩
              · replace H := H.2 c146
                refine s_iconst (x := 0) (nx := 150) hO rfl (by decide) rfl ?_
                exact s_iret hO rfl rfl rfl ⟨rfl, _, _, rfl, rfl, H⟩
            · replace H := H.2 c119
              refine s_iconst (x := 0) (nx := 123) hO rfl (by decide) rfl ?_
              exact s_iret hO rfl rfl rfl ⟨rfl, _, _, rfl, rfl, H⟩
        · replace H := H.2 c86
          refine s_iconst (x := 0) (nx := 90) hO rfl (by decide) rfl ?_
          exact s_iret hO rfl rfl rfl ⟨rfl, _, _, rfl, rfl, H⟩
      · replace H := H.2 c49
        refine s_iconst (x := 0) (nx := 53) hO rfl (by decide) rfl ?_
        exact s_iret hO rfl rfl rfl ⟨rfl, _, _, rfl, rfl, H⟩
    · replace H := H.2 c15
      refine s_iconst (x := 0) (nx := 19) hO rfl (by decide) rfl ?_
      exact s_iret hO rfl rfl rfl ⟨rfl, _, _, rfl, rfl, H⟩
def W_X6_takeTarget (s : yS) (v1 : Int32) (Q : Int32 → yS → Prop) : Prop :=
 ∃ p1 : Nat, sR s 113 6 = p1 + 1 ∧ kd p1 = some (9, 0) ∧ 
 vp_in v1 12 ∧ 
 W_X6_take s (nI 2) 0 ((sI s (p1 + 5) (ix v1)) - 1) 
 (fun r3 s4 => ((¬ r3 = 0 → ∃ p5 : Nat, sR s4 113 6 = p5 + 1 ∧ kd p5 = some (9, 0) ∧ 
  vp_in ((v1 * (nI 400)) + (sI s4 113 5)) 4800 ∧ ∀ s7 : yS, s7 = wI s4 (p5 + 11) (ix ((v1 * (nI 400)) + (sI s4 113 5))) (vp_nar .boolean 1) → 
  Q 1 s7)
 ∧ (r3 = 0 → Q 0 s4)))
set_option maxRecDepth 100000 in
set_option maxHeartbeats 40000000 in
theorem w_X6_takeTarget {G : xG} (hG : yG G) {z : Nat} {s : yS} {v1 : Int32} {Q : Int32 → yS → Prop} (H : W_X6_takeTarget s v1 Q) : xC G mX6_takeTarget [.ref (q_b G + 113), .int v1] (hS G s) z 0 0 (yQi G z Q) := by
  have hW := hG.1
  have hcl := hG.2.1
  have hty := hG.2.2.1
  have hO : xO G mX6_takeTarget tbX6_takeTarget ptX6_takeTarget := ⟨tkX6_takeTarget, pkX6_takeTarget hcl⟩
  unfold W_X6_takeTarget at H
  refine xC.of hW (by decide) rfl (Nat.le_of_ble_eq_true rfl) ?_
  refine s_aload_n (nx := 1) hO rfl rfl rfl ?_
  refine s_iconst (x := (nI 2)) (nx := 2) hO rfl (by decide) rfl ?_
  refine s_iconst (x := 0) (nx := 3) hO rfl (by decide) rfl ?_
  refine s_aload_n (nx := 4) hO rfl rfl rfl ?_
  obtain ⟨p1, ep1, kp1, H⟩ := H
  refine s_getf (v := .ref (q_b G + p1)) (nx := 7) hO rfl rfl (hs_o6 kc113) (congrArg some (rv_at ep1)) rfl ?_
  refine s_getf (v := .ref (q_b G + (p1 + 5))) (nx := 10) hO rfl rfl (hs_o5 kp1) rfl rfl ?_
  refine s_iload_n (nx := 11) hO rfl rfl rfl ?_
  obtain ⟨b2, H⟩ := H
  refine s_iald (nx := 12) hO rfl (hs_I (kf5_5 kp1)) b2 rfl ?_
  refine s_iconst (x := 1) (nx := 13) hO rfl (by decide) rfl ?_
  refine s_isub (nx := 14) hO rfl rfl ?_
  refine s_callV [.int (nI 2), .int 0, .int ((sI s (p1 + 5) (ix v1)) - 1)] (ci := 6) (F := TX6) (N := 7) (nx := 17) hO rfl kX6_takeTarget_38 (by rw [hcl]; rfl) (hs_o6 kc113) (w_X6_take hG H) rfl rfl (Nat.le_of_ble_eq_true rfl) (Nat.zero_le _) (Nat.zero_le _) rfl (k_Qi (fun r3 s4 H => ?_))
  refine s_if_ne (nx := 20) hO rfl rfl (fun c17 => ?_) (fun c17 => ?_)
  · replace H := H.1 c17
    refine s_aload_n (nx := 23) hO rfl rfl rfl ?_
    obtain ⟨p5, ep5, kp5, H⟩ := H
    refine s_getf (v := .ref (q_b G + p5)) (nx := 26) hO rfl rfl (hs_o6 kc113) (congrArg some (rv_at ep5)) rfl ?_
    refine s_getf (v := .ref (q_b G + (p5 + 11))) (nx := 29) hO rfl rfl (hs_o5 kp5) rfl rfl ?_
    refine s_iload_n (nx := 30) hO rfl rfl rfl ?_
    refine s_sipush (x := (nI 400)) (nx := 33) hO rfl (by decide) rfl ?_
    refine s_imul (nx := 34) hO rfl rfl ?_
    refine s_aload_n (nx := 35) hO rfl rfl rfl ?_
    refine s_getf (v := .int (sI s4 113 5)) (nx := 38) hO rfl rfl (hs_o6 kc113) rfl rfl ?_
    refine s_iadd (nx := 39) hO rfl rfl ?_
    refine s_iconst (x := 1) (nx := 40) hO rfl (by decide) rfl ?_
    obtain ⟨b6, H⟩ := H
    refine goV (wI s4 (p5 + 11) (ix ((v1 * (nI 400)) + (sI s4 113 5))) (vp_nar .boolean 1)) (fun s7 es7 => ?_)
    replace H := H s7 es7
    refine s_zast (nx := 41) hO rfl (hs_Z (kf5_11 kp5)) b6 rfl ?_
    refine xEx.at (up_Z (kf5_11 kp5) es7) ?_
    refine s_iconst (x := 1) (nx := 42) hO rfl (by decide) rfl ?_
    exact s_iret hO rfl rfl rfl ⟨rfl, _, _, rfl, rfl, H⟩
  · replace H := H.2 c17
    refine s_iconst (x := 0) (nx := 21) hO rfl (by decide) rfl ?_
    exact s_iret hO rfl rfl rfl ⟨rfl, _, _, rfl, rfl, H⟩
def W_X6_readHandler (s : yS) (v1 : Int32) (v2 : Int32) (Q : Int32 → yS → Prop) : Prop :=
 ∃ p1 : Nat, sR s 113 6 = p1 + 1 ∧ kd p1 = some (9, 0) ∧ 
 vp_in v1 12 ∧ 
 W_X6_take s (nI 2) 0 ((sI s (p1 + 5) (ix v1)) - 1) 
 (fun r3 s4 => ((¬ r3 = 0 → ∃ p5 : Nat, sR s4 113 6 = p5 + 1 ∧ kd p5 = some (9, 0) ∧ 
  vp_in v2 72 ∧ ∀ s7 : yS, s7 = wI s4 (p5 + 13) (ix v2) (sI s4 113 5) → 
  ∃ p8 : Nat, sR s7 113 6 = p8 + 1 ∧ kd p8 = some (9, 0) ∧ 
  vp_in v1 12 ∧ 
  W_X6_take s7 (nI 2) ((sI s7 113 5) + 1) (sI s7 (p8 + 5) (ix v1)) 
  (fun r10 s11 => ((¬ r10 = 0 → ∃ p12 : Nat, sR s11 113 6 = p12 + 1 ∧ kd p12 = some (9, 0) ∧ 
   vp_in v2 72 ∧ ∀ s14 : yS, s14 = wI s11 (p12 + 14) (ix v2) (sI s11 113 5) → 
   W_X6_takeTarget s14 v1 
   (fun r15 s16 => ((¬ r15 = 0 → ∃ p17 : Nat, sR s16 113 6 = p17 + 1 ∧ kd p17 = some (9, 0) ∧ 
    vp_in v2 72 ∧ ∀ s19 : yS, s19 = wI s16 (p17 + 15) (ix v2) (sI s16 113 5) → 
    W_X6_take s19 1 0 1 
    (fun r20 s21 => ((¬ r20 = 0 → ∃ p22 : Nat, sR s21 113 6 = p22 + 1 ∧ kd p22 = some (9, 0) ∧ 
     ((¬ (sI s21 113 5) = 0 → vp_in v2 72 ∧ ∀ s24 : yS, s24 = wI s21 (p22 + 16) (ix v2) (vp_nar .boolean 0) → 
      ∃ p25 : Nat, sR s24 113 6 = p25 + 1 ∧ kd p25 = some (9, 0) ∧ 
      vp_in v2 72 ∧ ∀ s27 : yS, s27 = wI s24 (p25 + 17) (ix v2) 0 → 
      ∃ p28 : Nat, sR s27 113 6 = p28 + 1 ∧ kd p28 = some (9, 0) ∧ 
      vp_in v2 72 ∧ 
      (((sI s27 (p28 + 16) (ix v2)) = 0 → W_X6_take s27 (nI 4) ((-2147483648)) ((2147483647)) 
       (fun r30 s31 => ((¬ r30 = 0 → ∃ p32 : Nat, sR s31 113 6 = p32 + 1 ∧ kd p32 = some (9, 0) ∧ 
        vp_in v2 72 ∧ ∀ s34 : yS, s34 = wI s31 (p32 + 17) (ix v2) (sI s31 113 5) → 
        Q 1 s34)
       ∧ (r30 = 0 → Q 0 s31))))
      ∧ (¬ (sI s27 (p28 + 16) (ix v2)) = 0 → Q 1 s27)))
     ∧ ((sI s21 113 5) = 0 → vp_in v2 72 ∧ ∀ s36 : yS, s36 = wI s21 (p22 + 16) (ix v2) (vp_nar .boolean 1) → 
      ∃ p37 : Nat, sR s36 113 6 = p37 + 1 ∧ kd p37 = some (9, 0) ∧ 
      vp_in v2 72 ∧ ∀ s39 : yS, s39 = wI s36 (p37 + 17) (ix v2) 0 → 
      ∃ p40 : Nat, sR s39 113 6 = p40 + 1 ∧ kd p40 = some (9, 0) ∧ 
      vp_in v2 72 ∧ 
      (((sI s39 (p40 + 16) (ix v2)) = 0 → W_X6_take s39 (nI 4) ((-2147483648)) ((2147483647)) 
       (fun r42 s43 => ((¬ r42 = 0 → ∃ p44 : Nat, sR s43 113 6 = p44 + 1 ∧ kd p44 = some (9, 0) ∧ 
        vp_in v2 72 ∧ ∀ s46 : yS, s46 = wI s43 (p44 + 17) (ix v2) (sI s43 113 5) → 
        Q 1 s46)
       ∧ (r42 = 0 → Q 0 s43))))
      ∧ (¬ (sI s39 (p40 + 16) (ix v2)) = 0 → Q 1 s39)))))
    ∧ (r20 = 0 → Q 0 s21))))
   ∧ (r15 = 0 → Q 0 s16))))
  ∧ (r10 = 0 → Q 0 s11))))
 ∧ (r3 = 0 → Q 0 s4)))
set_option maxRecDepth 100000 in
set_option maxHeartbeats 40000000 in
theorem w_X6_readHandler {G : xG} (hG : yG G) {z : Nat} {s : yS} {v1 : Int32} {v2 : Int32} {Q : Int32 → yS → Prop} (H : W_X6_readHandler s v1 v2 Q) : xC G mX6_readHandler [.ref (q_b G + 113), .int v1, .int v2] (hS G s) z 0 0 (yQi G z Q) := by
  have hW := hG.1
  have hcl := hG.2.1
  have hty := hG.2.2.1
  have hO : xO G mX6_readHandler tbX6_readHandler ptX6_readHandler := ⟨tkX6_readHandler, pkX6_readHandler hcl⟩
  unfold W_X6_readHandler at H
  refine xC.of hW (by decide) rfl (Nat.le_of_ble_eq_true rfl) ?_
  refine s_aload_n (nx := 1) hO rfl rfl rfl ?_
  refine s_iconst (x := (nI 2)) (nx := 2) hO rfl (by decide) rfl ?_
  refine s_iconst (x := 0) (nx := 3) hO rfl (by decide) rfl ?_
  refine s_aload_n (nx := 4) hO rfl rfl rfl ?_
  obtain ⟨p1, ep1, kp1, H⟩ := H
  refine s_getf (v := .ref (q_b G + p1)) (nx := 7) hO rfl rfl (hs_o6 kc113) (congrArg some (rv_at ep1)) rfl ?_
  refine s_getf (v := .ref (q_b G + (p1 + 5))) (nx := 10) hO rfl rfl (hs_o5 kp1) rfl rfl ?_
  refine s_iload_n (nx := 11) hO rfl rfl rfl ?_
  obtain ⟨b2, H⟩ := H
  refine s_iald (nx := 12) hO rfl (hs_I (kf5_5 kp1)) b2 rfl ?_
  refine s_iconst (x := 1) (nx := 13) hO rfl (by decide) rfl ?_
  refine s_isub (nx := 14) hO rfl rfl ?_
  refine s_callV [.int (nI 2), .int 0, .int ((sI s (p1 + 5) (ix v1)) - 1)] (ci := 6) (F := TX6) (N := 7) (nx := 17) hO rfl kX6_readHandler_38 (by rw [hcl]; rfl) (hs_o6 kc113) (w_X6_take hG H) rfl rfl (Nat.le_of_ble_eq_true rfl) (Nat.zero_le _) (Nat.zero_le _) rfl (k_Qi (fun r3 s4 H => ?_))
  refine s_if_ne (nx := 20) hO rfl rfl (fun c17 => ?_) (fun c17 => ?_)
  · replace H := H.1 c17
    refine s_aload_n (nx := 23) hO rfl rfl rfl ?_
    obtain ⟨p5, ep5, kp5, H⟩ := H
    refine s_getf (v := .ref (q_b G + p5)) (nx := 26) hO rfl rfl (hs_o6 kc113) (congrArg some (rv_at ep5)) rfl ?_
    refine s_getf (v := .ref (q_b G + (p5 + 13))) (nx := 29) hO rfl rfl (hs_o5 kp5) rfl rfl ?_
    refine s_iload_n (nx := 30) hO rfl rfl rfl ?_
    refine s_aload_n (nx := 31) hO rfl rfl rfl ?_
    refine s_getf (v := .int (sI s4 113 5)) (nx := 34) hO rfl rfl (hs_o6 kc113) rfl rfl ?_
    obtain ⟨b6, H⟩ := H
    refine goV (wI s4 (p5 + 13) (ix v2) (sI s4 113 5)) (fun s7 es7 => ?_)
    replace H := H s7 es7
    refine s_iast (nx := 35) hO rfl (hs_I (kf5_14 kp5)) b6 rfl ?_
    refine xEx.at (up_I (kf5_14 kp5) es7) ?_
    refine s_aload_n (nx := 36) hO rfl rfl rfl ?_
    refine s_iconst (x := (nI 2)) (nx := 37) hO rfl (by decide) rfl ?_
    refine s_aload_n (nx := 38) hO rfl rfl rfl ?_
    refine s_getf (v := .int (sI s7 113 5)) (nx := 41) hO rfl rfl (hs_o6 kc113) rfl rfl ?_
    refine s_iconst (x := 1) (nx := 42) hO rfl (by decide) rfl ?_
    refine s_iadd (nx := 43) hO rfl rfl ?_
    refine s_aload_n (nx := 44) hO rfl rfl rfl ?_
    obtain ⟨p8, ep8, kp8, H⟩ := H
    refine s_getf (v := .ref (q_b G + p8)) (nx := 47) hO rfl rfl (hs_o6 kc113) (congrArg some (rv_at ep8)) rfl ?_
    refine s_getf (v := .ref (q_b G + (p8 + 5))) (nx := 50) hO rfl rfl (hs_o5 kp8) rfl rfl ?_
    refine s_iload_n (nx := 51) hO rfl rfl rfl ?_
    obtain ⟨b9, H⟩ := H
    refine s_iald (nx := 52) hO rfl (hs_I (kf5_5 kp8)) b9 rfl ?_
    refine s_callV [.int (nI 2), .int ((sI s7 113 5) + 1), .int (sI s7 (p8 + 5) (ix v1))] (ci := 6) (F := TX6) (N := 7) (nx := 55) hO rfl kX6_readHandler_38 (by rw [hcl]; rfl) (hs_o6 kc113) (w_X6_take hG H) rfl rfl (Nat.le_of_ble_eq_true rfl) (Nat.zero_le _) (Nat.zero_le _) rfl (k_Qi (fun r10 s11 H => ?_))
    refine s_if_ne (nx := 58) hO rfl rfl (fun c55 => ?_) (fun c55 => ?_)
    · replace H := H.1 c55
      refine s_aload_n (nx := 61) hO rfl rfl rfl ?_
      obtain ⟨p12, ep12, kp12, H⟩ := H
      refine s_getf (v := .ref (q_b G + p12)) (nx := 64) hO rfl rfl (hs_o6 kc113) (congrArg some (rv_at ep12)) rfl ?_
      refine s_getf (v := .ref (q_b G + (p12 + 14))) (nx := 67) hO rfl rfl (hs_o5 kp12) rfl rfl ?_
      refine s_iload_n (nx := 68) hO rfl rfl rfl ?_
      refine s_aload_n (nx := 69) hO rfl rfl rfl ?_
      refine s_getf (v := .int (sI s11 113 5)) (nx := 72) hO rfl rfl (hs_o6 kc113) rfl rfl ?_
      obtain ⟨b13, H⟩ := H
      refine goV (wI s11 (p12 + 14) (ix v2) (sI s11 113 5)) (fun s14 es14 => ?_)
      replace H := H s14 es14
      refine s_iast (nx := 73) hO rfl (hs_I (kf5_15 kp12)) b13 rfl ?_
      refine xEx.at (up_I (kf5_15 kp12) es14) ?_
      refine s_aload_n (nx := 74) hO rfl rfl rfl ?_
      refine s_iload_n (nx := 75) hO rfl rfl rfl ?_
      refine s_callV [.int v1] (ci := 6) (F := TX6) (N := 7) (nx := 78) hO rfl kX6_readHandler_104 (by rw [hcl]; rfl) (hs_o6 kc113) (w_X6_takeTarget hG H) rfl rfl (Nat.le_of_ble_eq_true rfl) (Nat.zero_le _) (Nat.zero_le _) rfl (k_Qi (fun r15 s16 H => ?_))
      refine s_if_ne (nx := 81) hO rfl rfl (fun c78 => ?_) (fun c78 => ?_)
      · replace H := H.1 c78
        refine s_aload_n (nx := 84) hO rfl rfl rfl ?_
        obtain ⟨p17, ep17, kp17, H⟩ := H
        refine s_getf (v := .ref (q_b G + p17)) (nx := 87) hO rfl rfl (hs_o6 kc113) (congrArg some (rv_at ep17)) rfl ?_
        refine s_getf (v := .ref (q_b G + (p17 + 15))) (nx := 90) hO rfl rfl (hs_o5 kp17) rfl rfl ?_
        refine s_iload_n (nx := 91) hO rfl rfl rfl ?_
        refine s_aload_n (nx := 92) hO rfl rfl rfl ?_
        refine s_getf (v := .int (sI s16 113 5)) (nx := 95) hO rfl rfl (hs_o6 kc113) rfl rfl ?_
        obtain ⟨b18, H⟩ := H
        refine goV (wI s16 (p17 + 15) (ix v2) (sI s16 113 5)) (fun s19 es19 => ?_)
        replace H := H s19 es19
        refine s_iast (nx := 96) hO rfl (hs_I (kf5_16 kp17)) b18 rfl ?_
        refine xEx.at (up_I (kf5_16 kp17) es19) ?_
        refine s_aload_n (nx := 97) hO rfl rfl rfl ?_
        refine s_iconst (x := 1) (nx := 98) hO rfl (by decide) rfl ?_
        refine s_iconst (x := 0) (nx := 99) hO rfl (by decide) rfl ?_
        refine s_iconst (x := 1) (nx := 100) hO rfl (by decide) rfl ?_
        refine s_callV [.int 1, .int 0, .int 1] (ci := 6) (F := TX6) (N := 7) (nx := 103) hO rfl kX6_readHandler_38 (by rw [hcl]; rfl) (hs_o6 kc113) (w_X6_take hG H) rfl rfl (Nat.le_of_ble_eq_true rfl) (Nat.zero_le _) (Nat.zero_le _) rfl (k_Qi (fun r20 s21 H => ?_))
        refine s_if_ne (nx := 106) hO rfl rfl (fun c103 => ?_) (fun c103 => ?_)
        · replace H := H.1 c103
          refine s_aload_n (nx := 109) hO rfl rfl rfl ?_
          obtain ⟨p22, ep22, kp22, H⟩ := H
          refine s_getf (v := .ref (q_b G + p22)) (nx := 112) hO rfl rfl (hs_o6 kc113) (congrArg some (rv_at ep22)) rfl ?_
          refine s_getf (v := .ref (q_b G + (p22 + 16))) (nx := 115) hO rfl rfl (hs_o5 kp22) rfl rfl ?_
          refine s_iload_n (nx := 116) hO rfl rfl rfl ?_
          refine s_aload_n (nx := 117) hO rfl rfl rfl ?_
          refine s_getf (v := .int (sI s21 113 5)) (nx := 120) hO rfl rfl (hs_o6 kc113) rfl rfl ?_
          refine s_if_ne (nx := 123) hO rfl rfl (fun c120 => ?_) (fun c120 => ?_)
          · replace H := H.1 c120
            refine s_iconst (x := 0) (nx := 128) hO rfl (by decide) rfl ?_
            obtain ⟨b23, H⟩ := H
            refine goV (wI s21 (p22 + 16) (ix v2) (vp_nar .boolean 0)) (fun s24 es24 => ?_)
            replace H := H s24 es24
            refine s_zast (nx := 129) hO rfl (hs_Z (kf5_17 kp22)) b23 rfl ?_
            refine xEx.at (up_Z (kf5_17 kp22) es24) ?_
            refine s_aload_n (nx := 130) hO rfl rfl rfl ?_
            obtain ⟨p25, ep25, kp25, H⟩ := H
            refine s_getf (v := .ref (q_b G + p25)) (nx := 133) hO rfl rfl (hs_o6 kc113) (congrArg some (rv_at ep25)) rfl ?_
            refine s_getf (v := .ref (q_b G + (p25 + 17))) (nx := 136) hO rfl rfl (hs_o5 kp25) rfl rfl ?_
            refine s_iload_n (nx := 137) hO rfl rfl rfl ?_
            refine s_iconst (x := 0) (nx := 138) hO rfl (by decide) rfl ?_
            obtain ⟨b26, H⟩ := H
            refine goV (wI s24 (p25 + 17) (ix v2) 0) (fun s27 es27 => ?_)
            replace H := H s27 es27
            refine s_iast (nx := 139) hO rfl (hs_I (kf5_18 kp25)) b26 rfl ?_
            refine xEx.at (up_I (kf5_18 kp25) es27) ?_
            refine s_aload_n (nx := 140) hO rfl rfl rfl ?_
            obtain ⟨p28, ep28, kp28, H⟩ := H
            refine s_getf (v := .ref (q_b G + p28)) (nx := 143) hO rfl rfl (hs_o6 kc113) (congrArg some (rv_at ep28)) rfl ?_
            refine s_getf (v := .ref (q_b G + (p28 + 16))) (nx := 146) hO rfl rfl (hs_o5 kp28) rfl rfl ?_
            refine s_iload_n (nx := 147) hO rfl rfl rfl ?_
            obtain ⟨b29, H⟩ := H
            refine s_zald (nx := 148) hO rfl (hs_Z (kf5_17 kp28)) b29 rfl ?_
            refine s_if_eq (nx := 151) hO rfl rfl (fun c148 => ?_) (fun c148 => ?_)
            · replace H := H.1 c148
              refine s_aload_n (nx := 154) hO rfl rfl rfl ?_
              refine s_iconst (x := (nI 4)) (nx := 155) hO rfl (by decide) rfl ?_
              refine s_ldc (x := ((-2147483648))) (nx := 157) hO rfl rfl rfl ?_
              refine s_ldc (x := ((2147483647))) (nx := 159) hO rfl rfl rfl ?_
              refine s_callV [.int (nI 4), .int ((-2147483648)), .int ((2147483647))] (ci := 6) (F := TX6) (N := 7) (nx := 162) hO rfl kX6_readHandler_38 (by rw [hcl]; rfl) (hs_o6 kc113) (w_X6_take hG H) rfl rfl (Nat.le_of_ble_eq_true rfl) (Nat.zero_le _) (Nat.zero_le _) rfl (k_Qi (fun r30 s31 H => ?_))
              refine s_if_ne (nx := 165) hO rfl rfl (fun c162 => ?_) (fun c162 => ?_)
              · replace H := H.1 c162
                refine s_aload_n (nx := 168) hO rfl rfl rfl ?_
                obtain ⟨p32, ep32, kp32, H⟩ := H
                refine s_getf (v := .ref (q_b G + p32)) (nx := 171) hO rfl rfl (hs_o6 kc113) (congrArg some (rv_at ep32)) rfl ?_
                refine s_getf (v := .ref (q_b G + (p32 + 17))) (nx := 174) hO rfl rfl (hs_o5 kp32) rfl rfl ?_
                refine s_iload_n (nx := 175) hO rfl rfl rfl ?_
                refine s_aload_n (nx := 176) hO rfl rfl rfl ?_
                refine s_getf (v := .int (sI s31 113 5)) (nx := 179) hO rfl rfl (hs_o6 kc113) rfl rfl ?_
                obtain ⟨b33, H⟩ := H
                refine goV (wI s31 (p32 + 17) (ix v2) (sI s31 113 5)) (fun s34 es34 => ?_)
                replace H := H s34 es34
                refine s_iast (nx := 180) hO rfl (hs_I (kf5_18 kp32)) b33 rfl ?_
                refine xEx.at (up_I (kf5_18 kp32) es34) ?_
                refine s_iconst (x := 1) (nx := 181) hO rfl (by decide) rfl ?_
                exact s_iret hO rfl rfl rfl ⟨rfl, _, _, rfl, rfl, H⟩
              · replace H := H.2 c162
                refine s_iconst (x := 0) (nx := 166) hO rfl (by decide) rfl ?_
                exact s_iret hO rfl rfl rfl ⟨rfl, _, _, rfl, rfl, H⟩
            · replace H := H.2 c148
              refine s_iconst (x := 1) (nx := 152) hO rfl (by decide) rfl ?_
              exact s_iret hO rfl rfl rfl ⟨rfl, _, _, rfl, rfl, H⟩
          · replace H := H.2 c120
            refine s_iconst (x := 1) (nx := 124) hO rfl (by decide) rfl ?_
            refine s_goto hO rfl ?_
            obtain ⟨b35, H⟩ := H
            refine goV (wI s21 (p22 + 16) (ix v2) (vp_nar .boolean 1)) (fun s36 es36 => ?_)
            replace H := H s36 es36
            refine s_zast (nx := 129) hO rfl (hs_Z (kf5_17 kp22)) b35 rfl ?_
            refine xEx.at (up_Z (kf5_17 kp22) es36) ?_
            refine s_aload_n (nx := 130) hO rfl rfl rfl ?_
            obtain ⟨p37, ep37, kp37, H⟩ := H
            refine s_getf (v := .ref (q_b G + p37)) (nx := 133) hO rfl rfl (hs_o6 kc113) (congrArg some (rv_at ep37)) rfl ?_
            refine s_getf (v := .ref (q_b G + (p37 + 17))) (nx := 136) hO rfl rfl (hs_o5 kp37) rfl rfl ?_
            refine s_iload_n (nx := 137) hO rfl rfl rfl ?_
            refine s_iconst (x := 0) (nx := 138) hO rfl (by decide) rfl ?_
            obtain ⟨b38, H⟩ := H
            refine goV (wI s36 (p37 + 17) (ix v2) 0) (fun s39 es39 => ?_)
            replace H := H s39 es39
            refine s_iast (nx := 139) hO rfl (hs_I (kf5_18 kp37)) b38 rfl ?_
            refine xEx.at (up_I (kf5_18 kp37) es39) ?_
            refine s_aload_n (nx := 140) hO rfl rfl rfl ?_
            obtain ⟨p40, ep40, kp40, H⟩ := H
            refine s_getf (v := .ref (q_b G + p40)) (nx := 143) hO rfl rfl (hs_o6 kc113) (congrArg some (rv_at ep40)) rfl ?_
            refine s_getf (v := .ref (q_b G + (p40 + 16))) (nx := 146) hO rfl rfl (hs_o5 kp40) rfl rfl ?_
            refine s_iload_n (nx := 147) hO rfl rfl rfl ?_
            obtain ⟨b41, H⟩ := H
            refine s_zald (nx := 148) hO rfl (hs_Z (kf5_17 kp40)) b41 rfl ?_
            refine s_if_eq (nx := 151) hO rfl rfl (fun c148 => ?_) (fun c148 => ?_)
            · replace H := H.1 c148
              refine s_aload_n (nx := 154) hO rfl rfl rfl ?_
              refine s_iconst (x := (nI 4)) (nx := 155) hO rfl (by decide) rfl ?_
              refine s_ldc (x := ((-2147483648))) (nx := 157) hO rfl rfl rfl ?_
              refine s_ldc (x := ((2147483647))) (nx := 159) hO rfl rfl rfl ?_
              refine s_callV [.int (nI 4), .int ((-2147483648)), .int ((2147483647))] (ci := 6) (F := TX6) (N := 7) (nx := 162) hO rfl kX6_readHandler_38 (by rw [hcl]; rfl) (hs_o6 kc113) (w_X6_take hG H) rfl rfl (Nat.le_of_ble_eq_true rfl) (Nat.zero_le _) (Nat.zero_le _) rfl (k_Qi (fun r42 s43 H => ?_))
              refine s_if_ne (nx := 165) hO rfl rfl (fun c162 => ?_) (fun c162 => ?_)
              · replace H := H.1 c162
                refine s_aload_n (nx := 168) hO rfl rfl rfl ?_
                obtain ⟨p44, ep44, kp44, H⟩ := H
                refine s_getf (v := .ref (q_b G + p44)) (nx := 171) hO rfl rfl (hs_o6 kc113) (congrArg some (rv_at ep44)) rfl ?_
                refine s_getf (v := .ref (q_b G + (p44 + 17))) (nx := 174) hO rfl rfl (hs_o5 kp44) rfl rfl ?_
                refine s_iload_n (nx := 175) hO rfl rfl rfl ?_
                refine s_aload_n (nx := 176) hO rfl rfl rfl ?_
                refine s_getf (v := .int (sI s43 113 5)) (nx := 179) hO rfl rfl (hs_o6 kc113) rfl rfl ?_
                obtain ⟨b45, H⟩ := H
                refine goV (wI s43 (p44 + 17) (ix v2) (sI s43 113 5)) (fun s46 es46 => ?_)
                replace H := H s46 es46
                refine s_iast (nx := 180) hO rfl (hs_I (kf5_18 kp44)) b45 rfl ?_
                refine xEx.at (up_I (kf5_18 kp44) es46) ?_
                refine s_iconst (x := 1) (nx := 181) hO rfl (by decide) rfl ?_
                exact s_iret hO rfl rfl rfl ⟨rfl, _, _, rfl, rfl, H⟩
              · replace H := H.2 c162
                refine s_iconst (x := 0) (nx := 166) hO rfl (by decide) rfl ?_
                exact s_iret hO rfl rfl rfl ⟨rfl, _, _, rfl, rfl, H⟩
            · replace H := H.2 c148
              refine s_iconst (x := 1) (nx := 152) hO rfl (by decide) rfl ?_
              exact s_iret hO rfl rfl rfl ⟨rfl, _, _, rfl, rfl, H⟩
        · replace H := H.2 c103
          refine s_iconst (x := 0) (nx := 107) hO rfl (by decide) rfl ?_
          exact s_iret hO rfl rfl rfl ⟨rfl, _, _, rfl, rfl, H⟩
      · replace H := H.2 c78
        refine s_iconst (x := 0) (nx := 82) hO rfl (by decide) rfl ?_
        exact s_iret hO rfl rfl rfl ⟨rfl, _, _, rfl, rfl, H⟩
    · replace H := H.2 c55
      refine s_iconst (x := 0) (nx := 59) hO rfl (by decide) rfl ?_
      exact s_iret hO rfl rfl rfl ⟨rfl, _, _, rfl, rfl, H⟩
  · replace H := H.2 c17
    refine s_iconst (x := 0) (nx := 21) hO rfl (by decide) rfl ?_
    exact s_iret hO rfl rfl rfl ⟨rfl, _, _, rfl, rfl, H⟩
def W_X6_readHandlers (s : yS) (v1 : Int32) (Q : Int32 → yS → Prop) : Prop :=
 W_X6_take s 1 0 (nI 6) 
 (fun r1 s2 => ((¬ r1 = 0 → ∃ p3 : Nat, sR s2 113 6 = p3 + 1 ∧ kd p3 = some (9, 0) ∧ 
  vp_in v1 12 ∧ ∀ s5 : yS, s5 = wI s2 (p3 + 6) (ix v1) (sI s2 113 5) → 
  ∀ P28 : Int32 → yS → Prop, (∀ (x6 : Int32) (s7 : yS), (∃ p8 : Nat, sR s7 113 6 = p8 + 1 ∧ kd p8 = some (9, 0) ∧ 
   vp_in v1 12 ∧ 
   (((sI s7 (p8 + 6) (ix v1)) ≤ x6 → Q 1 s7)
   ∧ (¬ (sI s7 (p8 + 6) (ix v1)) ≤ x6 → W_X6_readHandler s7 v1 ((v1 * (nI 6)) + x6) 
    (fun r10 s11 => ((¬ r10 = 0 → ∀ x12 : Int32, x12 = (x6 + 1) → 
     P28 x12 s11)
    ∧ (r10 = 0 → Q 0 s11)))))) → P28 x6 s7) → 
  P28 0 s5)
 ∧ (r1 = 0 → Q 0 s2)))
set_option maxRecDepth 100000 in
set_option maxHeartbeats 40000000 in
theorem w_X6_readHandlers {G : xG} (hG : yG G) {z : Nat} {s : yS} {v1 : Int32} {Q : Int32 → yS → Prop} (H : W_X6_readHandlers s v1 Q) : xC G mX6_readHandlers [.ref (q_b G + 113), .int v1] (hS G s) z 0 0 (yQi G z Q) := by
  have hW := hG.1
  have hcl := hG.2.1
  have hty := hG.2.2.1
  have hO : xO G mX6_readHandlers tbX6_readHandlers ptX6_readHandlers := ⟨tkX6_readHandlers, pkX6_readHandlers hcl⟩
  unfold W_X6_readHandlers at H
  refine xC.of hW (by decide) rfl (Nat.le_of_ble_eq_true rfl) ?_
  refine s_aload_n (nx := 1) hO rfl rfl rfl ?_
  refine s_iconst (x := 1) (nx := 2) hO rfl (by decide) rfl ?_
  refine s_iconst (x := 0) (nx := 3) hO rfl (by decide) rfl ?_
  refine s_bipush (x := (nI 6)) (nx := 5) hO rfl (by decide) rfl ?_
  refine s_callV [.int 1, .int 0, .int (nI 6)] (ci := 6) (F := TX6) (N := 7) (nx := 8) hO rfl kX6_readHandlers_38 (by rw [hcl]; rfl) (hs_o6 kc113) (w_X6_take hG H) rfl rfl (Nat.le_of_ble_eq_true rfl) (Nat.zero_le _) (Nat.zero_le _) rfl (k_Qi (fun r1 s2 H => ?_))
  refine s_if_ne (nx := 11) hO rfl rfl (fun c8 => ?_) (fun c8 => ?_)
  · replace H := H.1 c8
    refine s_aload_n (nx := 14) hO rfl rfl rfl ?_
    obtain ⟨p3, ep3, kp3, H⟩ := H
    refine s_getf (v := .ref (q_b G + p3)) (nx := 17) hO rfl rfl (hs_o6 kc113) (congrArg some (rv_at ep3)) rfl ?_
    refine s_getf (v := .ref (q_b G + (p3 + 6))) (nx := 20) hO rfl rfl (hs_o5 kp3) rfl rfl ?_
    refine s_iload_n (nx := 21) hO rfl rfl rfl ?_
    refine s_aload_n (nx := 22) hO rfl rfl rfl ?_
    refine s_getf (v := .int (sI s2 113 5)) (nx := 25) hO rfl rfl (hs_o6 kc113) rfl rfl ?_
    obtain ⟨b4, H⟩ := H
    refine goV (wI s2 (p3 + 6) (ix v1) (sI s2 113 5)) (fun s5 es5 => ?_)
    replace H := H s5 es5
    refine s_iast (nx := 26) hO rfl (hs_I (kf5_6 kp3)) b4 rfl ?_
    refine xEx.at (up_I (kf5_6 kp3) es5) ?_
    refine s_iconst (x := 0) (nx := 27) hO rfl (by decide) rfl ?_
    refine goK (H (fun (x6 : Int32) (s7 : yS) => xEx G mX6_readHandlers 28 [(0, .ref (q_b G + 113)), (1, .int v1), (2, .int x6)] [] (hS G s7) z 0 0 (yQi G z Q)) (fun x6 s7 H => ?_)) (fun H => ?_)
    · show xEx G mX6_readHandlers 28 [(0, .ref (q_b G + 113)), (1, .int v1), (2, .int x6)] [] (hS G s7) z 0 0 (yQi G z Q)
      refine s_iload_n (nx := 29) hO rfl rfl rfl ?_
      refine s_aload_n (nx := 30) hO rfl rfl rfl ?_
      obtain ⟨p8, ep8, kp8, H⟩ := H
      refine s_getf (v := .ref (q_b G + p8)) (nx := 33) hO rfl rfl (hs_o6 kc113) (congrArg some (rv_at ep8)) rfl ?_
      refine s_getf (v := .ref (q_b G + (p8 + 6))) (nx := 36) hO rfl rfl (hs_o5 kp8) rfl rfl ?_
      refine s_iload_n (nx := 37) hO rfl rfl rfl ?_
      obtain ⟨b9, H⟩ := H
      refine s_iald (nx := 38) hO rfl (hs_I (kf5_6 kp8)) b9 rfl ?_
      refine s_icmp_ge (nx := 41) hO rfl rfl (fun c38 => ?_) (fun c38 => ?_)
      · replace H := H.1 c38
        refine s_iconst (x := 1) (nx := 64) hO rfl (by decide) rfl ?_
        exact s_iret hO rfl rfl rfl ⟨rfl, _, _, rfl, rfl, H⟩
      · replace H := H.2 c38
        refine s_aload_n (nx := 42) hO rfl rfl rfl ?_
        refine s_iload_n (nx := 43) hO rfl rfl rfl ?_
        refine s_iload_n (nx := 44) hO rfl rfl rfl ?_
        refine s_bipush (x := (nI 6)) (nx := 46) hO rfl (by decide) rfl ?_
        refine s_imul (nx := 47) hO rfl rfl ?_
        refine s_iload_n (nx := 48) hO rfl rfl rfl ?_
        refine s_iadd (nx := 49) hO rfl rfl ?_
        refine s_callV [.int v1, .int ((v1 * (nI 6)) + x6)] (ci := 6) (F := TX6) (N := 7) (nx := 52) hO rfl kX6_readHandlers_114 (by rw [hcl]; rfl) (hs_o6 kc113) (w_X6_readHandler hG H) rfl rfl (Nat.le_of_ble_eq_true rfl) (Nat.zero_le _) (Nat.zero_le _) rfl (k_Qi (fun r10 s11 H => ?_))
        refine s_if_ne (nx := 55) hO rfl rfl (fun c52 => ?_) (fun c52 => ?_)
        · replace H := H.1 c52
          refine goV ((x6 + 1)) (fun x12 ex12 => ?_)
          replace H := H x12 ex12
          refine e_iinc (nx := 60) (l' := [(2, .int x12), (0, .ref (q_b G + 113)), (1, .int v1)]) ex12 hO rfl (by decide) rfl rfl rfl rfl ?_
          refine s_goto hO rfl ?_
          exact xEx.loc (x_sub1 (List.Mem.tail _ (List.Mem.head _)) (x_sub1 (List.Mem.tail _ (List.Mem.tail _ (List.Mem.head _))) (x_sub1 (List.Mem.head _) x_sub0))) H
        · replace H := H.2 c52
          refine s_iconst (x := 0) (nx := 56) hO rfl (by decide) rfl ?_
          exact s_iret hO rfl rfl rfl ⟨rfl, _, _, rfl, rfl, H⟩
    refine s_istore_n (nx := 28) (l' := [(2, .int 0), (0, .ref (q_b G + 113)), (1, .int v1)]) hO rfl (by decide) rfl rfl ?_
    exact xEx.loc (x_sub1 (List.Mem.tail _ (List.Mem.head _)) (x_sub1 (List.Mem.tail _ (List.Mem.tail _ (List.Mem.head _))) (x_sub1 (List.Mem.head _) x_sub0))) H
  · replace H := H.2 c8
    refine s_iconst (x := 0) (nx := 12) hO rfl (by decide) rfl ?_
    exact s_iret hO rfl rfl rfl ⟨rfl, _, _, rfl, rfl, H⟩
def W_X7_lead (s : yS) (v1 : Int32) (v2 : Int32) (Q : Int32 → Prop) : Prop :=
 ∃ p1 : Nat, sR s 103 0 = p1 + 1 ∧ kd p1 = some (7, 0) ∧ 
 vp_in v1 31 ∧ 
 ∀ P13 : Int32 → Int32 → Prop, (∀ (x3 : Int32) (x4 : Int32), (∃ p5 : Nat, sR s 103 0 = p5 + 1 ∧ kd p5 = some (7, 0) ∧ 
  vp_in (v1 + 1) 31 ∧ 
  (((sI s (p5 + 2) (ix (v1 + 1))) ≤ x4 → Q x3)
  ∧ (¬ (sI s (p5 + 2) (ix (v1 + 1))) ≤ x4 → ∃ p7 : Nat, sR s 103 0 = p7 + 1 ∧ kd p7 = some (7, 0) ∧ 
   W_X3_holds s p7 x4 v2 104 9 
   (fun r8 => ∀ P61 : Int32 → Prop, (∀ (x9 : Int32), (∀ x10 : Int32, x10 = (x4 + 1) → 
    P13 x9 x10) → P61 x9) → 
   ((r8 = 0 → P61 x3)
   ∧ (¬ r8 = 0 → ∃ p11 : Nat, sR s 103 0 = p11 + 1 ∧ kd p11 = some (7, 0) ∧ 
    vp_in x4 216 ∧ 
    ∀ x13 : Int32, x13 = (x3 ||| (1 <<< ((sI s (p11 + 4) (ix x4)) &&& 31))) → 
    P61 x13)))))) → P13 x3 x4) → 
 ∀ x14 : Int32, x14 = (sI s (p1 + 2) (ix v1)) → 
 P13 0 x14
set_option maxRecDepth 100000 in
set_option maxHeartbeats 40000000 in
theorem w_X7_lead {G : xG} (hG : yG G) {z : Nat} {s : yS} {v1 : Int32} {v2 : Int32} {Q : Int32 → Prop} (H : W_X7_lead s v1 v2 Q) : xC G mX7_lead [.ref (q_b G + 103), .int v1, .int v2] (hS G s) z 0 0 (yPi G z s Q) := by
  have hW := hG.1
  have hcl := hG.2.1
  have hty := hG.2.2.1
  have hO : xO G mX7_lead tbX7_lead ptX7_lead := ⟨tkX7_lead, pkX7_lead hcl⟩
  unfold W_X7_lead at H
  refine xC.of hW (by decide) rfl (Nat.le_of_ble_eq_true rfl) ?_
  refine s_iconst (x := 0) (nx := 1) hO rfl (by decide) rfl ?_
  refine s_istore_n (nx := 2) (l' := [(3, .int 0), (0, .ref (q_b G + 103)), (1, .int v1), (2, .int v2)]) hO rfl (by decide) rfl rfl ?_
  refine s_aload_n (nx := 3) hO rfl rfl rfl ?_
  obtain ⟨p1, ep1, kp1, H⟩ := H
  refine s_getf (v := .ref (q_b G + p1)) (nx := 6) hO rfl rfl (hs_o7 kc103) (congrArg some (rv_at ep1)) rfl ?_
  refine s_getf (v := .ref (q_b G + (p1 + 2))) (nx := 9) hO rfl rfl (hs_o3 kp1) rfl rfl ?_
  refine s_iload_n (nx := 10) hO rfl rfl rfl ?_
  obtain ⟨b2, H⟩ := H
  refine s_iald (nx := 11) hO rfl (hs_I (kf3_8 kp1)) b2 rfl ?_
  refine goK (H (fun (x3 : Int32) (x4 : Int32) => xEx G mX7_lead 13 [(0, .ref (q_b G + 103)), (1, .int v1), (2, .int v2), (3, .int x3), (4, .int x4)] [] (hS G s) z 0 0 (yPi G z s Q)) (fun x3 x4 H => ?_)) (fun H => ?_)
  · show xEx G mX7_lead 13 [(0, .ref (q_b G + 103)), (1, .int v1), (2, .int v2), (3, .int x3), (4, .int x4)] [] (hS G s) z 0 0 (yPi G z s Q)
    refine s_iload (nx := 15) hO rfl rfl rfl ?_
    refine s_aload_n (nx := 16) hO rfl rfl rfl ?_
    obtain ⟨p5, ep5, kp5, H⟩ := H
    refine s_getf (v := .ref (q_b G + p5)) (nx := 19) hO rfl rfl (hs_o7 kc103) (congrArg some (rv_at ep5)) rfl ?_
    refine s_getf (v := .ref (q_b G + (p5 + 2))) (nx := 22) hO rfl rfl (hs_o3 kp5) rfl rfl ?_
    refine s_iload_n (nx := 23) hO rfl rfl rfl ?_
    refine s_iconst (x := 1) (nx := 24) hO rfl (by decide) rfl ?_
    refine s_iadd (nx := 25) hO rfl rfl ?_
    obtain ⟨b6, H⟩ := H
    refine s_iald (nx := 26) hO rfl (hs_I (kf3_8 kp5)) b6 rfl ?_
    refine s_icmp_ge (nx := 29) hO rfl rfl (fun c26 => ?_) (fun c26 => ?_)
    · replace H := H.1 c26
      refine s_iload_n (nx := 68) hO rfl rfl rfl ?_
      exact s_iret hO rfl rfl rfl ⟨rfl, _, rfl, rfl, H⟩
    · replace H := H.2 c26
      refine s_aload_n (nx := 30) hO rfl rfl rfl ?_
      obtain ⟨p7, ep7, kp7, H⟩ := H
      refine s_getf (v := .ref (q_b G + p7)) (nx := 33) hO rfl rfl (hs_o7 kc103) (congrArg some (rv_at ep7)) rfl ?_
      refine s_iload (nx := 35) hO rfl rfl rfl ?_
      refine s_iload_n (nx := 36) hO rfl rfl rfl ?_
      refine s_aload_n (nx := 37) hO rfl rfl rfl ?_
      refine s_getf (v := .ref (q_b G + 104)) (nx := 40) hO rfl rfl (hs_o7 kc103) rfl rfl ?_
      refine s_callV [.int x4, .int v2, .ref (q_b G + 104)] (ci := 3) (F := TX3) (N := 20) (nx := 43) hO rfl kX7_lead_101 (by rw [hcl]; rfl) (hs_o3 kp7) (w_X3_holds hG kp7 kc104 H) rfl rfl (Nat.le_of_ble_eq_true rfl) (Nat.zero_le _) (Nat.zero_le _) rfl (k_Pi (fun r8 H => ?_))
      refine goK (H (fun (x9 : Int32) => xEx G mX7_lead 61 [(0, .ref (q_b G + 103)), (1, .int v1), (2, .int v2), (3, .int x9), (4, .int x4)] [] (hS G s) z 0 0 (yPi G z s Q)) (fun x9 H => ?_)) (fun H => ?_)
      · show xEx G mX7_lead 61 [(0, .ref (q_b G + 103)), (1, .int v1), (2, .int v2), (3, .int x9), (4, .int x4)] [] (hS G s) z 0 0 (yPi G z s Q)
        refine goV ((x4 + 1)) (fun x10 ex10 => ?_)
        replace H := H x10 ex10
        refine e_iinc (nx := 64) (l' := [(4, .int x10), (0, .ref (q_b G + 103)), (1, .int v1), (2, .int v2), (3, .int x9)]) ex10 hO rfl (by decide) rfl rfl rfl rfl ?_
        refine s_goto hO rfl ?_
        exact xEx.loc (x_sub1 (List.Mem.tail _ (List.Mem.head _)) (x_sub1 (List.Mem.tail _ (List.Mem.tail _ (List.Mem.head _))) (x_sub1 (List.Mem.tail _ (List.Mem.tail _ (List.Mem.tail _ (List.Mem.head _)))) (x_sub1 (List.Mem.tail _ (List.Mem.tail _ (List.Mem.tail _ (List.Mem.tail _ (List.Mem.head _))))) (x_sub1 (List.Mem.head _) x_sub0))))) H
      refine s_if_eq (nx := 46) hO rfl rfl (fun c43 => ?_) (fun c43 => ?_)
      · replace H := H.1 c43
        exact xEx.loc (x_sub1 (List.Mem.head _) (x_sub1 (List.Mem.tail _ (List.Mem.head _)) (x_sub1 (List.Mem.tail _ (List.Mem.tail _ (List.Mem.head _))) (x_sub1 (List.Mem.tail _ (List.Mem.tail _ (List.Mem.tail _ (List.Mem.head _)))) (x_sub1 (List.Mem.tail _ (List.Mem.tail _ (List.Mem.tail _ (List.Mem.tail _ (List.Mem.head _))))) x_sub0))))) H
      · replace H := H.2 c43
        refine s_iload_n (nx := 47) hO rfl rfl rfl ?_
        refine s_iconst (x := 1) (nx := 48) hO rfl (by decide) rfl ?_
        refine s_aload_n (nx := 49) hO rfl rfl rfl ?_
        obtain ⟨p11, ep11, kp11, H⟩ := H
        refine s_getf (v := .ref (q_b G + p11)) (nx := 52) hO rfl rfl (hs_o7 kc103) (congrArg some (rv_at ep11)) rfl ?_
        refine s_getf (v := .ref (q_b G + (p11 + 4))) (nx := 55) hO rfl rfl (hs_o3 kp11) rfl rfl ?_
        refine s_iload (nx := 57) hO rfl rfl rfl ?_
        obtain ⟨b12, H⟩ := H
        refine s_iald (nx := 58) hO rfl (hs_I (kf3_10 kp11)) b12 rfl ?_
        refine s_ishl (nx := 59) hO rfl rfl ?_
        refine s_ior (nx := 60) hO rfl rfl ?_
        refine goV ((x3 ||| (1 <<< ((sI s (p11 + 4) (ix x4)) &&& 31)))) (fun x13 ex13 => ?_)
        replace H := H x13 ex13
        refine e_istore_n (nx := 61) (l' := [(3, .int x13), (0, .ref (q_b G + 103)), (1, .int v1), (2, .int v2), (4, .int x4)]) ex13 hO rfl (by decide) rfl rfl ?_
        exact xEx.loc (x_sub1 (List.Mem.tail _ (List.Mem.head _)) (x_sub1 (List.Mem.tail _ (List.Mem.tail _ (List.Mem.head _))) (x_sub1 (List.Mem.tail _ (List.Mem.tail _ (List.Mem.tail _ (List.Mem.head _)))) (x_sub1 (List.Mem.head _) (x_sub1 (List.Mem.tail _ (List.Mem.tail _ (List.Mem.tail _ (List.Mem.tail _ (List.Mem.head _))))) x_sub0))))) H
  refine goV ((sI s (p1 + 2) (ix v1))) (fun x14 ex14 => ?_)
  replace H := H x14 ex14
  refine e_istore (nx := 13) (l' := [(4, .int x14), (3, .int 0), (0, .ref (q_b G + 103)), (1, .int v1), (2, .int v2)]) ex14 hO rfl (by decide) rfl rfl ?_
  exact xEx.loc (x_sub1 (List.Mem.tail _ (List.Mem.tail _ (List.Mem.head _))) (x_sub1 (List.Mem.tail _ (List.Mem.tail _ (List.Mem.tail _ (List.Mem.head _)))) (x_sub1 (List.Mem.tail _ (List.Mem.tail _ (List.Mem.tail _ (List.Mem.tail _ (List.Mem.head _))))) (x_sub1 (List.Mem.tail _ (List.Mem.head _)) (x_sub1 (List.Mem.head _) x_sub0))))) H
def W_X7_leadSet (s : yS) (v1 : Int32) (v2 : Int32) (Q : Int32 → Prop) : Prop :=
 ∀ P5 : Int32 → Int32 → Prop, (∀ (x1 : Int32) (x2 : Int32), (∃ p3 : Nat, sR s 103 0 = p3 + 1 ∧ kd p3 = some (7, 0) ∧ 
  (((sI s p3 1) ≤ x2 → Q x1)
  ∧ (¬ (sI s p3 1) ≤ x2 → ∀ P43 : Int32 → Prop, (∀ (x4 : Int32), (∀ x5 : Int32, x5 = (x2 + 1) → 
    P5 x4 x5) → P43 x4) → 
   ((¬ ((v1 >>> (x2 &&& 31)) &&& 1) = 1 → P43 x1)
   ∧ (((v1 >>> (x2 &&& 31)) &&& 1) = 1 → vp_in ((x2 * (nI 512)) + v2) 12288 ∧ 
    ∀ x7 : Int32, x7 = (x1 ||| (sI s 105 (ix ((x2 * (nI 512)) + v2)))) → 
    P43 x7))))) → P5 x1 x2) → 
 P5 0 0
set_option maxRecDepth 100000 in
set_option maxHeartbeats 40000000 in
theorem w_X7_leadSet {G : xG} (hG : yG G) {z : Nat} {s : yS} {v1 : Int32} {v2 : Int32} {Q : Int32 → Prop} (H : W_X7_leadSet s v1 v2 Q) : xC G mX7_leadSet [.ref (q_b G + 103), .int v1, .int v2] (hS G s) z 0 0 (yPi G z s Q) := by
  have hW := hG.1
  have hcl := hG.2.1
  have hty := hG.2.2.1
  have hO : xO G mX7_leadSet tbX7_leadSet ptX7_leadSet := ⟨tkX7_leadSet, pkX7_leadSet hcl⟩
  unfold W_X7_leadSet at H
  refine xC.of hW (by decide) rfl (Nat.le_of_ble_eq_true rfl) ?_
  refine s_iconst (x := 0) (nx := 1) hO rfl (by decide) rfl ?_
  refine s_istore_n (nx := 2) (l' := [(3, .int 0), (0, .ref (q_b G + 103)), (1, .int v1), (2, .int v2)]) hO rfl (by decide) rfl rfl ?_
  refine s_iconst (x := 0) (nx := 3) hO rfl (by decide) rfl ?_
  refine goK (H (fun (x1 : Int32) (x2 : Int32) => xEx G mX7_leadSet 5 [(0, .ref (q_b G + 103)), (1, .int v1), (2, .int v2), (3, .int x1), (4, .int x2)] [] (hS G s) z 0 0 (yPi G z s Q)) (fun x1 x2 H => ?_)) (fun H => ?_)
  · show xEx G mX7_leadSet 5 [(0, .ref (q_b G + 103)), (1, .int v1), (2, .int v2), (3, .int x1), (4, .int x2)] [] (hS G s) z 0 0 (yPi G z s Q)
    refine s_iload (nx := 7) hO rfl rfl rfl ?_
    refine s_aload_n (nx := 8) hO rfl rfl rfl ?_
    obtain ⟨p3, ep3, kp3, H⟩ := H
    refine s_getf (v := .ref (q_b G + p3)) (nx := 11) hO rfl rfl (hs_o7 kc103) (congrArg some (rv_at ep3)) rfl ?_
    refine s_getf (v := .int (sI s p3 1)) (nx := 14) hO rfl rfl (hs_o3 kp3) rfl rfl ?_
    refine s_icmp_ge (nx := 17) hO rfl rfl (fun c14 => ?_) (fun c14 => ?_)
    · replace H := H.1 c14
      refine s_iload_n (nx := 50) hO rfl rfl rfl ?_
      exact s_iret hO rfl rfl rfl ⟨rfl, _, rfl, rfl, H⟩
    · replace H := H.2 c14
      refine s_iload_n (nx := 18) hO rfl rfl rfl ?_
      refine s_iload (nx := 20) hO rfl rfl rfl ?_
      refine s_ishr (nx := 21) hO rfl rfl ?_
      refine s_iconst (x := 1) (nx := 22) hO rfl (by decide) rfl ?_
      refine s_iand (nx := 23) hO rfl rfl ?_
      refine s_iconst (x := 1) (nx := 24) hO rfl (by decide) rfl ?_
      refine goK (H (fun (x4 : Int32) => xEx G mX7_leadSet 43 [(0, .ref (q_b G + 103)), (1, .int v1), (2, .int v2), (3, .int x4), (4, .int x2)] [] (hS G s) z 0 0 (yPi G z s Q)) (fun x4 H => ?_)) (fun H => ?_)
      · show xEx G mX7_leadSet 43 [(0, .ref (q_b G + 103)), (1, .int v1), (2, .int v2), (3, .int x4), (4, .int x2)] [] (hS G s) z 0 0 (yPi G z s Q)
        refine goV ((x2 + 1)) (fun x5 ex5 => ?_)
        replace H := H x5 ex5
        refine e_iinc (nx := 46) (l' := [(4, .int x5), (0, .ref (q_b G + 103)), (1, .int v1), (2, .int v2), (3, .int x4)]) ex5 hO rfl (by decide) rfl rfl rfl rfl ?_
        refine s_goto hO rfl ?_
        exact xEx.loc (x_sub1 (List.Mem.tail _ (List.Mem.head _)) (x_sub1 (List.Mem.tail _ (List.Mem.tail _ (List.Mem.head _))) (x_sub1 (List.Mem.tail _ (List.Mem.tail _ (List.Mem.tail _ (List.Mem.head _)))) (x_sub1 (List.Mem.tail _ (List.Mem.tail _ (List.Mem.tail _ (List.Mem.tail _ (List.Mem.head _))))) (x_sub1 (List.Mem.head _) x_sub0))))) H
      refine s_icmp_ne (nx := 27) hO rfl rfl (fun c24 => ?_) (fun c24 => ?_)
      · replace H := H.1 c24
        exact xEx.loc (x_sub1 (List.Mem.head _) (x_sub1 (List.Mem.tail _ (List.Mem.head _)) (x_sub1 (List.Mem.tail _ (List.Mem.tail _ (List.Mem.head _))) (x_sub1 (List.Mem.tail _ (List.Mem.tail _ (List.Mem.tail _ (List.Mem.head _)))) (x_sub1 (List.Mem.tail _ (List.Mem.tail _ (List.Mem.tail _ (List.Mem.tail _ (List.Mem.head _))))) x_sub0))))) H
      · replace H := H.2 c24
        refine s_iload_n (nx := 28) hO rfl rfl rfl ?_
        refine s_aload_n (nx := 29) hO rfl rfl rfl ?_
        refine s_getf (v := .ref (q_b G + 105)) (nx := 32) hO rfl rfl (hs_o7 kc103) rfl rfl ?_
        refine s_iload (nx := 34) hO rfl rfl rfl ?_
        refine s_sipush (x := (nI 512)) (nx := 37) hO rfl (by decide) rfl ?_
        refine s_imul (nx := 38) hO rfl rfl ?_
        refine s_iload_n (nx := 39) hO rfl rfl rfl ?_
        refine s_iadd (nx := 40) hO rfl rfl ?_
        obtain ⟨b6, H⟩ := H
        refine s_iald (nx := 41) hO rfl (hs_I kc105) b6 rfl ?_
        refine s_ior (nx := 42) hO rfl rfl ?_
        refine goV ((x1 ||| (sI s 105 (ix ((x2 * (nI 512)) + v2))))) (fun x7 ex7 => ?_)
        replace H := H x7 ex7
        refine e_istore_n (nx := 43) (l' := [(3, .int x7), (0, .ref (q_b G + 103)), (1, .int v1), (2, .int v2), (4, .int x2)]) ex7 hO rfl (by decide) rfl rfl ?_
        exact xEx.loc (x_sub1 (List.Mem.tail _ (List.Mem.head _)) (x_sub1 (List.Mem.tail _ (List.Mem.tail _ (List.Mem.head _))) (x_sub1 (List.Mem.tail _ (List.Mem.tail _ (List.Mem.tail _ (List.Mem.head _)))) (x_sub1 (List.Mem.head _) (x_sub1 (List.Mem.tail _ (List.Mem.tail _ (List.Mem.tail _ (List.Mem.tail _ (List.Mem.head _))))) x_sub0))))) H
  refine s_istore (nx := 5) (l' := [(4, .int 0), (3, .int 0), (0, .ref (q_b G + 103)), (1, .int v1), (2, .int v2)]) hO rfl (by decide) rfl rfl ?_
  exact xEx.loc (x_sub1 (List.Mem.tail _ (List.Mem.tail _ (List.Mem.head _))) (x_sub1 (List.Mem.tail _ (List.Mem.tail _ (List.Mem.tail _ (List.Mem.head _)))) (x_sub1 (List.Mem.tail _ (List.Mem.tail _ (List.Mem.tail _ (List.Mem.tail _ (List.Mem.head _))))) (x_sub1 (List.Mem.tail _ (List.Mem.head _)) (x_sub1 (List.Mem.head _) x_sub0))))) H
def W_X7_setIndex (s : yS) (v1 : Int32) (Q : Int32 → yS → Prop) : Prop :=
 ∀ P2 : Int32 → Prop, (∀ (x1 : Int32), (∃ p2 : Nat, sR s 103 0 = p2 + 1 ∧ kd p2 = some (7, 0) ∧ 
  (((sI s p2 2) ≤ x1 → ∃ p3 : Nat, sR s 103 0 = p3 + 1 ∧ kd p3 = some (7, 0) ∧ 
   ((¬ (sI s p3 2) = (nI 63) → ∃ p4 : Nat, sR s 103 0 = p4 + 1 ∧ kd p4 = some (7, 0) ∧ 
    vp_in (sI s p4 2) 63 ∧ ∀ s6 : yS, s6 = wI s 106 (ix (sI s p4 2)) v1 → 
    ∃ p7 : Nat, sR s6 103 0 = p7 + 1 ∧ kd p7 = some (7, 0) ∧ 
    ∀ s8 : yS, s8 = wI s6 p7 2 ((sI s6 p7 2) + 1) → 
    ∃ p9 : Nat, sR s8 103 0 = p9 + 1 ∧ kd p9 = some (7, 0) ∧ 
    Q ((sI s8 p9 2) - 1) s8)
   ∧ ((sI s p3 2) = (nI 63) → Q (nI 63) s)))
  ∧ (¬ (sI s p2 2) ≤ x1 → vp_in x1 63 ∧ 
   ((¬ (sI s 106 (ix x1)) = v1 → ∀ x11 : Int32, x11 = (x1 + 1) → 
    P2 x11)
   ∧ ((sI s 106 (ix x1)) = v1 → Q x1 s))))) → P2 x1) → 
 P2 0
set_option maxRecDepth 100000 in
set_option maxHeartbeats 40000000 in
theorem w_X7_setIndex {G : xG} (hG : yG G) {z : Nat} {s : yS} {v1 : Int32} {Q : Int32 → yS → Prop} (H : W_X7_setIndex s v1 Q) : xC G mX7_setIndex [.ref (q_b G + 103), .int v1] (hS G s) z 0 0 (yQi G z Q) := by
  have hW := hG.1
  have hcl := hG.2.1
  have hty := hG.2.2.1
  have hO : xO G mX7_setIndex tbX7_setIndex ptX7_setIndex := ⟨tkX7_setIndex, pkX7_setIndex hcl⟩
  unfold W_X7_setIndex at H
  refine xC.of hW (by decide) rfl (Nat.le_of_ble_eq_true rfl) ?_
  refine s_iconst (x := 0) (nx := 1) hO rfl (by decide) rfl ?_
  refine goK (H (fun (x1 : Int32) => xEx G mX7_setIndex 2 [(0, .ref (q_b G + 103)), (1, .int v1), (2, .int x1)] [] (hS G s) z 0 0 (yQi G z Q)) (fun x1 H => ?_)) (fun H => ?_)
  · show xEx G mX7_setIndex 2 [(0, .ref (q_b G + 103)), (1, .int v1), (2, .int x1)] [] (hS G s) z 0 0 (yQi G z Q)
    refine s_iload_n (nx := 3) hO rfl rfl rfl ?_
    refine s_aload_n (nx := 4) hO rfl rfl rfl ?_
    obtain ⟨p2, ep2, kp2, H⟩ := H
    refine s_getf (v := .ref (q_b G + p2)) (nx := 7) hO rfl rfl (hs_o7 kc103) (congrArg some (rv_at ep2)) rfl ?_
    refine s_getf (v := .int (sI s p2 2)) (nx := 10) hO rfl rfl (hs_o3 kp2) rfl rfl ?_
    refine s_icmp_ge (nx := 13) hO rfl rfl (fun c10 => ?_) (fun c10 => ?_)
    · replace H := H.1 c10
      refine s_aload_n (nx := 32) hO rfl rfl rfl ?_
      obtain ⟨p3, ep3, kp3, H⟩ := H
      refine s_getf (v := .ref (q_b G + p3)) (nx := 35) hO rfl rfl (hs_o7 kc103) (congrArg some (rv_at ep3)) rfl ?_
      refine s_getf (v := .int (sI s p3 2)) (nx := 38) hO rfl rfl (hs_o3 kp3) rfl rfl ?_
      refine s_bipush (x := (nI 63)) (nx := 40) hO rfl (by decide) rfl ?_
      refine s_icmp_ne (nx := 43) hO rfl rfl (fun c40 => ?_) (fun c40 => ?_)
      · replace H := H.1 c40
        refine s_aload_n (nx := 47) hO rfl rfl rfl ?_
        refine s_getf (v := .ref (q_b G + 106)) (nx := 50) hO rfl rfl (hs_o7 kc103) rfl rfl ?_
        refine s_aload_n (nx := 51) hO rfl rfl rfl ?_
        obtain ⟨p4, ep4, kp4, H⟩ := H
        refine s_getf (v := .ref (q_b G + p4)) (nx := 54) hO rfl rfl (hs_o7 kc103) (congrArg some (rv_at ep4)) rfl ?_
        refine s_getf (v := .int (sI s p4 2)) (nx := 57) hO rfl rfl (hs_o3 kp4) rfl rfl ?_
        refine s_iload_n (nx := 58) hO rfl rfl rfl ?_
        obtain ⟨b5, H⟩ := H
        refine goV (wI s 106 (ix (sI s p4 2)) v1) (fun s6 es6 => ?_)
        replace H := H s6 es6
        refine s_iast (nx := 59) hO rfl (hs_I kc106) b5 rfl ?_
        refine xEx.at (up_I kc106 es6) ?_
        refine s_aload_n (nx := 60) hO rfl rfl rfl ?_
        obtain ⟨p7, ep7, kp7, H⟩ := H
        refine s_getf (v := .ref (q_b G + p7)) (nx := 63) hO rfl rfl (hs_o7 kc103) (congrArg some (rv_at ep7)) rfl ?_
        refine s_dup (nx := 64) hO rfl rfl rfl ?_
        refine s_getf (v := .int (sI s6 p7 2)) (nx := 67) hO rfl rfl (hs_o3 kp7) rfl rfl ?_
        refine s_iconst (x := 1) (nx := 68) hO rfl (by decide) rfl ?_
        refine s_iadd (nx := 69) hO rfl rfl ?_
        refine goV (wI s6 p7 2 ((sI s6 p7 2) + 1)) (fun s8 es8 => ?_)
        replace H := H s8 es8
        refine s_putf (nx := 72) hO rfl rfl (hs_o3 kp7) (Nat.le_of_ble_eq_true rfl) (by rw [hty]; rfl) (by rw [hty]; rfl) pX3_2 rfl ?_
        refine xEx.at (up_oI3 kp7 es8) ?_
        refine s_aload_n (nx := 73) hO rfl rfl rfl ?_
        obtain ⟨p9, ep9, kp9, H⟩ := H
        refine s_getf (v := .ref (q_b G + p9)) (nx := 76) hO rfl rfl (hs_o7 kc103) (congrArg some (rv_at ep9)) rfl ?_
        refine s_getf (v := .int (sI s8 p9 2)) (nx := 79) hO rfl rfl (hs_o3 kp9) rfl rfl ?_
        refine s_iconst (x := 1) (nx := 80) hO rfl (by decide) rfl ?_
        refine s_isub (nx := 81) hO rfl rfl ?_
        exact s_iret hO rfl rfl rfl ⟨rfl, _, _, rfl, rfl, H⟩
      · replace H := H.2 c40
        refine s_bipush (x := (nI 63)) (nx := 45) hO rfl (by decide) rfl ?_
        exact s_iret hO rfl rfl rfl ⟨rfl, _, _, rfl, rfl, H⟩
    · replace H := H.2 c10
      refine s_aload_n (nx := 14) hO rfl rfl rfl ?_
      refine s_getf (v := .ref (q_b G + 106)) (nx := 17) hO rfl rfl (hs_o7 kc103) rfl rfl ?_
      refine s_iload_n (nx := 18) hO rfl rfl rfl ?_
      obtain ⟨b10, H⟩ := H
      refine s_iald (nx := 19) hO rfl (hs_I kc106) b10 rfl ?_
      refine s_iload_n (nx := 20) hO rfl rfl rfl ?_
      refine s_icmp_ne (nx := 23) hO rfl rfl (fun c20 => ?_) (fun c20 => ?_)
      · replace H := H.1 c20
        refine goV ((x1 + 1)) (fun x11 ex11 => ?_)
        replace H := H x11 ex11
        refine e_iinc (nx := 28) (l' := [(2, .int x11), (0, .ref (q_b G + 103)), (1, .int v1)]) ex11 hO rfl (by decide) rfl rfl rfl rfl ?_
        refine s_goto hO rfl ?_
        exact xEx.loc (x_sub1 (List.Mem.tail _ (List.Mem.head _)) (x_sub1 (List.Mem.tail _ (List.Mem.tail _ (List.Mem.head _))) (x_sub1 (List.Mem.head _) x_sub0))) H
      · replace H := H.2 c20
        refine s_iload_n (nx := 24) hO rfl rfl rfl ?_
        exact s_iret hO rfl rfl rfl ⟨rfl, _, _, rfl, rfl, H⟩
  refine s_istore_n (nx := 2) (l' := [(2, .int 0), (0, .ref (q_b G + 103)), (1, .int v1)]) hO rfl (by decide) rfl rfl ?_
  exact xEx.loc (x_sub1 (List.Mem.tail _ (List.Mem.head _)) (x_sub1 (List.Mem.tail _ (List.Mem.tail _ (List.Mem.head _))) (x_sub1 (List.Mem.head _) x_sub0))) H
def W_X7_makeSets (s : yS) (Q : Int32 → yS → Prop) : Prop :=
 ∃ p1 : Nat, sR s 103 0 = p1 + 1 ∧ kd p1 = some (7, 0) ∧ 
 ∀ s2 : yS, s2 = wI s p1 2 1 → 
 vp_in 0 63 ∧ ∀ s4 : yS, s4 = wI s2 106 (ix 0) 1 → 
 ∀ P17 : Int32 → yS → Prop, (∀ (x5 : Int32) (s6 : yS), (∃ p7 : Nat, sR s6 103 0 = p7 + 1 ∧ kd p7 = some (7, 0) ∧ 
  (((sI s6 p7 2) ≤ x5 → Q 1 s6)
  ∧ (¬ (sI s6 p7 2) ≤ x5 → (((nI 63) ≤ x5 → Q 1 s6)
   ∧ (¬ (nI 63) ≤ x5 → ∀ P36 : Int32 → yS → Prop, (∀ (x8 : Int32) (s9 : yS), ((((sI s9 103 1) ≤ x8 → ∀ x10 : Int32, x10 = (x5 + 1) → 
      P17 x10 s9)
     ∧ (¬ (sI s9 103 1) ≤ x8 → vp_in x5 63 ∧ 
      W_X7_leadSet s9 (sI s9 106 (ix x5)) x8 
      (fun r12 => ∀ P69 : Int32 → yS → Prop, (∀ (y13 : Int32) (s14 : yS), (((¬ y13 = (nI 63) → vp_in ((x5 * (nI 512)) + x8) 32256 ∧ ∀ s16 : yS, s16 = wI s14 107 (ix ((x5 * (nI 512)) + x8)) y13 → 
        ∀ x17 : Int32, x17 = (x8 + 1) → 
        P36 x17 s16)
       ∧ (y13 = (nI 63) → Q 0 s14))) → P69 y13 s14) → 
      ((¬ r12 = 0 → W_X7_setIndex s9 r12 
       (fun r18 s19 => P69 r18 s19))
      ∧ (r12 = 0 → P69 (-1) s9)))))) → P36 x8 s9) → 
    P36 0 s6))))) → P17 x5 s6) → 
 P17 0 s4
set_option maxRecDepth 100000 in
set_option maxHeartbeats 40000000 in
theorem w_X7_makeSets {G : xG} (hG : yG G) {z : Nat} {s : yS} {Q : Int32 → yS → Prop} (H : W_X7_makeSets s Q) : xC G mX7_makeSets [.ref (q_b G + 103)] (hS G s) z 0 0 (yQi G z Q) := by
  have hW := hG.1
  have hcl := hG.2.1
  have hty := hG.2.2.1
  have hO : xO G mX7_makeSets tbX7_makeSets ptX7_makeSets := ⟨tkX7_makeSets, pkX7_makeSets hcl⟩
  unfold W_X7_makeSets at H
  refine xC.of hW (by decide) rfl (Nat.le_of_ble_eq_true rfl) ?_
  refine s_aload_n (nx := 1) hO rfl rfl rfl ?_
  obtain ⟨p1, ep1, kp1, H⟩ := H
  refine s_getf (v := .ref (q_b G + p1)) (nx := 4) hO rfl rfl (hs_o7 kc103) (congrArg some (rv_at ep1)) rfl ?_
  refine s_iconst (x := 1) (nx := 5) hO rfl (by decide) rfl ?_
  refine goV (wI s p1 2 1) (fun s2 es2 => ?_)
  replace H := H s2 es2
  refine s_putf (nx := 8) hO rfl rfl (hs_o3 kp1) (Nat.le_of_ble_eq_true rfl) (by rw [hty]; rfl) (by rw [hty]; rfl) pX3_2 rfl ?_
  refine xEx.at (up_oI3 kp1 es2) ?_
  refine s_aload_n (nx := 9) hO rfl rfl rfl ?_
  refine s_getf (v := .ref (q_b G + 106)) (nx := 12) hO rfl rfl (hs_o7 kc103) rfl rfl ?_
  refine s_iconst (x := 0) (nx := 13) hO rfl (by decide) rfl ?_
  refine s_iconst (x := 1) (nx := 14) hO rfl (by decide) rfl ?_
  obtain ⟨b3, H⟩ := H
  refine goV (wI s2 106 (ix 0) 1) (fun s4 es4 => ?_)
  replace H := H s4 es4
  refine s_iast (nx := 15) hO rfl (hs_I kc106) b3 rfl ?_
  refine xEx.at (up_I kc106 es4) ?_
  refine s_iconst (x := 0) (nx := 16) hO rfl (by decide) rfl ?_
  refine goK (H (fun (x5 : Int32) (s6 : yS) => xEx G mX7_makeSets 17 [(0, .ref (q_b G + 103)), (1, .int x5)] [] (hS G s6) z 0 0 (yQi G z Q)) (fun x5 s6 H => ?_)) (fun H => ?_)
  · show xEx G mX7_makeSets 17 [(0, .ref (q_b G + 103)), (1, .int x5)] [] (hS G s6) z 0 0 (yQi G z Q)
    refine s_iload_n (nx := 18) hO rfl rfl rfl ?_
    refine s_aload_n (nx := 19) hO rfl rfl rfl ?_
    obtain ⟨p7, ep7, kp7, H⟩ := H
    refine s_getf (v := .ref (q_b G + p7)) (nx := 22) hO rfl rfl (hs_o7 kc103) (congrArg some (rv_at ep7)) rfl ?_
    refine s_getf (v := .int (sI s6 p7 2)) (nx := 25) hO rfl rfl (hs_o3 kp7) rfl rfl ?_
    refine s_icmp_ge (nx := 28) hO rfl rfl (fun c25 => ?_) (fun c25 => ?_)
    · replace H := H.1 c25
      refine s_iconst (x := 1) (nx := 107) hO rfl (by decide) rfl ?_
      exact s_iret hO rfl rfl rfl ⟨rfl, _, _, rfl, rfl, H⟩
    · replace H := H.2 c25
      refine s_iload_n (nx := 29) hO rfl rfl rfl ?_
      refine s_bipush (x := (nI 63)) (nx := 31) hO rfl (by decide) rfl ?_
      refine s_icmp_ge (nx := 34) hO rfl rfl (fun c31 => ?_) (fun c31 => ?_)
      · replace H := H.1 c31
        refine s_iconst (x := 1) (nx := 107) hO rfl (by decide) rfl ?_
        exact s_iret hO rfl rfl rfl ⟨rfl, _, _, rfl, rfl, H⟩
      · replace H := H.2 c31
        refine s_iconst (x := 0) (nx := 35) hO rfl (by decide) rfl ?_
        refine goK (H (fun (x8 : Int32) (s9 : yS) => xEx G mX7_makeSets 36 [(0, .ref (q_b G + 103)), (1, .int x5), (2, .int x8)] [] (hS G s9) z 0 0 (yQi G z Q)) (fun x8 s9 H => ?_)) (fun H => ?_)
        · show xEx G mX7_makeSets 36 [(0, .ref (q_b G + 103)), (1, .int x5), (2, .int x8)] [] (hS G s9) z 0 0 (yQi G z Q)
          refine s_iload_n (nx := 37) hO rfl rfl rfl ?_
          refine s_aload_n (nx := 38) hO rfl rfl rfl ?_
          refine s_getf (v := .int (sI s9 103 1)) (nx := 41) hO rfl rfl (hs_o7 kc103) rfl rfl ?_
          refine s_icmp_ge (nx := 44) hO rfl rfl (fun c41 => ?_) (fun c41 => ?_)
          · replace H := H.1 c41
            refine goV ((x5 + 1)) (fun x10 ex10 => ?_)
            replace H := H x10 ex10
            refine e_iinc (nx := 103) (l' := [(1, .int x10), (0, .ref (q_b G + 103)), (2, .int x8)]) ex10 hO rfl (by decide) rfl rfl rfl rfl ?_
            refine s_goto hO rfl ?_
            exact xEx.loc (x_sub1 (List.Mem.tail _ (List.Mem.head _)) (x_sub1 (List.Mem.head _) x_sub0)) H
          · replace H := H.2 c41
            refine s_aload_n (nx := 45) hO rfl rfl rfl ?_
            refine s_aload_n (nx := 46) hO rfl rfl rfl ?_
            refine s_getf (v := .ref (q_b G + 106)) (nx := 49) hO rfl rfl (hs_o7 kc103) rfl rfl ?_
            refine s_iload_n (nx := 50) hO rfl rfl rfl ?_
            obtain ⟨b11, H⟩ := H
            refine s_iald (nx := 51) hO rfl (hs_I kc106) b11 rfl ?_
            refine s_iload_n (nx := 52) hO rfl rfl rfl ?_
            refine s_callV [.int (sI s9 106 (ix x5)), .int x8] (ci := 7) (F := TX7) (N := 12) (nx := 55) hO rfl kX7_makeSets_111 (by rw [hcl]; rfl) (hs_o7 kc103) (w_X7_leadSet hG H) rfl rfl (Nat.le_of_ble_eq_true rfl) (Nat.zero_le _) (Nat.zero_le _) rfl (k_Pi (fun r12 H => ?_))
            refine s_istore_n (nx := 56) (l' := [(3, .int r12), (0, .ref (q_b G + 103)), (1, .int x5), (2, .int x8)]) hO rfl (by decide) rfl rfl ?_
            refine s_iload_n (nx := 57) hO rfl rfl rfl ?_
            refine goK (H (fun (y13 : Int32) (s14 : yS) => xEx G mX7_makeSets 69 [(0, .ref (q_b G + 103)), (1, .int x5), (2, .int x8)] [.int y13] (hS G s14) z 0 0 (yQi G z Q)) (fun y13 s14 H => ?_)) (fun H => ?_)
            · show xEx G mX7_makeSets 69 [(0, .ref (q_b G + 103)), (1, .int x5), (2, .int x8)] [.int y13] (hS G s14) z 0 0 (yQi G z Q)
              refine s_istore (nx := 71) (l' := [(4, .int y13), (0, .ref (q_b G + 103)), (1, .int x5), (2, .int x8)]) hO rfl (by decide) rfl rfl ?_
              refine s_iload (nx := 73) hO rfl rfl rfl ?_
              refine s_bipush (x := (nI 63)) (nx := 75) hO rfl (by decide) rfl ?_
              refine s_icmp_ne (nx := 78) hO rfl rfl (fun c75 => ?_) (fun c75 => ?_)
              · replace H := H.1 c75
                refine s_aload_n (nx := 81) hO rfl rfl rfl ?_
                refine s_getf (v := .ref (q_b G + 107)) (nx := 84) hO rfl rfl (hs_o7 kc103) rfl rfl ?_
                refine s_iload_n (nx := 85) hO rfl rfl rfl ?_
                refine s_sipush (x := (nI 512)) (nx := 88) hO rfl (by decide) rfl ?_
                refine s_imul (nx := 89) hO rfl rfl ?_
                refine s_iload_n (nx := 90) hO rfl rfl rfl ?_
                refine s_iadd (nx := 91) hO rfl rfl ?_
                refine s_iload (nx := 93) hO rfl rfl rfl ?_
                obtain ⟨b15, H⟩ := H
                refine goV (wI s14 107 (ix ((x5 * (nI 512)) + x8)) y13) (fun s16 es16 => ?_)
                replace H := H s16 es16
                refine s_iast (nx := 94) hO rfl (hs_I kc107) b15 rfl ?_
                refine xEx.at (up_I kc107 es16) ?_
                refine goV ((x8 + 1)) (fun x17 ex17 => ?_)
                replace H := H x17 ex17
                refine e_iinc (nx := 97) (l' := [(2, .int x17), (4, .int y13), (0, .ref (q_b G + 103)), (1, .int x5)]) ex17 hO rfl (by decide) rfl rfl rfl rfl ?_
                refine s_goto hO rfl ?_
                exact xEx.loc (x_sub1 (List.Mem.tail _ (List.Mem.tail _ (List.Mem.head _))) (x_sub1 (List.Mem.tail _ (List.Mem.tail _ (List.Mem.tail _ (List.Mem.head _)))) (x_sub1 (List.Mem.head _) x_sub0))) H
              · replace H := H.2 c75
                refine s_iconst (x := 0) (nx := 79) hO rfl (by decide) rfl ?_
                exact s_iret hO rfl rfl rfl ⟨rfl, _, _, rfl, rfl, H⟩
            refine s_if_ne (nx := 60) hO rfl rfl (fun c57 => ?_) (fun c57 => ?_)
            · replace H := H.1 c57
              refine s_aload_n (nx := 65) hO rfl rfl rfl ?_
              refine s_iload_n (nx := 66) hO rfl rfl rfl ?_
              refine s_callV [.int r12] (ci := 7) (F := TX7) (N := 12) (nx := 69) hO rfl kX7_makeSets_114 (by rw [hcl]; rfl) (hs_o7 kc103) (w_X7_setIndex hG H) rfl rfl (Nat.le_of_ble_eq_true rfl) (Nat.zero_le _) (Nat.zero_le _) rfl (k_Qi (fun r18 s19 H => ?_))
              exact xEx.loc (x_sub1 (List.Mem.tail _ (List.Mem.head _)) (x_sub1 (List.Mem.tail _ (List.Mem.tail _ (List.Mem.head _))) (x_sub1 (List.Mem.tail _ (List.Mem.tail _ (List.Mem.tail _ (List.Mem.head _)))) x_sub0))) H
            · replace H := H.2 c57
              refine s_iconst (x := (-1)) (nx := 61) hO rfl (by decide) rfl ?_
              refine s_goto hO rfl ?_
              exact xEx.loc (x_sub1 (List.Mem.tail _ (List.Mem.head _)) (x_sub1 (List.Mem.tail _ (List.Mem.tail _ (List.Mem.head _))) (x_sub1 (List.Mem.tail _ (List.Mem.tail _ (List.Mem.tail _ (List.Mem.head _)))) x_sub0))) H
        refine s_istore_n (nx := 36) (l' := [(2, .int 0), (0, .ref (q_b G + 103)), (1, .int x5)]) hO rfl (by decide) rfl rfl ?_
        exact xEx.loc (x_sub1 (List.Mem.tail _ (List.Mem.head _)) (x_sub1 (List.Mem.tail _ (List.Mem.tail _ (List.Mem.head _))) (x_sub1 (List.Mem.head _) x_sub0))) H
  refine s_istore_n (nx := 17) (l' := [(1, .int 0), (0, .ref (q_b G + 103))]) hO rfl (by decide) rfl rfl ?_
  exact xEx.loc (x_sub1 (List.Mem.tail _ (List.Mem.head _)) (x_sub1 (List.Mem.head _) x_sub0)) H
def W_X7_keyOf (s : yS) (v1 : Int32) (v2 : Int32) (Q : Int32 → Prop) : Prop :=
 vp_in ((v1 * (nI 512)) + v2) 32256 ∧ 
 ∀ x2 : Int32, x2 = (sI s 107 (ix ((v1 * (nI 512)) + v2))) → 
 vp_in v1 63 ∧ 
 ((¬ x2 = (-1) → vp_in x2 63 ∧ 
  Q (((sI s 108 (ix v1)) * (nI 64)) + (sI s 108 (ix x2))))
 ∧ (x2 = (-1) → Q (((sI s 108 (ix v1)) * (nI 64)) + (nI 63))))
set_option maxRecDepth 100000 in
set_option maxHeartbeats 40000000 in
theorem w_X7_keyOf {G : xG} (hG : yG G) {z : Nat} {s : yS} {v1 : Int32} {v2 : Int32} {Q : Int32 → Prop} (H : W_X7_keyOf s v1 v2 Q) : xC G mX7_keyOf [.ref (q_b G + 103), .int v1, .int v2] (hS G s) z 0 0 (yPi G z s Q) := by
  have hW := hG.1
  have hcl := hG.2.1
  have hty := hG.2.2.1
  have hO : xO G mX7_keyOf tbX7_keyOf ptX7_keyOf := ⟨tkX7_keyOf, pkX7_keyOf hcl⟩
  unfold W_X7_keyOf at H
  refine xC.of hW (by decide) rfl (Nat.le_of_ble_eq_true rfl) ?_
  refine s_aload_n (nx := 1) hO rfl rfl rfl ?_
  refine s_getf (v := .ref (q_b G + 107)) (nx := 4) hO rfl rfl (hs_o7 kc103) rfl rfl ?_
  refine s_iload_n (nx := 5) hO rfl rfl rfl ?_
  refine s_sipush (x := (nI 512)) (nx := 8) hO rfl (by decide) rfl ?_
  refine s_imul (nx := 9) hO rfl rfl ?_
  refine s_iload_n (nx := 10) hO rfl rfl rfl ?_
  refine s_iadd (nx := 11) hO rfl rfl ?_
  obtain ⟨b1, H⟩ := H
  refine s_iald (nx := 12) hO rfl (hs_I kc107) b1 rfl ?_
  refine goV ((sI s 107 (ix ((v1 * (nI 512)) + v2)))) (fun x2 ex2 => ?_)
  replace H := H x2 ex2
  refine e_istore_n (nx := 13) (l' := [(3, .int x2), (0, .ref (q_b G + 103)), (1, .int v1), (2, .int v2)]) ex2 hO rfl (by decide) rfl rfl ?_
  refine s_aload_n (nx := 14) hO rfl rfl rfl ?_
  refine s_getf (v := .ref (q_b G + 108)) (nx := 17) hO rfl rfl (hs_o7 kc103) rfl rfl ?_
  refine s_iload_n (nx := 18) hO rfl rfl rfl ?_
  obtain ⟨b3, H⟩ := H
  refine s_iald (nx := 19) hO rfl (hs_I kc108) b3 rfl ?_
  refine s_bipush (x := (nI 64)) (nx := 21) hO rfl (by decide) rfl ?_
  refine s_imul (nx := 22) hO rfl rfl ?_
  refine s_iload_n (nx := 23) hO rfl rfl rfl ?_
  refine s_iconst (x := (-1)) (nx := 24) hO rfl (by decide) rfl ?_
  refine s_icmp_ne (nx := 27) hO rfl rfl (fun c24 => ?_) (fun c24 => ?_)
  · replace H := H.1 c24
    refine s_aload_n (nx := 33) hO rfl rfl rfl ?_
    refine s_getf (v := .ref (q_b G + 108)) (nx := 36) hO rfl rfl (hs_o7 kc103) rfl rfl ?_
    refine s_iload_n (nx := 37) hO rfl rfl rfl ?_
    obtain ⟨b4, H⟩ := H
    refine s_iald (nx := 38) hO rfl (hs_I kc108) b4 rfl ?_
    refine s_iadd (nx := 39) hO rfl rfl ?_
    exact s_iret hO rfl rfl rfl ⟨rfl, _, rfl, rfl, H⟩
  · replace H := H.2 c24
    refine s_bipush (x := (nI 63)) (nx := 29) hO rfl (by decide) rfl ?_
    refine s_goto hO rfl ?_
    refine s_iadd (nx := 39) hO rfl rfl ?_
    exact s_iret hO rfl rfl rfl ⟨rfl, _, rfl, rfl, H⟩
def W_X7_stateOf (s : yS) (v1 : Int32) (Q : Int32 → yS → Prop) : Prop :=
 vp_in v1 63 ∧ 
 ∀ x2 : Int32, x2 = (sI s 108 (ix v1)) → 
 vp_in x2 63 ∧ 
 ((¬ (sI s 111 (ix x2)) = (-1) → vp_in x2 63 ∧ 
  Q (sI s 111 (ix x2)) s)
 ∧ ((sI s 111 (ix x2)) = (-1) → ∃ p5 : Nat, sR s 103 0 = p5 + 1 ∧ kd p5 = some (7, 0) ∧ 
  vp_in x2 63 ∧ ∀ s7 : yS, s7 = wI s 111 (ix x2) (sI s p5 3) → 
  ∃ p8 : Nat, sR s7 103 0 = p8 + 1 ∧ kd p8 = some (7, 0) ∧ 
  vp_in (sI s7 p8 3) 63 ∧ ∀ s10 : yS, s10 = wI s7 112 (ix (sI s7 p8 3)) v1 → 
  ∃ p11 : Nat, sR s10 103 0 = p11 + 1 ∧ kd p11 = some (7, 0) ∧ 
  ∀ s12 : yS, s12 = wI s10 p11 3 ((sI s10 p11 3) + 1) → 
  vp_in x2 63 ∧ 
  Q (sI s12 111 (ix x2)) s12))
set_option maxRecDepth 100000 in
set_option maxHeartbeats 40000000 in
theorem w_X7_stateOf {G : xG} (hG : yG G) {z : Nat} {s : yS} {v1 : Int32} {Q : Int32 → yS → Prop} (H : W_X7_stateOf s v1 Q) : xC G mX7_stateOf [.ref (q_b G + 103), .int v1] (hS G s) z 0 0 (yQi G z Q) := by
  have hW := hG.1
  have hcl := hG.2.1
  have hty := hG.2.2.1
  have hO : xO G mX7_stateOf tbX7_stateOf ptX7_stateOf := ⟨tkX7_stateOf, pkX7_stateOf hcl⟩
  unfold W_X7_stateOf at H
  refine xC.of hW (by decide) rfl (Nat.le_of_ble_eq_true rfl) ?_
  refine s_aload_n (nx := 1) hO rfl rfl rfl ?_
  refine s_getf (v := .ref (q_b G + 108)) (nx := 4) hO rfl rfl (hs_o7 kc103) rfl rfl ?_
  refine s_iload_n (nx := 5) hO rfl rfl rfl ?_
  obtain ⟨b1, H⟩ := H
  refine s_iald (nx := 6) hO rfl (hs_I kc108) b1 rfl ?_
  refine goV ((sI s 108 (ix v1))) (fun x2 ex2 => ?_)
  replace H := H x2 ex2
  refine e_istore_n (nx := 7) (l' := [(2, .int x2), (0, .ref (q_b G + 103)), (1, .int v1)]) ex2 hO rfl (by decide) rfl rfl ?_
  refine s_aload_n (nx := 8) hO rfl rfl rfl ?_
  refine s_getf (v := .ref (q_b G + 111)) (nx := 11) hO rfl rfl (hs_o7 kc103) rfl rfl ?_
  refine s_iload_n (nx := 12) hO rfl rfl rfl ?_
  obtain ⟨b3, H⟩ := H
  refine s_iald (nx := 13) hO rfl (hs_I kc111) b3 rfl ?_
  refine s_iconst (x := (-1)) (nx := 14) hO rfl (by decide) rfl ?_
  refine s_icmp_ne (nx := 17) hO rfl rfl (fun c14 => ?_) (fun c14 => ?_)
  · replace H := H.1 c14
    refine s_aload_n (nx := 57) hO rfl rfl rfl ?_
    refine s_getf (v := .ref (q_b G + 111)) (nx := 60) hO rfl rfl (hs_o7 kc103) rfl rfl ?_
    refine s_iload_n (nx := 61) hO rfl rfl rfl ?_
    obtain ⟨b4, H⟩ := H
    refine s_iald (nx := 62) hO rfl (hs_I kc111) b4 rfl ?_
    exact s_iret hO rfl rfl rfl ⟨rfl, _, _, rfl, rfl, H⟩
  · replace H := H.2 c14
    refine s_aload_n (nx := 18) hO rfl rfl rfl ?_
    refine s_getf (v := .ref (q_b G + 111)) (nx := 21) hO rfl rfl (hs_o7 kc103) rfl rfl ?_
    refine s_iload_n (nx := 22) hO rfl rfl rfl ?_
    refine s_aload_n (nx := 23) hO rfl rfl rfl ?_
    obtain ⟨p5, ep5, kp5, H⟩ := H
    refine s_getf (v := .ref (q_b G + p5)) (nx := 26) hO rfl rfl (hs_o7 kc103) (congrArg some (rv_at ep5)) rfl ?_
    refine s_getf (v := .int (sI s p5 3)) (nx := 29) hO rfl rfl (hs_o3 kp5) rfl rfl ?_
    obtain ⟨b6, H⟩ := H
    refine goV (wI s 111 (ix x2) (sI s p5 3)) (fun s7 es7 => ?_)
    replace H := H s7 es7
    refine s_iast (nx := 30) hO rfl (hs_I kc111) b6 rfl ?_
    refine xEx.at (up_I kc111 es7) ?_
    refine s_aload_n (nx := 31) hO rfl rfl rfl ?_
    refine s_getf (v := .ref (q_b G + 112)) (nx := 34) hO rfl rfl (hs_o7 kc103) rfl rfl ?_
    refine s_aload_n (nx := 35) hO rfl rfl rfl ?_
    obtain ⟨p8, ep8, kp8, H⟩ := H
    refine s_getf (v := .ref (q_b G + p8)) (nx := 38) hO rfl rfl (hs_o7 kc103) (congrArg some (rv_at ep8)) rfl ?_
    refine s_getf (v := .int (sI s7 p8 3)) (nx := 41) hO rfl rfl (hs_o3 kp8) rfl rfl ?_
    refine s_iload_n (nx := 42) hO rfl rfl rfl ?_
    obtain ⟨b9, H⟩ := H
    refine goV (wI s7 112 (ix (sI s7 p8 3)) v1) (fun s10 es10 => ?_)
    replace H := H s10 es10
    refine s_iast (nx := 43) hO rfl (hs_I kc112) b9 rfl ?_
    refine xEx.at (up_I kc112 es10) ?_
    refine s_aload_n (nx := 44) hO rfl rfl rfl ?_
    obtain ⟨p11, ep11, kp11, H⟩ := H
    refine s_getf (v := .ref (q_b G + p11)) (nx := 47) hO rfl rfl (hs_o7 kc103) (congrArg some (rv_at ep11)) rfl ?_
    refine s_dup (nx := 48) hO rfl rfl rfl ?_
    refine s_getf (v := .int (sI s10 p11 3)) (nx := 51) hO rfl rfl (hs_o3 kp11) rfl rfl ?_
    refine s_iconst (x := 1) (nx := 52) hO rfl (by decide) rfl ?_
    refine s_iadd (nx := 53) hO rfl rfl ?_
    refine goV (wI s10 p11 3 ((sI s10 p11 3) + 1)) (fun s12 es12 => ?_)
    replace H := H s12 es12
    refine s_putf (nx := 56) hO rfl rfl (hs_o3 kp11) (Nat.le_of_ble_eq_true rfl) (by rw [hty]; rfl) (by rw [hty]; rfl) pX3_3 rfl ?_
    refine xEx.at (up_oI3 kp11 es12) ?_
    refine s_aload_n (nx := 57) hO rfl rfl rfl ?_
    refine s_getf (v := .ref (q_b G + 111)) (nx := 60) hO rfl rfl (hs_o7 kc103) rfl rfl ?_
    refine s_iload_n (nx := 61) hO rfl rfl rfl ?_
    obtain ⟨b13, H⟩ := H
    refine s_iald (nx := 62) hO rfl (hs_I kc111) b13 rfl ?_
    exact s_iret hO rfl rfl rfl ⟨rfl, _, _, rfl, rfl, H⟩
def W_X7_numberStates (s : yS) (Q : yS → Prop) : Prop :=
 W_J7_fill_53178 s 111 63 (-1) 
 (fun s1 => vp_in 0 63 ∧ 
 vp_in (sI s1 108 (ix 0)) 63 ∧ ∀ s4 : yS, s4 = wI s1 111 (ix (sI s1 108 (ix 0))) 0 → 
 vp_in 0 63 ∧ ∀ s6 : yS, s6 = wI s4 112 (ix 0) 0 → 
 ∃ p7 : Nat, sR s6 103 0 = p7 + 1 ∧ kd p7 = some (7, 0) ∧ 
 ∀ s8 : yS, s8 = wI s6 p7 3 1 → 
 ∀ P37 : Int32 → yS → Prop, (∀ (x9 : Int32) (s10 : yS), (∃ p11 : Nat, sR s10 103 0 = p11 + 1 ∧ kd p11 = some (7, 0) ∧ 
  (((sI s10 p11 3) ≤ x9 → Q s10)
  ∧ (¬ (sI s10 p11 3) ≤ x9 → (((nI 63) ≤ x9 → Q s10)
   ∧ (¬ (nI 63) ≤ x9 → ∀ P56 : Int32 → yS → Prop, (∀ (x12 : Int32) (s13 : yS), ((((sI s13 103 1) ≤ x12 → ∀ x14 : Int32, x14 = (x9 + 1) → 
      P37 x14 s13)
     ∧ (¬ (sI s13 103 1) ≤ x12 → vp_in x9 63 ∧ 
      vp_in (((sI s13 112 (ix x9)) * (nI 512)) + x12) 32256 ∧ 
      ∀ x17 : Int32, x17 = (sI s13 107 (ix (((sI s13 112 (ix x9)) * (nI 512)) + x12))) → 
      ∃ p18 : Nat, sR s13 103 0 = p18 + 1 ∧ kd p18 = some (7, 0) ∧ 
      ((¬ x17 = (-1) → W_X7_stateOf s13 x17 
       (fun r19 s20 => vp_in ((x9 * (nI 512)) + x12) 32256 ∧ ∀ s22 : yS, s22 = wI s20 (p18 + 14) (ix ((x9 * (nI 512)) + x12)) r19 → 
       ∀ x23 : Int32, x23 = (x12 + 1) → 
       P56 x23 s22))
      ∧ (x17 = (-1) → vp_in ((x9 * (nI 512)) + x12) 32256 ∧ ∀ s25 : yS, s25 = wI s13 (p18 + 14) (ix ((x9 * (nI 512)) + x12)) (-1) → 
       ∀ x26 : Int32, x26 = (x12 + 1) → 
       P56 x26 s25))))) → P56 x12 s13) → 
    P56 0 s10))))) → P37 x9 s10) → 
 P37 0 s8)
set_option maxRecDepth 100000 in
set_option maxHeartbeats 40000000 in
theorem w_X7_numberStates {G : xG} (hG : yG G) {z : Nat} {s : yS} {Q : yS → Prop} (H : W_X7_numberStates s Q) : xC G mX7_numberStates [.ref (q_b G + 103)] (hS G s) z 0 0 (yQv G z Q) := by
  have hW := hG.1
  have hcl := hG.2.1
  have hty := hG.2.2.1
  have hO : xO G mX7_numberStates tbX7_numberStates ptX7_numberStates := ⟨tkX7_numberStates, pkX7_numberStates hcl⟩
  unfold W_X7_numberStates at H
  refine xC.of hW (by decide) rfl (Nat.le_of_ble_eq_true rfl) ?_
  refine s_aload_n (nx := 1) hO rfl rfl rfl ?_
  refine s_getf (v := .ref (q_b G + 111)) (nx := 4) hO rfl rfl (hs_o7 kc103) rfl rfl ?_
  refine s_iconst (x := (-1)) (nx := 5) hO rfl (by decide) rfl ?_
  refine s_callS [.ref (q_b G + 111), .int (-1)] (nx := 8) hO rfl kX7_numberStates_39 (w_J7_fill_53178 hG kc111 H) rfl rfl (Nat.le_of_ble_eq_true rfl) (Nat.zero_le _) (Nat.zero_le _) rfl (k_Qv (fun s1 H => ?_))
  refine s_aload_n (nx := 9) hO rfl rfl rfl ?_
  refine s_getf (v := .ref (q_b G + 111)) (nx := 12) hO rfl rfl (hs_o7 kc103) rfl rfl ?_
  refine s_aload_n (nx := 13) hO rfl rfl rfl ?_
  refine s_getf (v := .ref (q_b G + 108)) (nx := 16) hO rfl rfl (hs_o7 kc103) rfl rfl ?_
  refine s_iconst (x := 0) (nx := 17) hO rfl (by decide) rfl ?_
  obtain ⟨b2, H⟩ := H
  refine s_iald (nx := 18) hO rfl (hs_I kc108) b2 rfl ?_
  refine s_iconst (x := 0) (nx := 19) hO rfl (by decide) rfl ?_
  obtain ⟨b3, H⟩ := H
  refine goV (wI s1 111 (ix (sI s1 108 (ix 0))) 0) (fun s4 es4 => ?_)
  replace H := H s4 es4
  refine s_iast (nx := 20) hO rfl (hs_I kc111) b3 rfl ?_
  refine xEx.at (up_I kc111 es4) ?_
  refine s_aload_n (nx := 21) hO rfl rfl rfl ?_
  refine s_getf (v := .ref (q_b G + 112)) (nx := 24) hO rfl rfl (hs_o7 kc103) rfl rfl ?_
  refine s_iconst (x := 0) (nx := 25) hO rfl (by decide) rfl ?_
  refine s_iconst (x := 0) (nx := 26) hO rfl (by decide) rfl ?_
  obtain ⟨b5, H⟩ := H
  refine goV (wI s4 112 (ix 0) 0) (fun s6 es6 => ?_)
  replace H := H s6 es6
  refine s_iast (nx := 27) hO rfl (hs_I kc112) b5 rfl ?_
  refine xEx.at (up_I kc112 es6) ?_
  refine s_aload_n (nx := 28) hO rfl rfl rfl ?_
  obtain ⟨p7, ep7, kp7, H⟩ := H
  refine s_getf (v := .ref (q_b G + p7)) (nx := 31) hO rfl rfl (hs_o7 kc103) (congrArg some (rv_at ep7)) rfl ?_
  refine s_iconst (x := 1) (nx := 32) hO rfl (by decide) rfl ?_
  refine goV (wI s6 p7 3 1) (fun s8 es8 => ?_)
  replace H := H s8 es8
  refine s_putf (nx := 35) hO rfl rfl (hs_o3 kp7) (Nat.le_of_ble_eq_true rfl) (by rw [hty]; rfl) (by rw [hty]; rfl) pX3_3 rfl ?_
  refine xEx.at (up_oI3 kp7 es8) ?_
  refine s_iconst (x := 0) (nx := 36) hO rfl (by decide) rfl ?_
  refine goK (H (fun (x9 : Int32) (s10 : yS) => xEx G mX7_numberStates 37 [(0, .ref (q_b G + 103)), (1, .int x9)] [] (hS G s10) z 0 0 (yQv G z Q)) (fun x9 s10 H => ?_)) (fun H => ?_)
  · show xEx G mX7_numberStates 37 [(0, .ref (q_b G + 103)), (1, .int x9)] [] (hS G s10) z 0 0 (yQv G z Q)
    refine s_iload_n (nx := 38) hO rfl rfl rfl ?_
    refine s_aload_n (nx := 39) hO rfl rfl rfl ?_
    obtain ⟨p11, ep11, kp11, H⟩ := H
    refine s_getf (v := .ref (q_b G + p11)) (nx := 42) hO rfl rfl (hs_o7 kc103) (congrArg some (rv_at ep11)) rfl ?_
    refine s_getf (v := .int (sI s10 p11 3)) (nx := 45) hO rfl rfl (hs_o3 kp11) rfl rfl ?_
    refine s_icmp_ge (nx := 48) hO rfl rfl (fun c45 => ?_) (fun c45 => ?_)
    · replace H := H.1 c45
      exact s_vret hO rfl rfl ⟨rfl, _, rfl, rfl, H⟩
    · replace H := H.2 c45
      refine s_iload_n (nx := 49) hO rfl rfl rfl ?_
      refine s_bipush (x := (nI 63)) (nx := 51) hO rfl (by decide) rfl ?_
      refine s_icmp_ge (nx := 54) hO rfl rfl (fun c51 => ?_) (fun c51 => ?_)
      · replace H := H.1 c51
        exact s_vret hO rfl rfl ⟨rfl, _, rfl, rfl, H⟩
      · replace H := H.2 c51
        refine s_iconst (x := 0) (nx := 55) hO rfl (by decide) rfl ?_
        refine goK (H (fun (x12 : Int32) (s13 : yS) => xEx G mX7_numberStates 56 [(0, .ref (q_b G + 103)), (1, .int x9), (2, .int x12)] [] (hS G s13) z 0 0 (yQv G z Q)) (fun x12 s13 H => ?_)) (fun H => ?_)
        · show xEx G mX7_numberStates 56 [(0, .ref (q_b G + 103)), (1, .int x9), (2, .int x12)] [] (hS G s13) z 0 0 (yQv G z Q)
          refine s_iload_n (nx := 57) hO rfl rfl rfl ?_
          refine s_aload_n (nx := 58) hO rfl rfl rfl ?_
          refine s_getf (v := .int (sI s13 103 1)) (nx := 61) hO rfl rfl (hs_o7 kc103) rfl rfl ?_
          refine s_icmp_ge (nx := 64) hO rfl rfl (fun c61 => ?_) (fun c61 => ?_)
          · replace H := H.1 c61
            refine goV ((x9 + 1)) (fun x14 ex14 => ?_)
            replace H := H x14 ex14
            refine e_iinc (nx := 120) (l' := [(1, .int x14), (0, .ref (q_b G + 103)), (2, .int x12)]) ex14 hO rfl (by decide) rfl rfl rfl rfl ?_
            refine s_goto hO rfl ?_
            exact xEx.loc (x_sub1 (List.Mem.tail _ (List.Mem.head _)) (x_sub1 (List.Mem.head _) x_sub0)) H
          · replace H := H.2 c61
            refine s_aload_n (nx := 65) hO rfl rfl rfl ?_
            refine s_getf (v := .ref (q_b G + 107)) (nx := 68) hO rfl rfl (hs_o7 kc103) rfl rfl ?_
            refine s_aload_n (nx := 69) hO rfl rfl rfl ?_
            refine s_getf (v := .ref (q_b G + 112)) (nx := 72) hO rfl rfl (hs_o7 kc103) rfl rfl ?_
            refine s_iload_n (nx := 73) hO rfl rfl rfl ?_
            obtain ⟨b15, H⟩ := H
            refine s_iald (nx := 74) hO rfl (hs_I kc112) b15 rfl ?_
            refine s_sipush (x := (nI 512)) (nx := 77) hO rfl (by decide) rfl ?_
            refine s_imul (nx := 78) hO rfl rfl ?_
            refine s_iload_n (nx := 79) hO rfl rfl rfl ?_
            refine s_iadd (nx := 80) hO rfl rfl ?_
            obtain ⟨b16, H⟩ := H
            refine s_iald (nx := 81) hO rfl (hs_I kc107) b16 rfl ?_
            refine goV ((sI s13 107 (ix (((sI s13 112 (ix x9)) * (nI 512)) + x12)))) (fun x17 ex17 => ?_)
            replace H := H x17 ex17
            refine e_istore_n (nx := 82) (l' := [(3, .int x17), (0, .ref (q_b G + 103)), (1, .int x9), (2, .int x12)]) ex17 hO rfl (by decide) rfl rfl ?_
            refine s_aload_n (nx := 83) hO rfl rfl rfl ?_
            obtain ⟨p18, ep18, kp18, H⟩ := H
            refine s_getf (v := .ref (q_b G + p18)) (nx := 86) hO rfl rfl (hs_o7 kc103) (congrArg some (rv_at ep18)) rfl ?_
            refine s_getf (v := .ref (q_b G + (p18 + 14))) (nx := 89) hO rfl rfl (hs_o3 kp18) rfl rfl ?_
            refine s_iload_n (nx := 90) hO rfl rfl rfl ?_
            refine s_sipush (x := (nI 512)) (nx := 93) hO rfl (by decide) rfl ?_
            refine s_imul (nx := 94) hO rfl rfl ?_
            refine s_iload_n (nx := 95) hO rfl rfl rfl ?_
            refine s_iadd (nx := 96) hO rfl rfl ?_
            refine s_iload_n (nx := 97) hO rfl rfl rfl ?_
            refine s_iconst (x := (-1)) (nx := 98) hO rfl (by decide) rfl ?_
            refine s_icmp_ne (nx := 101) hO rfl rfl (fun c98 => ?_) (fun c98 => ?_)
            · replace H := H.1 c98
              refine s_aload_n (nx := 106) hO rfl rfl rfl ?_
              refine s_iload_n (nx := 107) hO rfl rfl rfl ?_
              refine s_callV [.int x17] (ci := 7) (F := TX7) (N := 12) (nx := 110) hO rfl kX7_numberStates_139 (by rw [hcl]; rfl) (hs_o7 kc103) (w_X7_stateOf hG H) rfl rfl (Nat.le_of_ble_eq_true rfl) (Nat.zero_le _) (Nat.zero_le _) rfl (k_Qi (fun r19 s20 H => ?_))
              obtain ⟨b21, H⟩ := H
              refine goV (wI s20 (p18 + 14) (ix ((x9 * (nI 512)) + x12)) r19) (fun s22 es22 => ?_)
              replace H := H s22 es22
              refine s_iast (nx := 111) hO rfl (hs_I (kf3_17 kp18)) b21 rfl ?_
              refine xEx.at (up_I (kf3_17 kp18) es22) ?_
              refine goV ((x12 + 1)) (fun x23 ex23 => ?_)
              replace H := H x23 ex23
              refine e_iinc (nx := 114) (l' := [(2, .int x23), (3, .int x17), (0, .ref (q_b G + 103)), (1, .int x9)]) ex23 hO rfl (by decide) rfl rfl rfl rfl ?_
              refine s_goto hO rfl ?_
              exact xEx.loc (x_sub1 (List.Mem.tail _ (List.Mem.tail _ (List.Mem.head _))) (x_sub1 (List.Mem.tail _ (List.Mem.tail _ (List.Mem.tail _ (List.Mem.head _)))) (x_sub1 (List.Mem.head _) x_sub0))) H
            · replace H := H.2 c98
              refine s_iconst (x := (-1)) (nx := 102) hO rfl (by decide) rfl ?_
              refine s_goto hO rfl ?_
              obtain ⟨b24, H⟩ := H
              refine goV (wI s13 (p18 + 14) (ix ((x9 * (nI 512)) + x12)) (-1)) (fun s25 es25 => ?_)
              replace H := H s25 es25
              refine s_iast (nx := 111) hO rfl (hs_I (kf3_17 kp18)) b24 rfl ?_
              refine xEx.at (up_I (kf3_17 kp18) es25) ?_
              refine goV ((x12 + 1)) (fun x26 ex26 => ?_)
              replace H := H x26 ex26
              refine e_iinc (nx := 114) (l' := [(2, .int x26), (3, .int x17), (0, .ref (q_b G + 103)), (1, .int x9)]) ex26 hO rfl (by decide) rfl rfl rfl rfl ?_
              refine s_goto hO rfl ?_
              exact xEx.loc (x_sub1 (List.Mem.tail _ (List.Mem.tail _ (List.Mem.head _))) (x_sub1 (List.Mem.tail _ (List.Mem.tail _ (List.Mem.tail _ (List.Mem.head _)))) (x_sub1 (List.Mem.head _) x_sub0))) H
        refine s_istore_n (nx := 56) (l' := [(2, .int 0), (0, .ref (q_b G + 103)), (1, .int x9)]) hO rfl (by decide) rfl rfl ?_
        exact xEx.loc (x_sub1 (List.Mem.tail _ (List.Mem.head _)) (x_sub1 (List.Mem.tail _ (List.Mem.tail _ (List.Mem.head _))) (x_sub1 (List.Mem.head _) x_sub0))) H
  refine s_istore_n (nx := 37) (l' := [(1, .int 0), (0, .ref (q_b G + 103))]) hO rfl (by decide) rfl rfl ?_
  exact xEx.loc (x_sub1 (List.Mem.tail _ (List.Mem.head _)) (x_sub1 (List.Mem.head _) x_sub0)) H
def W_X7_sumUp (s : yS) (v1 : Int32) (Q : yS → Prop) : Prop :=
 ∀ P5 : Int64 → Int32 → yS → Prop, (∀ (x1 : Int64) (x2 : Int32) (s3 : yS), (∃ p4 : Nat, sR s3 103 0 = p4 + 1 ∧ kd p4 = some (7, 0) ∧ 
  (((sI s3 p4 3) ≤ x2 → ∃ p5 : Nat, sR s3 103 0 = p5 + 1 ∧ kd p5 = some (7, 0) ∧ 
   vp_in v1 16 ∧ ∀ s7 : yS, s7 = wJ s3 (p5 + 16) (ix v1) x1 → 
   Q s7)
  ∧ (¬ (sI s3 p4 3) ≤ x2 → ∃ p8 : Nat, sR s3 103 0 = p8 + 1 ∧ kd p8 = some (7, 0) ∧ 
   W_X1_firstOf s3 (p8 + 10) v1 
   (fun r9 => ∀ P36 : Int64 → Int32 → Int32 → Prop, (∀ (x10 : Int64) (x11 : Int32) (x12 : Int32), (∃ p13 : Nat, sR s3 103 0 = p13 + 1 ∧ kd p13 = some (7, 0) ∧ 
    W_X1_firstOf s3 (p13 + 10) (v1 + 1) 
    (fun r14 => ((r14 ≤ x12 → ∃ p15 : Nat, sR s3 103 0 = p15 + 1 ∧ kd p15 = some (7, 0) ∧ 
     vp_in ((v1 * (nI 63)) + x2) 1008 ∧ ∀ s17 : yS, s17 = wJ s3 (p15 + 15) (ix ((v1 * (nI 63)) + x2)) x10 → 
     ∀ P148 : Int64 → Int64 → Prop, (∀ (y18 : Int64) (y19 : Int64), (∀ x20 : Int64, x20 = (y19 ||| y18) → 
      ∀ x21 : Int32, x21 = (x2 + 1) → 
      P5 x20 x21 s17) → P148 y18 y19) → 
     ((x11 = 0 → P148 0 x1)
     ∧ (¬ x11 = 0 → P148 (1 <<< ((x2).toInt64 &&& 63)) x1)))
    ∧ (¬ r14 ≤ x12 → ∃ p22 : Nat, sR s3 103 0 = p22 + 1 ∧ kd p22 = some (7, 0) ∧ 
     vp_in ((x2 * (nI 512)) + x12) 32256 ∧ 
     ∀ x24 : Int32, x24 = (sI s3 (p22 + 14) (ix ((x2 * (nI 512)) + x12))) → 
     ∀ P89 : Int64 → Int64 → Prop, (∀ (y25 : Int64) (y26 : Int64), (∀ x27 : Int64, x27 = (y26 ||| y25) → 
      ∀ P109 : Int32 → Prop, (∀ (y28 : Int32), (∀ x29 : Int32, x29 = (x12 + 1) → 
       P36 x27 y28 x29) → P109 y28) → 
      ((x11 = 0 → P109 0)
      ∧ (¬ x11 = 0 → ((¬ x24 = x2 → P109 0)
       ∧ (x24 = x2 → P109 1))))) → P89 y25 y26) → 
     ((¬ x24 = (-1) → P89 (1 <<< ((x24).toInt64 &&& 63)) x10)
     ∧ (x24 = (-1) → P89 0 x10)))))) → P36 x10 x11 x12) → 
   P36 0 1 r9)))) → P5 x1 x2 s3) → 
 P5 0 0 s
set_option maxRecDepth 100000 in
set_option maxHeartbeats 40000000 in
theorem w_X7_sumUp {G : xG} (hG : yG G) {z : Nat} {s : yS} {v1 : Int32} {Q : yS → Prop} (H : W_X7_sumUp s v1 Q) : xC G mX7_sumUp [.ref (q_b G + 103), .int v1] (hS G s) z 0 0 (yQv G z Q) := by
  have hW := hG.1
  have hcl := hG.2.1
  have hty := hG.2.2.1
  have hO : xO G mX7_sumUp tbX7_sumUp ptX7_sumUp := ⟨tkX7_sumUp, pkX7_sumUp hcl⟩
  unfold W_X7_sumUp at H
  refine xC.of hW (by decide) rfl (Nat.le_of_ble_eq_true rfl) ?_
  refine s_lconst (x := 0) (nx := 1) hO rfl (by decide) rfl ?_
  refine s_lstore_n (nx := 2) (l' := [(2, .long 0), (0, .ref (q_b G + 103)), (1, .int v1)]) hO rfl (by decide) rfl rfl ?_
  refine s_iconst (x := 0) (nx := 3) hO rfl (by decide) rfl ?_
  refine goK (H (fun (x1 : Int64) (x2 : Int32) (s3 : yS) => xEx G mX7_sumUp 5 [(0, .ref (q_b G + 103)), (1, .int v1), (2, .long x1), (4, .int x2)] [] (hS G s3) z 0 0 (yQv G z Q)) (fun x1 x2 s3 H => ?_)) (fun H => ?_)
  · show xEx G mX7_sumUp 5 [(0, .ref (q_b G + 103)), (1, .int v1), (2, .long x1), (4, .int x2)] [] (hS G s3) z 0 0 (yQv G z Q)
    refine s_iload (nx := 7) hO rfl rfl rfl ?_
    refine s_aload_n (nx := 8) hO rfl rfl rfl ?_
    obtain ⟨p4, ep4, kp4, H⟩ := H
    refine s_getf (v := .ref (q_b G + p4)) (nx := 11) hO rfl rfl (hs_o7 kc103) (congrArg some (rv_at ep4)) rfl ?_
    refine s_getf (v := .int (sI s3 p4 3)) (nx := 14) hO rfl rfl (hs_o3 kp4) rfl rfl ?_
    refine s_icmp_ge (nx := 17) hO rfl rfl (fun c14 => ?_) (fun c14 => ?_)
    · replace H := H.1 c14
      refine s_aload_n (nx := 157) hO rfl rfl rfl ?_
      obtain ⟨p5, ep5, kp5, H⟩ := H
      refine s_getf (v := .ref (q_b G + p5)) (nx := 160) hO rfl rfl (hs_o7 kc103) (congrArg some (rv_at ep5)) rfl ?_
      refine s_getf (v := .ref (q_b G + (p5 + 16))) (nx := 163) hO rfl rfl (hs_o3 kp5) rfl rfl ?_
      refine s_iload_n (nx := 164) hO rfl rfl rfl ?_
      refine s_lload_n (nx := 165) hO rfl rfl rfl ?_
      obtain ⟨b6, H⟩ := H
      refine goV (wJ s3 (p5 + 16) (ix v1) x1) (fun s7 es7 => ?_)
      replace H := H s7 es7
      refine s_last (nx := 166) hO rfl (hs_J (kf3_19 kp5)) b6 rfl ?_
      refine xEx.at (up_J (kf3_19 kp5) es7) ?_
      exact s_vret hO rfl rfl ⟨rfl, _, rfl, rfl, H⟩
    · replace H := H.2 c14
      refine s_lconst (x := 0) (nx := 18) hO rfl (by decide) rfl ?_
      refine s_lstore (nx := 20) (l' := [(5, .long 0), (0, .ref (q_b G + 103)), (1, .int v1), (2, .long x1), (4, .int x2)]) hO rfl (by decide) rfl rfl ?_
      refine s_iconst (x := 1) (nx := 21) hO rfl (by decide) rfl ?_
      refine s_istore (nx := 23) (l' := [(7, .int 1), (5, .long 0), (0, .ref (q_b G + 103)), (1, .int v1), (2, .long x1), (4, .int x2)]) hO rfl (by decide) rfl rfl ?_
      refine s_aload_n (nx := 24) hO rfl rfl rfl ?_
      obtain ⟨p8, ep8, kp8, H⟩ := H
      refine s_getf (v := .ref (q_b G + p8)) (nx := 27) hO rfl rfl (hs_o7 kc103) (congrArg some (rv_at ep8)) rfl ?_
      refine s_getf (v := .ref (q_b G + (p8 + 10))) (nx := 30) hO rfl rfl (hs_o3 kp8) rfl rfl ?_
      refine s_iload_n (nx := 31) hO rfl rfl rfl ?_
      refine s_callV [.int v1] (ci := 1) (F := TX1) (N := 3) (nx := 34) hO rfl kX7_sumUp_142 (by rw [hcl]; rfl) (hs_o1 (kf3_16 kp8)) (w_X1_firstOf hG (kf3_16 kp8) H) rfl rfl (Nat.le_of_ble_eq_true rfl) (Nat.zero_le _) (Nat.zero_le _) rfl (k_Pi (fun r9 H => ?_))
      refine goK (H (fun (x10 : Int64) (x11 : Int32) (x12 : Int32) => xEx G mX7_sumUp 36 [(0, .ref (q_b G + 103)), (1, .int v1), (2, .long x1), (4, .int x2), (5, .long x10), (7, .int x11), (8, .int x12)] [] (hS G s3) z 0 0 (yQv G z Q)) (fun x10 x11 x12 H => ?_)) (fun H => ?_)
      · show xEx G mX7_sumUp 36 [(0, .ref (q_b G + 103)), (1, .int v1), (2, .long x1), (4, .int x2), (5, .long x10), (7, .int x11), (8, .int x12)] [] (hS G s3) z 0 0 (yQv G z Q)
        refine s_iload (nx := 38) hO rfl rfl rfl ?_
        refine s_aload_n (nx := 39) hO rfl rfl rfl ?_
        obtain ⟨p13, ep13, kp13, H⟩ := H
        refine s_getf (v := .ref (q_b G + p13)) (nx := 42) hO rfl rfl (hs_o7 kc103) (congrArg some (rv_at ep13)) rfl ?_
        refine s_getf (v := .ref (q_b G + (p13 + 10))) (nx := 45) hO rfl rfl (hs_o3 kp13) rfl rfl ?_
        refine s_iload_n (nx := 46) hO rfl rfl rfl ?_
        refine s_iconst (x := 1) (nx := 47) hO rfl (by decide) rfl ?_
        refine s_iadd (nx := 48) hO rfl rfl ?_
        refine s_callV [.int (v1 + 1)] (ci := 1) (F := TX1) (N := 3) (nx := 51) hO rfl kX7_sumUp_142 (by rw [hcl]; rfl) (hs_o1 (kf3_16 kp13)) (w_X1_firstOf hG (kf3_16 kp13) H) rfl rfl (Nat.le_of_ble_eq_true rfl) (Nat.zero_le _) (Nat.zero_le _) rfl (k_Pi (fun r14 H => ?_))
        refine s_icmp_ge (nx := 54) hO rfl rfl (fun c51 => ?_) (fun c51 => ?_)
        · replace H := H.1 c51
          refine s_aload_n (nx := 118) hO rfl rfl rfl ?_
          obtain ⟨p15, ep15, kp15, H⟩ := H
          refine s_getf (v := .ref (q_b G + p15)) (nx := 121) hO rfl rfl (hs_o7 kc103) (congrArg some (rv_at ep15)) rfl ?_
          refine s_getf (v := .ref (q_b G + (p15 + 15))) (nx := 124) hO rfl rfl (hs_o3 kp15) rfl rfl ?_
          refine s_iload_n (nx := 125) hO rfl rfl rfl ?_
          refine s_bipush (x := (nI 63)) (nx := 127) hO rfl (by decide) rfl ?_
          refine s_imul (nx := 128) hO rfl rfl ?_
          refine s_iload (nx := 130) hO rfl rfl rfl ?_
          refine s_iadd (nx := 131) hO rfl rfl ?_
          refine s_lload (nx := 133) hO rfl rfl rfl ?_
          obtain ⟨b16, H⟩ := H
          refine goV (wJ s3 (p15 + 15) (ix ((v1 * (nI 63)) + x2)) x10) (fun s17 es17 => ?_)
          replace H := H s17 es17
          refine s_last (nx := 134) hO rfl (hs_J (kf3_18 kp15)) b16 rfl ?_
          refine xEx.at (up_J (kf3_18 kp15) es17) ?_
          refine s_lload_n (nx := 135) hO rfl rfl rfl ?_
          refine s_iload (nx := 137) hO rfl rfl rfl ?_
          refine goK (H (fun (y18 : Int64) (y19 : Int64) => xEx G mX7_sumUp 148 [(0, .ref (q_b G + 103)), (1, .int v1), (4, .int x2)] [.long y18, .long y19] (hS G s17) z 0 0 (yQv G z Q)) (fun y18 y19 H => ?_)) (fun H => ?_)
          · show xEx G mX7_sumUp 148 [(0, .ref (q_b G + 103)), (1, .int v1), (4, .int x2)] [.long y18, .long y19] (hS G s17) z 0 0 (yQv G z Q)
            refine s_lor (nx := 149) hO rfl rfl ?_
            refine goV ((y19 ||| y18)) (fun x20 ex20 => ?_)
            replace H := H x20 ex20
            refine e_lstore_n (nx := 150) (l' := [(2, .long x20), (0, .ref (q_b G + 103)), (1, .int v1), (4, .int x2)]) ex20 hO rfl (by decide) rfl rfl ?_
            refine goV ((x2 + 1)) (fun x21 ex21 => ?_)
            replace H := H x21 ex21
            refine e_iinc (nx := 153) (l' := [(4, .int x21), (2, .long x20), (0, .ref (q_b G + 103)), (1, .int v1)]) ex21 hO rfl (by decide) rfl rfl rfl rfl ?_
            refine s_goto hO rfl ?_
            exact xEx.loc (x_sub1 (List.Mem.tail _ (List.Mem.tail _ (List.Mem.head _))) (x_sub1 (List.Mem.tail _ (List.Mem.tail _ (List.Mem.tail _ (List.Mem.head _)))) (x_sub1 (List.Mem.tail _ (List.Mem.head _)) (x_sub1 (List.Mem.head _) x_sub0)))) H
          refine s_if_eq (nx := 140) hO rfl rfl (fun c137 => ?_) (fun c137 => ?_)
          · replace H := H.1 c137
            refine s_lconst (x := 0) (nx := 148) hO rfl (by decide) rfl ?_
            exact xEx.loc (x_sub1 (List.Mem.head _) (x_sub1 (List.Mem.tail _ (List.Mem.head _)) (x_sub1 (List.Mem.tail _ (List.Mem.tail _ (List.Mem.tail _ (List.Mem.head _)))) x_sub0))) H
          · replace H := H.2 c137
            refine s_lconst (x := 1) (nx := 141) hO rfl (by decide) rfl ?_
            refine s_iload (nx := 143) hO rfl rfl rfl ?_
            refine s_lshl (nx := 144) hO rfl rfl ?_
            refine s_goto hO rfl ?_
            exact xEx.loc (x_sub1 (List.Mem.head _) (x_sub1 (List.Mem.tail _ (List.Mem.head _)) (x_sub1 (List.Mem.tail _ (List.Mem.tail _ (List.Mem.tail _ (List.Mem.head _)))) x_sub0))) H
        · replace H := H.2 c51
          refine s_aload_n (nx := 55) hO rfl rfl rfl ?_
          obtain ⟨p22, ep22, kp22, H⟩ := H
          refine s_getf (v := .ref (q_b G + p22)) (nx := 58) hO rfl rfl (hs_o7 kc103) (congrArg some (rv_at ep22)) rfl ?_
          refine s_getf (v := .ref (q_b G + (p22 + 14))) (nx := 61) hO rfl rfl (hs_o3 kp22) rfl rfl ?_
          refine s_iload (nx := 63) hO rfl rfl rfl ?_
          refine s_sipush (x := (nI 512)) (nx := 66) hO rfl (by decide) rfl ?_
          refine s_imul (nx := 67) hO rfl rfl ?_
          refine s_iload (nx := 69) hO rfl rfl rfl ?_
          refine s_iadd (nx := 70) hO rfl rfl ?_
          obtain ⟨b23, H⟩ := H
          refine s_iald (nx := 71) hO rfl (hs_I (kf3_17 kp22)) b23 rfl ?_
          refine goV ((sI s3 (p22 + 14) (ix ((x2 * (nI 512)) + x12)))) (fun x24 ex24 => ?_)
          replace H := H x24 ex24
          refine e_istore (nx := 73) (l' := [(9, .int x24), (0, .ref (q_b G + 103)), (1, .int v1), (2, .long x1), (4, .int x2), (5, .long x10), (7, .int x11), (8, .int x12)]) ex24 hO rfl (by decide) rfl rfl ?_
          refine s_lload (nx := 75) hO rfl rfl rfl ?_
          refine s_iload (nx := 77) hO rfl rfl rfl ?_
          refine s_iconst (x := (-1)) (nx := 78) hO rfl (by decide) rfl ?_
          refine goK (H (fun (y25 : Int64) (y26 : Int64) => xEx G mX7_sumUp 89 [(0, .ref (q_b G + 103)), (1, .int v1), (2, .long x1), (4, .int x2), (7, .int x11), (8, .int x12), (9, .int x24)] [.long y25, .long y26] (hS G s3) z 0 0 (yQv G z Q)) (fun y25 y26 H => ?_)) (fun H => ?_)
          · show xEx G mX7_sumUp 89 [(0, .ref (q_b G + 103)), (1, .int v1), (2, .long x1), (4, .int x2), (7, .int x11), (8, .int x12), (9, .int x24)] [.long y25, .long y26] (hS G s3) z 0 0 (yQv G z Q)
            refine s_lor (nx := 90) hO rfl rfl ?_
            refine goV ((y26 ||| y25)) (fun x27 ex27 => ?_)
            replace H := H x27 ex27
            refine e_lstore (nx := 92) (l' := [(5, .long x27), (0, .ref (q_b G + 103)), (1, .int v1), (2, .long x1), (4, .int x2), (7, .int x11), (8, .int x12), (9, .int x24)]) ex27 hO rfl (by decide) rfl rfl ?_
            refine s_iload (nx := 94) hO rfl rfl rfl ?_
            refine goK (H (fun (y28 : Int32) => xEx G mX7_sumUp 109 [(0, .ref (q_b G + 103)), (1, .int v1), (2, .long x1), (4, .int x2), (5, .long x27), (8, .int x12)] [.int y28] (hS G s3) z 0 0 (yQv G z Q)) (fun y28 H => ?_)) (fun H => ?_)
            · show xEx G mX7_sumUp 109 [(0, .ref (q_b G + 103)), (1, .int v1), (2, .long x1), (4, .int x2), (5, .long x27), (8, .int x12)] [.int y28] (hS G s3) z 0 0 (yQv G z Q)
              refine s_istore (nx := 111) (l' := [(7, .int y28), (0, .ref (q_b G + 103)), (1, .int v1), (2, .long x1), (4, .int x2), (5, .long x27), (8, .int x12)]) hO rfl (by decide) rfl rfl ?_
              refine goV ((x12 + 1)) (fun x29 ex29 => ?_)
              replace H := H x29 ex29
              refine e_iinc (nx := 114) (l' := [(8, .int x29), (7, .int y28), (0, .ref (q_b G + 103)), (1, .int v1), (2, .long x1), (4, .int x2), (5, .long x27)]) ex29 hO rfl (by decide) rfl rfl rfl rfl ?_
              refine s_goto hO rfl ?_
              exact xEx.loc (x_sub1 (List.Mem.tail _ (List.Mem.tail _ (List.Mem.head _))) (x_sub1 (List.Mem.tail _ (List.Mem.tail _ (List.Mem.tail _ (List.Mem.head _)))) (x_sub1 (List.Mem.tail _ (List.Mem.tail _ (List.Mem.tail _ (List.Mem.tail _ (List.Mem.head _))))) (x_sub1 (List.Mem.tail _ (List.Mem.tail _ (List.Mem.tail _ (List.Mem.tail _ (List.Mem.tail _ (List.Mem.head _)))))) (x_sub1 (List.Mem.tail _ (List.Mem.tail _ (List.Mem.tail _ (List.Mem.tail _ (List.Mem.tail _ (List.Mem.tail _ (List.Mem.head _))))))) (x_sub1 (List.Mem.tail _ (List.Mem.head _)) (x_sub1 (List.Mem.head _) x_sub0))))))) H
            refine s_if_eq (nx := 97) hO rfl rfl (fun c94 => ?_) (fun c94 => ?_)
            · replace H := H.1 c94
              refine s_iconst (x := 0) (nx := 109) hO rfl (by decide) rfl ?_
              exact xEx.loc (x_sub1 (List.Mem.tail _ (List.Mem.head _)) (x_sub1 (List.Mem.tail _ (List.Mem.tail _ (List.Mem.head _))) (x_sub1 (List.Mem.tail _ (List.Mem.tail _ (List.Mem.tail _ (List.Mem.head _)))) (x_sub1 (List.Mem.tail _ (List.Mem.tail _ (List.Mem.tail _ (List.Mem.tail _ (List.Mem.head _))))) (x_sub1 (List.Mem.head _) (x_sub1 (List.Mem.tail _ (List.Mem.tail _ (List.Mem.tail _ (List.Mem.tail _ (List.Mem.tail _ (List.Mem.tail _ (List.Mem.head _))))))) x_sub0)))))) H
            · replace H := H.2 c94
              refine s_iload (nx := 99) hO rfl rfl rfl ?_
              refine s_iload (nx := 101) hO rfl rfl rfl ?_
              refine s_icmp_ne (nx := 104) hO rfl rfl (fun c101 => ?_) (fun c101 => ?_)
              · replace H := H.1 c101
                refine s_iconst (x := 0) (nx := 109) hO rfl (by decide) rfl ?_
                exact xEx.loc (x_sub1 (List.Mem.tail _ (List.Mem.head _)) (x_sub1 (List.Mem.tail _ (List.Mem.tail _ (List.Mem.head _))) (x_sub1 (List.Mem.tail _ (List.Mem.tail _ (List.Mem.tail _ (List.Mem.head _)))) (x_sub1 (List.Mem.tail _ (List.Mem.tail _ (List.Mem.tail _ (List.Mem.tail _ (List.Mem.head _))))) (x_sub1 (List.Mem.head _) (x_sub1 (List.Mem.tail _ (List.Mem.tail _ (List.Mem.tail _ (List.Mem.tail _ (List.Mem.tail _ (List.Mem.tail _ (List.Mem.head _))))))) x_sub0)))))) H
              · replace H := H.2 c101
                refine s_iconst (x := 1) (nx := 105) hO rfl (by decide) rfl ?_
                refine s_goto hO rfl ?_
                exact xEx.loc (x_sub1 (List.Mem.tail _ (List.Mem.head _)) (x_sub1 (List.Mem.tail _ (List.Mem.tail _ (List.Mem.head _))) (x_sub1 (List.Mem.tail _ (List.Mem.tail _ (List.Mem.tail _ (List.Mem.head _)))) (x_sub1 (List.Mem.tail _ (List.Mem.tail _ (List.Mem.tail _ (List.Mem.tail _ (List.Mem.head _))))) (x_sub1 (List.Mem.head _) (x_sub1 (List.Mem.tail _ (List.Mem.tail _ (List.Mem.tail _ (List.Mem.tail _ (List.Mem.tail _ (List.Mem.tail _ (List.Mem.head _))))))) x_sub0)))))) H
          refine s_icmp_ne (nx := 81) hO rfl rfl (fun c78 => ?_) (fun c78 => ?_)
          · replace H := H.1 c78
            refine s_lconst (x := 1) (nx := 86) hO rfl (by decide) rfl ?_
            refine s_iload (nx := 88) hO rfl rfl rfl ?_
            refine s_lshl (nx := 89) hO rfl rfl ?_
            exact xEx.loc (x_sub1 (List.Mem.tail _ (List.Mem.head _)) (x_sub1 (List.Mem.tail _ (List.Mem.tail _ (List.Mem.head _))) (x_sub1 (List.Mem.tail _ (List.Mem.tail _ (List.Mem.tail _ (List.Mem.head _)))) (x_sub1 (List.Mem.tail _ (List.Mem.tail _ (List.Mem.tail _ (List.Mem.tail _ (List.Mem.head _))))) (x_sub1 (List.Mem.tail _ (List.Mem.tail _ (List.Mem.tail _ (List.Mem.tail _ (List.Mem.tail _ (List.Mem.tail _ (List.Mem.head _))))))) (x_sub1 (List.Mem.tail _ (List.Mem.tail _ (List.Mem.tail _ (List.Mem.tail _ (List.Mem.tail _ (List.Mem.tail _ (List.Mem.tail _ (List.Mem.head _)))))))) (x_sub1 (List.Mem.head _) x_sub0))))))) H
          · replace H := H.2 c78
            refine s_lconst (x := 0) (nx := 82) hO rfl (by decide) rfl ?_
            refine s_goto hO rfl ?_
            exact xEx.loc (x_sub1 (List.Mem.tail _ (List.Mem.head _)) (x_sub1 (List.Mem.tail _ (List.Mem.tail _ (List.Mem.head _))) (x_sub1 (List.Mem.tail _ (List.Mem.tail _ (List.Mem.tail _ (List.Mem.head _)))) (x_sub1 (List.Mem.tail _ (List.Mem.tail _ (List.Mem.tail _ (List.Mem.tail _ (List.Mem.head _))))) (x_sub1 (List.Mem.tail _ (List.Mem.tail _ (List.Mem.tail _ (List.Mem.tail _ (List.Mem.tail _ (List.Mem.tail _ (List.Mem.head _))))))) (x_sub1 (List.Mem.tail _ (List.Mem.tail _ (List.Mem.tail _ (List.Mem.tail _ (List.Mem.tail _ (List.Mem.tail _ (List.Mem.tail _ (List.Mem.head _)))))))) (x_sub1 (List.Mem.head _) x_sub0))))))) H
      refine s_istore (nx := 36) (l' := [(8, .int r9), (7, .int 1), (5, .long 0), (0, .ref (q_b G + 103)), (1, .int v1), (2, .long x1), (4, .int x2)]) hO rfl (by decide) rfl rfl ?_
      exact xEx.loc (x_sub1 (List.Mem.tail _ (List.Mem.tail _ (List.Mem.tail _ (List.Mem.head _)))) (x_sub1 (List.Mem.tail _ (List.Mem.tail _ (List.Mem.tail _ (List.Mem.tail _ (List.Mem.head _))))) (x_sub1 (List.Mem.tail _ (List.Mem.tail _ (List.Mem.tail _ (List.Mem.tail _ (List.Mem.tail _ (List.Mem.head _)))))) (x_sub1 (List.Mem.tail _ (List.Mem.tail _ (List.Mem.tail _ (List.Mem.tail _ (List.Mem.tail _ (List.Mem.tail _ (List.Mem.head _))))))) (x_sub1 (List.Mem.tail _ (List.Mem.tail _ (List.Mem.head _))) (x_sub1 (List.Mem.tail _ (List.Mem.head _)) (x_sub1 (List.Mem.head _) x_sub0))))))) H
  refine s_istore (nx := 5) (l' := [(4, .int 0), (2, .long 0), (0, .ref (q_b G + 103)), (1, .int v1)]) hO rfl (by decide) rfl rfl ?_
  exact xEx.loc (x_sub1 (List.Mem.tail _ (List.Mem.tail _ (List.Mem.head _))) (x_sub1 (List.Mem.tail _ (List.Mem.tail _ (List.Mem.tail _ (List.Mem.head _)))) (x_sub1 (List.Mem.tail _ (List.Mem.head _)) (x_sub1 (List.Mem.head _) x_sub0)))) H
def W_X9_refuse (s : yS) (v1 : Int32) (v2 : Int32) (Q : Int32 → yS → Prop) : Prop :=
 ∀ s1 : yS, s1 = wI s 114 1 v1 → 
 ∀ s2 : yS, s2 = wI s1 114 0 (((nI 512) * (sI s1 114 3)) + v2) → 
 Q 0 s2
set_option maxRecDepth 100000 in
set_option maxHeartbeats 40000000 in
theorem w_X9_refuse {G : xG} (hG : yG G) {z : Nat} {s : yS} {v1 : Int32} {v2 : Int32} {Q : Int32 → yS → Prop} (H : W_X9_refuse s v1 v2 Q) : xC G mX9_refuse [.ref (q_b G + 114), .int v1, .int v2] (hS G s) z 0 0 (yQi G z Q) := by
  have hW := hG.1
  have hcl := hG.2.1
  have hty := hG.2.2.1
  have hO : xO G mX9_refuse tbX9_refuse ptX9_refuse := ⟨tkX9_refuse, pkX9_refuse hcl⟩
  unfold W_X9_refuse at H
  refine xC.of hW (by decide) rfl (Nat.le_of_ble_eq_true rfl) ?_
  refine s_aload_n (nx := 1) hO rfl rfl rfl ?_
  refine s_iload_n (nx := 2) hO rfl rfl rfl ?_
  refine goV (wI s 114 1 v1) (fun s1 es1 => ?_)
  replace H := H s1 es1
  refine s_putf (nx := 5) hO rfl rfl (hs_o9 kc114) (Nat.le_of_ble_eq_true rfl) (by rw [hty]; rfl) (by rw [hty]; rfl) pX9_1 rfl ?_
  refine xEx.at (up_oI9 kc114 es1) ?_
  refine s_aload_n (nx := 6) hO rfl rfl rfl ?_
  refine s_sipush (x := (nI 512)) (nx := 9) hO rfl (by decide) rfl ?_
  refine s_aload_n (nx := 10) hO rfl rfl rfl ?_
  refine s_getf (v := .int (sI s1 114 3)) (nx := 13) hO rfl rfl (hs_o9 kc114) rfl rfl ?_
  refine s_imul (nx := 14) hO rfl rfl ?_
  refine s_iload_n (nx := 15) hO rfl rfl rfl ?_
  refine s_iadd (nx := 16) hO rfl rfl ?_
  refine goV (wI s1 114 0 (((nI 512) * (sI s1 114 3)) + v2)) (fun s2 es2 => ?_)
  replace H := H s2 es2
  refine s_putf (nx := 19) hO rfl rfl (hs_o9 kc114) (Nat.le_of_ble_eq_true rfl) (by rw [hty]; rfl) (by rw [hty]; rfl) pX9_0 rfl ?_
  refine xEx.at (up_oI9 kc114 es2) ?_
  refine s_iconst (x := 0) (nx := 20) hO rfl (by decide) rfl ?_
  exact s_iret hO rfl rfl rfl ⟨rfl, _, _, rfl, rfl, H⟩
def W_X9_put (s : yS) (v1 : Int32) (Q : Int32 → yS → Prop) : Prop :=
 ∀ s1 : yS, s1 = wI s 114 5 ((sI s 114 5) ||| (v1 <<< ((sI s 114 4) &&& 31))) → 
 ∀ s2 : yS, s2 = wI s1 114 4 ((sI s1 114 4) + 1) → 
 Q 1 s2
set_option maxRecDepth 100000 in
set_option maxHeartbeats 40000000 in
theorem w_X9_put {G : xG} (hG : yG G) {z : Nat} {s : yS} {v1 : Int32} {Q : Int32 → yS → Prop} (H : W_X9_put s v1 Q) : xC G mX9_put [.ref (q_b G + 114), .int v1] (hS G s) z 0 0 (yQi G z Q) := by
  have hW := hG.1
  have hcl := hG.2.1
  have hty := hG.2.2.1
  have hO : xO G mX9_put tbX9_put ptX9_put := ⟨tkX9_put, pkX9_put hcl⟩
  unfold W_X9_put at H
  refine xC.of hW (by decide) rfl (Nat.le_of_ble_eq_true rfl) ?_
  refine s_aload_n (nx := 1) hO rfl rfl rfl ?_
  refine s_dup (nx := 2) hO rfl rfl rfl ?_
  refine s_getf (v := .int (sI s 114 5)) (nx := 5) hO rfl rfl (hs_o9 kc114) rfl rfl ?_
  refine s_iload_n (nx := 6) hO rfl rfl rfl ?_
  refine s_aload_n (nx := 7) hO rfl rfl rfl ?_
  refine s_getf (v := .int (sI s 114 4)) (nx := 10) hO rfl rfl (hs_o9 kc114) rfl rfl ?_
  refine s_ishl (nx := 11) hO rfl rfl ?_
  refine s_ior (nx := 12) hO rfl rfl ?_
  refine goV (wI s 114 5 ((sI s 114 5) ||| (v1 <<< ((sI s 114 4) &&& 31)))) (fun s1 es1 => ?_)
  replace H := H s1 es1
  refine s_putf (nx := 15) hO rfl rfl (hs_o9 kc114) (Nat.le_of_ble_eq_true rfl) (by rw [hty]; rfl) (by rw [hty]; rfl) pX9_5 rfl ?_
  refine xEx.at (up_oI9 kc114 es1) ?_
  refine s_aload_n (nx := 16) hO rfl rfl rfl ?_
  refine s_dup (nx := 17) hO rfl rfl rfl ?_
  refine s_getf (v := .int (sI s1 114 4)) (nx := 20) hO rfl rfl (hs_o9 kc114) rfl rfl ?_
  refine s_iconst (x := 1) (nx := 21) hO rfl (by decide) rfl ?_
  refine s_iadd (nx := 22) hO rfl rfl ?_
  refine goV (wI s1 114 4 ((sI s1 114 4) + 1)) (fun s2 es2 => ?_)
  replace H := H s2 es2
  refine s_putf (nx := 25) hO rfl rfl (hs_o9 kc114) (Nat.le_of_ble_eq_true rfl) (by rw [hty]; rfl) (by rw [hty]; rfl) pX9_4 rfl ?_
  refine xEx.at (up_oI9 kc114 es2) ?_
  refine s_iconst (x := 1) (nx := 26) hO rfl (by decide) rfl ?_
  exact s_iret hO rfl rfl rfl ⟨rfl, _, _, rfl, rfl, H⟩
def W_X9_type (s : yS) (v1 : Int32) (Q : Int32 → Prop) : Prop :=
 Q (((sI s 114 5) >>> (((sI s 114 4) - v1) &&& 31)) &&& 1)
set_option maxRecDepth 100000 in
set_option maxHeartbeats 40000000 in
theorem w_X9_type {G : xG} (hG : yG G) {z : Nat} {s : yS} {v1 : Int32} {Q : Int32 → Prop} (H : W_X9_type s v1 Q) : xC G mX9_type [.ref (q_b G + 114), .int v1] (hS G s) z 0 0 (yPi G z s Q) := by
  have hW := hG.1
  have hcl := hG.2.1
  have hty := hG.2.2.1
  have hO : xO G mX9_type tbX9_type ptX9_type := ⟨tkX9_type, pkX9_type hcl⟩
  unfold W_X9_type at H
  refine xC.of hW (by decide) rfl (Nat.le_of_ble_eq_true rfl) ?_
  refine s_aload_n (nx := 1) hO rfl rfl rfl ?_
  refine s_getf (v := .int (sI s 114 5)) (nx := 4) hO rfl rfl (hs_o9 kc114) rfl rfl ?_
  refine s_aload_n (nx := 5) hO rfl rfl rfl ?_
  refine s_getf (v := .int (sI s 114 4)) (nx := 8) hO rfl rfl (hs_o9 kc114) rfl rfl ?_
  refine s_iload_n (nx := 9) hO rfl rfl rfl ?_
  refine s_isub (nx := 10) hO rfl rfl ?_
  refine s_ishr (nx := 11) hO rfl rfl ?_
  refine s_iconst (x := 1) (nx := 12) hO rfl (by decide) rfl ?_
  refine s_iand (nx := 13) hO rfl rfl ?_
  exact s_iret hO rfl rfl rfl ⟨rfl, _, rfl, rfl, H⟩
def W_X9_take (s : yS) (v1 : Int32) (Q : Int32 → yS → Prop) : Prop :=
 (((sI s 114 4) = 0 → Q 0 s)
 ∧ (¬ (sI s 114 4) = 0 → W_X9_type s 1 
  (fun r1 => ((r1 = v1 → ∀ s2 : yS, s2 = wI s 114 4 ((sI s 114 4) - 1) → 
   ∀ s3 : yS, s3 = wI s2 114 5 ((sI s2 114 5) &&& ((1 <<< ((sI s2 114 4) &&& 31)) - 1)) → 
   Q 1 s3)
  ∧ (¬ r1 = v1 → Q 0 s)))))
set_option maxRecDepth 100000 in
set_option maxHeartbeats 40000000 in
theorem w_X9_take {G : xG} (hG : yG G) {z : Nat} {s : yS} {v1 : Int32} {Q : Int32 → yS → Prop} (H : W_X9_take s v1 Q) : xC G mX9_take [.ref (q_b G + 114), .int v1] (hS G s) z 0 0 (yQi G z Q) := by
  have hW := hG.1
  have hcl := hG.2.1
  have hty := hG.2.2.1
  have hO : xO G mX9_take tbX9_take ptX9_take := ⟨tkX9_take, pkX9_take hcl⟩
  unfold W_X9_take at H
  refine xC.of hW (by decide) rfl (Nat.le_of_ble_eq_true rfl) ?_
  refine s_aload_n (nx := 1) hO rfl rfl rfl ?_
  refine s_getf (v := .int (sI s 114 4)) (nx := 4) hO rfl rfl (hs_o9 kc114) rfl rfl ?_
  refine s_if_eq (nx := 7) hO rfl rfl (fun c4 => ?_) (fun c4 => ?_)
  · replace H := H.1 c4
    refine s_iconst (x := 0) (nx := 17) hO rfl (by decide) rfl ?_
    exact s_iret hO rfl rfl rfl ⟨rfl, _, _, rfl, rfl, H⟩
  · replace H := H.2 c4
    refine s_aload_n (nx := 8) hO rfl rfl rfl ?_
    refine s_iconst (x := 1) (nx := 9) hO rfl (by decide) rfl ?_
    refine s_callV [.int 1] (ci := 9) (F := TX9) (N := 8) (nx := 12) hO rfl kX9_take_105 (by rw [hcl]; rfl) (hs_o9 kc114) (w_X9_type hG H) rfl rfl (Nat.le_of_ble_eq_true rfl) (Nat.zero_le _) (Nat.zero_le _) rfl (k_Pi (fun r1 H => ?_))
    refine s_iload_n (nx := 13) hO rfl rfl rfl ?_
    refine s_icmp_eq (nx := 16) hO rfl rfl (fun c13 => ?_) (fun c13 => ?_)
    · replace H := H.1 c13
      refine s_aload_n (nx := 19) hO rfl rfl rfl ?_
      refine s_dup (nx := 20) hO rfl rfl rfl ?_
      refine s_getf (v := .int (sI s 114 4)) (nx := 23) hO rfl rfl (hs_o9 kc114) rfl rfl ?_
      refine s_iconst (x := 1) (nx := 24) hO rfl (by decide) rfl ?_
      refine s_isub (nx := 25) hO rfl rfl ?_
      refine goV (wI s 114 4 ((sI s 114 4) - 1)) (fun s2 es2 => ?_)
      replace H := H s2 es2
      refine s_putf (nx := 28) hO rfl rfl (hs_o9 kc114) (Nat.le_of_ble_eq_true rfl) (by rw [hty]; rfl) (by rw [hty]; rfl) pX9_4 rfl ?_
      refine xEx.at (up_oI9 kc114 es2) ?_
      refine s_aload_n (nx := 29) hO rfl rfl rfl ?_
      refine s_dup (nx := 30) hO rfl rfl rfl ?_
      refine s_getf (v := .int (sI s2 114 5)) (nx := 33) hO rfl rfl (hs_o9 kc114) rfl rfl ?_
      refine s_iconst (x := 1) (nx := 34) hO rfl (by decide) rfl ?_
      refine s_aload_n (nx := 35) hO rfl rfl rfl ?_
      refine s_getf (v := .int (sI s2 114 4)) (nx := 38) hO rfl rfl (hs_o9 kc114) rfl rfl ?_
      refine s_ishl (nx := 39) hO rfl rfl ?_
      refine s_iconst (x := 1) (nx := 40) hO rfl (by decide) rfl ?_
      refine s_isub (nx := 41) hO rfl rfl ?_
      refine s_iand (nx := 42) hO rfl rfl ?_
      refine goV (wI s2 114 5 ((sI s2 114 5) &&& ((1 <<< ((sI s2 114 4) &&& 31)) - 1))) (fun s3 es3 => ?_)
      replace H := H s3 es3
      refine s_putf (nx := 45) hO rfl rfl (hs_o9 kc114) (Nat.le_of_ble_eq_true rfl) (by rw [hty]; rfl) (by rw [hty]; rfl) pX9_5 rfl ?_
      refine xEx.at (up_oI9 kc114 es3) ?_
      refine s_iconst (x := 1) (nx := 46) hO rfl (by decide) rfl ?_
      exact s_iret hO rfl rfl rfl ⟨rfl, _, _, rfl, rfl, H⟩
    · replace H := H.2 c13
      refine s_iconst (x := 0) (nx := 17) hO rfl (by decide) rfl ?_
      exact s_iret hO rfl rfl rfl ⟨rfl, _, _, rfl, rfl, H⟩
def W_X9_swap (s : yS) (Q : Int32 → yS → Prop) : Prop :=
 (((nI 2) ≤ (sI s 114 4) → W_X9_type s 1 
  (fun r1 => W_X9_type s (nI 2) 
  (fun r2 => W_X9_take s r1 
  (fun r3 s4 => ((r3 = 0 → Q 0 s4)
  ∧ (¬ r3 = 0 → W_X9_take s4 r2 
   (fun r5 s6 => ((r5 = 0 → Q 0 s6)
   ∧ (¬ r5 = 0 → W_X9_put s6 r1 
    (fun r7 s8 => ((r7 = 0 → Q 0 s8)
    ∧ (¬ r7 = 0 → W_X9_put s8 r2 
     (fun r9 s10 => ((r9 = 0 → Q 0 s10)
     ∧ (¬ r9 = 0 → Q 1 s10)))))))))))))))
 ∧ (¬ (nI 2) ≤ (sI s 114 4) → Q 0 s))
set_option maxRecDepth 100000 in
set_option maxHeartbeats 40000000 in
theorem w_X9_swap {G : xG} (hG : yG G) {z : Nat} {s : yS} {Q : Int32 → yS → Prop} (H : W_X9_swap s Q) : xC G mX9_swap [.ref (q_b G + 114)] (hS G s) z 0 0 (yQi G z Q) := by
  have hW := hG.1
  have hcl := hG.2.1
  have hty := hG.2.2.1
  have hO : xO G mX9_swap tbX9_swap ptX9_swap := ⟨tkX9_swap, pkX9_swap hcl⟩
  unfold W_X9_swap at H
  refine xC.of hW (by decide) rfl (Nat.le_of_ble_eq_true rfl) ?_
  refine s_aload_n (nx := 1) hO rfl rfl rfl ?_
  refine s_getf (v := .int (sI s 114 4)) (nx := 4) hO rfl rfl (hs_o9 kc114) rfl rfl ?_
  refine s_iconst (x := (nI 2)) (nx := 5) hO rfl (by decide) rfl ?_
  refine s_icmp_ge (nx := 8) hO rfl rfl (fun c5 => ?_) (fun c5 => ?_)
  · replace H := H.1 c5
    refine s_aload_n (nx := 11) hO rfl rfl rfl ?_
    refine s_iconst (x := 1) (nx := 12) hO rfl (by decide) rfl ?_
    refine s_callV [.int 1] (ci := 9) (F := TX9) (N := 8) (nx := 15) hO rfl kX9_swap_105 (by rw [hcl]; rfl) (hs_o9 kc114) (w_X9_type hG H) rfl rfl (Nat.le_of_ble_eq_true rfl) (Nat.zero_le _) (Nat.zero_le _) rfl (k_Pi (fun r1 H => ?_))
    refine s_istore_n (nx := 16) (l' := [(1, .int r1), (0, .ref (q_b G + 114))]) hO rfl (by decide) rfl rfl ?_
    refine s_aload_n (nx := 17) hO rfl rfl rfl ?_
    refine s_iconst (x := (nI 2)) (nx := 18) hO rfl (by decide) rfl ?_
    refine s_callV [.int (nI 2)] (ci := 9) (F := TX9) (N := 8) (nx := 21) hO rfl kX9_swap_105 (by rw [hcl]; rfl) (hs_o9 kc114) (w_X9_type hG H) rfl rfl (Nat.le_of_ble_eq_true rfl) (Nat.zero_le _) (Nat.zero_le _) rfl (k_Pi (fun r2 H => ?_))
    refine s_istore_n (nx := 22) (l' := [(2, .int r2), (1, .int r1), (0, .ref (q_b G + 114))]) hO rfl (by decide) rfl rfl ?_
    refine s_aload_n (nx := 23) hO rfl rfl rfl ?_
    refine s_iload_n (nx := 24) hO rfl rfl rfl ?_
    refine s_callV [.int r1] (ci := 9) (F := TX9) (N := 8) (nx := 27) hO rfl kX9_swap_109 (by rw [hcl]; rfl) (hs_o9 kc114) (w_X9_take hG H) rfl rfl (Nat.le_of_ble_eq_true rfl) (Nat.zero_le _) (Nat.zero_le _) rfl (k_Qi (fun r3 s4 H => ?_))
    refine s_if_eq (nx := 30) hO rfl rfl (fun c27 => ?_) (fun c27 => ?_)
    · replace H := H.1 c27
      refine s_iconst (x := 0) (nx := 59) hO rfl (by decide) rfl ?_
      exact s_iret hO rfl rfl rfl ⟨rfl, _, _, rfl, rfl, H⟩
    · replace H := H.2 c27
      refine s_aload_n (nx := 31) hO rfl rfl rfl ?_
      refine s_iload_n (nx := 32) hO rfl rfl rfl ?_
      refine s_callV [.int r2] (ci := 9) (F := TX9) (N := 8) (nx := 35) hO rfl kX9_swap_109 (by rw [hcl]; rfl) (hs_o9 kc114) (w_X9_take hG H) rfl rfl (Nat.le_of_ble_eq_true rfl) (Nat.zero_le _) (Nat.zero_le _) rfl (k_Qi (fun r5 s6 H => ?_))
      refine s_if_eq (nx := 38) hO rfl rfl (fun c35 => ?_) (fun c35 => ?_)
      · replace H := H.1 c35
        refine s_iconst (x := 0) (nx := 59) hO rfl (by decide) rfl ?_
        exact s_iret hO rfl rfl rfl ⟨rfl, _, _, rfl, rfl, H⟩
      · replace H := H.2 c35
        refine s_aload_n (nx := 39) hO rfl rfl rfl ?_
        refine s_iload_n (nx := 40) hO rfl rfl rfl ?_
        refine s_callV [.int r1] (ci := 9) (F := TX9) (N := 8) (nx := 43) hO rfl kX9_swap_102 (by rw [hcl]; rfl) (hs_o9 kc114) (w_X9_put hG H) rfl rfl (Nat.le_of_ble_eq_true rfl) (Nat.zero_le _) (Nat.zero_le _) rfl (k_Qi (fun r7 s8 H => ?_))
        refine s_if_eq (nx := 46) hO rfl rfl (fun c43 => ?_) (fun c43 => ?_)
        · replace H := H.1 c43
          refine s_iconst (x := 0) (nx := 59) hO rfl (by decide) rfl ?_
          exact s_iret hO rfl rfl rfl ⟨rfl, _, _, rfl, rfl, H⟩
        · replace H := H.2 c43
          refine s_aload_n (nx := 47) hO rfl rfl rfl ?_
          refine s_iload_n (nx := 48) hO rfl rfl rfl ?_
          refine s_callV [.int r2] (ci := 9) (F := TX9) (N := 8) (nx := 51) hO rfl kX9_swap_102 (by rw [hcl]; rfl) (hs_o9 kc114) (w_X9_put hG H) rfl rfl (Nat.le_of_ble_eq_true rfl) (Nat.zero_le _) (Nat.zero_le _) rfl (k_Qi (fun r9 s10 H => ?_))
          refine s_if_eq (nx := 54) hO rfl rfl (fun c51 => ?_) (fun c51 => ?_)
          · replace H := H.1 c51
            refine s_iconst (x := 0) (nx := 59) hO rfl (by decide) rfl ?_
            exact s_iret hO rfl rfl rfl ⟨rfl, _, _, rfl, rfl, H⟩
          · replace H := H.2 c51
            refine s_iconst (x := 1) (nx := 55) hO rfl (by decide) rfl ?_
            refine s_goto hO rfl ?_
            exact s_iret hO rfl rfl rfl ⟨rfl, _, _, rfl, rfl, H⟩
  · replace H := H.2 c5
    refine s_iconst (x := 0) (nx := 9) hO rfl (by decide) rfl ?_
    exact s_iret hO rfl rfl rfl ⟨rfl, _, _, rfl, rfl, H⟩

def W_X6_readHead (s : yS) (v1 : Int32) (Q : Int32 → yS → Prop) : Prop :=
 ∀ P12 : Int32 → Prop, (∀ (y1 : Int32), (W_X6_take s 1 0 y1 
  (fun r2 s3 => ((¬ r2 = 0 → ∃ p4 : Nat, sR s3 113 6 = p4 + 1 ∧ kd p4 = some (9, 0) ∧ 
   vp_in v1 12 ∧ ∀ s6 : yS, s6 = wI s3 (p4 + 1) (ix v1) (sI s3 113 5) → 
   ∃ p7 : Nat, sR s6 113 6 = p7 + 1 ∧ kd p7 = some (9, 0) ∧ 
   vp_in v1 12 ∧ 
   W_X6_take s6 1 (sI s6 (p7 + 1) (ix v1)) (nI 12) 
   (fun r9 s10 => ((¬ r9 = 0 → ∃ p11 : Nat, sR s10 113 6 = p11 + 1 ∧ kd p11 = some (9, 0) ∧ 
    vp_in v1 12 ∧ ∀ s13 : yS, s13 = wI s10 (p11 + 2) (ix v1) (sI s10 113 5) → 
    ∃ p14 : Nat, sR s13 113 6 = p14 + 1 ∧ kd p14 = some (9, 0) ∧ 
    vp_in v1 12 ∧ 
    W_X6_take s13 (nI 2) 0 ((1 <<< ((sI s13 (p14 + 2) (ix v1)) &&& 31)) - 1) 
    (fun r16 s17 => ((¬ r16 = 0 → ∃ p18 : Nat, sR s17 113 6 = p18 + 1 ∧ kd p18 = some (9, 0) ∧ 
     vp_in v1 12 ∧ ∀ s20 : yS, s20 = wI s17 (p18 + 3) (ix v1) (sI s17 113 5) → 
     ∀ P116 : Int32 → Prop, (∀ (y21 : Int32), (W_X6_take s20 1 0 y21 
      (fun r22 s23 => ((¬ r22 = 0 → ∃ p24 : Nat, sR s23 113 6 = p24 + 1 ∧ kd p24 = some (9, 0) ∧ 
       vp_in v1 12 ∧ ∀ s26 : yS, s26 = wI s23 (p24 + 4) (ix v1) (sI s23 113 5) → 
       W_X6_take s26 (nI 2) 1 (nI 400) 
       (fun r27 s28 => ((¬ r27 = 0 → ∃ p29 : Nat, sR s28 113 6 = p29 + 1 ∧ kd p29 = some (9, 0) ∧ 
        W_X5_setSize s28 p29 v1 (sI s28 113 5) 
        (fun s30 => Q 1 s30))
       ∧ (r27 = 0 → Q 0 s28))))
      ∧ (r22 = 0 → Q 0 s23)))) → P116 y21) → 
     ((¬ v1 = 0 → P116 (nI 2))
     ∧ (v1 = 0 → P116 1)))
    ∧ (r16 = 0 → Q 0 s17))))
   ∧ (r9 = 0 → Q 0 s10))))
  ∧ (r2 = 0 → Q 0 s3)))) → P12 y1) → 
 ((¬ v1 = 0 → P12 (nI 4))
 ∧ (v1 = 0 → P12 0))
set_option maxRecDepth 100000 in
set_option maxHeartbeats 40000000 in
theorem w_X6_readHead {G : xG} (hG : yG G) {z : Nat} {s : yS} {v1 : Int32} {Q : Int32 → yS → Prop} (H : W_X6_readHead s v1 Q) : xC G mX6_readHead [.ref (q_b G + 113), .int v1] (hS G s) z 0 0 (yQi G z Q) := by
  have hW := hG.1
  have hcl := hG.2.1
  have hty := hG.2.2.1
  have hO : xO G mX6_readHead tbX6_readHead ptX6_readHead := ⟨tkX6_readHead, pkX6_readHead hcl⟩
  unfold W_X6_readHead at H
  refine xC.of hW (by decide) rfl (Nat.le_of_ble_eq_true rfl) ?_
  refine s_aload_n (nx := 1) hO rfl rfl rfl ?_
  refine s_iconst (x := 1) (nx := 2) hO rfl (by decide) rfl ?_
  refine s_iconst (x := 0) (nx := 3) hO rfl (by decide) rfl ?_
  refine s_iload_n (nx := 4) hO rfl rfl rfl ?_
  refine goK (H (fun (y1 : Int32) => xEx G mX6_readHead 12 [(0, .ref (q_b G + 113)), (1, .int v1)] [.int y1, .int 0, .int 1, .ref (q_b G + 113)] (hS G s) z 0 0 (yQi G z Q)) (fun y1 H => ?_)) (fun H => ?_)
  · show xEx G mX6_readHead 12 [(0, .ref (q_b G + 113)), (1, .int v1)] [.int y1, .int 0, .int 1, .ref (q_b G + 113)] (hS G s) z 0 0 (yQi G z Q)
    refine s_callV [.int 1, .int 0, .int y1] (ci := 6) (F := TX6) (N := 7) (nx := 15) hO rfl kX6_readHead_38 (by rw [hcl]; rfl) (hs_o6 kc113) (w_X6_take hG H) rfl rfl (Nat.le_of_ble_eq_true rfl) (Nat.zero_le _) (Nat.zero_le _) rfl (k_Qi (fun r2 s3 H => ?_))
    refine s_if_ne (nx := 18) hO rfl rfl (fun c15 => ?_) (fun c15 => ?_)
    · replace H := H.1 c15
      refine s_aload_n (nx := 21) hO rfl rfl rfl ?_
      obtain ⟨p4, ep4, kp4, H⟩ := H
      refine s_getf (v := .ref (q_b G + p4)) (nx := 24) hO rfl rfl (hs_o6 kc113) (congrArg some (rv_at ep4)) rfl ?_
      refine s_getf (v := .ref (q_b G + (p4 + 1))) (nx := 27) hO rfl rfl (hs_o5 kp4) rfl rfl ?_
      refine s_iload_n (nx := 28) hO rfl rfl rfl ?_
      refine s_aload_n (nx := 29) hO rfl rfl rfl ?_
      refine s_getf (v := .int (sI s3 113 5)) (nx := 32) hO rfl rfl (hs_o6 kc113) rfl rfl ?_
      obtain ⟨b5, H⟩ := H
      refine goV (wI s3 (p4 + 1) (ix v1) (sI s3 113 5)) (fun s6 es6 => ?_)
      replace H := H s6 es6
      refine s_iast (nx := 33) hO rfl (hs_I (kf5_1 kp4)) b5 rfl ?_
      refine xEx.at (up_I (kf5_1 kp4) es6) ?_
      refine s_aload_n (nx := 34) hO rfl rfl rfl ?_
      refine s_iconst (x := 1) (nx := 35) hO rfl (by decide) rfl ?_
      refine s_aload_n (nx := 36) hO rfl rfl rfl ?_
      obtain ⟨p7, ep7, kp7, H⟩ := H
      refine s_getf (v := .ref (q_b G + p7)) (nx := 39) hO rfl rfl (hs_o6 kc113) (congrArg some (rv_at ep7)) rfl ?_
      refine s_getf (v := .ref (q_b G + (p7 + 1))) (nx := 42) hO rfl rfl (hs_o5 kp7) rfl rfl ?_
      refine s_iload_n (nx := 43) hO rfl rfl rfl ?_
      obtain ⟨b8, H⟩ := H
      refine s_iald (nx := 44) hO rfl (hs_I (kf5_1 kp7)) b8 rfl ?_
      refine s_bipush (x := (nI 12)) (nx := 46) hO rfl (by decide) rfl ?_
      refine s_callV [.int 1, .int (sI s6 (p7 + 1) (ix v1)), .int (nI 12)] (ci := 6) (F := TX6) (N := 7) (nx := 49) hO rfl kX6_readHead_38 (by rw [hcl]; rfl) (hs_o6 kc113) (w_X6_take hG H) rfl rfl (Nat.le_of_ble_eq_true rfl) (Nat.zero_le _) (Nat.zero_le _) rfl (k_Qi (fun r9 s10 H => ?_))
      refine s_if_ne (nx := 52) hO rfl rfl (fun c49 => ?_) (fun c49 => ?_)
      · replace H := H.1 c49
        refine s_aload_n (nx := 55) hO rfl rfl rfl ?_
        obtain ⟨p11, ep11, kp11, H⟩ := H
        refine s_getf (v := .ref (q_b G + p11)) (nx := 58) hO rfl rfl (hs_o6 kc113) (congrArg some (rv_at ep11)) rfl ?_
        refine s_getf (v := .ref (q_b G + (p11 + 2))) (nx := 61) hO rfl rfl (hs_o5 kp11) rfl rfl ?_
        refine s_iload_n (nx := 62) hO rfl rfl rfl ?_
        refine s_aload_n (nx := 63) hO rfl rfl rfl ?_
        refine s_getf (v := .int (sI s10 113 5)) (nx := 66) hO rfl rfl (hs_o6 kc113) rfl rfl ?_
        obtain ⟨b12, H⟩ := H
        refine goV (wI s10 (p11 + 2) (ix v1) (sI s10 113 5)) (fun s13 es13 => ?_)
        replace H := H s13 es13
        refine s_iast (nx := 67) hO rfl (hs_I (kf5_2 kp11)) b12 rfl ?_
        refine xEx.at (up_I (kf5_2 kp11) es13) ?_
        refine s_aload_n (nx := 68) hO rfl rfl rfl ?_
        refine s_iconst (x := (nI 2)) (nx := 69) hO rfl (by decide) rfl ?_
        refine s_iconst (x := 0) (nx := 70) hO rfl (by decide) rfl ?_
        refine s_iconst (x := 1) (nx := 71) hO rfl (by decide) rfl ?_
        refine s_aload_n (nx := 72) hO rfl rfl rfl ?_
        obtain ⟨p14, ep14, kp14, H⟩ := H
        refine s_getf (v := .ref (q_b G + p14)) (nx := 75) hO rfl rfl (hs_o6 kc113) (congrArg some (rv_at ep14)) rfl ?_
        refine s_getf (v := .ref (q_b G + (p14 + 2))) (nx := 78) hO rfl rfl (hs_o5 kp14) rfl rfl ?_
        refine s_iload_n (nx := 79) hO rfl rfl rfl ?_
        obtain ⟨b15, H⟩ := H
        refine s_iald (nx := 80) hO rfl (hs_I (kf5_2 kp14)) b15 rfl ?_
        refine s_ishl (nx := 81) hO rfl rfl ?_
        refine s_iconst (x := 1) (nx := 82) hO rfl (by decide) rfl ?_
        refine s_isub (nx := 83) hO rfl rfl ?_
        refine s_callV [.int (nI 2), .int 0, .int ((1 <<< ((sI s13 (p14 + 2) (ix v1)) &&& 31)) - 1)] (ci := 6) (F := TX6) (N := 7) (nx := 86) hO rfl kX6_readHead_38 (by rw [hcl]; rfl) (hs_o6 kc113) (w_X6_take hG H) rfl rfl (Nat.le_of_ble_eq_true rfl) (Nat.zero_le _) (Nat.zero_le _) rfl (k_Qi (fun r16 s17 H => ?_))
        refine s_if_ne (nx := 89) hO rfl rfl (fun c86 => ?_) (fun c86 => ?_)
        · replace H := H.1 c86
          refine s_aload_n (nx := 92) hO rfl rfl rfl ?_
          obtain ⟨p18, ep18, kp18, H⟩ := H
          refine s_getf (v := .ref (q_b G + p18)) (nx := 95) hO rfl rfl (hs_o6 kc113) (congrArg some (rv_at ep18)) rfl ?_
          refine s_getf (v := .ref (q_b G + (p18 + 3))) (nx := 98) hO rfl rfl (hs_o5 kp18) rfl rfl ?_
          refine s_iload_n (nx := 99) hO rfl rfl rfl ?_
          refine s_aload_n (nx := 100) hO rfl rfl rfl ?_
          refine s_getf (v := .int (sI s17 113 5)) (nx := 103) hO rfl rfl (hs_o6 kc113) rfl rfl ?_
          obtain ⟨b19, H⟩ := H
          refine goV (wI s17 (p18 + 3) (ix v1) (sI s17 113 5)) (fun s20 es20 => ?_)
          replace H := H s20 es20
          refine s_iast (nx := 104) hO rfl (hs_I (kf5_3 kp18)) b19 rfl ?_
          refine xEx.at (up_I (kf5_3 kp18) es20) ?_
          refine s_aload_n (nx := 105) hO rfl rfl rfl ?_
          refine s_iconst (x := 1) (nx := 106) hO rfl (by decide) rfl ?_
          refine s_iconst (x := 0) (nx := 107) hO rfl (by decide) rfl ?_
          refine s_iload_n (nx := 108) hO rfl rfl rfl ?_
          refine goK (H (fun (y21 : Int32) => xEx G mX6_readHead 116 [(0, .ref (q_b G + 113)), (1, .int v1)] [.int y21, .int 0, .int 1, .ref (q_b G + 113)] (hS G s20) z 0 0 (yQi G z Q)) (fun y21 H => ?_)) (fun H => ?_)
          · show xEx G mX6_readHead 116 [(0, .ref (q_b G + 113)), (1, .int v1)] [.int y21, .int 0, .int 1, .ref (q_b G + 113)] (hS G s20) z 0 0 (yQi G z Q)
            refine s_callV [.int 1, .int 0, .int y21] (ci := 6) (F := TX6) (N := 7) (nx := 119) hO rfl kX6_readHead_38 (by rw [hcl]; rfl) (hs_o6 kc113) (w_X6_take hG H) rfl rfl (Nat.le_of_ble_eq_true rfl) (Nat.zero_le _) (Nat.zero_le _) rfl (k_Qi (fun r22 s23 H => ?_))
            refine s_if_ne (nx := 122) hO rfl rfl (fun c119 => ?_) (fun c119 => ?_)
            · replace H := H.1 c119
              refine s_aload_n (nx := 125) hO rfl rfl rfl ?_
              obtain ⟨p24, ep24, kp24, H⟩ := H
              refine s_getf (v := .ref (q_b G + p24)) (nx := 128) hO rfl rfl (hs_o6 kc113) (congrArg some (rv_at ep24)) rfl ?_
              refine s_getf (v := .ref (q_b G + (p24 + 4))) (nx := 131) hO rfl rfl (hs_o5 kp24) rfl rfl ?_
              refine s_iload_n (nx := 132) hO rfl rfl rfl ?_
              refine s_aload_n (nx := 133) hO rfl rfl rfl ?_
              refine s_getf (v := .int (sI s23 113 5)) (nx := 136) hO rfl rfl (hs_o6 kc113) rfl rfl ?_
              obtain ⟨b25, H⟩ := H
              refine goV (wI s23 (p24 + 4) (ix v1) (sI s23 113 5)) (fun s26 es26 => ?_)
              replace H := H s26 es26
              refine s_iast (nx := 137) hO rfl (hs_I (kf5_4 kp24)) b25 rfl ?_
              refine xEx.at (up_I (kf5_4 kp24) es26) ?_
              refine s_aload_n (nx := 138) hO rfl rfl rfl ?_
              refine s_iconst (x := (nI 2)) (nx := 139) hO rfl (by decide) rfl ?_
              refine s_iconst (x := 1) (nx := 140) hO rfl (by decide) rfl ?_
              refine s_sipush (x := (nI 400)) (nx := 143) hO rfl (by decide) rfl ?_
              refine s_callV [.int (nI 2), .int 1, .int (nI 400)] (ci := 6) (F := TX6) (N := 7) (nx := 146) hO rfl kX6_readHead_38 (by rw [hcl]; rfl) (hs_o6 kc113) (w_X6_take hG H) rfl rfl (Nat.le_of_ble_eq_true rfl) (Nat.zero_le _) (Nat.zero_le _) rfl (k_Qi (fun r27 s28 H => ?_))
              refine s_if_ne (nx := 149) hO rfl rfl (fun c146 => ?_) (fun c146 => ?_)
              · replace H := H.1 c146
                refine s_aload_n (nx := 152) hO rfl rfl rfl ?_
                obtain ⟨p29, ep29, kp29, H⟩ := H
                refine s_getf (v := .ref (q_b G + p29)) (nx := 155) hO rfl rfl (hs_o6 kc113) (congrArg some (rv_at ep29)) rfl ?_
                refine s_iload_n (nx := 156) hO rfl rfl rfl ?_
                refine s_aload_n (nx := 157) hO rfl rfl rfl ?_
                refine s_getf (v := .int (sI s28 113 5)) (nx := 160) hO rfl rfl (hs_o6 kc113) rfl rfl ?_
                refine s_callV [.int v1, .int (sI s28 113 5)] (ci := 5) (F := TX5) (N := 19) (nx := 163) hO rfl kX6_readHead_81 (by rw [hcl]; rfl) (hs_o5 kp29) (w_X5_setSize hG kp29 H) rfl rfl (Nat.le_of_ble_eq_true rfl) (Nat.zero_le _) (Nat.zero_le _) rfl (k_Qv (fun s30 H => ?_))
                refine s_iconst (x := 1) (nx := 164) hO rfl (by decide) rfl ?_
                exact s_iret hO rfl rfl rfl ⟨rfl, _, _, rfl, rfl, H⟩
              · replace H := H.2 c146
                refine s_iconst (x := 0) (nx := 150) hO rfl (by decide) rfl ?_
                exact s_iret hO rfl rfl rfl ⟨rfl, _, _, rfl, rfl, H⟩
            · replace H := H.2 c119
              refine s_iconst (x := 0) (nx := 123) hO rfl (by decide) rfl ?_
              exact s_iret hO rfl rfl rfl ⟨rfl, _, _, rfl, rfl, H⟩
          refine s_if_ne (nx := 111) hO rfl rfl (fun c108 => ?_) (fun c108 => ?_)
          · replace H := H.1 c108
            refine s_iconst (x := (nI 2)) (nx := 116) hO rfl (by decide) rfl ?_
            exact xEx.loc (x_sub1 (List.Mem.head _) (x_sub1 (List.Mem.tail _ (List.Mem.head _)) x_sub0)) H
          · replace H := H.2 c108
            refine s_iconst (x := 1) (nx := 112) hO rfl (by decide) rfl ?_
            refine s_goto hO rfl ?_
            exact xEx.loc (x_sub1 (List.Mem.head _) (x_sub1 (List.Mem.tail _ (List.Mem.head _)) x_sub0)) H
        · replace H := H.2 c86
          refine s_iconst (x := 0) (nx := 90) hO rfl (by decide) rfl ?_
          exact s_iret hO rfl rfl rfl ⟨rfl, _, _, rfl, rfl, H⟩
      · replace H := H.2 c49
        refine s_iconst (x := 0) (nx := 53) hO rfl (by decide) rfl ?_
        exact s_iret hO rfl rfl rfl ⟨rfl, _, _, rfl, rfl, H⟩
    · replace H := H.2 c15
      refine s_iconst (x := 0) (nx := 19) hO rfl (by decide) rfl ?_
      exact s_iret hO rfl rfl rfl ⟨rfl, _, _, rfl, rfl, H⟩
  refine s_if_ne (nx := 7) hO rfl rfl (fun c4 => ?_) (fun c4 => ?_)
  · replace H := H.1 c4
    refine s_iconst (x := (nI 4)) (nx := 12) hO rfl (by decide) rfl ?_
    exact xEx.loc (x_sub1 (List.Mem.head _) (x_sub1 (List.Mem.tail _ (List.Mem.head _)) x_sub0)) H
  · replace H := H.2 c4
    refine s_iconst (x := 0) (nx := 8) hO rfl (by decide) rfl ?_
    refine s_goto hO rfl ?_
    exact xEx.loc (x_sub1 (List.Mem.head _) (x_sub1 (List.Mem.tail _ (List.Mem.head _)) x_sub0)) H
def W_X6_takeTarget (s : yS) (v1 : Int32) (Q : Int32 → yS → Prop) : Prop :=
 ∃ p1 : Nat, sR s 113 6 = p1 + 1 ∧ kd p1 = some (9, 0) ∧ 
 vp_in v1 12 ∧ 
 W_X6_take s (nI 2) 0 ((sI s (p1 + 5) (ix v1)) - 1) 
 (fun r3 s4 => ((¬ r3 = 0 → ∃ p5 : Nat, sR s4 113 6 = p5 + 1 ∧ kd p5 = some (9, 0) ∧ 
  vp_in ((v1 * (nI 400)) + (sI s4 113 5)) 4800 ∧ ∀ s7 : yS, s7 = wI s4 (p5 + 11) (ix ((v1 * (nI 400)) + (sI s4 113 5))) (vp_nar .boolean 1) → 
  Q 1 s7)
 ∧ (r3 = 0 → Q 0 s4)))
set_option maxRecDepth 100000 in
set_option maxHeartbeats 40000000 in
theorem w_X6_takeTarget {G : xG} (hG : yG G) {z : Nat} {s : yS} {v1 : Int32} {Q : Int32 → yS → Prop} (H : W_X6_takeTarget s v1 Q) : xC G mX6_takeTarget [.ref (q_b G + 113), .int v1] (hS G s) z 0 0 (yQi G z Q) := by
  have hW := hG.1
  have hcl := hG.2.1
  have hty := hG.2.2.1
  have hO : xO G mX6_takeTarget tbX6_takeTarget ptX6_takeTarget := ⟨tkX6_takeTarget, pkX6_takeTarget hcl⟩
  unfold W_X6_takeTarget at H
  refine xC.of hW (by decide) rfl (Nat.le_of_ble_eq_true rfl) ?_
  refine s_aload_n (nx := 1) hO rfl rfl rfl ?_
  refine s_iconst (x := (nI 2)) (nx := 2) hO rfl (by decide) rfl ?_
  refine s_iconst (x := 0) (nx := 3) hO rfl (by decide) rfl ?_
  refine s_aload_n (nx := 4) hO rfl rfl rfl ?_
  obtain ⟨p1, ep1, kp1, H⟩ := H
  refine s_getf (v := .ref (q_b G + p1)) (nx := 7) hO rfl rfl (hs_o6 kc113) (congrArg some (rv_at ep1)) rfl ?_
  refine s_getf (v := .ref (q_b G + (p1 + 5))) (nx := 10) hO rfl rfl (hs_o5 kp1) rfl rfl ?_
  refine s_iload_n (nx := 11) hO rfl rfl rfl ?_
  obtain ⟨b2, H⟩ := H
  refine s_iald (nx := 12) hO rfl (hs_I (kf5_5 kp1)) b2 rfl ?_
  refine s_iconst (x := 1) (nx := 13) hO rfl (by decide) rfl ?_
  refine s_isub (nx := 14) hO rfl rfl ?_
  refine s_callV [.int (nI 2), .int 0, .int ((sI s (p1 + 5) (ix v1)) - 1)] (ci := 6) (F := TX6) (N := 7) (nx := 17) hO rfl kX6_takeTarget_38 (by rw [hcl]; rfl) (hs_o6 kc113) (w_X6_take hG H) rfl rfl (Nat.le_of_ble_eq_true rfl) (Nat.zero_le _) (Nat.zero_le _) rfl (k_Qi (fun r3 s4 H => ?_))
  refine s_if_ne (nx := 20) hO rfl rfl (fun c17 => ?_) (fun c17 => ?_)
  · replace H := H.1 c17
    refine s_aload_n (nx := 23) hO rfl rfl rfl ?_
    obtain ⟨p5, ep5, kp5, H⟩ := H
    refine s_getf (v := .ref (q_b G + p5)) (nx := 26) hO rfl rfl (hs_o6 kc113) (congrArg some (rv_at ep5)) rfl ?_
    refine s_getf (v := .ref (q_b G + (p5 + 11))) (nx := 29) hO rfl rfl (hs_o5 kp5) rfl rfl ?_
    refine s_iload_n (nx := 30) hO rfl rfl rfl ?_
    refine s_sipush (x := (nI 400)) (nx := 33) hO rfl (by decide) rfl ?_
    refine s_imul (nx := 34) hO rfl rfl ?_
    refine s_aload_n (nx := 35) hO rfl rfl rfl ?_
    refine s_getf (v := .int (sI s4 113 5)) (nx := 38) hO rfl rfl (hs_o6 kc113) rfl rfl ?_
    refine s_iadd (nx := 39) hO rfl rfl ?_
    refine s_iconst (x := 1) (nx := 40) hO rfl (by decide) rfl ?_
    obtain ⟨b6, H⟩ := H
    refine goV (wI s4 (p5 + 11) (ix ((v1 * (nI 400)) + (sI s4 113 5))) (vp_nar .boolean 1)) (fun s7 es7 => ?_)
    replace H := H s7 es7
    refine s_zast (nx := 41) hO rfl (hs_Z (kf5_11 kp5)) b6 rfl ?_
    refine xEx.at (up_Z (kf5_11 kp5) es7) ?_
    refine s_iconst (x := 1) (nx := 42) hO rfl (by decide) rfl ?_
    exact s_iret hO rfl rfl rfl ⟨rfl, _, _, rfl, rfl, H⟩
  · replace H := H.2 c17
    refine s_iconst (x := 0) (nx := 21) hO rfl (by decide) rfl ?_
    exact s_iret hO rfl rfl rfl ⟨rfl, _, _, rfl, rfl, H⟩
def W_X6_readOperand (s : yS) (v1 : Int32) (v2 : Int32) (Q : Int32 → yS → Prop) : Prop :=
 ((v2 = 0 → W_X6_take s (nI 4) ((-2147483648)) ((2147483647)) 
  (fun r1 s2 => zb r1 ∧ Q r1 s2))
 ∧ (¬ v2 = 0 → ((v2 = (nI 4) → ∃ p4 : Nat, sR s 113 6 = p4 + 1 ∧ kd p4 = some (9, 0) ∧ 
   vp_in v1 12 ∧ 
   W_X6_take s 1 0 ((sI s (p4 + 2) (ix v1)) - 1) 
   (fun r6 s7 => zb r6 ∧ Q r6 s7))
 ∧ (¬ v2 = (nI 4) → ((v2 = (nI 5) → ∃ p9 : Nat, sR s 113 6 = p9 + 1 ∧ kd p9 = some (9, 0) ∧ 
    vp_in v1 12 ∧ 
    W_X6_take s 1 0 ((sI s (p9 + 2) (ix v1)) - 1) 
    (fun r11 s12 => zb r11 ∧ Q r11 s12))
 ∧ (¬ v2 = (nI 5) → ((v2 = (nI 25) → ∃ p14 : Nat, sR s 113 6 = p14 + 1 ∧ kd p14 = some (9, 0) ∧ 
     W_X6_take s 1 0 ((sI s p14 0) - 1) 
     (fun r15 s16 => zb r15 ∧ Q r15 s16))
 ∧ (¬ v2 = (nI 25) → ((v2 = (nI 26) → W_X6_take s 1 0 (nI 15) 
      (fun r18 s19 => zb r18 ∧ Q r18 s19))
 ∧ (¬ v2 = (nI 26) → ((v2 = (nI 29) → W_X6_take s 1 0 (nI 15) 
       (fun r21 s22 => zb r21 ∧ Q r21 s22))
 ∧ (¬ v2 = (nI 29) → W_X6_takeTarget s v1 
       (fun r24 s25 => zb r24 ∧ Q r24 s25)))))))))))))
set_option maxRecDepth 100000 in
set_option maxHeartbeats 40000000 in
theorem w_X6_readOperand {G : xG} (hG : yG G) {z : Nat} {s : yS} {v1 : Int32} {v2 : Int32} {Q : Int32 → yS → Prop} (H : W_X6_readOperand s v1 v2 Q) : xC G mX6_readOperand [.ref (q_b G + 113), .int v1, .int v2] (hS G s) z 0 0 (yQi G z Q) := by
  have hW := hG.1
  have hcl := hG.2.1
  have hty := hG.2.2.1
  have hO : xO G mX6_readOperand tbX6_readOperand ptX6_readOperand := ⟨tkX6_readOperand, pkX6_readOperand hcl⟩
  unfold W_X6_readOperand at H
  refine xC.of hW (by decide) rfl (Nat.le_of_ble_eq_true rfl) ?_
  refine s_iload_n (nx := 1) hO rfl rfl rfl ?_
  refine (Classical.em (v2 = 0)).elim (fun c1_0 => ?_) (fun c1_0 => ?_)
  · replace H := H.1 c1_0
    refine s_lookup (t := 60) (off := 59) hO rfl (by decide) (by rw [c1_0]; rfl) rfl ?_
    refine s_aload_n (nx := 61) hO rfl rfl rfl ?_
    refine s_iconst (x := (nI 4)) (nx := 62) hO rfl (by decide) rfl ?_
    refine s_ldc (x := ((-2147483648))) (nx := 64) hO rfl rfl rfl ?_
    refine s_ldc (x := ((2147483647))) (nx := 66) hO rfl rfl rfl ?_
    refine s_callV [.int (nI 4), .int ((-2147483648)), .int ((2147483647))] (ci := 6) (F := TX6) (N := 7) (nx := 69) hO rfl kX6_readOperand_38 (by rw [hcl]; rfl) (hs_o6 kc113) (w_X6_take hG H) rfl rfl (Nat.le_of_ble_eq_true rfl) (Nat.zero_le _) (Nat.zero_le _) rfl (k_Qi (fun r1 s2 H => ?_))
    obtain ⟨b3, H⟩ := H
    exact s_iret hO rfl rfl (zb_n b3) ⟨rfl, _, _, rfl, rfl, H⟩
  · replace H := H.2 c1_0
    refine (Classical.em (v2 = (nI 4))).elim (fun c1_4 => ?_) (fun c1_4 => ?_)
    · replace H := H.1 c1_4
      refine s_lookup (t := 70) (off := 69) hO rfl (by decide) ((lv_osw c1_0 (by decide)).trans (by rw [c1_4]; rfl)) rfl ?_
      refine s_aload_n (nx := 71) hO rfl rfl rfl ?_
      refine s_iconst (x := 1) (nx := 72) hO rfl (by decide) rfl ?_
      refine s_iconst (x := 0) (nx := 73) hO rfl (by decide) rfl ?_
      refine s_aload_n (nx := 74) hO rfl rfl rfl ?_
      obtain ⟨p4, ep4, kp4, H⟩ := H
      refine s_getf (v := .ref (q_b G + p4)) (nx := 77) hO rfl rfl (hs_o6 kc113) (congrArg some (rv_at ep4)) rfl ?_
      refine s_getf (v := .ref (q_b G + (p4 + 2))) (nx := 80) hO rfl rfl (hs_o5 kp4) rfl rfl ?_
      refine s_iload_n (nx := 81) hO rfl rfl rfl ?_
      obtain ⟨b5, H⟩ := H
      refine s_iald (nx := 82) hO rfl (hs_I (kf5_2 kp4)) b5 rfl ?_
      refine s_iconst (x := 1) (nx := 83) hO rfl (by decide) rfl ?_
      refine s_isub (nx := 84) hO rfl rfl ?_
      refine s_callV [.int 1, .int 0, .int ((sI s (p4 + 2) (ix v1)) - 1)] (ci := 6) (F := TX6) (N := 7) (nx := 87) hO rfl kX6_readOperand_38 (by rw [hcl]; rfl) (hs_o6 kc113) (w_X6_take hG H) rfl rfl (Nat.le_of_ble_eq_true rfl) (Nat.zero_le _) (Nat.zero_le _) rfl (k_Qi (fun r6 s7 H => ?_))
      obtain ⟨b8, H⟩ := H
      exact s_iret hO rfl rfl (zb_n b8) ⟨rfl, _, _, rfl, rfl, H⟩
    · replace H := H.2 c1_4
      refine (Classical.em (v2 = (nI 5))).elim (fun c1_5 => ?_) (fun c1_5 => ?_)
      · replace H := H.1 c1_5
        refine s_lookup (t := 70) (off := 69) hO rfl (by decide) ((lv_osw c1_0 (by decide)).trans ((lv_osw c1_4 (by decide)).trans (by rw [c1_5]; rfl))) rfl ?_
        refine s_aload_n (nx := 71) hO rfl rfl rfl ?_
        refine s_iconst (x := 1) (nx := 72) hO rfl (by decide) rfl ?_
        refine s_iconst (x := 0) (nx := 73) hO rfl (by decide) rfl ?_
        refine s_aload_n (nx := 74) hO rfl rfl rfl ?_
        obtain ⟨p9, ep9, kp9, H⟩ := H
        refine s_getf (v := .ref (q_b G + p9)) (nx := 77) hO rfl rfl (hs_o6 kc113) (congrArg some (rv_at ep9)) rfl ?_
        refine s_getf (v := .ref (q_b G + (p9 + 2))) (nx := 80) hO rfl rfl (hs_o5 kp9) rfl rfl ?_
        refine s_iload_n (nx := 81) hO rfl rfl rfl ?_
        obtain ⟨b10, H⟩ := H
        refine s_iald (nx := 82) hO rfl (hs_I (kf5_2 kp9)) b10 rfl ?_
        refine s_iconst (x := 1) (nx := 83) hO rfl (by decide) rfl ?_
        refine s_isub (nx := 84) hO rfl rfl ?_
        refine s_callV [.int 1, .int 0, .int ((sI s (p9 + 2) (ix v1)) - 1)] (ci := 6) (F := TX6) (N := 7) (nx := 87) hO rfl kX6_readOperand_38 (by rw [hcl]; rfl) (hs_o6 kc113) (w_X6_take hG H) rfl rfl (Nat.le_of_ble_eq_true rfl) (Nat.zero_le _) (Nat.zero_le _) rfl (k_Qi (fun r11 s12 H => ?_))
        obtain ⟨b13, H⟩ := H
        exact s_iret hO rfl rfl (zb_n b13) ⟨rfl, _, _, rfl, rfl, H⟩
      · replace H := H.2 c1_5
        refine (Classical.em (v2 = (nI 25))).elim (fun c1_25 => ?_) (fun c1_25 => ?_)
        · replace H := H.1 c1_25
          refine s_lookup (t := 88) (off := 87) hO rfl (by decide) ((lv_osw c1_0 (by decide)).trans ((lv_osw c1_4 (by decide)).trans ((lv_osw c1_5 (by decide)).trans (by rw [c1_25]; rfl)))) rfl ?_
          refine s_aload_n (nx := 89) hO rfl rfl rfl ?_
          refine s_iconst (x := 1) (nx := 90) hO rfl (by decide) rfl ?_
          refine s_iconst (x := 0) (nx := 91) hO rfl (by decide) rfl ?_
          refine s_aload_n (nx := 92) hO rfl rfl rfl ?_
          obtain ⟨p14, ep14, kp14, H⟩ := H
          refine s_getf (v := .ref (q_b G + p14)) (nx := 95) hO rfl rfl (hs_o6 kc113) (congrArg some (rv_at ep14)) rfl ?_
          refine s_getf (v := .int (sI s p14 0)) (nx := 98) hO rfl rfl (hs_o5 kp14) rfl rfl ?_
          refine s_iconst (x := 1) (nx := 99) hO rfl (by decide) rfl ?_
          refine s_isub (nx := 100) hO rfl rfl ?_
          refine s_callV [.int 1, .int 0, .int ((sI s p14 0) - 1)] (ci := 6) (F := TX6) (N := 7) (nx := 103) hO rfl kX6_readOperand_38 (by rw [hcl]; rfl) (hs_o6 kc113) (w_X6_take hG H) rfl rfl (Nat.le_of_ble_eq_true rfl) (Nat.zero_le _) (Nat.zero_le _) rfl (k_Qi (fun r15 s16 H => ?_))
          obtain ⟨b17, H⟩ := H
          exact s_iret hO rfl rfl (zb_n b17) ⟨rfl, _, _, rfl, rfl, H⟩
        · replace H := H.2 c1_25
          refine (Classical.em (v2 = (nI 26))).elim (fun c1_26 => ?_) (fun c1_26 => ?_)
          · replace H := H.1 c1_26
            refine s_lookup (t := 104) (off := 103) hO rfl (by decide) ((lv_osw c1_0 (by decide)).trans ((lv_osw c1_4 (by decide)).trans ((lv_osw c1_5 (by decide)).trans ((lv_osw c1_25 (by decide)).trans (by rw [c1_26]; rfl))))) rfl ?_
            refine s_aload_n (nx := 105) hO rfl rfl rfl ?_
            refine s_iconst (x := 1) (nx := 106) hO rfl (by decide) rfl ?_
            refine s_iconst (x := 0) (nx := 107) hO rfl (by decide) rfl ?_
            refine s_bipush (x := (nI 15)) (nx := 109) hO rfl (by decide) rfl ?_
            refine s_callV [.int 1, .int 0, .int (nI 15)] (ci := 6) (F := TX6) (N := 7) (nx := 112) hO rfl kX6_readOperand_38 (by rw [hcl]; rfl) (hs_o6 kc113) (w_X6_take hG H) rfl rfl (Nat.le_of_ble_eq_true rfl) (Nat.zero_le _) (Nat.zero_le _) rfl (k_Qi (fun r18 s19 H => ?_))
            obtain ⟨b20, H⟩ := H
            exact s_iret hO rfl rfl (zb_n b20) ⟨rfl, _, _, rfl, rfl, H⟩
          · replace H := H.2 c1_26
            refine (Classical.em (v2 = (nI 29))).elim (fun c1_29 => ?_) (fun c1_29 => ?_)
            · replace H := H.1 c1_29
              refine s_lookup (t := 104) (off := 103) hO rfl (by decide) ((lv_osw c1_0 (by decide)).trans ((lv_osw c1_4 (by decide)).trans ((lv_osw c1_5 (by decide)).trans ((lv_osw c1_25 (by decide)).trans ((lv_osw c1_26 (by decide)).trans (by rw [c1_29]; rfl)))))) rfl ?_
              refine s_aload_n (nx := 105) hO rfl rfl rfl ?_
              refine s_iconst (x := 1) (nx := 106) hO rfl (by decide) rfl ?_
              refine s_iconst (x := 0) (nx := 107) hO rfl (by decide) rfl ?_
              refine s_bipush (x := (nI 15)) (nx := 109) hO rfl (by decide) rfl ?_
              refine s_callV [.int 1, .int 0, .int (nI 15)] (ci := 6) (F := TX6) (N := 7) (nx := 112) hO rfl kX6_readOperand_38 (by rw [hcl]; rfl) (hs_o6 kc113) (w_X6_take hG H) rfl rfl (Nat.le_of_ble_eq_true rfl) (Nat.zero_le _) (Nat.zero_le _) rfl (k_Qi (fun r21 s22 H => ?_))
              obtain ⟨b23, H⟩ := H
              exact s_iret hO rfl rfl (zb_n b23) ⟨rfl, _, _, rfl, rfl, H⟩
            · replace H := H.2 c1_29
              refine s_lookup (t := 113) (off := 112) hO rfl (by decide) ((lv_osw c1_0 (by decide)).trans ((lv_osw c1_4 (by decide)).trans ((lv_osw c1_5 (by decide)).trans ((lv_osw c1_25 (by decide)).trans ((lv_osw c1_26 (by decide)).trans ((lv_osw c1_29 (by decide)).trans rfl)))))) rfl ?_
              refine s_aload_n (nx := 114) hO rfl rfl rfl ?_
              refine s_iload_n (nx := 115) hO rfl rfl rfl ?_
              refine s_callV [.int v1] (ci := 6) (F := TX6) (N := 7) (nx := 118) hO rfl kX6_readOperand_104 (by rw [hcl]; rfl) (hs_o6 kc113) (w_X6_takeTarget hG H) rfl rfl (Nat.le_of_ble_eq_true rfl) (Nat.zero_le _) (Nat.zero_le _) rfl (k_Qi (fun r24 s25 H => ?_))
              obtain ⟨b26, H⟩ := H
              exact s_iret hO rfl rfl (zb_n b26) ⟨rfl, _, _, rfl, rfl, H⟩
def W_X6_readCode (s : yS) (v1 : Int32) (Q : Int32 → yS → Prop) : Prop :=
 ∀ P6 : Int32 → yS → Prop, (∀ (x1 : Int32) (s2 : yS), (∃ p3 : Nat, sR s2 113 6 = p3 + 1 ∧ kd p3 = some (9, 0) ∧ 
  vp_in v1 12 ∧ 
  ((((v1 * (nI 400)) + (sI s2 (p3 + 5) (ix v1))) ≤ x1 → Q 1 s2)
  ∧ (¬ ((v1 * (nI 400)) + (sI s2 (p3 + 5) (ix v1))) ≤ x1 → W_X6_take s2 1 0 (nI 29) 
   (fun r5 s6 => ((¬ r5 = 0 → ∀ x7 : Int32, x7 = (sI s6 113 5) → 
    ∀ s8 : yS, s8 = wI s6 113 5 0 → 
    vp_in x7 30 ∧ 
    ∀ P67 : yS → Prop, (∀ (s10 : yS), (∃ p11 : Nat, sR s10 113 6 = p11 + 1 ∧ kd p11 = some (9, 0) ∧ 
     vp_in x1 4800 ∧ ∀ s13 : yS, s13 = wI s10 (p11 + 7) (ix x1) x7 → 
     ∃ p14 : Nat, sR s13 113 6 = p14 + 1 ∧ kd p14 = some (9, 0) ∧ 
     vp_in x1 4800 ∧ ∀ s16 : yS, s16 = wI s13 (p14 + 8) (ix x1) (sI s13 113 5) → 
     ∀ x17 : Int32, x17 = (x1 + 1) → 
     P6 x17 s16) → P67 s10) → 
    (((g_wid.getD (ix x7) 0) ≤ 0 → P67 s8)
    ∧ (¬ (g_wid.getD (ix x7) 0) ≤ 0 → W_X6_readOperand s8 v1 x7 
     (fun r18 s19 => ((¬ r18 = 0 → P67 s19)
     ∧ (r18 = 0 → Q 0 s19))))))
   ∧ (r5 = 0 → Q 0 s6)))))) → P6 x1 s2) → 
 ∀ x20 : Int32, x20 = (v1 * (nI 400)) → 
 P6 x20 s
set_option maxRecDepth 100000 in
set_option maxHeartbeats 40000000 in
theorem w_X6_readCode {G : xG} (hG : yG G) {z : Nat} {s : yS} {v1 : Int32} {Q : Int32 → yS → Prop} (H : W_X6_readCode s v1 Q) : xC G mX6_readCode [.ref (q_b G + 113), .int v1] (hS G s) z 0 0 (yQi G z Q) := by
  have hW := hG.1
  have hcl := hG.2.1
  have hty := hG.2.2.1
  obtain ⟨t0, t1, hf0, hf1, hr1, hr2⟩ := hG.2.2.2.1
  have hO : xO G mX6_readCode tbX6_readCode ptX6_readCode := ⟨tkX6_readCode, pkX6_readCode hcl hf0⟩
  unfold W_X6_readCode at H
  refine xC.of hW (by decide) rfl (Nat.le_of_ble_eq_true rfl) ?_
  refine s_iload_n (nx := 1) hO rfl rfl rfl ?_
  refine s_sipush (x := (nI 400)) (nx := 4) hO rfl (by decide) rfl ?_
  refine s_imul (nx := 5) hO rfl rfl ?_
  refine goK (H (fun (x1 : Int32) (s2 : yS) => xEx G mX6_readCode 6 [(0, .ref (q_b G + 113)), (1, .int v1), (2, .int x1)] [] (hS G s2) z 0 0 (yQi G z Q)) (fun x1 s2 H => ?_)) (fun H => ?_)
  · show xEx G mX6_readCode 6 [(0, .ref (q_b G + 113)), (1, .int v1), (2, .int x1)] [] (hS G s2) z 0 0 (yQi G z Q)
    refine s_iload_n (nx := 7) hO rfl rfl rfl ?_
    refine s_iload_n (nx := 8) hO rfl rfl rfl ?_
    refine s_sipush (x := (nI 400)) (nx := 11) hO rfl (by decide) rfl ?_
    refine s_imul (nx := 12) hO rfl rfl ?_
    refine s_aload_n (nx := 13) hO rfl rfl rfl ?_
    obtain ⟨p3, ep3, kp3, H⟩ := H
    refine s_getf (v := .ref (q_b G + p3)) (nx := 16) hO rfl rfl (hs_o6 kc113) (congrArg some (rv_at ep3)) rfl ?_
    refine s_getf (v := .ref (q_b G + (p3 + 5))) (nx := 19) hO rfl rfl (hs_o5 kp3) rfl rfl ?_
    refine s_iload_n (nx := 20) hO rfl rfl rfl ?_
    obtain ⟨b4, H⟩ := H
    refine s_iald (nx := 21) hO rfl (hs_I (kf5_5 kp3)) b4 rfl ?_
    refine s_iadd (nx := 22) hO rfl rfl ?_
    refine s_icmp_ge (nx := 25) hO rfl rfl (fun c22 => ?_) (fun c22 => ?_)
    · replace H := H.1 c22
      refine s_iconst (x := 1) (nx := 97) hO rfl (by decide) rfl ?_
      exact s_iret hO rfl rfl rfl ⟨rfl, _, _, rfl, rfl, H⟩
    · replace H := H.2 c22
      refine s_aload_n (nx := 26) hO rfl rfl rfl ?_
      refine s_iconst (x := 1) (nx := 27) hO rfl (by decide) rfl ?_
      refine s_iconst (x := 0) (nx := 28) hO rfl (by decide) rfl ?_
      refine s_bipush (x := (nI 29)) (nx := 30) hO rfl (by decide) rfl ?_
      refine s_callV [.int 1, .int 0, .int (nI 29)] (ci := 6) (F := TX6) (N := 7) (nx := 33) hO rfl kX6_readCode_38 (by rw [hcl]; rfl) (hs_o6 kc113) (w_X6_take hG H) rfl rfl (Nat.le_of_ble_eq_true rfl) (Nat.zero_le _) (Nat.zero_le _) rfl (k_Qi (fun r5 s6 H => ?_))
      refine s_if_ne (nx := 36) hO rfl rfl (fun c33 => ?_) (fun c33 => ?_)
      · replace H := H.1 c33
        refine s_aload_n (nx := 39) hO rfl rfl rfl ?_
        refine s_getf (v := .int (sI s6 113 5)) (nx := 42) hO rfl rfl (hs_o6 kc113) rfl rfl ?_
        refine goV ((sI s6 113 5)) (fun x7 ex7 => ?_)
        replace H := H x7 ex7
        refine e_istore_n (nx := 43) (l' := [(3, .int x7), (0, .ref (q_b G + 113)), (1, .int v1), (2, .int x1)]) ex7 hO rfl (by decide) rfl rfl ?_
        refine s_aload_n (nx := 44) hO rfl rfl rfl ?_
        refine s_iconst (x := 0) (nx := 45) hO rfl (by decide) rfl ?_
        refine goV (wI s6 113 5 0) (fun s8 es8 => ?_)
        replace H := H s8 es8
        refine s_putf (nx := 48) hO rfl rfl (hs_o6 kc113) (Nat.le_of_ble_eq_true rfl) (by rw [hty]; rfl) (by rw [hty]; rfl) pX6_5 rfl ?_
        refine xEx.at (up_oI6 kc113 es8) ?_
        refine s_gets (nx := 51) hO rfl rfl hf0 rfl ?_
        refine s_iload_n (nx := 52) hO rfl rfl rfl ?_
        obtain ⟨b9, H⟩ := H
        refine s_roI (v := .int (g_wid.getD (ix x7) 0)) (nx := 53) hO rfl hr1 b9 rfl rfl ?_
        refine goK (H (fun (s10 : yS) => xEx G mX6_readCode 67 [(0, .ref (q_b G + 113)), (1, .int v1), (2, .int x1), (3, .int x7)] [] (hS G s10) z 0 0 (yQi G z Q)) (fun s10 H => ?_)) (fun H => ?_)
        · show xEx G mX6_readCode 67 [(0, .ref (q_b G + 113)), (1, .int v1), (2, .int x1), (3, .int x7)] [] (hS G s10) z 0 0 (yQi G z Q)
          refine s_aload_n (nx := 68) hO rfl rfl rfl ?_
          obtain ⟨p11, ep11, kp11, H⟩ := H
          refine s_getf (v := .ref (q_b G + p11)) (nx := 71) hO rfl rfl (hs_o6 kc113) (congrArg some (rv_at ep11)) rfl ?_
          refine s_getf (v := .ref (q_b G + (p11 + 7))) (nx := 74) hO rfl rfl (hs_o5 kp11) rfl rfl ?_
          refine s_iload_n (nx := 75) hO rfl rfl rfl ?_
          refine s_iload_n (nx := 76) hO rfl rfl rfl ?_
          obtain ⟨b12, H⟩ := H
          refine goV (wI s10 (p11 + 7) (ix x1) x7) (fun s13 es13 => ?_)
          replace H := H s13 es13
          refine s_iast (nx := 77) hO rfl (hs_I (kf5_7 kp11)) b12 rfl ?_
          refine xEx.at (up_I (kf5_7 kp11) es13) ?_
          refine s_aload_n (nx := 78) hO rfl rfl rfl ?_
          obtain ⟨p14, ep14, kp14, H⟩ := H
          refine s_getf (v := .ref (q_b G + p14)) (nx := 81) hO rfl rfl (hs_o6 kc113) (congrArg some (rv_at ep14)) rfl ?_
          refine s_getf (v := .ref (q_b G + (p14 + 8))) (nx := 84) hO rfl rfl (hs_o5 kp14) rfl rfl ?_
          refine s_iload_n (nx := 85) hO rfl rfl rfl ?_
          refine s_aload_n (nx := 86) hO rfl rfl rfl ?_
          refine s_getf (v := .int (sI s13 113 5)) (nx := 89) hO rfl rfl (hs_o6 kc113) rfl rfl ?_
          obtain ⟨b15, H⟩ := H
          refine goV (wI s13 (p14 + 8) (ix x1) (sI s13 113 5)) (fun s16 es16 => ?_)
          replace H := H s16 es16
          refine s_iast (nx := 90) hO rfl (hs_I (kf5_8 kp14)) b15 rfl ?_
          refine xEx.at (up_I (kf5_8 kp14) es16) ?_
          refine goV ((x1 + 1)) (fun x17 ex17 => ?_)
          replace H := H x17 ex17
          refine e_iinc (nx := 93) (l' := [(2, .int x17), (0, .ref (q_b G + 113)), (1, .int v1), (3, .int x7)]) ex17 hO rfl (by decide) rfl rfl rfl rfl ?_
          refine s_goto hO rfl ?_
          exact xEx.loc (x_sub1 (List.Mem.tail _ (List.Mem.head _)) (x_sub1 (List.Mem.tail _ (List.Mem.tail _ (List.Mem.head _))) (x_sub1 (List.Mem.head _) x_sub0))) H
        refine s_if_le (nx := 56) hO rfl rfl (fun c53 => ?_) (fun c53 => ?_)
        · replace H := H.1 c53
          exact xEx.loc (x_sub1 (List.Mem.tail _ (List.Mem.head _)) (x_sub1 (List.Mem.tail _ (List.Mem.tail _ (List.Mem.head _))) (x_sub1 (List.Mem.tail _ (List.Mem.tail _ (List.Mem.tail _ (List.Mem.head _)))) (x_sub1 (List.Mem.head _) x_sub0)))) H
        · replace H := H.2 c53
          refine s_aload_n (nx := 57) hO rfl rfl rfl ?_
          refine s_iload_n (nx := 58) hO rfl rfl rfl ?_
          refine s_iload_n (nx := 59) hO rfl rfl rfl ?_
          refine s_callV [.int v1, .int x7] (ci := 6) (F := TX6) (N := 7) (nx := 62) hO rfl kX6_readCode_91 (by rw [hcl]; rfl) (hs_o6 kc113) (w_X6_readOperand hG H) rfl rfl (Nat.le_of_ble_eq_true rfl) (Nat.zero_le _) (Nat.zero_le _) rfl (k_Qi (fun r18 s19 H => ?_))
          refine s_if_ne (nx := 65) hO rfl rfl (fun c62 => ?_) (fun c62 => ?_)
          · replace H := H.1 c62
            exact xEx.loc (x_sub1 (List.Mem.tail _ (List.Mem.head _)) (x_sub1 (List.Mem.tail _ (List.Mem.tail _ (List.Mem.head _))) (x_sub1 (List.Mem.tail _ (List.Mem.tail _ (List.Mem.tail _ (List.Mem.head _)))) (x_sub1 (List.Mem.head _) x_sub0)))) H
          · replace H := H.2 c62
            refine s_iconst (x := 0) (nx := 66) hO rfl (by decide) rfl ?_
            exact s_iret hO rfl rfl rfl ⟨rfl, _, _, rfl, rfl, H⟩
      · replace H := H.2 c33
        refine s_iconst (x := 0) (nx := 37) hO rfl (by decide) rfl ?_
        exact s_iret hO rfl rfl rfl ⟨rfl, _, _, rfl, rfl, H⟩
  refine goV ((v1 * (nI 400))) (fun x20 ex20 => ?_)
  replace H := H x20 ex20
  refine e_istore_n (nx := 6) (l' := [(2, .int x20), (0, .ref (q_b G + 113)), (1, .int v1)]) ex20 hO rfl (by decide) rfl rfl ?_
  exact xEx.loc (x_sub1 (List.Mem.tail _ (List.Mem.head _)) (x_sub1 (List.Mem.tail _ (List.Mem.tail _ (List.Mem.head _))) (x_sub1 (List.Mem.head _) x_sub0))) H
def W_X6_readHandler (s : yS) (v1 : Int32) (v2 : Int32) (Q : Int32 → yS → Prop) : Prop :=
 ∃ p1 : Nat, sR s 113 6 = p1 + 1 ∧ kd p1 = some (9, 0) ∧ 
 vp_in v1 12 ∧ 
 W_X6_take s (nI 2) 0 ((sI s (p1 + 5) (ix v1)) - 1) 
 (fun r3 s4 => ((¬ r3 = 0 → ∃ p5 : Nat, sR s4 113 6 = p5 + 1 ∧ kd p5 = some (9, 0) ∧ 
  vp_in v2 72 ∧ ∀ s7 : yS, s7 = wI s4 (p5 + 13) (ix v2) (sI s4 113 5) → 
  ∃ p8 : Nat, sR s7 113 6 = p8 + 1 ∧ kd p8 = some (9, 0) ∧ 
  vp_in v1 12 ∧ 
  W_X6_take s7 (nI 2) ((sI s7 113 5) + 1) (sI s7 (p8 + 5) (ix v1)) 
  (fun r10 s11 => ((¬ r10 = 0 → ∃ p12 : Nat, sR s11 113 6 = p12 + 1 ∧ kd p12 = some (9, 0) ∧ 
   vp_in v2 72 ∧ ∀ s14 : yS, s14 = wI s11 (p12 + 14) (ix v2) (sI s11 113 5) → 
   W_X6_takeTarget s14 v1 
   (fun r15 s16 => ((¬ r15 = 0 → ∃ p17 : Nat, sR s16 113 6 = p17 + 1 ∧ kd p17 = some (9, 0) ∧ 
    vp_in v2 72 ∧ ∀ s19 : yS, s19 = wI s16 (p17 + 15) (ix v2) (sI s16 113 5) → 
    W_X6_take s19 1 0 1 
    (fun r20 s21 => ((¬ r20 = 0 → ∃ p22 : Nat, sR s21 113 6 = p22 + 1 ∧ kd p22 = some (9, 0) ∧ 
     ∀ P128 : Int32 → Prop, (∀ (y23 : Int32), (vp_in v2 72 ∧ ∀ s25 : yS, s25 = wI s21 (p22 + 16) (ix v2) (vp_nar .boolean y23) → 
      ∃ p26 : Nat, sR s25 113 6 = p26 + 1 ∧ kd p26 = some (9, 0) ∧ 
      vp_in v2 72 ∧ ∀ s28 : yS, s28 = wI s25 (p26 + 17) (ix v2) 0 → 
      ∃ p29 : Nat, sR s28 113 6 = p29 + 1 ∧ kd p29 = some (9, 0) ∧ 
      vp_in v2 72 ∧ 
      (((sI s28 (p29 + 16) (ix v2)) = 0 → W_X6_take s28 (nI 4) ((-2147483648)) ((2147483647)) 
       (fun r31 s32 => ((¬ r31 = 0 → ∃ p33 : Nat, sR s32 113 6 = p33 + 1 ∧ kd p33 = some (9, 0) ∧ 
        vp_in v2 72 ∧ ∀ s35 : yS, s35 = wI s32 (p33 + 17) (ix v2) (sI s32 113 5) → 
        Q 1 s35)
       ∧ (r31 = 0 → Q 0 s32))))
      ∧ (¬ (sI s28 (p29 + 16) (ix v2)) = 0 → Q 1 s28))) → P128 y23) → 
     ((¬ (sI s21 113 5) = 0 → P128 0)
     ∧ ((sI s21 113 5) = 0 → P128 1)))
    ∧ (r20 = 0 → Q 0 s21))))
   ∧ (r15 = 0 → Q 0 s16))))
  ∧ (r10 = 0 → Q 0 s11))))
 ∧ (r3 = 0 → Q 0 s4)))
set_option maxRecDepth 100000 in
set_option maxHeartbeats 40000000 in
theorem w_X6_readHandler {G : xG} (hG : yG G) {z : Nat} {s : yS} {v1 : Int32} {v2 : Int32} {Q : Int32 → yS → Prop} (H : W_X6_readHandler s v1 v2 Q) : xC G mX6_readHandler [.ref (q_b G + 113), .int v1, .int v2] (hS G s) z 0 0 (yQi G z Q) := by
  have hW := hG.1
  have hcl := hG.2.1
  have hty := hG.2.2.1
  have hO : xO G mX6_readHandler tbX6_readHandler ptX6_readHandler := ⟨tkX6_readHandler, pkX6_readHandler hcl⟩
  unfold W_X6_readHandler at H
  refine xC.of hW (by decide) rfl (Nat.le_of_ble_eq_true rfl) ?_
  refine s_aload_n (nx := 1) hO rfl rfl rfl ?_
  refine s_iconst (x := (nI 2)) (nx := 2) hO rfl (by decide) rfl ?_
  refine s_iconst (x := 0) (nx := 3) hO rfl (by decide) rfl ?_
  refine s_aload_n (nx := 4) hO rfl rfl rfl ?_
  obtain ⟨p1, ep1, kp1, H⟩ := H
  refine s_getf (v := .ref (q_b G + p1)) (nx := 7) hO rfl rfl (hs_o6 kc113) (congrArg some (rv_at ep1)) rfl ?_
  refine s_getf (v := .ref (q_b G + (p1 + 5))) (nx := 10) hO rfl rfl (hs_o5 kp1) rfl rfl ?_
  refine s_iload_n (nx := 11) hO rfl rfl rfl ?_
  obtain ⟨b2, H⟩ := H
  refine s_iald (nx := 12) hO rfl (hs_I (kf5_5 kp1)) b2 rfl ?_
  refine s_iconst (x := 1) (nx := 13) hO rfl (by decide) rfl ?_
  refine s_isub (nx := 14) hO rfl rfl ?_
  refine s_callV [.int (nI 2), .int 0, .int ((sI s (p1 + 5) (ix v1)) - 1)] (ci := 6) (F := TX6) (N := 7) (nx := 17) hO rfl kX6_readHandler_38 (by rw [hcl]; rfl) (hs_o6 kc113) (w_X6_take hG H) rfl rfl (Nat.le_of_ble_eq_true rfl) (Nat.zero_le _) (Nat.zero_le _) rfl (k_Qi (fun r3 s4 H => ?_))
  refine s_if_ne (nx := 20) hO rfl rfl (fun c17 => ?_) (fun c17 => ?_)
  · replace H := H.1 c17
    refine s_aload_n (nx := 23) hO rfl rfl rfl ?_
    obtain ⟨p5, ep5, kp5, H⟩ := H
    refine s_getf (v := .ref (q_b G + p5)) (nx := 26) hO rfl rfl (hs_o6 kc113) (congrArg some (rv_at ep5)) rfl ?_
    refine s_getf (v := .ref (q_b G + (p5 + 13))) (nx := 29) hO rfl rfl (hs_o5 kp5) rfl rfl ?_
    refine s_iload_n (nx := 30) hO rfl rfl rfl ?_
    refine s_aload_n (nx := 31) hO rfl rfl rfl ?_
    refine s_getf (v := .int (sI s4 113 5)) (nx := 34) hO rfl rfl (hs_o6 kc113) rfl rfl ?_
    obtain ⟨b6, H⟩ := H
    refine goV (wI s4 (p5 + 13) (ix v2) (sI s4 113 5)) (fun s7 es7 => ?_)
    replace H := H s7 es7
    refine s_iast (nx := 35) hO rfl (hs_I (kf5_14 kp5)) b6 rfl ?_
    refine xEx.at (up_I (kf5_14 kp5) es7) ?_
    refine s_aload_n (nx := 36) hO rfl rfl rfl ?_
    refine s_iconst (x := (nI 2)) (nx := 37) hO rfl (by decide) rfl ?_
    refine s_aload_n (nx := 38) hO rfl rfl rfl ?_
    refine s_getf (v := .int (sI s7 113 5)) (nx := 41) hO rfl rfl (hs_o6 kc113) rfl rfl ?_
    refine s_iconst (x := 1) (nx := 42) hO rfl (by decide) rfl ?_
    refine s_iadd (nx := 43) hO rfl rfl ?_
    refine s_aload_n (nx := 44) hO rfl rfl rfl ?_
    obtain ⟨p8, ep8, kp8, H⟩ := H
    refine s_getf (v := .ref (q_b G + p8)) (nx := 47) hO rfl rfl (hs_o6 kc113) (congrArg some (rv_at ep8)) rfl ?_
    refine s_getf (v := .ref (q_b G + (p8 + 5))) (nx := 50) hO rfl rfl (hs_o5 kp8) rfl rfl ?_
    refine s_iload_n (nx := 51) hO rfl rfl rfl ?_
    obtain ⟨b9, H⟩ := H
    refine s_iald (nx := 52) hO rfl (hs_I (kf5_5 kp8)) b9 rfl ?_
    refine s_callV [.int (nI 2), .int ((sI s7 113 5) + 1), .int (sI s7 (p8 + 5) (ix v1))] (ci := 6) (F := TX6) (N := 7) (nx := 55) hO rfl kX6_readHandler_38 (by rw [hcl]; rfl) (hs_o6 kc113) (w_X6_take hG H) rfl rfl (Nat.le_of_ble_eq_true rfl) (Nat.zero_le _) (Nat.zero_le _) rfl (k_Qi (fun r10 s11 H => ?_))
    refine s_if_ne (nx := 58) hO rfl rfl (fun c55 => ?_) (fun c55 => ?_)
    · replace H := H.1 c55
      refine s_aload_n (nx := 61) hO rfl rfl rfl ?_
      obtain ⟨p12, ep12, kp12, H⟩ := H
      refine s_getf (v := .ref (q_b G + p12)) (nx := 64) hO rfl rfl (hs_o6 kc113) (congrArg some (rv_at ep12)) rfl ?_
      refine s_getf (v := .ref (q_b G + (p12 + 14))) (nx := 67) hO rfl rfl (hs_o5 kp12) rfl rfl ?_
      refine s_iload_n (nx := 68) hO rfl rfl rfl ?_
      refine s_aload_n (nx := 69) hO rfl rfl rfl ?_
      refine s_getf (v := .int (sI s11 113 5)) (nx := 72) hO rfl rfl (hs_o6 kc113) rfl rfl ?_
      obtain ⟨b13, H⟩ := H
      refine goV (wI s11 (p12 + 14) (ix v2) (sI s11 113 5)) (fun s14 es14 => ?_)
      replace H := H s14 es14
      refine s_iast (nx := 73) hO rfl (hs_I (kf5_15 kp12)) b13 rfl ?_
      refine xEx.at (up_I (kf5_15 kp12) es14) ?_
      refine s_aload_n (nx := 74) hO rfl rfl rfl ?_
      refine s_iload_n (nx := 75) hO rfl rfl rfl ?_
      refine s_callV [.int v1] (ci := 6) (F := TX6) (N := 7) (nx := 78) hO rfl kX6_readHandler_104 (by rw [hcl]; rfl) (hs_o6 kc113) (w_X6_takeTarget hG H) rfl rfl (Nat.le_of_ble_eq_true rfl) (Nat.zero_le _) (Nat.zero_le _) rfl (k_Qi (fun r15 s16 H => ?_))
      refine s_if_ne (nx := 81) hO rfl rfl (fun c78 => ?_) (fun c78 => ?_)
      · replace H := H.1 c78
        refine s_aload_n (nx := 84) hO rfl rfl rfl ?_
        obtain ⟨p17, ep17, kp17, H⟩ := H
        refine s_getf (v := .ref (q_b G + p17)) (nx := 87) hO rfl rfl (hs_o6 kc113) (congrArg some (rv_at ep17)) rfl ?_
        refine s_getf (v := .ref (q_b G + (p17 + 15))) (nx := 90) hO rfl rfl (hs_o5 kp17) rfl rfl ?_
        refine s_iload_n (nx := 91) hO rfl rfl rfl ?_
        refine s_aload_n (nx := 92) hO rfl rfl rfl ?_
        refine s_getf (v := .int (sI s16 113 5)) (nx := 95) hO rfl rfl (hs_o6 kc113) rfl rfl ?_
        obtain ⟨b18, H⟩ := H
        refine goV (wI s16 (p17 + 15) (ix v2) (sI s16 113 5)) (fun s19 es19 => ?_)
        replace H := H s19 es19
        refine s_iast (nx := 96) hO rfl (hs_I (kf5_16 kp17)) b18 rfl ?_
        refine xEx.at (up_I (kf5_16 kp17) es19) ?_
        refine s_aload_n (nx := 97) hO rfl rfl rfl ?_
        refine s_iconst (x := 1) (nx := 98) hO rfl (by decide) rfl ?_
        refine s_iconst (x := 0) (nx := 99) hO rfl (by decide) rfl ?_
        refine s_iconst (x := 1) (nx := 100) hO rfl (by decide) rfl ?_
        refine s_callV [.int 1, .int 0, .int 1] (ci := 6) (F := TX6) (N := 7) (nx := 103) hO rfl kX6_readHandler_38 (by rw [hcl]; rfl) (hs_o6 kc113) (w_X6_take hG H) rfl rfl (Nat.le_of_ble_eq_true rfl) (Nat.zero_le _) (Nat.zero_le _) rfl (k_Qi (fun r20 s21 H => ?_))
        refine s_if_ne (nx := 106) hO rfl rfl (fun c103 => ?_) (fun c103 => ?_)
        · replace H := H.1 c103
          refine s_aload_n (nx := 109) hO rfl rfl rfl ?_
          obtain ⟨p22, ep22, kp22, H⟩ := H
          refine s_getf (v := .ref (q_b G + p22)) (nx := 112) hO rfl rfl (hs_o6 kc113) (congrArg some (rv_at ep22)) rfl ?_
          refine s_getf (v := .ref (q_b G + (p22 + 16))) (nx := 115) hO rfl rfl (hs_o5 kp22) rfl rfl ?_
          refine s_iload_n (nx := 116) hO rfl rfl rfl ?_
          refine s_aload_n (nx := 117) hO rfl rfl rfl ?_
          refine s_getf (v := .int (sI s21 113 5)) (nx := 120) hO rfl rfl (hs_o6 kc113) rfl rfl ?_
          refine goK (H (fun (y23 : Int32) => xEx G mX6_readHandler 128 [(0, .ref (q_b G + 113)), (2, .int v2)] [.int y23, .int v2, .ref (q_b G + (p22 + 16))] (hS G s21) z 0 0 (yQi G z Q)) (fun y23 H => ?_)) (fun H => ?_)
          · show xEx G mX6_readHandler 128 [(0, .ref (q_b G + 113)), (2, .int v2)] [.int y23, .int v2, .ref (q_b G + (p22 + 16))] (hS G s21) z 0 0 (yQi G z Q)
            obtain ⟨b24, H⟩ := H
            refine goV (wI s21 (p22 + 16) (ix v2) (vp_nar .boolean y23)) (fun s25 es25 => ?_)
            replace H := H s25 es25
            refine s_zast (nx := 129) hO rfl (hs_Z (kf5_17 kp22)) b24 rfl ?_
            refine xEx.at (up_Z (kf5_17 kp22) es25) ?_
            refine s_aload_n (nx := 130) hO rfl rfl rfl ?_
            obtain ⟨p26, ep26, kp26, H⟩ := H
            refine s_getf (v := .ref (q_b G + p26)) (nx := 133) hO rfl rfl (hs_o6 kc113) (congrArg some (rv_at ep26)) rfl ?_
            refine s_getf (v := .ref (q_b G + (p26 + 17))) (nx := 136) hO rfl rfl (hs_o5 kp26) rfl rfl ?_
            refine s_iload_n (nx := 137) hO rfl rfl rfl ?_
            refine s_iconst (x := 0) (nx := 138) hO rfl (by decide) rfl ?_
            obtain ⟨b27, H⟩ := H
            refine goV (wI s25 (p26 + 17) (ix v2) 0) (fun s28 es28 => ?_)
            replace H := H s28 es28
            refine s_iast (nx := 139) hO rfl (hs_I (kf5_18 kp26)) b27 rfl ?_
            refine xEx.at (up_I (kf5_18 kp26) es28) ?_
            refine s_aload_n (nx := 140) hO rfl rfl rfl ?_
            obtain ⟨p29, ep29, kp29, H⟩ := H
            refine s_getf (v := .ref (q_b G + p29)) (nx := 143) hO rfl rfl (hs_o6 kc113) (congrArg some (rv_at ep29)) rfl ?_
            refine s_getf (v := .ref (q_b G + (p29 + 16))) (nx := 146) hO rfl rfl (hs_o5 kp29) rfl rfl ?_
            refine s_iload_n (nx := 147) hO rfl rfl rfl ?_
            obtain ⟨b30, H⟩ := H
            refine s_zald (nx := 148) hO rfl (hs_Z (kf5_17 kp29)) b30 rfl ?_
            refine s_if_eq (nx := 151) hO rfl rfl (fun c148 => ?_) (fun c148 => ?_)
            · replace H := H.1 c148
              refine s_aload_n (nx := 154) hO rfl rfl rfl ?_
              refine s_iconst (x := (nI 4)) (nx := 155) hO rfl (by decide) rfl ?_
              refine s_ldc (x := ((-2147483648))) (nx := 157) hO rfl rfl rfl ?_
              refine s_ldc (x := ((2147483647))) (nx := 159) hO rfl rfl rfl ?_
              refine s_callV [.int (nI 4), .int ((-2147483648)), .int ((2147483647))] (ci := 6) (F := TX6) (N := 7) (nx := 162) hO rfl kX6_readHandler_38 (by rw [hcl]; rfl) (hs_o6 kc113) (w_X6_take hG H) rfl rfl (Nat.le_of_ble_eq_true rfl) (Nat.zero_le _) (Nat.zero_le _) rfl (k_Qi (fun r31 s32 H => ?_))
              refine s_if_ne (nx := 165) hO rfl rfl (fun c162 => ?_) (fun c162 => ?_)
              · replace H := H.1 c162
                refine s_aload_n (nx := 168) hO rfl rfl rfl ?_
                obtain ⟨p33, ep33, kp33, H⟩ := H
                refine s_getf (v := .ref (q_b G + p33)) (nx := 171) hO rfl rfl (hs_o6 kc113) (congrArg some (rv_at ep33)) rfl ?_
                refine s_getf (v := .ref (q_b G + (p33 + 17))) (nx := 174) hO rfl rfl (hs_o5 kp33) rfl rfl ?_
                refine s_iload_n (nx := 175) hO rfl rfl rfl ?_
                refine s_aload_n (nx := 176) hO rfl rfl rfl ?_
                refine s_getf (v := .int (sI s32 113 5)) (nx := 179) hO rfl rfl (hs_o6 kc113) rfl rfl ?_
                obtain ⟨b34, H⟩ := H
                refine goV (wI s32 (p33 + 17) (ix v2) (sI s32 113 5)) (fun s35 es35 => ?_)
                replace H := H s35 es35
                refine s_iast (nx := 180) hO rfl (hs_I (kf5_18 kp33)) b34 rfl ?_
                refine xEx.at (up_I (kf5_18 kp33) es35) ?_
                refine s_iconst (x := 1) (nx := 181) hO rfl (by decide) rfl ?_
                exact s_iret hO rfl rfl rfl ⟨rfl, _, _, rfl, rfl, H⟩
              · replace H := H.2 c162
                refine s_iconst (x := 0) (nx := 166) hO rfl (by decide) rfl ?_
                exact s_iret hO rfl rfl rfl ⟨rfl, _, _, rfl, rfl, H⟩
            · replace H := H.2 c148
              refine s_iconst (x := 1) (nx := 152) hO rfl (by decide) rfl ?_
              exact s_iret hO rfl rfl rfl ⟨rfl, _, _, rfl, rfl, H⟩
          refine s_if_ne (nx := 123) hO rfl rfl (fun c120 => ?_) (fun c120 => ?_)
          · replace H := H.1 c120
            refine s_iconst (x := 0) (nx := 128) hO rfl (by decide) rfl ?_
            exact xEx.loc (x_sub1 (List.Mem.head _) (x_sub1 (List.Mem.tail _ (List.Mem.tail _ (List.Mem.head _))) x_sub0)) H
          · replace H := H.2 c120
            refine s_iconst (x := 1) (nx := 124) hO rfl (by decide) rfl ?_
            refine s_goto hO rfl ?_
            exact xEx.loc (x_sub1 (List.Mem.head _) (x_sub1 (List.Mem.tail _ (List.Mem.tail _ (List.Mem.head _))) x_sub0)) H
        · replace H := H.2 c103
          refine s_iconst (x := 0) (nx := 107) hO rfl (by decide) rfl ?_
          exact s_iret hO rfl rfl rfl ⟨rfl, _, _, rfl, rfl, H⟩
      · replace H := H.2 c78
        refine s_iconst (x := 0) (nx := 82) hO rfl (by decide) rfl ?_
        exact s_iret hO rfl rfl rfl ⟨rfl, _, _, rfl, rfl, H⟩
    · replace H := H.2 c55
      refine s_iconst (x := 0) (nx := 59) hO rfl (by decide) rfl ?_
      exact s_iret hO rfl rfl rfl ⟨rfl, _, _, rfl, rfl, H⟩
  · replace H := H.2 c17
    refine s_iconst (x := 0) (nx := 21) hO rfl (by decide) rfl ?_
    exact s_iret hO rfl rfl rfl ⟨rfl, _, _, rfl, rfl, H⟩
def W_X6_readHandlers (s : yS) (v1 : Int32) (Q : Int32 → yS → Prop) : Prop :=
 W_X6_take s 1 0 (nI 6) 
 (fun r1 s2 => ((¬ r1 = 0 → ∃ p3 : Nat, sR s2 113 6 = p3 + 1 ∧ kd p3 = some (9, 0) ∧ 
  vp_in v1 12 ∧ ∀ s5 : yS, s5 = wI s2 (p3 + 6) (ix v1) (sI s2 113 5) → 
  ∀ P28 : Int32 → yS → Prop, (∀ (x6 : Int32) (s7 : yS), (∃ p8 : Nat, sR s7 113 6 = p8 + 1 ∧ kd p8 = some (9, 0) ∧ 
   vp_in v1 12 ∧ 
   (((sI s7 (p8 + 6) (ix v1)) ≤ x6 → Q 1 s7)
   ∧ (¬ (sI s7 (p8 + 6) (ix v1)) ≤ x6 → W_X6_readHandler s7 v1 ((v1 * (nI 6)) + x6) 
    (fun r10 s11 => ((¬ r10 = 0 → ∀ x12 : Int32, x12 = (x6 + 1) → 
     P28 x12 s11)
    ∧ (r10 = 0 → Q 0 s11)))))) → P28 x6 s7) → 
  P28 0 s5)
 ∧ (r1 = 0 → Q 0 s2)))
set_option maxRecDepth 100000 in
set_option maxHeartbeats 40000000 in
theorem w_X6_readHandlers {G : xG} (hG : yG G) {z : Nat} {s : yS} {v1 : Int32} {Q : Int32 → yS → Prop} (H : W_X6_readHandlers s v1 Q) : xC G mX6_readHandlers [.ref (q_b G + 113), .int v1] (hS G s) z 0 0 (yQi G z Q) := by
  have hW := hG.1
  have hcl := hG.2.1
  have hty := hG.2.2.1
  have hO : xO G mX6_readHandlers tbX6_readHandlers ptX6_readHandlers := ⟨tkX6_readHandlers, pkX6_readHandlers hcl⟩
  unfold W_X6_readHandlers at H
  refine xC.of hW (by decide) rfl (Nat.le_of_ble_eq_true rfl) ?_
  refine s_aload_n (nx := 1) hO rfl rfl rfl ?_
  refine s_iconst (x := 1) (nx := 2) hO rfl (by decide) rfl ?_
  refine s_iconst (x := 0) (nx := 3) hO rfl (by decide) rfl ?_
  refine s_bipush (x := (nI 6)) (nx := 5) hO rfl (by decide) rfl ?_
  refine s_callV [.int 1, .int 0, .int (nI 6)] (ci := 6) (F := TX6) (N := 7) (nx := 8) hO rfl kX6_readHandlers_38 (by rw [hcl]; rfl) (hs_o6 kc113) (w_X6_take hG H) rfl rfl (Nat.le_of_ble_eq_true rfl) (Nat.zero_le _) (Nat.zero_le _) rfl (k_Qi (fun r1 s2 H => ?_))
  refine s_if_ne (nx := 11) hO rfl rfl (fun c8 => ?_) (fun c8 => ?_)
  · replace H := H.1 c8
    refine s_aload_n (nx := 14) hO rfl rfl rfl ?_
    obtain ⟨p3, ep3, kp3, H⟩ := H
    refine s_getf (v := .ref (q_b G + p3)) (nx := 17) hO rfl rfl (hs_o6 kc113) (congrArg some (rv_at ep3)) rfl ?_
    refine s_getf (v := .ref (q_b G + (p3 + 6))) (nx := 20) hO rfl rfl (hs_o5 kp3) rfl rfl ?_
    refine s_iload_n (nx := 21) hO rfl rfl rfl ?_
    refine s_aload_n (nx := 22) hO rfl rfl rfl ?_
    refine s_getf (v := .int (sI s2 113 5)) (nx := 25) hO rfl rfl (hs_o6 kc113) rfl rfl ?_
    obtain ⟨b4, H⟩ := H
    refine goV (wI s2 (p3 + 6) (ix v1) (sI s2 113 5)) (fun s5 es5 => ?_)
    replace H := H s5 es5
    refine s_iast (nx := 26) hO rfl (hs_I (kf5_6 kp3)) b4 rfl ?_
    refine xEx.at (up_I (kf5_6 kp3) es5) ?_
    refine s_iconst (x := 0) (nx := 27) hO rfl (by decide) rfl ?_
    refine goK (H (fun (x6 : Int32) (s7 : yS) => xEx G mX6_readHandlers 28 [(0, .ref (q_b G + 113)), (1, .int v1), (2, .int x6)] [] (hS G s7) z 0 0 (yQi G z Q)) (fun x6 s7 H => ?_)) (fun H => ?_)
    · show xEx G mX6_readHandlers 28 [(0, .ref (q_b G + 113)), (1, .int v1), (2, .int x6)] [] (hS G s7) z 0 0 (yQi G z Q)
      refine s_iload_n (nx := 29) hO rfl rfl rfl ?_
      refine s_aload_n (nx := 30) hO rfl rfl rfl ?_
      obtain ⟨p8, ep8, kp8, H⟩ := H
      refine s_getf (v := .ref (q_b G + p8)) (nx := 33) hO rfl rfl (hs_o6 kc113) (congrArg some (rv_at ep8)) rfl ?_
      refine s_getf (v := .ref (q_b G + (p8 + 6))) (nx := 36) hO rfl rfl (hs_o5 kp8) rfl rfl ?_
      refine s_iload_n (nx := 37) hO rfl rfl rfl ?_
      obtain ⟨b9, H⟩ := H
      refine s_iald (nx := 38) hO rfl (hs_I (kf5_6 kp8)) b9 rfl ?_
      refine s_icmp_ge (nx := 41) hO rfl rfl (fun c38 => ?_) (fun c38 => ?_)
      · replace H := H.1 c38
        refine s_iconst (x := 1) (nx := 64) hO rfl (by decide) rfl ?_
        exact s_iret hO rfl rfl rfl ⟨rfl, _, _, rfl, rfl, H⟩
      · replace H := H.2 c38
        refine s_aload_n (nx := 42) hO rfl rfl rfl ?_
        refine s_iload_n (nx := 43) hO rfl rfl rfl ?_
        refine s_iload_n (nx := 44) hO rfl rfl rfl ?_
        refine s_bipush (x := (nI 6)) (nx := 46) hO rfl (by decide) rfl ?_
        refine s_imul (nx := 47) hO rfl rfl ?_
        refine s_iload_n (nx := 48) hO rfl rfl rfl ?_
        refine s_iadd (nx := 49) hO rfl rfl ?_
        refine s_callV [.int v1, .int ((v1 * (nI 6)) + x6)] (ci := 6) (F := TX6) (N := 7) (nx := 52) hO rfl kX6_readHandlers_114 (by rw [hcl]; rfl) (hs_o6 kc113) (w_X6_readHandler hG H) rfl rfl (Nat.le_of_ble_eq_true rfl) (Nat.zero_le _) (Nat.zero_le _) rfl (k_Qi (fun r10 s11 H => ?_))
        refine s_if_ne (nx := 55) hO rfl rfl (fun c52 => ?_) (fun c52 => ?_)
        · replace H := H.1 c52
          refine goV ((x6 + 1)) (fun x12 ex12 => ?_)
          replace H := H x12 ex12
          refine e_iinc (nx := 60) (l' := [(2, .int x12), (0, .ref (q_b G + 113)), (1, .int v1)]) ex12 hO rfl (by decide) rfl rfl rfl rfl ?_
          refine s_goto hO rfl ?_
          exact xEx.loc (x_sub1 (List.Mem.tail _ (List.Mem.head _)) (x_sub1 (List.Mem.tail _ (List.Mem.tail _ (List.Mem.head _))) (x_sub1 (List.Mem.head _) x_sub0))) H
        · replace H := H.2 c52
          refine s_iconst (x := 0) (nx := 56) hO rfl (by decide) rfl ?_
          exact s_iret hO rfl rfl rfl ⟨rfl, _, _, rfl, rfl, H⟩
    refine s_istore_n (nx := 28) (l' := [(2, .int 0), (0, .ref (q_b G + 113)), (1, .int v1)]) hO rfl (by decide) rfl rfl ?_
    exact xEx.loc (x_sub1 (List.Mem.tail _ (List.Mem.head _)) (x_sub1 (List.Mem.tail _ (List.Mem.tail _ (List.Mem.head _))) (x_sub1 (List.Mem.head _) x_sub0))) H
  · replace H := H.2 c8
    refine s_iconst (x := 0) (nx := 12) hO rfl (by decide) rfl ?_
    exact s_iret hO rfl rfl rfl ⟨rfl, _, _, rfl, rfl, H⟩
def W_X6_read (s : yS) (a1 n1 : Nat) (v2 : Int32) (o3 : Nat) (Q : Int32 → yS → Prop) : Prop :=
 ∀ s1 : yS, s1 = wR s 113 2 (a1 + 1) → 
 ∀ s2 : yS, s2 = wI s1 113 3 v2 → 
 ∀ s3 : yS, s3 = wI s2 113 1 0 → 
 ∀ s4 : yS, s4 = wI s3 113 0 (-1) → 
 ∀ s5 : yS, s5 = wR s4 113 6 (o3 + 1) → 
 ∃ p6 : Nat, sR s5 113 6 = p6 + 1 ∧ kd p6 = some (9, 0) ∧ 
 W_X5_empty s5 p6 
 (fun s7 => W_X6_readBegin s7 
 (fun r8 s9 => ((r8 = 0 → Q (sI s9 113 1) s9)
 ∧ (¬ r8 = 0 → W_X6_take s9 1 1 (nI 12) 
  (fun r10 s11 => ((¬ r10 = 0 → ∃ p12 : Nat, sR s11 113 6 = p12 + 1 ∧ kd p12 = some (9, 0) ∧ 
   ∀ s13 : yS, s13 = wI s11 p12 0 (sI s11 113 5) → 
   ∀ P72 : Int32 → Int32 → yS → Prop, (∀ (x14 : Int32) (x15 : Int32) (s16 : yS), (∀ P129 : Prop, ((((x14 = 0 → Q (sI s16 113 1) s16)
     ∧ (¬ x14 = 0 → (((sI s16 113 3) ≤ (sI s16 113 4) → Q (sI s16 113 1) s16)
      ∧ (¬ (sI s16 113 3) ≤ (sI s16 113 4) → W_X6_refuse s16 (nI 4) (sI s16 113 4) 
       (fun r17 s18 => Q (sI s18 113 1) s18)))))) → P129) → 
    ((x14 = 0 → P129)
    ∧ (¬ x14 = 0 → ∃ p19 : Nat, sR s16 113 6 = p19 + 1 ∧ kd p19 = some (9, 0) ∧ 
     (((sI s16 p19 0) ≤ x15 → P129)
     ∧ (¬ (sI s16 p19 0) ≤ x15 → W_X6_readHead s16 x15 
      (fun r20 s21 => ∀ P121 : Int32 → yS → Prop, (∀ (y22 : Int32) (s23 : yS), (∀ x24 : Int32, x24 = (x15 + 1) → 
       P72 y22 x24 s23) → P121 y22 s23) → 
      ((r20 = 0 → P121 0 s21)
      ∧ (¬ r20 = 0 → W_X6_readCode s21 x15 
       (fun r25 s26 => ((r25 = 0 → P121 0 s26)
       ∧ (¬ r25 = 0 → W_X6_readHandlers s26 x15 
        (fun r27 s28 => ((r27 = 0 → P121 0 s28)
        ∧ (¬ r27 = 0 → P121 1 s28)))))))))))))) → P72 x14 x15 s16) → 
   P72 1 0 s13)
  ∧ (r10 = 0 → Q (sI s11 113 1) s11)))))))
set_option maxRecDepth 100000 in
set_option maxHeartbeats 40000000 in
theorem w_X6_read {G : xG} (hG : yG G) {z : Nat} {s : yS} {a1 n1 : Nat} {v2 : Int32} {o3 : Nat} {Q : Int32 → yS → Prop} (ha1 : kd a1 = some (1, n1)) (ho3 : kd o3 = some (9, 0)) (H : W_X6_read s a1 n1 v2 o3 Q) : xC G mX6_read [.ref (q_b G + 113), .ref (q_b G + a1), .int v2, .ref (q_b G + o3)] (hS G s) z 0 0 (yQi G z Q) := by
  have hW := hG.1
  have hcl := hG.2.1
  have hty := hG.2.2.1
  have hO : xO G mX6_read tbX6_read ptX6_read := ⟨tkX6_read, pkX6_read hcl⟩
  unfold W_X6_read at H
  refine xC.of hW (by decide) rfl (Nat.le_of_ble_eq_true rfl) ?_
  refine s_aload_n (nx := 1) hO rfl rfl rfl ?_
  refine s_aload_n (nx := 2) hO rfl rfl rfl ?_
  refine goV (wR s 113 2 (a1 + 1)) (fun s1 es1 => ?_)
  replace H := H s1 es1
  refine s_putf (nx := 5) hO rfl rfl (hs_o6 kc113) (Nat.le_of_ble_eq_true rfl) (by rw [hty]; rfl) (by rw [hty]; rfl) pX6_2 rfl ?_
  refine xEx.at (up_oR6 kc113 es1) ?_
  refine s_aload_n (nx := 6) hO rfl rfl rfl ?_
  refine s_iload_n (nx := 7) hO rfl rfl rfl ?_
  refine goV (wI s1 113 3 v2) (fun s2 es2 => ?_)
  replace H := H s2 es2
  refine s_putf (nx := 10) hO rfl rfl (hs_o6 kc113) (Nat.le_of_ble_eq_true rfl) (by rw [hty]; rfl) (by rw [hty]; rfl) pX6_3 rfl ?_
  refine xEx.at (up_oI6 kc113 es2) ?_
  refine s_aload_n (nx := 11) hO rfl rfl rfl ?_
  refine s_iconst (x := 0) (nx := 12) hO rfl (by decide) rfl ?_
  refine goV (wI s2 113 1 0) (fun s3 es3 => ?_)
  replace H := H s3 es3
  refine s_putf (nx := 15) hO rfl rfl (hs_o6 kc113) (Nat.le_of_ble_eq_true rfl) (by rw [hty]; rfl) (by rw [hty]; rfl) pX6_1 rfl ?_
  refine xEx.at (up_oI6 kc113 es3) ?_
  refine s_aload_n (nx := 16) hO rfl rfl rfl ?_
  refine s_iconst (x := (-1)) (nx := 17) hO rfl (by decide) rfl ?_
  refine goV (wI s3 113 0 (-1)) (fun s4 es4 => ?_)
  replace H := H s4 es4
  refine s_putf (nx := 20) hO rfl rfl (hs_o6 kc113) (Nat.le_of_ble_eq_true rfl) (by rw [hty]; rfl) (by rw [hty]; rfl) pX6_0 rfl ?_
  refine xEx.at (up_oI6 kc113 es4) ?_
  refine s_aload_n (nx := 21) hO rfl rfl rfl ?_
  refine s_aload_n (nx := 22) hO rfl rfl rfl ?_
  refine goV (wR s4 113 6 (o3 + 1)) (fun s5 es5 => ?_)
  replace H := H s5 es5
  refine s_putf (nx := 25) hO rfl rfl (hs_o6 kc113) (Nat.le_of_ble_eq_true rfl) (by rw [hty]; rfl) (by rw [hty]; rfl) pX6_6 rfl ?_
  refine xEx.at (up_oR6 kc113 es5) ?_
  refine s_aload_n (nx := 26) hO rfl rfl rfl ?_
  obtain ⟨p6, ep6, kp6, H⟩ := H
  refine s_getf (v := .ref (q_b G + p6)) (nx := 29) hO rfl rfl (hs_o6 kc113) (congrArg some (rv_at ep6)) rfl ?_
  refine s_callV [] (ci := 5) (F := TX5) (N := 19) (nx := 32) hO rfl kX6_read_29 (by rw [hcl]; rfl) (hs_o5 kp6) (w_X5_empty hG kp6 H) rfl rfl (Nat.le_of_ble_eq_true rfl) (Nat.zero_le _) (Nat.zero_le _) rfl (k_Qv (fun s7 H => ?_))
  refine s_aload_n (nx := 33) hO rfl rfl rfl ?_
  refine s_callV [] (ci := 6) (F := TX6) (N := 7) (nx := 36) hO rfl kX6_read_34 (by rw [hcl]; rfl) (hs_o6 kc113) (w_X6_readBegin hG H) rfl rfl (Nat.le_of_ble_eq_true rfl) (Nat.zero_le _) (Nat.zero_le _) rfl (k_Qi (fun r8 s9 H => ?_))
  refine s_if_eq (nx := 39) hO rfl rfl (fun c36 => ?_) (fun c36 => ?_)
  · replace H := H.1 c36
    refine s_aload_n (nx := 51) hO rfl rfl rfl ?_
    refine s_getf (v := .int (sI s9 113 1)) (nx := 54) hO rfl rfl (hs_o6 kc113) rfl rfl ?_
    exact s_iret hO rfl rfl rfl ⟨rfl, _, _, rfl, rfl, H⟩
  · replace H := H.2 c36
    refine s_aload_n (nx := 40) hO rfl rfl rfl ?_
    refine s_iconst (x := 1) (nx := 41) hO rfl (by decide) rfl ?_
    refine s_iconst (x := 1) (nx := 42) hO rfl (by decide) rfl ?_
    refine s_bipush (x := (nI 12)) (nx := 44) hO rfl (by decide) rfl ?_
    refine s_callV [.int 1, .int 1, .int (nI 12)] (ci := 6) (F := TX6) (N := 7) (nx := 47) hO rfl kX6_read_38 (by rw [hcl]; rfl) (hs_o6 kc113) (w_X6_take hG H) rfl rfl (Nat.le_of_ble_eq_true rfl) (Nat.zero_le _) (Nat.zero_le _) rfl (k_Qi (fun r10 s11 H => ?_))
    refine s_if_ne (nx := 50) hO rfl rfl (fun c47 => ?_) (fun c47 => ?_)
    · replace H := H.1 c47
      refine s_aload_n (nx := 56) hO rfl rfl rfl ?_
      obtain ⟨p12, ep12, kp12, H⟩ := H
      refine s_getf (v := .ref (q_b G + p12)) (nx := 59) hO rfl rfl (hs_o6 kc113) (congrArg some (rv_at ep12)) rfl ?_
      refine s_aload_n (nx := 60) hO rfl rfl rfl ?_
      refine s_getf (v := .int (sI s11 113 5)) (nx := 63) hO rfl rfl (hs_o6 kc113) rfl rfl ?_
      refine goV (wI s11 p12 0 (sI s11 113 5)) (fun s13 es13 => ?_)
      replace H := H s13 es13
      refine s_putf (nx := 66) hO rfl rfl (hs_o5 kp12) (Nat.le_of_ble_eq_true rfl) (by rw [hty]; rfl) (by rw [hty]; rfl) pX5_0 rfl ?_
      refine xEx.at (up_oI5 kp12 es13) ?_
      refine s_iconst (x := 1) (nx := 67) hO rfl (by decide) rfl ?_
      refine s_istore (nx := 69) (l' := [(4, .int 1), (0, .ref (q_b G + 113)), (1, .ref (q_b G + a1)), (2, .int v2), (3, .ref (q_b G + o3))]) hO rfl (by decide) rfl rfl ?_
      refine s_iconst (x := 0) (nx := 70) hO rfl (by decide) rfl ?_
      refine goK (H (fun (x14 : Int32) (x15 : Int32) (s16 : yS) => xEx G mX6_read 72 [(0, .ref (q_b G + 113)), (4, .int x14), (5, .int x15)] [] (hS G s16) z 0 0 (yQi G z Q)) (fun x14 x15 s16 H => ?_)) (fun H => ?_)
      · show xEx G mX6_read 72 [(0, .ref (q_b G + 113)), (4, .int x14), (5, .int x15)] [] (hS G s16) z 0 0 (yQi G z Q)
        refine s_iload (nx := 74) hO rfl rfl rfl ?_
        refine goK (H (xEx G mX6_read 129 [(0, .ref (q_b G + 113)), (4, .int x14)] [] (hS G s16) z 0 0 (yQi G z Q)) (fun H => ?_)) (fun H => ?_)
        · show xEx G mX6_read 129 [(0, .ref (q_b G + 113)), (4, .int x14)] [] (hS G s16) z 0 0 (yQi G z Q)
          refine s_iload (nx := 131) hO rfl rfl rfl ?_
          refine s_if_eq (nx := 134) hO rfl rfl (fun c131 => ?_) (fun c131 => ?_)
          · replace H := H.1 c131
            refine s_aload_n (nx := 156) hO rfl rfl rfl ?_
            refine s_getf (v := .int (sI s16 113 1)) (nx := 159) hO rfl rfl (hs_o6 kc113) rfl rfl ?_
            exact s_iret hO rfl rfl rfl ⟨rfl, _, _, rfl, rfl, H⟩
          · replace H := H.2 c131
            refine s_aload_n (nx := 135) hO rfl rfl rfl ?_
            refine s_getf (v := .int (sI s16 113 4)) (nx := 138) hO rfl rfl (hs_o6 kc113) rfl rfl ?_
            refine s_aload_n (nx := 139) hO rfl rfl rfl ?_
            refine s_getf (v := .int (sI s16 113 3)) (nx := 142) hO rfl rfl (hs_o6 kc113) rfl rfl ?_
            refine s_icmp_ge (nx := 145) hO rfl rfl (fun c142 => ?_) (fun c142 => ?_)
            · replace H := H.1 c142
              refine s_aload_n (nx := 156) hO rfl rfl rfl ?_
              refine s_getf (v := .int (sI s16 113 1)) (nx := 159) hO rfl rfl (hs_o6 kc113) rfl rfl ?_
              exact s_iret hO rfl rfl rfl ⟨rfl, _, _, rfl, rfl, H⟩
            · replace H := H.2 c142
              refine s_aload_n (nx := 146) hO rfl rfl rfl ?_
              refine s_iconst (x := (nI 4)) (nx := 147) hO rfl (by decide) rfl ?_
              refine s_aload_n (nx := 148) hO rfl rfl rfl ?_
              refine s_getf (v := .int (sI s16 113 4)) (nx := 151) hO rfl rfl (hs_o6 kc113) rfl rfl ?_
              refine s_callV [.int (nI 4), .int (sI s16 113 4)] (ci := 6) (F := TX6) (N := 7) (nx := 154) hO rfl kX6_read_61 (by rw [hcl]; rfl) (hs_o6 kc113) (w_X6_refuse hG H) rfl rfl (Nat.le_of_ble_eq_true rfl) (Nat.zero_le _) (Nat.zero_le _) rfl (k_Qi (fun r17 s18 H => ?_))
              refine s_pop (nx := 155) hO rfl rfl rfl ?_
              refine s_aload_n (nx := 156) hO rfl rfl rfl ?_
              refine s_getf (v := .int (sI s18 113 1)) (nx := 159) hO rfl rfl (hs_o6 kc113) rfl rfl ?_
              exact s_iret hO rfl rfl rfl ⟨rfl, _, _, rfl, rfl, H⟩
        refine s_if_eq (nx := 77) hO rfl rfl (fun c74 => ?_) (fun c74 => ?_)
        · replace H := H.1 c74
          exact xEx.loc (x_sub1 (List.Mem.head _) (x_sub1 (List.Mem.tail _ (List.Mem.head _)) x_sub0)) H
        · replace H := H.2 c74
          refine s_iload (nx := 79) hO rfl rfl rfl ?_
          refine s_aload_n (nx := 80) hO rfl rfl rfl ?_
          obtain ⟨p19, ep19, kp19, H⟩ := H
          refine s_getf (v := .ref (q_b G + p19)) (nx := 83) hO rfl rfl (hs_o6 kc113) (congrArg some (rv_at ep19)) rfl ?_
          refine s_getf (v := .int (sI s16 p19 0)) (nx := 86) hO rfl rfl (hs_o5 kp19) rfl rfl ?_
          refine s_icmp_ge (nx := 89) hO rfl rfl (fun c86 => ?_) (fun c86 => ?_)
          · replace H := H.1 c86
            exact xEx.loc (x_sub1 (List.Mem.head _) (x_sub1 (List.Mem.tail _ (List.Mem.head _)) x_sub0)) H
          · replace H := H.2 c86
            refine s_aload_n (nx := 90) hO rfl rfl rfl ?_
            refine s_iload (nx := 92) hO rfl rfl rfl ?_
            refine s_callV [.int x15] (ci := 6) (F := TX6) (N := 7) (nx := 95) hO rfl kX6_read_48 (by rw [hcl]; rfl) (hs_o6 kc113) (w_X6_readHead hG H) rfl rfl (Nat.le_of_ble_eq_true rfl) (Nat.zero_le _) (Nat.zero_le _) rfl (k_Qi (fun r20 s21 H => ?_))
            refine goK (H (fun (y22 : Int32) (s23 : yS) => xEx G mX6_read 121 [(0, .ref (q_b G + 113)), (5, .int x15)] [.int y22] (hS G s23) z 0 0 (yQi G z Q)) (fun y22 s23 H => ?_)) (fun H => ?_)
            · show xEx G mX6_read 121 [(0, .ref (q_b G + 113)), (5, .int x15)] [.int y22] (hS G s23) z 0 0 (yQi G z Q)
              refine s_istore (nx := 123) (l' := [(4, .int y22), (0, .ref (q_b G + 113)), (5, .int x15)]) hO rfl (by decide) rfl rfl ?_
              refine goV ((x15 + 1)) (fun x24 ex24 => ?_)
              replace H := H x24 ex24
              refine e_iinc (nx := 126) (l' := [(5, .int x24), (4, .int y22), (0, .ref (q_b G + 113))]) ex24 hO rfl (by decide) rfl rfl rfl rfl ?_
              refine s_goto hO rfl ?_
              exact xEx.loc (x_sub1 (List.Mem.tail _ (List.Mem.tail _ (List.Mem.head _))) (x_sub1 (List.Mem.tail _ (List.Mem.head _)) (x_sub1 (List.Mem.head _) x_sub0))) H
            refine s_if_eq (nx := 98) hO rfl rfl (fun c95 => ?_) (fun c95 => ?_)
            · replace H := H.1 c95
              refine s_iconst (x := 0) (nx := 121) hO rfl (by decide) rfl ?_
              exact xEx.loc (x_sub1 (List.Mem.head _) (x_sub1 (List.Mem.tail _ (List.Mem.tail _ (List.Mem.head _))) x_sub0)) H
            · replace H := H.2 c95
              refine s_aload_n (nx := 99) hO rfl rfl rfl ?_
              refine s_iload (nx := 101) hO rfl rfl rfl ?_
              refine s_callV [.int x15] (ci := 6) (F := TX6) (N := 7) (nx := 104) hO rfl kX6_read_52 (by rw [hcl]; rfl) (hs_o6 kc113) (w_X6_readCode hG H) rfl rfl (Nat.le_of_ble_eq_true rfl) (Nat.zero_le _) (Nat.zero_le _) rfl (k_Qi (fun r25 s26 H => ?_))
              refine s_if_eq (nx := 107) hO rfl rfl (fun c104 => ?_) (fun c104 => ?_)
              · replace H := H.1 c104
                refine s_iconst (x := 0) (nx := 121) hO rfl (by decide) rfl ?_
                exact xEx.loc (x_sub1 (List.Mem.head _) (x_sub1 (List.Mem.tail _ (List.Mem.tail _ (List.Mem.head _))) x_sub0)) H
              · replace H := H.2 c104
                refine s_aload_n (nx := 108) hO rfl rfl rfl ?_
                refine s_iload (nx := 110) hO rfl rfl rfl ?_
                refine s_callV [.int x15] (ci := 6) (F := TX6) (N := 7) (nx := 113) hO rfl kX6_read_55 (by rw [hcl]; rfl) (hs_o6 kc113) (w_X6_readHandlers hG H) rfl rfl (Nat.le_of_ble_eq_true rfl) (Nat.zero_le _) (Nat.zero_le _) rfl (k_Qi (fun r27 s28 H => ?_))
                refine s_if_eq (nx := 116) hO rfl rfl (fun c113 => ?_) (fun c113 => ?_)
                · replace H := H.1 c113
                  refine s_iconst (x := 0) (nx := 121) hO rfl (by decide) rfl ?_
                  exact xEx.loc (x_sub1 (List.Mem.head _) (x_sub1 (List.Mem.tail _ (List.Mem.tail _ (List.Mem.head _))) x_sub0)) H
                · replace H := H.2 c113
                  refine s_iconst (x := 1) (nx := 117) hO rfl (by decide) rfl ?_
                  refine s_goto hO rfl ?_
                  exact xEx.loc (x_sub1 (List.Mem.head _) (x_sub1 (List.Mem.tail _ (List.Mem.tail _ (List.Mem.head _))) x_sub0)) H
      refine s_istore (nx := 72) (l' := [(5, .int 0), (4, .int 1), (0, .ref (q_b G + 113)), (1, .ref (q_b G + a1)), (2, .int v2), (3, .ref (q_b G + o3))]) hO rfl (by decide) rfl rfl ?_
      exact xEx.loc (x_sub1 (List.Mem.tail _ (List.Mem.tail _ (List.Mem.head _))) (x_sub1 (List.Mem.tail _ (List.Mem.head _)) (x_sub1 (List.Mem.head _) x_sub0))) H
    · replace H := H.2 c47
      refine s_aload_n (nx := 51) hO rfl rfl rfl ?_
      refine s_getf (v := .int (sI s11 113 1)) (nx := 54) hO rfl rfl (hs_o6 kc113) rfl rfl ?_
      exact s_iret hO rfl rfl rfl ⟨rfl, _, _, rfl, rfl, H⟩
def W_X7_lead (s : yS) (v1 : Int32) (v2 : Int32) (Q : Int32 → Prop) : Prop :=
 ∃ p1 : Nat, sR s 103 0 = p1 + 1 ∧ kd p1 = some (7, 0) ∧ 
 vp_in v1 31 ∧ 
 ∀ P13 : Int32 → Int32 → Prop, (∀ (x3 : Int32) (x4 : Int32), (∃ p5 : Nat, sR s 103 0 = p5 + 1 ∧ kd p5 = some (7, 0) ∧ 
  vp_in (v1 + 1) 31 ∧ 
  (((sI s (p5 + 2) (ix (v1 + 1))) ≤ x4 → Q x3)
  ∧ (¬ (sI s (p5 + 2) (ix (v1 + 1))) ≤ x4 → ∃ p7 : Nat, sR s 103 0 = p7 + 1 ∧ kd p7 = some (7, 0) ∧ 
   W_X3_holds s p7 x4 v2 104 9 
   (fun r8 => ∀ P61 : Int32 → Prop, (∀ (x9 : Int32), (∀ x10 : Int32, x10 = (x4 + 1) → 
    P13 x9 x10) → P61 x9) → 
   ((r8 = 0 → P61 x3)
   ∧ (¬ r8 = 0 → ∃ p11 : Nat, sR s 103 0 = p11 + 1 ∧ kd p11 = some (7, 0) ∧ 
    vp_in x4 216 ∧ 
    ∀ x13 : Int32, x13 = (x3 ||| (1 <<< ((sI s (p11 + 4) (ix x4)) &&& 31))) → 
    P61 x13)))))) → P13 x3 x4) → 
 ∀ x14 : Int32, x14 = (sI s (p1 + 2) (ix v1)) → 
 P13 0 x14
set_option maxRecDepth 100000 in
set_option maxHeartbeats 40000000 in
theorem w_X7_lead {G : xG} (hG : yG G) {z : Nat} {s : yS} {v1 : Int32} {v2 : Int32} {Q : Int32 → Prop} (H : W_X7_lead s v1 v2 Q) : xC G mX7_lead [.ref (q_b G + 103), .int v1, .int v2] (hS G s) z 0 0 (yPi G z s Q) := by
  have hW := hG.1
  have hcl := hG.2.1
  have hty := hG.2.2.1
  have hO : xO G mX7_lead tbX7_lead ptX7_lead := ⟨tkX7_lead, pkX7_lead hcl⟩
  unfold W_X7_lead at H
  refine xC.of hW (by decide) rfl (Nat.le_of_ble_eq_true rfl) ?_
  refine s_iconst (x := 0) (nx := 1) hO rfl (by decide) rfl ?_
  refine s_istore_n (nx := 2) (l' := [(3, .int 0), (0, .ref (q_b G + 103)), (1, .int v1), (2, .int v2)]) hO rfl (by decide) rfl rfl ?_
  refine s_aload_n (nx := 3) hO rfl rfl rfl ?_
  obtain ⟨p1, ep1, kp1, H⟩ := H
  refine s_getf (v := .ref (q_b G + p1)) (nx := 6) hO rfl rfl (hs_o7 kc103) (congrArg some (rv_at ep1)) rfl ?_
  refine s_getf (v := .ref (q_b G + (p1 + 2))) (nx := 9) hO rfl rfl (hs_o3 kp1) rfl rfl ?_
  refine s_iload_n (nx := 10) hO rfl rfl rfl ?_
  obtain ⟨b2, H⟩ := H
  refine s_iald (nx := 11) hO rfl (hs_I (kf3_8 kp1)) b2 rfl ?_
  refine goK (H (fun (x3 : Int32) (x4 : Int32) => xEx G mX7_lead 13 [(0, .ref (q_b G + 103)), (1, .int v1), (2, .int v2), (3, .int x3), (4, .int x4)] [] (hS G s) z 0 0 (yPi G z s Q)) (fun x3 x4 H => ?_)) (fun H => ?_)
  · show xEx G mX7_lead 13 [(0, .ref (q_b G + 103)), (1, .int v1), (2, .int v2), (3, .int x3), (4, .int x4)] [] (hS G s) z 0 0 (yPi G z s Q)
    refine s_iload (nx := 15) hO rfl rfl rfl ?_
    refine s_aload_n (nx := 16) hO rfl rfl rfl ?_
    obtain ⟨p5, ep5, kp5, H⟩ := H
    refine s_getf (v := .ref (q_b G + p5)) (nx := 19) hO rfl rfl (hs_o7 kc103) (congrArg some (rv_at ep5)) rfl ?_
    refine s_getf (v := .ref (q_b G + (p5 + 2))) (nx := 22) hO rfl rfl (hs_o3 kp5) rfl rfl ?_
    refine s_iload_n (nx := 23) hO rfl rfl rfl ?_
    refine s_iconst (x := 1) (nx := 24) hO rfl (by decide) rfl ?_
    refine s_iadd (nx := 25) hO rfl rfl ?_
    obtain ⟨b6, H⟩ := H
    refine s_iald (nx := 26) hO rfl (hs_I (kf3_8 kp5)) b6 rfl ?_
    refine s_icmp_ge (nx := 29) hO rfl rfl (fun c26 => ?_) (fun c26 => ?_)
    · replace H := H.1 c26
      refine s_iload_n (nx := 68) hO rfl rfl rfl ?_
      exact s_iret hO rfl rfl rfl ⟨rfl, _, rfl, rfl, H⟩
    · replace H := H.2 c26
      refine s_aload_n (nx := 30) hO rfl rfl rfl ?_
      obtain ⟨p7, ep7, kp7, H⟩ := H
      refine s_getf (v := .ref (q_b G + p7)) (nx := 33) hO rfl rfl (hs_o7 kc103) (congrArg some (rv_at ep7)) rfl ?_
      refine s_iload (nx := 35) hO rfl rfl rfl ?_
      refine s_iload_n (nx := 36) hO rfl rfl rfl ?_
      refine s_aload_n (nx := 37) hO rfl rfl rfl ?_
      refine s_getf (v := .ref (q_b G + 104)) (nx := 40) hO rfl rfl (hs_o7 kc103) rfl rfl ?_
      refine s_callV [.int x4, .int v2, .ref (q_b G + 104)] (ci := 3) (F := TX3) (N := 20) (nx := 43) hO rfl kX7_lead_101 (by rw [hcl]; rfl) (hs_o3 kp7) (w_X3_holds hG kp7 kc104 H) rfl rfl (Nat.le_of_ble_eq_true rfl) (Nat.zero_le _) (Nat.zero_le _) rfl (k_Pi (fun r8 H => ?_))
      refine goK (H (fun (x9 : Int32) => xEx G mX7_lead 61 [(0, .ref (q_b G + 103)), (1, .int v1), (2, .int v2), (3, .int x9), (4, .int x4)] [] (hS G s) z 0 0 (yPi G z s Q)) (fun x9 H => ?_)) (fun H => ?_)
      · show xEx G mX7_lead 61 [(0, .ref (q_b G + 103)), (1, .int v1), (2, .int v2), (3, .int x9), (4, .int x4)] [] (hS G s) z 0 0 (yPi G z s Q)
        refine goV ((x4 + 1)) (fun x10 ex10 => ?_)
        replace H := H x10 ex10
        refine e_iinc (nx := 64) (l' := [(4, .int x10), (0, .ref (q_b G + 103)), (1, .int v1), (2, .int v2), (3, .int x9)]) ex10 hO rfl (by decide) rfl rfl rfl rfl ?_
        refine s_goto hO rfl ?_
        exact xEx.loc (x_sub1 (List.Mem.tail _ (List.Mem.head _)) (x_sub1 (List.Mem.tail _ (List.Mem.tail _ (List.Mem.head _))) (x_sub1 (List.Mem.tail _ (List.Mem.tail _ (List.Mem.tail _ (List.Mem.head _)))) (x_sub1 (List.Mem.tail _ (List.Mem.tail _ (List.Mem.tail _ (List.Mem.tail _ (List.Mem.head _))))) (x_sub1 (List.Mem.head _) x_sub0))))) H
      refine s_if_eq (nx := 46) hO rfl rfl (fun c43 => ?_) (fun c43 => ?_)
      · replace H := H.1 c43
        exact xEx.loc (x_sub1 (List.Mem.head _) (x_sub1 (List.Mem.tail _ (List.Mem.head _)) (x_sub1 (List.Mem.tail _ (List.Mem.tail _ (List.Mem.head _))) (x_sub1 (List.Mem.tail _ (List.Mem.tail _ (List.Mem.tail _ (List.Mem.head _)))) (x_sub1 (List.Mem.tail _ (List.Mem.tail _ (List.Mem.tail _ (List.Mem.tail _ (List.Mem.head _))))) x_sub0))))) H
      · replace H := H.2 c43
        refine s_iload_n (nx := 47) hO rfl rfl rfl ?_
        refine s_iconst (x := 1) (nx := 48) hO rfl (by decide) rfl ?_
        refine s_aload_n (nx := 49) hO rfl rfl rfl ?_
        obtain ⟨p11, ep11, kp11, H⟩ := H
        refine s_getf (v := .ref (q_b G + p11)) (nx := 52) hO rfl rfl (hs_o7 kc103) (congrArg some (rv_at ep11)) rfl ?_
        refine s_getf (v := .ref (q_b G + (p11 + 4))) (nx := 55) hO rfl rfl (hs_o3 kp11) rfl rfl ?_
        refine s_iload (nx := 57) hO rfl rfl rfl ?_
        obtain ⟨b12, H⟩ := H
        refine s_iald (nx := 58) hO rfl (hs_I (kf3_10 kp11)) b12 rfl ?_
        refine s_ishl (nx := 59) hO rfl rfl ?_
        refine s_ior (nx := 60) hO rfl rfl ?_
        refine goV ((x3 ||| (1 <<< ((sI s (p11 + 4) (ix x4)) &&& 31)))) (fun x13 ex13 => ?_)
        replace H := H x13 ex13
        refine e_istore_n (nx := 61) (l' := [(3, .int x13), (0, .ref (q_b G + 103)), (1, .int v1), (2, .int v2), (4, .int x4)]) ex13 hO rfl (by decide) rfl rfl ?_
        exact xEx.loc (x_sub1 (List.Mem.tail _ (List.Mem.head _)) (x_sub1 (List.Mem.tail _ (List.Mem.tail _ (List.Mem.head _))) (x_sub1 (List.Mem.tail _ (List.Mem.tail _ (List.Mem.tail _ (List.Mem.head _)))) (x_sub1 (List.Mem.head _) (x_sub1 (List.Mem.tail _ (List.Mem.tail _ (List.Mem.tail _ (List.Mem.tail _ (List.Mem.head _))))) x_sub0))))) H
  refine goV ((sI s (p1 + 2) (ix v1))) (fun x14 ex14 => ?_)
  replace H := H x14 ex14
  refine e_istore (nx := 13) (l' := [(4, .int x14), (3, .int 0), (0, .ref (q_b G + 103)), (1, .int v1), (2, .int v2)]) ex14 hO rfl (by decide) rfl rfl ?_
  exact xEx.loc (x_sub1 (List.Mem.tail _ (List.Mem.tail _ (List.Mem.head _))) (x_sub1 (List.Mem.tail _ (List.Mem.tail _ (List.Mem.tail _ (List.Mem.head _)))) (x_sub1 (List.Mem.tail _ (List.Mem.tail _ (List.Mem.tail _ (List.Mem.tail _ (List.Mem.head _))))) (x_sub1 (List.Mem.tail _ (List.Mem.head _)) (x_sub1 (List.Mem.head _) x_sub0))))) H
def W_X7_leadNodes (s : yS) (Q : yS → Prop) : Prop :=
 ∀ P2 : Int32 → yS → Prop, (∀ (x1 : Int32) (s2 : yS), ((((sI s2 103 1) ≤ x1 → Q s2)
  ∧ (¬ (sI s2 103 1) ≤ x1 → ∃ p3 : Nat, sR s2 103 0 = p3 + 1 ∧ kd p3 = some (7, 0) ∧ 
   W_X1_callAt s2 (p3 + 10) x1 
   (fun r4 => ∀ P24 : Int32 → yS → Prop, (∀ (x5 : Int32) (s6 : yS), ((((nI 9) ≤ x5 → ∀ P56 : Int32 → yS → Prop, (∀ (x7 : Int32) (s8 : yS), (∃ p9 : Nat, sR s8 103 0 = p9 + 1 ∧ kd p9 = some (7, 0) ∧ 
      (((sI s8 p9 1) ≤ x7 → ∀ x10 : Int32, x10 = (x1 + 1) → 
       P2 x10 s8)
      ∧ (¬ (sI s8 p9 1) ≤ x7 → ∃ p11 : Nat, sR s8 103 0 = p11 + 1 ∧ kd p11 = some (7, 0) ∧ 
       W_X7_lead s8 ((sI s8 p11 0) + x7) r4 
       (fun r12 => vp_in ((x7 * (nI 512)) + x1) 12288 ∧ ∀ s14 : yS, s14 = wI s8 105 (ix ((x7 * (nI 512)) + x1)) r12 → 
       ∀ x15 : Int32, x15 = (x7 + 1) → 
       P56 x15 s14)))) → P56 x7 s8) → 
     P56 0 s6)
    ∧ (¬ (nI 9) ≤ x5 → ∃ p16 : Nat, sR s6 103 0 = p16 + 1 ∧ kd p16 = some (7, 0) ∧ 
     W_X1_leastAt s6 (p16 + 10) x1 x5 
     (fun r17 => vp_in x5 9 ∧ ∀ s19 : yS, s19 = wI s6 104 (ix x5) r17 → 
     ∀ x20 : Int32, x20 = (x5 + 1) → 
     P24 x20 s19)))) → P24 x5 s6) → 
   P24 0 s2)))) → P2 x1 s2) → 
 P2 0 s
set_option maxRecDepth 100000 in
set_option maxHeartbeats 40000000 in
theorem w_X7_leadNodes {G : xG} (hG : yG G) {z : Nat} {s : yS} {Q : yS → Prop} (H : W_X7_leadNodes s Q) : xC G mX7_leadNodes [.ref (q_b G + 103)] (hS G s) z 0 0 (yQv G z Q) := by
  have hW := hG.1
  have hcl := hG.2.1
  have hty := hG.2.2.1
  have hO : xO G mX7_leadNodes tbX7_leadNodes ptX7_leadNodes := ⟨tkX7_leadNodes, pkX7_leadNodes hcl⟩
  unfold W_X7_leadNodes at H
  refine xC.of hW (by decide) rfl (Nat.le_of_ble_eq_true rfl) ?_
  refine s_iconst (x := 0) (nx := 1) hO rfl (by decide) rfl ?_
  refine goK (H (fun (x1 : Int32) (s2 : yS) => xEx G mX7_leadNodes 2 [(0, .ref (q_b G + 103)), (1, .int x1)] [] (hS G s2) z 0 0 (yQv G z Q)) (fun x1 s2 H => ?_)) (fun H => ?_)
  · show xEx G mX7_leadNodes 2 [(0, .ref (q_b G + 103)), (1, .int x1)] [] (hS G s2) z 0 0 (yQv G z Q)
    refine s_iload_n (nx := 3) hO rfl rfl rfl ?_
    refine s_aload_n (nx := 4) hO rfl rfl rfl ?_
    refine s_getf (v := .int (sI s2 103 1)) (nx := 7) hO rfl rfl (hs_o7 kc103) rfl rfl ?_
    refine s_icmp_ge (nx := 10) hO rfl rfl (fun c7 => ?_) (fun c7 => ?_)
    · replace H := H.1 c7
      exact s_vret hO rfl rfl ⟨rfl, _, rfl, rfl, H⟩
    · replace H := H.2 c7
      refine s_aload_n (nx := 11) hO rfl rfl rfl ?_
      obtain ⟨p3, ep3, kp3, H⟩ := H
      refine s_getf (v := .ref (q_b G + p3)) (nx := 14) hO rfl rfl (hs_o7 kc103) (congrArg some (rv_at ep3)) rfl ?_
      refine s_getf (v := .ref (q_b G + (p3 + 10))) (nx := 17) hO rfl rfl (hs_o3 kp3) rfl rfl ?_
      refine s_iload_n (nx := 18) hO rfl rfl rfl ?_
      refine s_callV [.int x1] (ci := 1) (F := TX1) (N := 3) (nx := 21) hO rfl kX7_leadNodes_81 (by rw [hcl]; rfl) (hs_o1 (kf3_16 kp3)) (w_X1_callAt hG (kf3_16 kp3) H) rfl rfl (Nat.le_of_ble_eq_true rfl) (Nat.zero_le _) (Nat.zero_le _) rfl (k_Pi (fun r4 H => ?_))
      refine s_istore_n (nx := 22) (l' := [(2, .int r4), (0, .ref (q_b G + 103)), (1, .int x1)]) hO rfl (by decide) rfl rfl ?_
      refine s_iconst (x := 0) (nx := 23) hO rfl (by decide) rfl ?_
      refine goK (H (fun (x5 : Int32) (s6 : yS) => xEx G mX7_leadNodes 24 [(0, .ref (q_b G + 103)), (1, .int x1), (2, .int r4), (3, .int x5)] [] (hS G s6) z 0 0 (yQv G z Q)) (fun x5 s6 H => ?_)) (fun H => ?_)
      · show xEx G mX7_leadNodes 24 [(0, .ref (q_b G + 103)), (1, .int x1), (2, .int r4), (3, .int x5)] [] (hS G s6) z 0 0 (yQv G z Q)
        refine s_iload_n (nx := 25) hO rfl rfl rfl ?_
        refine s_bipush (x := (nI 9)) (nx := 27) hO rfl (by decide) rfl ?_
        refine s_icmp_ge (nx := 30) hO rfl rfl (fun c27 => ?_) (fun c27 => ?_)
        · replace H := H.1 c27
          refine s_iconst (x := 0) (nx := 55) hO rfl (by decide) rfl ?_
          refine goK (H (fun (x7 : Int32) (s8 : yS) => xEx G mX7_leadNodes 56 [(0, .ref (q_b G + 103)), (1, .int x1), (2, .int r4), (3, .int x7)] [] (hS G s8) z 0 0 (yQv G z Q)) (fun x7 s8 H => ?_)) (fun H => ?_)
          · show xEx G mX7_leadNodes 56 [(0, .ref (q_b G + 103)), (1, .int x1), (2, .int r4), (3, .int x7)] [] (hS G s8) z 0 0 (yQv G z Q)
            refine s_iload_n (nx := 57) hO rfl rfl rfl ?_
            refine s_aload_n (nx := 58) hO rfl rfl rfl ?_
            obtain ⟨p9, ep9, kp9, H⟩ := H
            refine s_getf (v := .ref (q_b G + p9)) (nx := 61) hO rfl rfl (hs_o7 kc103) (congrArg some (rv_at ep9)) rfl ?_
            refine s_getf (v := .int (sI s8 p9 1)) (nx := 64) hO rfl rfl (hs_o3 kp9) rfl rfl ?_
            refine s_icmp_ge (nx := 67) hO rfl rfl (fun c64 => ?_) (fun c64 => ?_)
            · replace H := H.1 c64
              refine goV ((x1 + 1)) (fun x10 ex10 => ?_)
              replace H := H x10 ex10
              refine e_iinc (nx := 102) (l' := [(1, .int x10), (0, .ref (q_b G + 103)), (2, .int r4), (3, .int x7)]) ex10 hO rfl (by decide) rfl rfl rfl rfl ?_
              refine s_goto hO rfl ?_
              exact xEx.loc (x_sub1 (List.Mem.tail _ (List.Mem.head _)) (x_sub1 (List.Mem.head _) x_sub0)) H
            · replace H := H.2 c64
              refine s_aload_n (nx := 68) hO rfl rfl rfl ?_
              refine s_getf (v := .ref (q_b G + 105)) (nx := 71) hO rfl rfl (hs_o7 kc103) rfl rfl ?_
              refine s_iload_n (nx := 72) hO rfl rfl rfl ?_
              refine s_sipush (x := (nI 512)) (nx := 75) hO rfl (by decide) rfl ?_
              refine s_imul (nx := 76) hO rfl rfl ?_
              refine s_iload_n (nx := 77) hO rfl rfl rfl ?_
              refine s_iadd (nx := 78) hO rfl rfl ?_
              refine s_aload_n (nx := 79) hO rfl rfl rfl ?_
              refine s_aload_n (nx := 80) hO rfl rfl rfl ?_
              obtain ⟨p11, ep11, kp11, H⟩ := H
              refine s_getf (v := .ref (q_b G + p11)) (nx := 83) hO rfl rfl (hs_o7 kc103) (congrArg some (rv_at ep11)) rfl ?_
              refine s_getf (v := .int (sI s8 p11 0)) (nx := 86) hO rfl rfl (hs_o3 kp11) rfl rfl ?_
              refine s_iload_n (nx := 87) hO rfl rfl rfl ?_
              refine s_iadd (nx := 88) hO rfl rfl ?_
              refine s_iload_n (nx := 89) hO rfl rfl rfl ?_
              refine s_callV [.int ((sI s8 p11 0) + x7), .int r4] (ci := 7) (F := TX7) (N := 12) (nx := 92) hO rfl kX7_leadNodes_95 (by rw [hcl]; rfl) (hs_o7 kc103) (w_X7_lead hG H) rfl rfl (Nat.le_of_ble_eq_true rfl) (Nat.zero_le _) (Nat.zero_le _) rfl (k_Pi (fun r12 H => ?_))
              obtain ⟨b13, H⟩ := H
              refine goV (wI s8 105 (ix ((x7 * (nI 512)) + x1)) r12) (fun s14 es14 => ?_)
              replace H := H s14 es14
              refine s_iast (nx := 93) hO rfl (hs_I kc105) b13 rfl ?_
              refine xEx.at (up_I kc105 es14) ?_
              refine goV ((x7 + 1)) (fun x15 ex15 => ?_)
              replace H := H x15 ex15
              refine e_iinc (nx := 96) (l' := [(3, .int x15), (0, .ref (q_b G + 103)), (1, .int x1), (2, .int r4)]) ex15 hO rfl (by decide) rfl rfl rfl rfl ?_
              refine s_goto hO rfl ?_
              exact xEx.loc (x_sub1 (List.Mem.tail _ (List.Mem.head _)) (x_sub1 (List.Mem.tail _ (List.Mem.tail _ (List.Mem.head _))) (x_sub1 (List.Mem.tail _ (List.Mem.tail _ (List.Mem.tail _ (List.Mem.head _)))) (x_sub1 (List.Mem.head _) x_sub0)))) H
          refine s_istore_n (nx := 56) (l' := [(3, .int 0), (0, .ref (q_b G + 103)), (1, .int x1), (2, .int r4)]) hO rfl (by decide) rfl rfl ?_
          exact xEx.loc (x_sub1 (List.Mem.tail _ (List.Mem.head _)) (x_sub1 (List.Mem.tail _ (List.Mem.tail _ (List.Mem.head _))) (x_sub1 (List.Mem.tail _ (List.Mem.tail _ (List.Mem.tail _ (List.Mem.head _)))) (x_sub1 (List.Mem.head _) x_sub0)))) H
        · replace H := H.2 c27
          refine s_aload_n (nx := 31) hO rfl rfl rfl ?_
          refine s_getf (v := .ref (q_b G + 104)) (nx := 34) hO rfl rfl (hs_o7 kc103) rfl rfl ?_
          refine s_iload_n (nx := 35) hO rfl rfl rfl ?_
          refine s_aload_n (nx := 36) hO rfl rfl rfl ?_
          obtain ⟨p16, ep16, kp16, H⟩ := H
          refine s_getf (v := .ref (q_b G + p16)) (nx := 39) hO rfl rfl (hs_o7 kc103) (congrArg some (rv_at ep16)) rfl ?_
          refine s_getf (v := .ref (q_b G + (p16 + 10))) (nx := 42) hO rfl rfl (hs_o3 kp16) rfl rfl ?_
          refine s_iload_n (nx := 43) hO rfl rfl rfl ?_
          refine s_iload_n (nx := 44) hO rfl rfl rfl ?_
          refine s_callV [.int x1, .int x5] (ci := 1) (F := TX1) (N := 3) (nx := 47) hO rfl kX7_leadNodes_85 (by rw [hcl]; rfl) (hs_o1 (kf3_16 kp16)) (w_X1_leastAt hG (kf3_16 kp16) H) rfl rfl (Nat.le_of_ble_eq_true rfl) (Nat.zero_le _) (Nat.zero_le _) rfl (k_Pi (fun r17 H => ?_))
          obtain ⟨b18, H⟩ := H
          refine goV (wI s6 104 (ix x5) r17) (fun s19 es19 => ?_)
          replace H := H s19 es19
          refine s_iast (nx := 48) hO rfl (hs_I kc104) b18 rfl ?_
          refine xEx.at (up_I kc104 es19) ?_
          refine goV ((x5 + 1)) (fun x20 ex20 => ?_)
          replace H := H x20 ex20
          refine e_iinc (nx := 51) (l' := [(3, .int x20), (0, .ref (q_b G + 103)), (1, .int x1), (2, .int r4)]) ex20 hO rfl (by decide) rfl rfl rfl rfl ?_
          refine s_goto hO rfl ?_
          exact xEx.loc (x_sub1 (List.Mem.tail _ (List.Mem.head _)) (x_sub1 (List.Mem.tail _ (List.Mem.tail _ (List.Mem.head _))) (x_sub1 (List.Mem.tail _ (List.Mem.tail _ (List.Mem.tail _ (List.Mem.head _)))) (x_sub1 (List.Mem.head _) x_sub0)))) H
      refine s_istore_n (nx := 24) (l' := [(3, .int 0), (2, .int r4), (0, .ref (q_b G + 103)), (1, .int x1)]) hO rfl (by decide) rfl rfl ?_
      exact xEx.loc (x_sub1 (List.Mem.tail _ (List.Mem.tail _ (List.Mem.head _))) (x_sub1 (List.Mem.tail _ (List.Mem.tail _ (List.Mem.tail _ (List.Mem.head _)))) (x_sub1 (List.Mem.tail _ (List.Mem.head _)) (x_sub1 (List.Mem.head _) x_sub0)))) H
  refine s_istore_n (nx := 2) (l' := [(1, .int 0), (0, .ref (q_b G + 103))]) hO rfl (by decide) rfl rfl ?_
  exact xEx.loc (x_sub1 (List.Mem.tail _ (List.Mem.head _)) (x_sub1 (List.Mem.head _) x_sub0)) H
def W_X7_leadSet (s : yS) (v1 : Int32) (v2 : Int32) (Q : Int32 → Prop) : Prop :=
 ∀ P5 : Int32 → Int32 → Prop, (∀ (x1 : Int32) (x2 : Int32), (∃ p3 : Nat, sR s 103 0 = p3 + 1 ∧ kd p3 = some (7, 0) ∧ 
  (((sI s p3 1) ≤ x2 → Q x1)
  ∧ (¬ (sI s p3 1) ≤ x2 → ∀ P43 : Int32 → Prop, (∀ (x4 : Int32), (∀ x5 : Int32, x5 = (x2 + 1) → 
    P5 x4 x5) → P43 x4) → 
   ((¬ ((v1 >>> (x2 &&& 31)) &&& 1) = 1 → P43 x1)
   ∧ (((v1 >>> (x2 &&& 31)) &&& 1) = 1 → vp_in ((x2 * (nI 512)) + v2) 12288 ∧ 
    ∀ x7 : Int32, x7 = (x1 ||| (sI s 105 (ix ((x2 * (nI 512)) + v2)))) → 
    P43 x7))))) → P5 x1 x2) → 
 P5 0 0
set_option maxRecDepth 100000 in
set_option maxHeartbeats 40000000 in
theorem w_X7_leadSet {G : xG} (hG : yG G) {z : Nat} {s : yS} {v1 : Int32} {v2 : Int32} {Q : Int32 → Prop} (H : W_X7_leadSet s v1 v2 Q) : xC G mX7_leadSet [.ref (q_b G + 103), .int v1, .int v2] (hS G s) z 0 0 (yPi G z s Q) := by
  have hW := hG.1
  have hcl := hG.2.1
  have hty := hG.2.2.1
  have hO : xO G mX7_leadSet tbX7_leadSet ptX7_leadSet := ⟨tkX7_leadSet, pkX7_leadSet hcl⟩
  unfold W_X7_leadSet at H
  refine xC.of hW (by decide) rfl (Nat.le_of_ble_eq_true rfl) ?_
  refine s_iconst (x := 0) (nx := 1) hO rfl (by decide) rfl ?_
  refine s_istore_n (nx := 2) (l' := [(3, .int 0), (0, .ref (q_b G + 103)), (1, .int v1), (2, .int v2)]) hO rfl (by decide) rfl rfl ?_
  refine s_iconst (x := 0) (nx := 3) hO rfl (by decide) rfl ?_
  refine goK (H (fun (x1 : Int32) (x2 : Int32) => xEx G mX7_leadSet 5 [(0, .ref (q_b G + 103)), (1, .int v1), (2, .int v2), (3, .int x1), (4, .int x2)] [] (hS G s) z 0 0 (yPi G z s Q)) (fun x1 x2 H => ?_)) (fun H => ?_)
  · show xEx G mX7_leadSet 5 [(0, .ref (q_b G + 103)), (1, .int v1), (2, .int v2), (3, .int x1), (4, .int x2)] [] (hS G s) z 0 0 (yPi G z s Q)
    refine s_iload (nx := 7) hO rfl rfl rfl ?_
    refine s_aload_n (nx := 8) hO rfl rfl rfl ?_
    obtain ⟨p3, ep3, kp3, H⟩ := H
    refine s_getf (v := .ref (q_b G + p3)) (nx := 11) hO rfl rfl (hs_o7 kc103) (congrArg some (rv_at ep3)) rfl ?_
    refine s_getf (v := .int (sI s p3 1)) (nx := 14) hO rfl rfl (hs_o3 kp3) rfl rfl ?_
    refine s_icmp_ge (nx := 17) hO rfl rfl (fun c14 => ?_) (fun c14 => ?_)
    · replace H := H.1 c14
      refine s_iload_n (nx := 50) hO rfl rfl rfl ?_
      exact s_iret hO rfl rfl rfl ⟨rfl, _, rfl, rfl, H⟩
    · replace H := H.2 c14
      refine s_iload_n (nx := 18) hO rfl rfl rfl ?_
      refine s_iload (nx := 20) hO rfl rfl rfl ?_
      refine s_ishr (nx := 21) hO rfl rfl ?_
      refine s_iconst (x := 1) (nx := 22) hO rfl (by decide) rfl ?_
      refine s_iand (nx := 23) hO rfl rfl ?_
      refine s_iconst (x := 1) (nx := 24) hO rfl (by decide) rfl ?_
      refine goK (H (fun (x4 : Int32) => xEx G mX7_leadSet 43 [(0, .ref (q_b G + 103)), (1, .int v1), (2, .int v2), (3, .int x4), (4, .int x2)] [] (hS G s) z 0 0 (yPi G z s Q)) (fun x4 H => ?_)) (fun H => ?_)
      · show xEx G mX7_leadSet 43 [(0, .ref (q_b G + 103)), (1, .int v1), (2, .int v2), (3, .int x4), (4, .int x2)] [] (hS G s) z 0 0 (yPi G z s Q)
        refine goV ((x2 + 1)) (fun x5 ex5 => ?_)
        replace H := H x5 ex5
        refine e_iinc (nx := 46) (l' := [(4, .int x5), (0, .ref (q_b G + 103)), (1, .int v1), (2, .int v2), (3, .int x4)]) ex5 hO rfl (by decide) rfl rfl rfl rfl ?_
        refine s_goto hO rfl ?_
        exact xEx.loc (x_sub1 (List.Mem.tail _ (List.Mem.head _)) (x_sub1 (List.Mem.tail _ (List.Mem.tail _ (List.Mem.head _))) (x_sub1 (List.Mem.tail _ (List.Mem.tail _ (List.Mem.tail _ (List.Mem.head _)))) (x_sub1 (List.Mem.tail _ (List.Mem.tail _ (List.Mem.tail _ (List.Mem.tail _ (List.Mem.head _))))) (x_sub1 (List.Mem.head _) x_sub0))))) H
      refine s_icmp_ne (nx := 27) hO rfl rfl (fun c24 => ?_) (fun c24 => ?_)
      · replace H := H.1 c24
        exact xEx.loc (x_sub1 (List.Mem.head _) (x_sub1 (List.Mem.tail _ (List.Mem.head _)) (x_sub1 (List.Mem.tail _ (List.Mem.tail _ (List.Mem.head _))) (x_sub1 (List.Mem.tail _ (List.Mem.tail _ (List.Mem.tail _ (List.Mem.head _)))) (x_sub1 (List.Mem.tail _ (List.Mem.tail _ (List.Mem.tail _ (List.Mem.tail _ (List.Mem.head _))))) x_sub0))))) H
      · replace H := H.2 c24
        refine s_iload_n (nx := 28) hO rfl rfl rfl ?_
        refine s_aload_n (nx := 29) hO rfl rfl rfl ?_
        refine s_getf (v := .ref (q_b G + 105)) (nx := 32) hO rfl rfl (hs_o7 kc103) rfl rfl ?_
        refine s_iload (nx := 34) hO rfl rfl rfl ?_
        refine s_sipush (x := (nI 512)) (nx := 37) hO rfl (by decide) rfl ?_
        refine s_imul (nx := 38) hO rfl rfl ?_
        refine s_iload_n (nx := 39) hO rfl rfl rfl ?_
        refine s_iadd (nx := 40) hO rfl rfl ?_
        obtain ⟨b6, H⟩ := H
        refine s_iald (nx := 41) hO rfl (hs_I kc105) b6 rfl ?_
        refine s_ior (nx := 42) hO rfl rfl ?_
        refine goV ((x1 ||| (sI s 105 (ix ((x2 * (nI 512)) + v2))))) (fun x7 ex7 => ?_)
        replace H := H x7 ex7
        refine e_istore_n (nx := 43) (l' := [(3, .int x7), (0, .ref (q_b G + 103)), (1, .int v1), (2, .int v2), (4, .int x2)]) ex7 hO rfl (by decide) rfl rfl ?_
        exact xEx.loc (x_sub1 (List.Mem.tail _ (List.Mem.head _)) (x_sub1 (List.Mem.tail _ (List.Mem.tail _ (List.Mem.head _))) (x_sub1 (List.Mem.tail _ (List.Mem.tail _ (List.Mem.tail _ (List.Mem.head _)))) (x_sub1 (List.Mem.head _) (x_sub1 (List.Mem.tail _ (List.Mem.tail _ (List.Mem.tail _ (List.Mem.tail _ (List.Mem.head _))))) x_sub0))))) H
  refine s_istore (nx := 5) (l' := [(4, .int 0), (3, .int 0), (0, .ref (q_b G + 103)), (1, .int v1), (2, .int v2)]) hO rfl (by decide) rfl rfl ?_
  exact xEx.loc (x_sub1 (List.Mem.tail _ (List.Mem.tail _ (List.Mem.head _))) (x_sub1 (List.Mem.tail _ (List.Mem.tail _ (List.Mem.tail _ (List.Mem.head _)))) (x_sub1 (List.Mem.tail _ (List.Mem.tail _ (List.Mem.tail _ (List.Mem.tail _ (List.Mem.head _))))) (x_sub1 (List.Mem.tail _ (List.Mem.head _)) (x_sub1 (List.Mem.head _) x_sub0))))) H
def W_X7_setIndex (s : yS) (v1 : Int32) (Q : Int32 → yS → Prop) : Prop :=
 ∀ P2 : Int32 → Prop, (∀ (x1 : Int32), (∃ p2 : Nat, sR s 103 0 = p2 + 1 ∧ kd p2 = some (7, 0) ∧ 
  (((sI s p2 2) ≤ x1 → ∃ p3 : Nat, sR s 103 0 = p3 + 1 ∧ kd p3 = some (7, 0) ∧ 
   ((¬ (sI s p3 2) = (nI 63) → ∃ p4 : Nat, sR s 103 0 = p4 + 1 ∧ kd p4 = some (7, 0) ∧ 
    vp_in (sI s p4 2) 63 ∧ ∀ s6 : yS, s6 = wI s 106 (ix (sI s p4 2)) v1 → 
    ∃ p7 : Nat, sR s6 103 0 = p7 + 1 ∧ kd p7 = some (7, 0) ∧ 
    ∀ s8 : yS, s8 = wI s6 p7 2 ((sI s6 p7 2) + 1) → 
    ∃ p9 : Nat, sR s8 103 0 = p9 + 1 ∧ kd p9 = some (7, 0) ∧ 
    Q ((sI s8 p9 2) - 1) s8)
   ∧ ((sI s p3 2) = (nI 63) → Q (nI 63) s)))
  ∧ (¬ (sI s p2 2) ≤ x1 → vp_in x1 63 ∧ 
   ((¬ (sI s 106 (ix x1)) = v1 → ∀ x11 : Int32, x11 = (x1 + 1) → 
    P2 x11)
   ∧ ((sI s 106 (ix x1)) = v1 → Q x1 s))))) → P2 x1) → 
 P2 0
set_option maxRecDepth 100000 in
set_option maxHeartbeats 40000000 in
theorem w_X7_setIndex {G : xG} (hG : yG G) {z : Nat} {s : yS} {v1 : Int32} {Q : Int32 → yS → Prop} (H : W_X7_setIndex s v1 Q) : xC G mX7_setIndex [.ref (q_b G + 103), .int v1] (hS G s) z 0 0 (yQi G z Q) := by
  have hW := hG.1
  have hcl := hG.2.1
  have hty := hG.2.2.1
  have hO : xO G mX7_setIndex tbX7_setIndex ptX7_setIndex := ⟨tkX7_setIndex, pkX7_setIndex hcl⟩
  unfold W_X7_setIndex at H
  refine xC.of hW (by decide) rfl (Nat.le_of_ble_eq_true rfl) ?_
  refine s_iconst (x := 0) (nx := 1) hO rfl (by decide) rfl ?_
  refine goK (H (fun (x1 : Int32) => xEx G mX7_setIndex 2 [(0, .ref (q_b G + 103)), (1, .int v1), (2, .int x1)] [] (hS G s) z 0 0 (yQi G z Q)) (fun x1 H => ?_)) (fun H => ?_)
  · show xEx G mX7_setIndex 2 [(0, .ref (q_b G + 103)), (1, .int v1), (2, .int x1)] [] (hS G s) z 0 0 (yQi G z Q)
    refine s_iload_n (nx := 3) hO rfl rfl rfl ?_
    refine s_aload_n (nx := 4) hO rfl rfl rfl ?_
    obtain ⟨p2, ep2, kp2, H⟩ := H
    refine s_getf (v := .ref (q_b G + p2)) (nx := 7) hO rfl rfl (hs_o7 kc103) (congrArg some (rv_at ep2)) rfl ?_
    refine s_getf (v := .int (sI s p2 2)) (nx := 10) hO rfl rfl (hs_o3 kp2) rfl rfl ?_
    refine s_icmp_ge (nx := 13) hO rfl rfl (fun c10 => ?_) (fun c10 => ?_)
    · replace H := H.1 c10
      refine s_aload_n (nx := 32) hO rfl rfl rfl ?_
      obtain ⟨p3, ep3, kp3, H⟩ := H
      refine s_getf (v := .ref (q_b G + p3)) (nx := 35) hO rfl rfl (hs_o7 kc103) (congrArg some (rv_at ep3)) rfl ?_
      refine s_getf (v := .int (sI s p3 2)) (nx := 38) hO rfl rfl (hs_o3 kp3) rfl rfl ?_
      refine s_bipush (x := (nI 63)) (nx := 40) hO rfl (by decide) rfl ?_
      refine s_icmp_ne (nx := 43) hO rfl rfl (fun c40 => ?_) (fun c40 => ?_)
      · replace H := H.1 c40
        refine s_aload_n (nx := 47) hO rfl rfl rfl ?_
        refine s_getf (v := .ref (q_b G + 106)) (nx := 50) hO rfl rfl (hs_o7 kc103) rfl rfl ?_
        refine s_aload_n (nx := 51) hO rfl rfl rfl ?_
        obtain ⟨p4, ep4, kp4, H⟩ := H
        refine s_getf (v := .ref (q_b G + p4)) (nx := 54) hO rfl rfl (hs_o7 kc103) (congrArg some (rv_at ep4)) rfl ?_
        refine s_getf (v := .int (sI s p4 2)) (nx := 57) hO rfl rfl (hs_o3 kp4) rfl rfl ?_
        refine s_iload_n (nx := 58) hO rfl rfl rfl ?_
        obtain ⟨b5, H⟩ := H
        refine goV (wI s 106 (ix (sI s p4 2)) v1) (fun s6 es6 => ?_)
        replace H := H s6 es6
        refine s_iast (nx := 59) hO rfl (hs_I kc106) b5 rfl ?_
        refine xEx.at (up_I kc106 es6) ?_
        refine s_aload_n (nx := 60) hO rfl rfl rfl ?_
        obtain ⟨p7, ep7, kp7, H⟩ := H
        refine s_getf (v := .ref (q_b G + p7)) (nx := 63) hO rfl rfl (hs_o7 kc103) (congrArg some (rv_at ep7)) rfl ?_
        refine s_dup (nx := 64) hO rfl rfl rfl ?_
        refine s_getf (v := .int (sI s6 p7 2)) (nx := 67) hO rfl rfl (hs_o3 kp7) rfl rfl ?_
        refine s_iconst (x := 1) (nx := 68) hO rfl (by decide) rfl ?_
        refine s_iadd (nx := 69) hO rfl rfl ?_
        refine goV (wI s6 p7 2 ((sI s6 p7 2) + 1)) (fun s8 es8 => ?_)
        replace H := H s8 es8
        refine s_putf (nx := 72) hO rfl rfl (hs_o3 kp7) (Nat.le_of_ble_eq_true rfl) (by rw [hty]; rfl) (by rw [hty]; rfl) pX3_2 rfl ?_
        refine xEx.at (up_oI3 kp7 es8) ?_
        refine s_aload_n (nx := 73) hO rfl rfl rfl ?_
        obtain ⟨p9, ep9, kp9, H⟩ := H
        refine s_getf (v := .ref (q_b G + p9)) (nx := 76) hO rfl rfl (hs_o7 kc103) (congrArg some (rv_at ep9)) rfl ?_
        refine s_getf (v := .int (sI s8 p9 2)) (nx := 79) hO rfl rfl (hs_o3 kp9) rfl rfl ?_
        refine s_iconst (x := 1) (nx := 80) hO rfl (by decide) rfl ?_
        refine s_isub (nx := 81) hO rfl rfl ?_
        exact s_iret hO rfl rfl rfl ⟨rfl, _, _, rfl, rfl, H⟩
      · replace H := H.2 c40
        refine s_bipush (x := (nI 63)) (nx := 45) hO rfl (by decide) rfl ?_
        exact s_iret hO rfl rfl rfl ⟨rfl, _, _, rfl, rfl, H⟩
    · replace H := H.2 c10
      refine s_aload_n (nx := 14) hO rfl rfl rfl ?_
      refine s_getf (v := .ref (q_b G + 106)) (nx := 17) hO rfl rfl (hs_o7 kc103) rfl rfl ?_
      refine s_iload_n (nx := 18) hO rfl rfl rfl ?_
      obtain ⟨b10, H⟩ := H
      refine s_iald (nx := 19) hO rfl (hs_I kc106) b10 rfl ?_
      refine s_iload_n (nx := 20) hO rfl rfl rfl ?_
      refine s_icmp_ne (nx := 23) hO rfl rfl (fun c20 => ?_) (fun c20 => ?_)
      · replace H := H.1 c20
        refine goV ((x1 + 1)) (fun x11 ex11 => ?_)
        replace H := H x11 ex11
        refine e_iinc (nx := 28) (l' := [(2, .int x11), (0, .ref (q_b G + 103)), (1, .int v1)]) ex11 hO rfl (by decide) rfl rfl rfl rfl ?_
        refine s_goto hO rfl ?_
        exact xEx.loc (x_sub1 (List.Mem.tail _ (List.Mem.head _)) (x_sub1 (List.Mem.tail _ (List.Mem.tail _ (List.Mem.head _))) (x_sub1 (List.Mem.head _) x_sub0))) H
      · replace H := H.2 c20
        refine s_iload_n (nx := 24) hO rfl rfl rfl ?_
        exact s_iret hO rfl rfl rfl ⟨rfl, _, _, rfl, rfl, H⟩
  refine s_istore_n (nx := 2) (l' := [(2, .int 0), (0, .ref (q_b G + 103)), (1, .int v1)]) hO rfl (by decide) rfl rfl ?_
  exact xEx.loc (x_sub1 (List.Mem.tail _ (List.Mem.head _)) (x_sub1 (List.Mem.tail _ (List.Mem.tail _ (List.Mem.head _))) (x_sub1 (List.Mem.head _) x_sub0))) H
def W_X7_makeSets (s : yS) (Q : Int32 → yS → Prop) : Prop :=
 ∃ p1 : Nat, sR s 103 0 = p1 + 1 ∧ kd p1 = some (7, 0) ∧ 
 ∀ s2 : yS, s2 = wI s p1 2 1 → 
 vp_in 0 63 ∧ ∀ s4 : yS, s4 = wI s2 106 (ix 0) 1 → 
 ∀ P17 : Int32 → yS → Prop, (∀ (x5 : Int32) (s6 : yS), (∃ p7 : Nat, sR s6 103 0 = p7 + 1 ∧ kd p7 = some (7, 0) ∧ 
  (((sI s6 p7 2) ≤ x5 → Q 1 s6)
  ∧ (¬ (sI s6 p7 2) ≤ x5 → (((nI 63) ≤ x5 → Q 1 s6)
   ∧ (¬ (nI 63) ≤ x5 → ∀ P36 : Int32 → yS → Prop, (∀ (x8 : Int32) (s9 : yS), ((((sI s9 103 1) ≤ x8 → ∀ x10 : Int32, x10 = (x5 + 1) → 
      P17 x10 s9)
     ∧ (¬ (sI s9 103 1) ≤ x8 → vp_in x5 63 ∧ 
      W_X7_leadSet s9 (sI s9 106 (ix x5)) x8 
      (fun r12 => ∀ P69 : Int32 → yS → Prop, (∀ (y13 : Int32) (s14 : yS), (((¬ y13 = (nI 63) → vp_in ((x5 * (nI 512)) + x8) 32256 ∧ ∀ s16 : yS, s16 = wI s14 107 (ix ((x5 * (nI 512)) + x8)) y13 → 
        ∀ x17 : Int32, x17 = (x8 + 1) → 
        P36 x17 s16)
       ∧ (y13 = (nI 63) → Q 0 s14))) → P69 y13 s14) → 
      ((¬ r12 = 0 → W_X7_setIndex s9 r12 
       (fun r18 s19 => P69 r18 s19))
      ∧ (r12 = 0 → P69 (-1) s9)))))) → P36 x8 s9) → 
    P36 0 s6))))) → P17 x5 s6) → 
 P17 0 s4
set_option maxRecDepth 100000 in
set_option maxHeartbeats 40000000 in
theorem w_X7_makeSets {G : xG} (hG : yG G) {z : Nat} {s : yS} {Q : Int32 → yS → Prop} (H : W_X7_makeSets s Q) : xC G mX7_makeSets [.ref (q_b G + 103)] (hS G s) z 0 0 (yQi G z Q) := by
  have hW := hG.1
  have hcl := hG.2.1
  have hty := hG.2.2.1
  have hO : xO G mX7_makeSets tbX7_makeSets ptX7_makeSets := ⟨tkX7_makeSets, pkX7_makeSets hcl⟩
  unfold W_X7_makeSets at H
  refine xC.of hW (by decide) rfl (Nat.le_of_ble_eq_true rfl) ?_
  refine s_aload_n (nx := 1) hO rfl rfl rfl ?_
  obtain ⟨p1, ep1, kp1, H⟩ := H
  refine s_getf (v := .ref (q_b G + p1)) (nx := 4) hO rfl rfl (hs_o7 kc103) (congrArg some (rv_at ep1)) rfl ?_
  refine s_iconst (x := 1) (nx := 5) hO rfl (by decide) rfl ?_
  refine goV (wI s p1 2 1) (fun s2 es2 => ?_)
  replace H := H s2 es2
  refine s_putf (nx := 8) hO rfl rfl (hs_o3 kp1) (Nat.le_of_ble_eq_true rfl) (by rw [hty]; rfl) (by rw [hty]; rfl) pX3_2 rfl ?_
  refine xEx.at (up_oI3 kp1 es2) ?_
  refine s_aload_n (nx := 9) hO rfl rfl rfl ?_
  refine s_getf (v := .ref (q_b G + 106)) (nx := 12) hO rfl rfl (hs_o7 kc103) rfl rfl ?_
  refine s_iconst (x := 0) (nx := 13) hO rfl (by decide) rfl ?_
  refine s_iconst (x := 1) (nx := 14) hO rfl (by decide) rfl ?_
  obtain ⟨b3, H⟩ := H
  refine goV (wI s2 106 (ix 0) 1) (fun s4 es4 => ?_)
  replace H := H s4 es4
  refine s_iast (nx := 15) hO rfl (hs_I kc106) b3 rfl ?_
  refine xEx.at (up_I kc106 es4) ?_
  refine s_iconst (x := 0) (nx := 16) hO rfl (by decide) rfl ?_
  refine goK (H (fun (x5 : Int32) (s6 : yS) => xEx G mX7_makeSets 17 [(0, .ref (q_b G + 103)), (1, .int x5)] [] (hS G s6) z 0 0 (yQi G z Q)) (fun x5 s6 H => ?_)) (fun H => ?_)
  · show xEx G mX7_makeSets 17 [(0, .ref (q_b G + 103)), (1, .int x5)] [] (hS G s6) z 0 0 (yQi G z Q)
    refine s_iload_n (nx := 18) hO rfl rfl rfl ?_
    refine s_aload_n (nx := 19) hO rfl rfl rfl ?_
    obtain ⟨p7, ep7, kp7, H⟩ := H
    refine s_getf (v := .ref (q_b G + p7)) (nx := 22) hO rfl rfl (hs_o7 kc103) (congrArg some (rv_at ep7)) rfl ?_
    refine s_getf (v := .int (sI s6 p7 2)) (nx := 25) hO rfl rfl (hs_o3 kp7) rfl rfl ?_
    refine s_icmp_ge (nx := 28) hO rfl rfl (fun c25 => ?_) (fun c25 => ?_)
    · replace H := H.1 c25
      refine s_iconst (x := 1) (nx := 107) hO rfl (by decide) rfl ?_
      exact s_iret hO rfl rfl rfl ⟨rfl, _, _, rfl, rfl, H⟩
    · replace H := H.2 c25
      refine s_iload_n (nx := 29) hO rfl rfl rfl ?_
      refine s_bipush (x := (nI 63)) (nx := 31) hO rfl (by decide) rfl ?_
      refine s_icmp_ge (nx := 34) hO rfl rfl (fun c31 => ?_) (fun c31 => ?_)
      · replace H := H.1 c31
        refine s_iconst (x := 1) (nx := 107) hO rfl (by decide) rfl ?_
        exact s_iret hO rfl rfl rfl ⟨rfl, _, _, rfl, rfl, H⟩
      · replace H := H.2 c31
        refine s_iconst (x := 0) (nx := 35) hO rfl (by decide) rfl ?_
        refine goK (H (fun (x8 : Int32) (s9 : yS) => xEx G mX7_makeSets 36 [(0, .ref (q_b G + 103)), (1, .int x5), (2, .int x8)] [] (hS G s9) z 0 0 (yQi G z Q)) (fun x8 s9 H => ?_)) (fun H => ?_)
        · show xEx G mX7_makeSets 36 [(0, .ref (q_b G + 103)), (1, .int x5), (2, .int x8)] [] (hS G s9) z 0 0 (yQi G z Q)
          refine s_iload_n (nx := 37) hO rfl rfl rfl ?_
          refine s_aload_n (nx := 38) hO rfl rfl rfl ?_
          refine s_getf (v := .int (sI s9 103 1)) (nx := 41) hO rfl rfl (hs_o7 kc103) rfl rfl ?_
          refine s_icmp_ge (nx := 44) hO rfl rfl (fun c41 => ?_) (fun c41 => ?_)
          · replace H := H.1 c41
            refine goV ((x5 + 1)) (fun x10 ex10 => ?_)
            replace H := H x10 ex10
            refine e_iinc (nx := 103) (l' := [(1, .int x10), (0, .ref (q_b G + 103)), (2, .int x8)]) ex10 hO rfl (by decide) rfl rfl rfl rfl ?_
            refine s_goto hO rfl ?_
            exact xEx.loc (x_sub1 (List.Mem.tail _ (List.Mem.head _)) (x_sub1 (List.Mem.head _) x_sub0)) H
          · replace H := H.2 c41
            refine s_aload_n (nx := 45) hO rfl rfl rfl ?_
            refine s_aload_n (nx := 46) hO rfl rfl rfl ?_
            refine s_getf (v := .ref (q_b G + 106)) (nx := 49) hO rfl rfl (hs_o7 kc103) rfl rfl ?_
            refine s_iload_n (nx := 50) hO rfl rfl rfl ?_
            obtain ⟨b11, H⟩ := H
            refine s_iald (nx := 51) hO rfl (hs_I kc106) b11 rfl ?_
            refine s_iload_n (nx := 52) hO rfl rfl rfl ?_
            refine s_callV [.int (sI s9 106 (ix x5)), .int x8] (ci := 7) (F := TX7) (N := 12) (nx := 55) hO rfl kX7_makeSets_111 (by rw [hcl]; rfl) (hs_o7 kc103) (w_X7_leadSet hG H) rfl rfl (Nat.le_of_ble_eq_true rfl) (Nat.zero_le _) (Nat.zero_le _) rfl (k_Pi (fun r12 H => ?_))
            refine s_istore_n (nx := 56) (l' := [(3, .int r12), (0, .ref (q_b G + 103)), (1, .int x5), (2, .int x8)]) hO rfl (by decide) rfl rfl ?_
            refine s_iload_n (nx := 57) hO rfl rfl rfl ?_
            refine goK (H (fun (y13 : Int32) (s14 : yS) => xEx G mX7_makeSets 69 [(0, .ref (q_b G + 103)), (1, .int x5), (2, .int x8)] [.int y13] (hS G s14) z 0 0 (yQi G z Q)) (fun y13 s14 H => ?_)) (fun H => ?_)
            · show xEx G mX7_makeSets 69 [(0, .ref (q_b G + 103)), (1, .int x5), (2, .int x8)] [.int y13] (hS G s14) z 0 0 (yQi G z Q)
              refine s_istore (nx := 71) (l' := [(4, .int y13), (0, .ref (q_b G + 103)), (1, .int x5), (2, .int x8)]) hO rfl (by decide) rfl rfl ?_
              refine s_iload (nx := 73) hO rfl rfl rfl ?_
              refine s_bipush (x := (nI 63)) (nx := 75) hO rfl (by decide) rfl ?_
              refine s_icmp_ne (nx := 78) hO rfl rfl (fun c75 => ?_) (fun c75 => ?_)
              · replace H := H.1 c75
                refine s_aload_n (nx := 81) hO rfl rfl rfl ?_
                refine s_getf (v := .ref (q_b G + 107)) (nx := 84) hO rfl rfl (hs_o7 kc103) rfl rfl ?_
                refine s_iload_n (nx := 85) hO rfl rfl rfl ?_
                refine s_sipush (x := (nI 512)) (nx := 88) hO rfl (by decide) rfl ?_
                refine s_imul (nx := 89) hO rfl rfl ?_
                refine s_iload_n (nx := 90) hO rfl rfl rfl ?_
                refine s_iadd (nx := 91) hO rfl rfl ?_
                refine s_iload (nx := 93) hO rfl rfl rfl ?_
                obtain ⟨b15, H⟩ := H
                refine goV (wI s14 107 (ix ((x5 * (nI 512)) + x8)) y13) (fun s16 es16 => ?_)
                replace H := H s16 es16
                refine s_iast (nx := 94) hO rfl (hs_I kc107) b15 rfl ?_
                refine xEx.at (up_I kc107 es16) ?_
                refine goV ((x8 + 1)) (fun x17 ex17 => ?_)
                replace H := H x17 ex17
                refine e_iinc (nx := 97) (l' := [(2, .int x17), (4, .int y13), (0, .ref (q_b G + 103)), (1, .int x5)]) ex17 hO rfl (by decide) rfl rfl rfl rfl ?_
                refine s_goto hO rfl ?_
                exact xEx.loc (x_sub1 (List.Mem.tail _ (List.Mem.tail _ (List.Mem.head _))) (x_sub1 (List.Mem.tail _ (List.Mem.tail _ (List.Mem.tail _ (List.Mem.head _)))) (x_sub1 (List.Mem.head _) x_sub0))) H
              · replace H := H.2 c75
                refine s_iconst (x := 0) (nx := 79) hO rfl (by decide) rfl ?_
                exact s_iret hO rfl rfl rfl ⟨rfl, _, _, rfl, rfl, H⟩
            refine s_if_ne (nx := 60) hO rfl rfl (fun c57 => ?_) (fun c57 => ?_)
            · replace H := H.1 c57
              refine s_aload_n (nx := 65) hO rfl rfl rfl ?_
              refine s_iload_n (nx := 66) hO rfl rfl rfl ?_
              refine s_callV [.int r12] (ci := 7) (F := TX7) (N := 12) (nx := 69) hO rfl kX7_makeSets_114 (by rw [hcl]; rfl) (hs_o7 kc103) (w_X7_setIndex hG H) rfl rfl (Nat.le_of_ble_eq_true rfl) (Nat.zero_le _) (Nat.zero_le _) rfl (k_Qi (fun r18 s19 H => ?_))
              exact xEx.loc (x_sub1 (List.Mem.tail _ (List.Mem.head _)) (x_sub1 (List.Mem.tail _ (List.Mem.tail _ (List.Mem.head _))) (x_sub1 (List.Mem.tail _ (List.Mem.tail _ (List.Mem.tail _ (List.Mem.head _)))) x_sub0))) H
            · replace H := H.2 c57
              refine s_iconst (x := (-1)) (nx := 61) hO rfl (by decide) rfl ?_
              refine s_goto hO rfl ?_
              exact xEx.loc (x_sub1 (List.Mem.tail _ (List.Mem.head _)) (x_sub1 (List.Mem.tail _ (List.Mem.tail _ (List.Mem.head _))) (x_sub1 (List.Mem.tail _ (List.Mem.tail _ (List.Mem.tail _ (List.Mem.head _)))) x_sub0))) H
        refine s_istore_n (nx := 36) (l' := [(2, .int 0), (0, .ref (q_b G + 103)), (1, .int x5)]) hO rfl (by decide) rfl rfl ?_
        exact xEx.loc (x_sub1 (List.Mem.tail _ (List.Mem.head _)) (x_sub1 (List.Mem.tail _ (List.Mem.tail _ (List.Mem.head _))) (x_sub1 (List.Mem.head _) x_sub0))) H
  refine s_istore_n (nx := 17) (l' := [(1, .int 0), (0, .ref (q_b G + 103))]) hO rfl (by decide) rfl rfl ?_
  exact xEx.loc (x_sub1 (List.Mem.tail _ (List.Mem.head _)) (x_sub1 (List.Mem.head _) x_sub0)) H
def W_X7_keyOf (s : yS) (v1 : Int32) (v2 : Int32) (Q : Int32 → Prop) : Prop :=
 vp_in ((v1 * (nI 512)) + v2) 32256 ∧ 
 ∀ x2 : Int32, x2 = (sI s 107 (ix ((v1 * (nI 512)) + v2))) → 
 vp_in v1 63 ∧ 
 ((¬ x2 = (-1) → vp_in x2 63 ∧ 
  Q (((sI s 108 (ix v1)) * (nI 64)) + (sI s 108 (ix x2))))
 ∧ (x2 = (-1) → Q (((sI s 108 (ix v1)) * (nI 64)) + (nI 63))))
set_option maxRecDepth 100000 in
set_option maxHeartbeats 40000000 in
theorem w_X7_keyOf {G : xG} (hG : yG G) {z : Nat} {s : yS} {v1 : Int32} {v2 : Int32} {Q : Int32 → Prop} (H : W_X7_keyOf s v1 v2 Q) : xC G mX7_keyOf [.ref (q_b G + 103), .int v1, .int v2] (hS G s) z 0 0 (yPi G z s Q) := by
  have hW := hG.1
  have hcl := hG.2.1
  have hty := hG.2.2.1
  have hO : xO G mX7_keyOf tbX7_keyOf ptX7_keyOf := ⟨tkX7_keyOf, pkX7_keyOf hcl⟩
  unfold W_X7_keyOf at H
  refine xC.of hW (by decide) rfl (Nat.le_of_ble_eq_true rfl) ?_
  refine s_aload_n (nx := 1) hO rfl rfl rfl ?_
  refine s_getf (v := .ref (q_b G + 107)) (nx := 4) hO rfl rfl (hs_o7 kc103) rfl rfl ?_
  refine s_iload_n (nx := 5) hO rfl rfl rfl ?_
  refine s_sipush (x := (nI 512)) (nx := 8) hO rfl (by decide) rfl ?_
  refine s_imul (nx := 9) hO rfl rfl ?_
  refine s_iload_n (nx := 10) hO rfl rfl rfl ?_
  refine s_iadd (nx := 11) hO rfl rfl ?_
  obtain ⟨b1, H⟩ := H
  refine s_iald (nx := 12) hO rfl (hs_I kc107) b1 rfl ?_
  refine goV ((sI s 107 (ix ((v1 * (nI 512)) + v2)))) (fun x2 ex2 => ?_)
  replace H := H x2 ex2
  refine e_istore_n (nx := 13) (l' := [(3, .int x2), (0, .ref (q_b G + 103)), (1, .int v1), (2, .int v2)]) ex2 hO rfl (by decide) rfl rfl ?_
  refine s_aload_n (nx := 14) hO rfl rfl rfl ?_
  refine s_getf (v := .ref (q_b G + 108)) (nx := 17) hO rfl rfl (hs_o7 kc103) rfl rfl ?_
  refine s_iload_n (nx := 18) hO rfl rfl rfl ?_
  obtain ⟨b3, H⟩ := H
  refine s_iald (nx := 19) hO rfl (hs_I kc108) b3 rfl ?_
  refine s_bipush (x := (nI 64)) (nx := 21) hO rfl (by decide) rfl ?_
  refine s_imul (nx := 22) hO rfl rfl ?_
  refine s_iload_n (nx := 23) hO rfl rfl rfl ?_
  refine s_iconst (x := (-1)) (nx := 24) hO rfl (by decide) rfl ?_
  refine s_icmp_ne (nx := 27) hO rfl rfl (fun c24 => ?_) (fun c24 => ?_)
  · replace H := H.1 c24
    refine s_aload_n (nx := 33) hO rfl rfl rfl ?_
    refine s_getf (v := .ref (q_b G + 108)) (nx := 36) hO rfl rfl (hs_o7 kc103) rfl rfl ?_
    refine s_iload_n (nx := 37) hO rfl rfl rfl ?_
    obtain ⟨b4, H⟩ := H
    refine s_iald (nx := 38) hO rfl (hs_I kc108) b4 rfl ?_
    refine s_iadd (nx := 39) hO rfl rfl ?_
    exact s_iret hO rfl rfl rfl ⟨rfl, _, rfl, rfl, H⟩
  · replace H := H.2 c24
    refine s_bipush (x := (nI 63)) (nx := 29) hO rfl (by decide) rfl ?_
    refine s_goto hO rfl ?_
    refine s_iadd (nx := 39) hO rfl rfl ?_
    exact s_iret hO rfl rfl rfl ⟨rfl, _, rfl, rfl, H⟩
def W_X7_divideBy (s : yS) (v1 : Int32) (Q : Int32 → yS → Prop) : Prop :=
 ∀ P4 : Int32 → Int32 → yS → Prop, (∀ (x1 : Int32) (x2 : Int32) (s3 : yS), (∃ p4 : Nat, sR s3 103 0 = p4 + 1 ∧ kd p4 = some (7, 0) ∧ 
  (((sI s3 p4 2) ≤ x2 → ∀ P66 : Int32 → yS → Prop, (∀ (x5 : Int32) (s6 : yS), (∃ p7 : Nat, sR s6 103 0 = p7 + 1 ∧ kd p7 = some (7, 0) ∧ 
    (((sI s6 p7 2) ≤ x5 → ∀ P108 : Int32 → Prop, (∀ (y8 : Int32), (((y8 = 0 → zb y8 ∧ Q y8 s6)
      ∧ (¬ y8 = 0 → ∃ p10 : Nat, sR s6 103 0 = p10 + 1 ∧ kd p10 = some (7, 0) ∧ 
       (¬ (0 : Int32) < 0 ∧ ¬ (0 : Int32) < 0 ∧ ¬ ((sI s6 p10 2) : Int32) < 0 ∧ ix 0 + ix (sI s6 p10 2) ≤ 63 ∧ ix 0 + ix (sI s6 p10 2) ≤ 63) ∧ ∀ s11 : yS, s11 = wC s6 108 (va_cpy (sI s6 109) (sI s6 108) (ix 0) (ix 0) (ix (sI s6 p10 2))) → 
       ∀ s13 : yS, s13 = wI s11 103 2 x1 → 
       zb y8 ∧ Q y8 s13))) → P108 y8) → 
     ((x1 ≤ (sI s6 103 2) → P108 0)
     ∧ (¬ x1 ≤ (sI s6 103 2) → P108 1)))
    ∧ (¬ (sI s6 p7 2) ≤ x5 → W_X7_keyOf s6 x5 v1 
     (fun r15 => vp_in r15 4096 ∧ ∀ s17 : yS, s17 = wI s6 110 (ix r15) (-1) → 
     ∀ x18 : Int32, x18 = (x5 + 1) → 
     P66 x18 s17)))) → P66 x5 s6) → 
   P66 0 s3)
  ∧ (¬ (sI s3 p4 2) ≤ x2 → W_X7_keyOf s3 x2 v1 
   (fun r19 => vp_in r19 4096 ∧ 
   ∀ P45 : Int32 → yS → Prop, (∀ (x21 : Int32) (s22 : yS), (vp_in r19 4096 ∧ 
    vp_in x2 63 ∧ ∀ s25 : yS, s25 = wI s22 109 (ix x2) (sI s22 110 (ix r19)) → 
    ∀ x26 : Int32, x26 = (x2 + 1) → 
    P4 x21 x26 s25) → P45 x21 s22) → 
   ((¬ (sI s3 110 (ix r19)) = (-1) → P45 x1 s3)
   ∧ ((sI s3 110 (ix r19)) = (-1) → vp_in r19 4096 ∧ ∀ s28 : yS, s28 = wI s3 110 (ix r19) x1 → 
    ∀ x29 : Int32, x29 = (x1 + 1) → 
    P45 x29 s28)))))) → P4 x1 x2 s3) → 
 P4 0 0 s
set_option maxRecDepth 100000 in
set_option maxHeartbeats 40000000 in
theorem w_X7_divideBy {G : xG} (hG : yG G) {z : Nat} {s : yS} {v1 : Int32} {Q : Int32 → yS → Prop} (H : W_X7_divideBy s v1 Q) : xC G mX7_divideBy [.ref (q_b G + 103), .int v1] (hS G s) z 0 0 (yQi G z Q) := by
  have hW := hG.1
  have hcl := hG.2.1
  have hty := hG.2.2.1
  have hO : xO G mX7_divideBy tbX7_divideBy ptX7_divideBy := ⟨tkX7_divideBy, pkX7_divideBy hcl⟩
  unfold W_X7_divideBy at H
  refine xC.of hW (by decide) rfl (Nat.le_of_ble_eq_true rfl) ?_
  refine s_iconst (x := 0) (nx := 1) hO rfl (by decide) rfl ?_
  refine s_istore_n (nx := 2) (l' := [(2, .int 0), (0, .ref (q_b G + 103)), (1, .int v1)]) hO rfl (by decide) rfl rfl ?_
  refine s_iconst (x := 0) (nx := 3) hO rfl (by decide) rfl ?_
  refine goK (H (fun (x1 : Int32) (x2 : Int32) (s3 : yS) => xEx G mX7_divideBy 4 [(0, .ref (q_b G + 103)), (1, .int v1), (2, .int x1), (3, .int x2)] [] (hS G s3) z 0 0 (yQi G z Q)) (fun x1 x2 s3 H => ?_)) (fun H => ?_)
  · show xEx G mX7_divideBy 4 [(0, .ref (q_b G + 103)), (1, .int v1), (2, .int x1), (3, .int x2)] [] (hS G s3) z 0 0 (yQi G z Q)
    refine s_iload_n (nx := 5) hO rfl rfl rfl ?_
    refine s_aload_n (nx := 6) hO rfl rfl rfl ?_
    obtain ⟨p4, ep4, kp4, H⟩ := H
    refine s_getf (v := .ref (q_b G + p4)) (nx := 9) hO rfl rfl (hs_o7 kc103) (congrArg some (rv_at ep4)) rfl ?_
    refine s_getf (v := .int (sI s3 p4 2)) (nx := 12) hO rfl rfl (hs_o3 kp4) rfl rfl ?_
    refine s_icmp_ge (nx := 15) hO rfl rfl (fun c12 => ?_) (fun c12 => ?_)
    · replace H := H.1 c12
      refine s_iconst (x := 0) (nx := 65) hO rfl (by decide) rfl ?_
      refine goK (H (fun (x5 : Int32) (s6 : yS) => xEx G mX7_divideBy 66 [(0, .ref (q_b G + 103)), (1, .int v1), (2, .int x1), (3, .int x5)] [] (hS G s6) z 0 0 (yQi G z Q)) (fun x5 s6 H => ?_)) (fun H => ?_)
      · show xEx G mX7_divideBy 66 [(0, .ref (q_b G + 103)), (1, .int v1), (2, .int x1), (3, .int x5)] [] (hS G s6) z 0 0 (yQi G z Q)
        refine s_iload_n (nx := 67) hO rfl rfl rfl ?_
        refine s_aload_n (nx := 68) hO rfl rfl rfl ?_
        obtain ⟨p7, ep7, kp7, H⟩ := H
        refine s_getf (v := .ref (q_b G + p7)) (nx := 71) hO rfl rfl (hs_o7 kc103) (congrArg some (rv_at ep7)) rfl ?_
        refine s_getf (v := .int (sI s6 p7 2)) (nx := 74) hO rfl rfl (hs_o3 kp7) rfl rfl ?_
        refine s_icmp_ge (nx := 77) hO rfl rfl (fun c74 => ?_) (fun c74 => ?_)
        · replace H := H.1 c74
          refine s_iload_n (nx := 96) hO rfl rfl rfl ?_
          refine s_aload_n (nx := 97) hO rfl rfl rfl ?_
          refine s_getf (v := .int (sI s6 103 2)) (nx := 100) hO rfl rfl (hs_o7 kc103) rfl rfl ?_
          refine goK (H (fun (y8 : Int32) => xEx G mX7_divideBy 108 [(0, .ref (q_b G + 103)), (2, .int x1)] [.int y8] (hS G s6) z 0 0 (yQi G z Q)) (fun y8 H => ?_)) (fun H => ?_)
          · show xEx G mX7_divideBy 108 [(0, .ref (q_b G + 103)), (2, .int x1)] [.int y8] (hS G s6) z 0 0 (yQi G z Q)
            refine s_istore_n (nx := 109) (l' := [(3, .int y8), (0, .ref (q_b G + 103)), (2, .int x1)]) hO rfl (by decide) rfl rfl ?_
            refine s_iload_n (nx := 110) hO rfl rfl rfl ?_
            refine s_if_eq (nx := 113) hO rfl rfl (fun c110 => ?_) (fun c110 => ?_)
            · replace H := H.1 c110
              refine s_iload_n (nx := 139) hO rfl rfl rfl ?_
              obtain ⟨b9, H⟩ := H
              exact s_iret hO rfl rfl (zb_n b9) ⟨rfl, _, _, rfl, rfl, H⟩
            · replace H := H.2 c110
              refine s_aload_n (nx := 114) hO rfl rfl rfl ?_
              refine s_getf (v := .ref (q_b G + 109)) (nx := 117) hO rfl rfl (hs_o7 kc103) rfl rfl ?_
              refine s_iconst (x := 0) (nx := 118) hO rfl (by decide) rfl ?_
              refine s_aload_n (nx := 119) hO rfl rfl rfl ?_
              refine s_getf (v := .ref (q_b G + 108)) (nx := 122) hO rfl rfl (hs_o7 kc103) rfl rfl ?_
              refine s_iconst (x := 0) (nx := 123) hO rfl (by decide) rfl ?_
              refine s_aload_n (nx := 124) hO rfl rfl rfl ?_
              obtain ⟨p10, ep10, kp10, H⟩ := H
              refine s_getf (v := .ref (q_b G + p10)) (nx := 127) hO rfl rfl (hs_o7 kc103) (congrArg some (rv_at ep10)) rfl ?_
              refine s_getf (v := .int (sI s6 p10 2)) (nx := 130) hO rfl rfl (hs_o3 kp10) rfl rfl ?_
              obtain ⟨b12, H⟩ := H
              refine goV (wC s6 108 (va_cpy (sI s6 109) (sI s6 108) (ix 0) (ix 0) (ix (sI s6 p10 2)))) (fun s11 es11 => ?_)
              replace H := H s11 es11
              refine e_copy (nx := 133) hO rfl x_tyI rfl (hs_I kc109) (hs_I kc108) b12 (fun _ _ => rfl) (List.mem_cons_of_mem _ (ir35 _ (List.mem_of_getElem? (i := 2) rfl))) (List.mem_cons_of_mem _ (ir23 _ (List.mem_of_getElem? (i := 22) rfl))) (List.mem_cons_of_mem _ (ir23 _ (List.mem_of_getElem? (i := 23) rfl))) (List.mem_cons_of_mem _ (ir24 _ (List.mem_of_getElem? (i := 0) rfl))) (by decide) (Nat.le_of_ble_eq_true rfl) rfl (up_CI kc108 es11) ?_
              refine s_aload_n (nx := 134) hO rfl rfl rfl ?_
              refine s_iload_n (nx := 135) hO rfl rfl rfl ?_
              refine goV (wI s11 103 2 x1) (fun s13 es13 => ?_)
              replace H := H s13 es13
              refine s_putf (nx := 138) hO rfl rfl (hs_o7 kc103) (Nat.le_of_ble_eq_true rfl) (by rw [hty]; rfl) (by rw [hty]; rfl) pX7_2 rfl ?_
              refine xEx.at (up_oI7 kc103 es13) ?_
              refine s_iload_n (nx := 139) hO rfl rfl rfl ?_
              obtain ⟨b14, H⟩ := H
              exact s_iret hO rfl rfl (zb_n b14) ⟨rfl, _, _, rfl, rfl, H⟩
          refine s_icmp_le (nx := 103) hO rfl rfl (fun c100 => ?_) (fun c100 => ?_)
          · replace H := H.1 c100
            refine s_iconst (x := 0) (nx := 108) hO rfl (by decide) rfl ?_
            exact xEx.loc (x_sub1 (List.Mem.head _) (x_sub1 (List.Mem.tail _ (List.Mem.tail _ (List.Mem.head _))) x_sub0)) H
          · replace H := H.2 c100
            refine s_iconst (x := 1) (nx := 104) hO rfl (by decide) rfl ?_
            refine s_goto hO rfl ?_
            exact xEx.loc (x_sub1 (List.Mem.head _) (x_sub1 (List.Mem.tail _ (List.Mem.tail _ (List.Mem.head _))) x_sub0)) H
        · replace H := H.2 c74
          refine s_aload_n (nx := 78) hO rfl rfl rfl ?_
          refine s_getf (v := .ref (q_b G + 110)) (nx := 81) hO rfl rfl (hs_o7 kc103) rfl rfl ?_
          refine s_aload_n (nx := 82) hO rfl rfl rfl ?_
          refine s_iload_n (nx := 83) hO rfl rfl rfl ?_
          refine s_iload_n (nx := 84) hO rfl rfl rfl ?_
          refine s_callV [.int x5, .int v1] (ci := 7) (F := TX7) (N := 12) (nx := 87) hO rfl kX7_divideBy_124 (by rw [hcl]; rfl) (hs_o7 kc103) (w_X7_keyOf hG H) rfl rfl (Nat.le_of_ble_eq_true rfl) (Nat.zero_le _) (Nat.zero_le _) rfl (k_Pi (fun r15 H => ?_))
          refine s_iconst (x := (-1)) (nx := 88) hO rfl (by decide) rfl ?_
          obtain ⟨b16, H⟩ := H
          refine goV (wI s6 110 (ix r15) (-1)) (fun s17 es17 => ?_)
          replace H := H s17 es17
          refine s_iast (nx := 89) hO rfl (hs_I kc110) b16 rfl ?_
          refine xEx.at (up_I kc110 es17) ?_
          refine goV ((x5 + 1)) (fun x18 ex18 => ?_)
          replace H := H x18 ex18
          refine e_iinc (nx := 92) (l' := [(3, .int x18), (0, .ref (q_b G + 103)), (1, .int v1), (2, .int x1)]) ex18 hO rfl (by decide) rfl rfl rfl rfl ?_
          refine s_goto hO rfl ?_
          exact xEx.loc (x_sub1 (List.Mem.tail _ (List.Mem.head _)) (x_sub1 (List.Mem.tail _ (List.Mem.tail _ (List.Mem.head _))) (x_sub1 (List.Mem.tail _ (List.Mem.tail _ (List.Mem.tail _ (List.Mem.head _)))) (x_sub1 (List.Mem.head _) x_sub0)))) H
      refine s_istore_n (nx := 66) (l' := [(3, .int 0), (0, .ref (q_b G + 103)), (1, .int v1), (2, .int x1)]) hO rfl (by decide) rfl rfl ?_
      exact xEx.loc (x_sub1 (List.Mem.tail _ (List.Mem.head _)) (x_sub1 (List.Mem.tail _ (List.Mem.tail _ (List.Mem.head _))) (x_sub1 (List.Mem.tail _ (List.Mem.tail _ (List.Mem.tail _ (List.Mem.head _)))) (x_sub1 (List.Mem.head _) x_sub0)))) H
    · replace H := H.2 c12
      refine s_aload_n (nx := 16) hO rfl rfl rfl ?_
      refine s_iload_n (nx := 17) hO rfl rfl rfl ?_
      refine s_iload_n (nx := 18) hO rfl rfl rfl ?_
      refine s_callV [.int x2, .int v1] (ci := 7) (F := TX7) (N := 12) (nx := 21) hO rfl kX7_divideBy_124 (by rw [hcl]; rfl) (hs_o7 kc103) (w_X7_keyOf hG H) rfl rfl (Nat.le_of_ble_eq_true rfl) (Nat.zero_le _) (Nat.zero_le _) rfl (k_Pi (fun r19 H => ?_))
      refine s_istore (nx := 23) (l' := [(4, .int r19), (0, .ref (q_b G + 103)), (1, .int v1), (2, .int x1), (3, .int x2)]) hO rfl (by decide) rfl rfl ?_
      refine s_aload_n (nx := 24) hO rfl rfl rfl ?_
      refine s_getf (v := .ref (q_b G + 110)) (nx := 27) hO rfl rfl (hs_o7 kc103) rfl rfl ?_
      refine s_iload (nx := 29) hO rfl rfl rfl ?_
      obtain ⟨b20, H⟩ := H
      refine s_iald (nx := 30) hO rfl (hs_I kc110) b20 rfl ?_
      refine s_iconst (x := (-1)) (nx := 31) hO rfl (by decide) rfl ?_
      refine goK (H (fun (x21 : Int32) (s22 : yS) => xEx G mX7_divideBy 45 [(0, .ref (q_b G + 103)), (1, .int v1), (2, .int x21), (3, .int x2), (4, .int r19)] [] (hS G s22) z 0 0 (yQi G z Q)) (fun x21 s22 H => ?_)) (fun H => ?_)
      · show xEx G mX7_divideBy 45 [(0, .ref (q_b G + 103)), (1, .int v1), (2, .int x21), (3, .int x2), (4, .int r19)] [] (hS G s22) z 0 0 (yQi G z Q)
        refine s_aload_n (nx := 46) hO rfl rfl rfl ?_
        refine s_getf (v := .ref (q_b G + 109)) (nx := 49) hO rfl rfl (hs_o7 kc103) rfl rfl ?_
        refine s_iload_n (nx := 50) hO rfl rfl rfl ?_
        refine s_aload_n (nx := 51) hO rfl rfl rfl ?_
        refine s_getf (v := .ref (q_b G + 110)) (nx := 54) hO rfl rfl (hs_o7 kc103) rfl rfl ?_
        refine s_iload (nx := 56) hO rfl rfl rfl ?_
        obtain ⟨b23, H⟩ := H
        refine s_iald (nx := 57) hO rfl (hs_I kc110) b23 rfl ?_
        obtain ⟨b24, H⟩ := H
        refine goV (wI s22 109 (ix x2) (sI s22 110 (ix r19))) (fun s25 es25 => ?_)
        replace H := H s25 es25
        refine s_iast (nx := 58) hO rfl (hs_I kc109) b24 rfl ?_
        refine xEx.at (up_I kc109 es25) ?_
        refine goV ((x2 + 1)) (fun x26 ex26 => ?_)
        replace H := H x26 ex26
        refine e_iinc (nx := 61) (l' := [(3, .int x26), (0, .ref (q_b G + 103)), (1, .int v1), (2, .int x21), (4, .int r19)]) ex26 hO rfl (by decide) rfl rfl rfl rfl ?_
        refine s_goto hO rfl ?_
        exact xEx.loc (x_sub1 (List.Mem.tail _ (List.Mem.head _)) (x_sub1 (List.Mem.tail _ (List.Mem.tail _ (List.Mem.head _))) (x_sub1 (List.Mem.tail _ (List.Mem.tail _ (List.Mem.tail _ (List.Mem.head _)))) (x_sub1 (List.Mem.head _) x_sub0)))) H
      refine s_icmp_ne (nx := 34) hO rfl rfl (fun c31 => ?_) (fun c31 => ?_)
      · replace H := H.1 c31
        exact xEx.loc (x_sub1 (List.Mem.tail _ (List.Mem.head _)) (x_sub1 (List.Mem.tail _ (List.Mem.tail _ (List.Mem.head _))) (x_sub1 (List.Mem.tail _ (List.Mem.tail _ (List.Mem.tail _ (List.Mem.head _)))) (x_sub1 (List.Mem.tail _ (List.Mem.tail _ (List.Mem.tail _ (List.Mem.tail _ (List.Mem.head _))))) (x_sub1 (List.Mem.head _) x_sub0))))) H
      · replace H := H.2 c31
        refine s_aload_n (nx := 35) hO rfl rfl rfl ?_
        refine s_getf (v := .ref (q_b G + 110)) (nx := 38) hO rfl rfl (hs_o7 kc103) rfl rfl ?_
        refine s_iload (nx := 40) hO rfl rfl rfl ?_
        refine s_iload_n (nx := 41) hO rfl rfl rfl ?_
        obtain ⟨b27, H⟩ := H
        refine goV (wI s3 110 (ix r19) x1) (fun s28 es28 => ?_)
        replace H := H s28 es28
        refine s_iast (nx := 42) hO rfl (hs_I kc110) b27 rfl ?_
        refine xEx.at (up_I kc110 es28) ?_
        refine goV ((x1 + 1)) (fun x29 ex29 => ?_)
        replace H := H x29 ex29
        refine e_iinc (nx := 45) (l' := [(2, .int x29), (4, .int r19), (0, .ref (q_b G + 103)), (1, .int v1), (3, .int x2)]) ex29 hO rfl (by decide) rfl rfl rfl rfl ?_
        exact xEx.loc (x_sub1 (List.Mem.tail _ (List.Mem.tail _ (List.Mem.head _))) (x_sub1 (List.Mem.tail _ (List.Mem.tail _ (List.Mem.tail _ (List.Mem.head _)))) (x_sub1 (List.Mem.head _) (x_sub1 (List.Mem.tail _ (List.Mem.tail _ (List.Mem.tail _ (List.Mem.tail _ (List.Mem.head _))))) (x_sub1 (List.Mem.tail _ (List.Mem.head _)) x_sub0))))) H
  refine s_istore_n (nx := 4) (l' := [(3, .int 0), (2, .int 0), (0, .ref (q_b G + 103)), (1, .int v1)]) hO rfl (by decide) rfl rfl ?_
  exact xEx.loc (x_sub1 (List.Mem.tail _ (List.Mem.tail _ (List.Mem.head _))) (x_sub1 (List.Mem.tail _ (List.Mem.tail _ (List.Mem.tail _ (List.Mem.head _)))) (x_sub1 (List.Mem.tail _ (List.Mem.head _)) (x_sub1 (List.Mem.head _) x_sub0)))) H
def W_X7_divideGroups (s : yS) (Q : yS → Prop) : Prop :=
 W_J7_fill_53178 s 108 63 0 
 (fun s1 => ∀ s2 : yS, s2 = wI s1 103 2 1 → 
 ∀ P17 : Int32 → Int32 → yS → Prop, (∀ (x3 : Int32) (x4 : Int32) (s5 : yS), ((((nI 63) < x4 → Q s5)
  ∧ (¬ (nI 63) < x4 → ((x3 = 0 → Q s5)
   ∧ (¬ x3 = 0 → ∀ P31 : Int32 → Int32 → yS → Prop, (∀ (x6 : Int32) (x7 : Int32) (s8 : yS), ((((sI s8 103 1) ≤ x7 → ∀ x9 : Int32, x9 = (x4 + 1) → 
      P17 x6 x9 s8)
     ∧ (¬ (sI s8 103 1) ≤ x7 → W_X7_divideBy s8 x7 
      (fun r10 s11 => ∀ P49 : Int32 → Prop, (∀ (x12 : Int32), (∀ x13 : Int32, x13 = (x7 + 1) → 
       P31 x12 x13 s11) → P49 x12) → 
      ((r10 = 0 → P49 x6)
      ∧ (¬ r10 = 0 → P49 1)))))) → P31 x6 x7 s8) → 
    P31 0 0 s5))))) → P17 x3 x4 s5) → 
 P17 1 0 s2)
set_option maxRecDepth 100000 in
set_option maxHeartbeats 40000000 in
theorem w_X7_divideGroups {G : xG} (hG : yG G) {z : Nat} {s : yS} {Q : yS → Prop} (H : W_X7_divideGroups s Q) : xC G mX7_divideGroups [.ref (q_b G + 103)] (hS G s) z 0 0 (yQv G z Q) := by
  have hW := hG.1
  have hcl := hG.2.1
  have hty := hG.2.2.1
  have hO : xO G mX7_divideGroups tbX7_divideGroups ptX7_divideGroups := ⟨tkX7_divideGroups, pkX7_divideGroups hcl⟩
  unfold W_X7_divideGroups at H
  refine xC.of hW (by decide) rfl (Nat.le_of_ble_eq_true rfl) ?_
  refine s_aload_n (nx := 1) hO rfl rfl rfl ?_
  refine s_getf (v := .ref (q_b G + 108)) (nx := 4) hO rfl rfl (hs_o7 kc103) rfl rfl ?_
  refine s_iconst (x := 0) (nx := 5) hO rfl (by decide) rfl ?_
  refine s_callS [.ref (q_b G + 108), .int 0] (nx := 8) hO rfl kX7_divideGroups_39 (w_J7_fill_53178 hG kc108 H) rfl rfl (Nat.le_of_ble_eq_true rfl) (Nat.zero_le _) (Nat.zero_le _) rfl (k_Qv (fun s1 H => ?_))
  refine s_aload_n (nx := 9) hO rfl rfl rfl ?_
  refine s_iconst (x := 1) (nx := 10) hO rfl (by decide) rfl ?_
  refine goV (wI s1 103 2 1) (fun s2 es2 => ?_)
  replace H := H s2 es2
  refine s_putf (nx := 13) hO rfl rfl (hs_o7 kc103) (Nat.le_of_ble_eq_true rfl) (by rw [hty]; rfl) (by rw [hty]; rfl) pX7_2 rfl ?_
  refine xEx.at (up_oI7 kc103 es2) ?_
  refine s_iconst (x := 1) (nx := 14) hO rfl (by decide) rfl ?_
  refine s_istore_n (nx := 15) (l' := [(1, .int 1), (0, .ref (q_b G + 103))]) hO rfl (by decide) rfl rfl ?_
  refine s_iconst (x := 0) (nx := 16) hO rfl (by decide) rfl ?_
  refine goK (H (fun (x3 : Int32) (x4 : Int32) (s5 : yS) => xEx G mX7_divideGroups 17 [(0, .ref (q_b G + 103)), (1, .int x3), (2, .int x4)] [] (hS G s5) z 0 0 (yQv G z Q)) (fun x3 x4 s5 H => ?_)) (fun H => ?_)
  · show xEx G mX7_divideGroups 17 [(0, .ref (q_b G + 103)), (1, .int x3), (2, .int x4)] [] (hS G s5) z 0 0 (yQv G z Q)
    refine s_iload_n (nx := 18) hO rfl rfl rfl ?_
    refine s_bipush (x := (nI 63)) (nx := 20) hO rfl (by decide) rfl ?_
    refine s_icmp_gt (nx := 23) hO rfl rfl (fun c20 => ?_) (fun c20 => ?_)
    · replace H := H.1 c20
      exact s_vret hO rfl rfl ⟨rfl, _, rfl, rfl, H⟩
    · replace H := H.2 c20
      refine s_iload_n (nx := 24) hO rfl rfl rfl ?_
      refine s_if_eq (nx := 27) hO rfl rfl (fun c24 => ?_) (fun c24 => ?_)
      · replace H := H.1 c24
        exact s_vret hO rfl rfl ⟨rfl, _, rfl, rfl, H⟩
      · replace H := H.2 c24
        refine s_iconst (x := 0) (nx := 28) hO rfl (by decide) rfl ?_
        refine s_istore_n (nx := 29) (l' := [(1, .int 0), (0, .ref (q_b G + 103)), (2, .int x4)]) hO rfl (by decide) rfl rfl ?_
        refine s_iconst (x := 0) (nx := 30) hO rfl (by decide) rfl ?_
        refine goK (H (fun (x6 : Int32) (x7 : Int32) (s8 : yS) => xEx G mX7_divideGroups 31 [(0, .ref (q_b G + 103)), (1, .int x6), (2, .int x4), (3, .int x7)] [] (hS G s8) z 0 0 (yQv G z Q)) (fun x6 x7 s8 H => ?_)) (fun H => ?_)
        · show xEx G mX7_divideGroups 31 [(0, .ref (q_b G + 103)), (1, .int x6), (2, .int x4), (3, .int x7)] [] (hS G s8) z 0 0 (yQv G z Q)
          refine s_iload_n (nx := 32) hO rfl rfl rfl ?_
          refine s_aload_n (nx := 33) hO rfl rfl rfl ?_
          refine s_getf (v := .int (sI s8 103 1)) (nx := 36) hO rfl rfl (hs_o7 kc103) rfl rfl ?_
          refine s_icmp_ge (nx := 39) hO rfl rfl (fun c36 => ?_) (fun c36 => ?_)
          · replace H := H.1 c36
            refine goV ((x4 + 1)) (fun x9 ex9 => ?_)
            replace H := H x9 ex9
            refine e_iinc (nx := 58) (l' := [(2, .int x9), (0, .ref (q_b G + 103)), (1, .int x6), (3, .int x7)]) ex9 hO rfl (by decide) rfl rfl rfl rfl ?_
            refine s_goto hO rfl ?_
            exact xEx.loc (x_sub1 (List.Mem.tail _ (List.Mem.head _)) (x_sub1 (List.Mem.tail _ (List.Mem.tail _ (List.Mem.head _))) (x_sub1 (List.Mem.head _) x_sub0))) H
          · replace H := H.2 c36
            refine s_aload_n (nx := 40) hO rfl rfl rfl ?_
            refine s_iload_n (nx := 41) hO rfl rfl rfl ?_
            refine s_callV [.int x7] (ci := 7) (F := TX7) (N := 12) (nx := 44) hO rfl kX7_divideGroups_120 (by rw [hcl]; rfl) (hs_o7 kc103) (w_X7_divideBy hG H) rfl rfl (Nat.le_of_ble_eq_true rfl) (Nat.zero_le _) (Nat.zero_le _) rfl (k_Qi (fun r10 s11 H => ?_))
            refine goK (H (fun (x12 : Int32) => xEx G mX7_divideGroups 49 [(0, .ref (q_b G + 103)), (1, .int x12), (2, .int x4), (3, .int x7)] [] (hS G s11) z 0 0 (yQv G z Q)) (fun x12 H => ?_)) (fun H => ?_)
            · show xEx G mX7_divideGroups 49 [(0, .ref (q_b G + 103)), (1, .int x12), (2, .int x4), (3, .int x7)] [] (hS G s11) z 0 0 (yQv G z Q)
              refine goV ((x7 + 1)) (fun x13 ex13 => ?_)
              replace H := H x13 ex13
              refine e_iinc (nx := 52) (l' := [(3, .int x13), (0, .ref (q_b G + 103)), (1, .int x12), (2, .int x4)]) ex13 hO rfl (by decide) rfl rfl rfl rfl ?_
              refine s_goto hO rfl ?_
              exact xEx.loc (x_sub1 (List.Mem.tail _ (List.Mem.head _)) (x_sub1 (List.Mem.tail _ (List.Mem.tail _ (List.Mem.head _))) (x_sub1 (List.Mem.tail _ (List.Mem.tail _ (List.Mem.tail _ (List.Mem.head _)))) (x_sub1 (List.Mem.head _) x_sub0)))) H
            refine s_if_eq (nx := 47) hO rfl rfl (fun c44 => ?_) (fun c44 => ?_)
            · replace H := H.1 c44
              exact xEx.loc (x_sub1 (List.Mem.head _) (x_sub1 (List.Mem.tail _ (List.Mem.head _)) (x_sub1 (List.Mem.tail _ (List.Mem.tail _ (List.Mem.head _))) (x_sub1 (List.Mem.tail _ (List.Mem.tail _ (List.Mem.tail _ (List.Mem.head _)))) x_sub0)))) H
            · replace H := H.2 c44
              refine s_iconst (x := 1) (nx := 48) hO rfl (by decide) rfl ?_
              refine s_istore_n (nx := 49) (l' := [(1, .int 1), (0, .ref (q_b G + 103)), (2, .int x4), (3, .int x7)]) hO rfl (by decide) rfl rfl ?_
              exact xEx.loc (x_sub1 (List.Mem.tail _ (List.Mem.head _)) (x_sub1 (List.Mem.head _) (x_sub1 (List.Mem.tail _ (List.Mem.tail _ (List.Mem.head _))) (x_sub1 (List.Mem.tail _ (List.Mem.tail _ (List.Mem.tail _ (List.Mem.head _)))) x_sub0)))) H
        refine s_istore_n (nx := 31) (l' := [(3, .int 0), (1, .int 0), (0, .ref (q_b G + 103)), (2, .int x4)]) hO rfl (by decide) rfl rfl ?_
        exact xEx.loc (x_sub1 (List.Mem.tail _ (List.Mem.tail _ (List.Mem.head _))) (x_sub1 (List.Mem.tail _ (List.Mem.head _)) (x_sub1 (List.Mem.tail _ (List.Mem.tail _ (List.Mem.tail _ (List.Mem.head _)))) (x_sub1 (List.Mem.head _) x_sub0)))) H
  refine s_istore_n (nx := 17) (l' := [(2, .int 0), (1, .int 1), (0, .ref (q_b G + 103))]) hO rfl (by decide) rfl rfl ?_
  exact xEx.loc (x_sub1 (List.Mem.tail _ (List.Mem.tail _ (List.Mem.head _))) (x_sub1 (List.Mem.tail _ (List.Mem.head _)) (x_sub1 (List.Mem.head _) x_sub0))) H
def W_X7_stateOf (s : yS) (v1 : Int32) (Q : Int32 → yS → Prop) : Prop :=
 vp_in v1 63 ∧ 
 ∀ x2 : Int32, x2 = (sI s 108 (ix v1)) → 
 vp_in x2 63 ∧ 
 ((¬ (sI s 111 (ix x2)) = (-1) → vp_in x2 63 ∧ 
  Q (sI s 111 (ix x2)) s)
 ∧ ((sI s 111 (ix x2)) = (-1) → ∃ p5 : Nat, sR s 103 0 = p5 + 1 ∧ kd p5 = some (7, 0) ∧ 
  vp_in x2 63 ∧ ∀ s7 : yS, s7 = wI s 111 (ix x2) (sI s p5 3) → 
  ∃ p8 : Nat, sR s7 103 0 = p8 + 1 ∧ kd p8 = some (7, 0) ∧ 
  vp_in (sI s7 p8 3) 63 ∧ ∀ s10 : yS, s10 = wI s7 112 (ix (sI s7 p8 3)) v1 → 
  ∃ p11 : Nat, sR s10 103 0 = p11 + 1 ∧ kd p11 = some (7, 0) ∧ 
  ∀ s12 : yS, s12 = wI s10 p11 3 ((sI s10 p11 3) + 1) → 
  vp_in x2 63 ∧ 
  Q (sI s12 111 (ix x2)) s12))
set_option maxRecDepth 100000 in
set_option maxHeartbeats 40000000 in
theorem w_X7_stateOf {G : xG} (hG : yG G) {z : Nat} {s : yS} {v1 : Int32} {Q : Int32 → yS → Prop} (H : W_X7_stateOf s v1 Q) : xC G mX7_stateOf [.ref (q_b G + 103), .int v1] (hS G s) z 0 0 (yQi G z Q) := by
  have hW := hG.1
  have hcl := hG.2.1
  have hty := hG.2.2.1
  have hO : xO G mX7_stateOf tbX7_stateOf ptX7_stateOf := ⟨tkX7_stateOf, pkX7_stateOf hcl⟩
  unfold W_X7_stateOf at H
  refine xC.of hW (by decide) rfl (Nat.le_of_ble_eq_true rfl) ?_
  refine s_aload_n (nx := 1) hO rfl rfl rfl ?_
  refine s_getf (v := .ref (q_b G + 108)) (nx := 4) hO rfl rfl (hs_o7 kc103) rfl rfl ?_
  refine s_iload_n (nx := 5) hO rfl rfl rfl ?_
  obtain ⟨b1, H⟩ := H
  refine s_iald (nx := 6) hO rfl (hs_I kc108) b1 rfl ?_
  refine goV ((sI s 108 (ix v1))) (fun x2 ex2 => ?_)
  replace H := H x2 ex2
  refine e_istore_n (nx := 7) (l' := [(2, .int x2), (0, .ref (q_b G + 103)), (1, .int v1)]) ex2 hO rfl (by decide) rfl rfl ?_
  refine s_aload_n (nx := 8) hO rfl rfl rfl ?_
  refine s_getf (v := .ref (q_b G + 111)) (nx := 11) hO rfl rfl (hs_o7 kc103) rfl rfl ?_
  refine s_iload_n (nx := 12) hO rfl rfl rfl ?_
  obtain ⟨b3, H⟩ := H
  refine s_iald (nx := 13) hO rfl (hs_I kc111) b3 rfl ?_
  refine s_iconst (x := (-1)) (nx := 14) hO rfl (by decide) rfl ?_
  refine s_icmp_ne (nx := 17) hO rfl rfl (fun c14 => ?_) (fun c14 => ?_)
  · replace H := H.1 c14
    refine s_aload_n (nx := 57) hO rfl rfl rfl ?_
    refine s_getf (v := .ref (q_b G + 111)) (nx := 60) hO rfl rfl (hs_o7 kc103) rfl rfl ?_
    refine s_iload_n (nx := 61) hO rfl rfl rfl ?_
    obtain ⟨b4, H⟩ := H
    refine s_iald (nx := 62) hO rfl (hs_I kc111) b4 rfl ?_
    exact s_iret hO rfl rfl rfl ⟨rfl, _, _, rfl, rfl, H⟩
  · replace H := H.2 c14
    refine s_aload_n (nx := 18) hO rfl rfl rfl ?_
    refine s_getf (v := .ref (q_b G + 111)) (nx := 21) hO rfl rfl (hs_o7 kc103) rfl rfl ?_
    refine s_iload_n (nx := 22) hO rfl rfl rfl ?_
    refine s_aload_n (nx := 23) hO rfl rfl rfl ?_
    obtain ⟨p5, ep5, kp5, H⟩ := H
    refine s_getf (v := .ref (q_b G + p5)) (nx := 26) hO rfl rfl (hs_o7 kc103) (congrArg some (rv_at ep5)) rfl ?_
    refine s_getf (v := .int (sI s p5 3)) (nx := 29) hO rfl rfl (hs_o3 kp5) rfl rfl ?_
    obtain ⟨b6, H⟩ := H
    refine goV (wI s 111 (ix x2) (sI s p5 3)) (fun s7 es7 => ?_)
    replace H := H s7 es7
    refine s_iast (nx := 30) hO rfl (hs_I kc111) b6 rfl ?_
    refine xEx.at (up_I kc111 es7) ?_
    refine s_aload_n (nx := 31) hO rfl rfl rfl ?_
    refine s_getf (v := .ref (q_b G + 112)) (nx := 34) hO rfl rfl (hs_o7 kc103) rfl rfl ?_
    refine s_aload_n (nx := 35) hO rfl rfl rfl ?_
    obtain ⟨p8, ep8, kp8, H⟩ := H
    refine s_getf (v := .ref (q_b G + p8)) (nx := 38) hO rfl rfl (hs_o7 kc103) (congrArg some (rv_at ep8)) rfl ?_
    refine s_getf (v := .int (sI s7 p8 3)) (nx := 41) hO rfl rfl (hs_o3 kp8) rfl rfl ?_
    refine s_iload_n (nx := 42) hO rfl rfl rfl ?_
    obtain ⟨b9, H⟩ := H
    refine goV (wI s7 112 (ix (sI s7 p8 3)) v1) (fun s10 es10 => ?_)
    replace H := H s10 es10
    refine s_iast (nx := 43) hO rfl (hs_I kc112) b9 rfl ?_
    refine xEx.at (up_I kc112 es10) ?_
    refine s_aload_n (nx := 44) hO rfl rfl rfl ?_
    obtain ⟨p11, ep11, kp11, H⟩ := H
    refine s_getf (v := .ref (q_b G + p11)) (nx := 47) hO rfl rfl (hs_o7 kc103) (congrArg some (rv_at ep11)) rfl ?_
    refine s_dup (nx := 48) hO rfl rfl rfl ?_
    refine s_getf (v := .int (sI s10 p11 3)) (nx := 51) hO rfl rfl (hs_o3 kp11) rfl rfl ?_
    refine s_iconst (x := 1) (nx := 52) hO rfl (by decide) rfl ?_
    refine s_iadd (nx := 53) hO rfl rfl ?_
    refine goV (wI s10 p11 3 ((sI s10 p11 3) + 1)) (fun s12 es12 => ?_)
    replace H := H s12 es12
    refine s_putf (nx := 56) hO rfl rfl (hs_o3 kp11) (Nat.le_of_ble_eq_true rfl) (by rw [hty]; rfl) (by rw [hty]; rfl) pX3_3 rfl ?_
    refine xEx.at (up_oI3 kp11 es12) ?_
    refine s_aload_n (nx := 57) hO rfl rfl rfl ?_
    refine s_getf (v := .ref (q_b G + 111)) (nx := 60) hO rfl rfl (hs_o7 kc103) rfl rfl ?_
    refine s_iload_n (nx := 61) hO rfl rfl rfl ?_
    obtain ⟨b13, H⟩ := H
    refine s_iald (nx := 62) hO rfl (hs_I kc111) b13 rfl ?_
    exact s_iret hO rfl rfl rfl ⟨rfl, _, _, rfl, rfl, H⟩

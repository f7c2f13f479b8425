def W_X9_call (s : yS) (v1 : Int32) (Q : Int32 → yS → Prop) : Prop :=
 ∃ p1 : Nat, sR s 114 2 = p1 + 1 ∧ kd p1 = some (9, 0) ∧ 
 vp_in v1 12 ∧ 
 ∀ P12 : Int32 → yS → Prop, (∀ (x3 : Int32) (s4 : yS), (((x3 < 0 → ∃ p5 : Nat, sR s4 114 2 = p5 + 1 ∧ kd p5 = some (9, 0) ∧ 
   vp_in v1 12 ∧ 
   (((sI s4 (p5 + 4) (ix v1)) = 0 → Q 1 s4)
   ∧ (¬ (sI s4 (p5 + 4) (ix v1)) = 0 → ∃ p7 : Nat, sR s4 114 2 = p7 + 1 ∧ kd p7 = some (9, 0) ∧ 
    vp_in v1 12 ∧ 
    W_X9_put s4 ((sI s4 (p7 + 4) (ix v1)) - 1) 
    (fun r9 s10 => ((r9 = 0 → Q 0 s10)
    ∧ (¬ r9 = 0 → Q 1 s10))))))
  ∧ (¬ x3 < 0 → ∃ p11 : Nat, sR s4 114 2 = p11 + 1 ∧ kd p11 = some (9, 0) ∧ 
   vp_in v1 12 ∧ 
   W_X9_take s4 (((sI s4 (p11 + 3) (ix v1)) >>> (x3 &&& 31)) &&& 1) 
   (fun r13 s14 => ((¬ r13 = 0 → ∀ x15 : Int32, x15 = (x3 + (-1)) → 
    P12 x15 s14)
   ∧ (r13 = 0 → Q 0 s14)))))) → P12 x3 s4) → 
 ∀ x16 : Int32, x16 = ((sI s (p1 + 1) (ix v1)) - 1) → 
 P12 x16 s
set_option maxRecDepth 100000 in
set_option maxHeartbeats 40000000 in
theorem w_X9_call {G : xG} (hG : yG G) {z : Nat} {s : yS} {v1 : Int32} {Q : Int32 → yS → Prop} (H : W_X9_call s v1 Q) : xC G mX9_call [.ref (q_b G + 114), .int v1] (hS G s) z 0 0 (yQi G z Q) := by
  have hW := hG.1
  have hcl := hG.2.1
  have hty := hG.2.2.1
  have hO : xO G mX9_call tbX9_call ptX9_call := ⟨tkX9_call, pkX9_call hcl⟩
  unfold W_X9_call at H
  refine xC.of hW (by decide) rfl (Nat.le_of_ble_eq_true rfl) ?_
  refine s_aload_n (nx := 1) hO rfl rfl rfl ?_
  obtain ⟨p1, ep1, kp1, H⟩ := H
  refine s_getf (v := .ref (q_b G + p1)) (nx := 4) hO rfl rfl (hs_o9 kc114) (congrArg some (rv_at ep1)) rfl ?_
  refine s_getf (v := .ref (q_b G + (p1 + 1))) (nx := 7) hO rfl rfl (hs_o5 kp1) rfl rfl ?_
  refine s_iload_n (nx := 8) hO rfl rfl rfl ?_
  obtain ⟨b2, H⟩ := H
  refine s_iald (nx := 9) hO rfl (hs_I (kf5_1 kp1)) b2 rfl ?_
  refine s_iconst (x := 1) (nx := 10) hO rfl (by decide) rfl ?_
  refine s_isub (nx := 11) hO rfl rfl ?_
  refine goK (H (fun (x3 : Int32) (s4 : yS) => xEx G mX9_call 12 [(0, .ref (q_b G + 114)), (1, .int v1), (2, .int x3)] [] (hS G s4) z 0 0 (yQi G z Q)) (fun x3 s4 H => ?_)) (fun H => ?_)
  · show xEx G mX9_call 12 [(0, .ref (q_b G + 114)), (1, .int v1), (2, .int x3)] [] (hS G s4) z 0 0 (yQi G z Q)
    refine s_iload_n (nx := 13) hO rfl rfl rfl ?_
    refine s_if_lt (nx := 16) hO rfl rfl (fun c13 => ?_) (fun c13 => ?_)
    · replace H := H.1 c13
      refine s_aload_n (nx := 45) hO rfl rfl rfl ?_
      obtain ⟨p5, ep5, kp5, H⟩ := H
      refine s_getf (v := .ref (q_b G + p5)) (nx := 48) hO rfl rfl (hs_o9 kc114) (congrArg some (rv_at ep5)) rfl ?_
      refine s_getf (v := .ref (q_b G + (p5 + 4))) (nx := 51) hO rfl rfl (hs_o5 kp5) rfl rfl ?_
      refine s_iload_n (nx := 52) hO rfl rfl rfl ?_
      obtain ⟨b6, H⟩ := H
      refine s_iald (nx := 53) hO rfl (hs_I (kf5_4 kp5)) b6 rfl ?_
      refine s_if_eq (nx := 56) hO rfl rfl (fun c53 => ?_) (fun c53 => ?_)
      · replace H := H.1 c53
        refine s_iconst (x := 1) (nx := 75) hO rfl (by decide) rfl ?_
        refine s_goto hO rfl ?_
        exact s_iret hO rfl rfl rfl ⟨rfl, _, _, rfl, rfl, H⟩
      · replace H := H.2 c53
        refine s_aload_n (nx := 57) hO rfl rfl rfl ?_
        refine s_aload_n (nx := 58) hO rfl rfl rfl ?_
        obtain ⟨p7, ep7, kp7, H⟩ := H
        refine s_getf (v := .ref (q_b G + p7)) (nx := 61) hO rfl rfl (hs_o9 kc114) (congrArg some (rv_at ep7)) rfl ?_
        refine s_getf (v := .ref (q_b G + (p7 + 4))) (nx := 64) hO rfl rfl (hs_o5 kp7) rfl rfl ?_
        refine s_iload_n (nx := 65) hO rfl rfl rfl ?_
        obtain ⟨b8, H⟩ := H
        refine s_iald (nx := 66) hO rfl (hs_I (kf5_4 kp7)) b8 rfl ?_
        refine s_iconst (x := 1) (nx := 67) hO rfl (by decide) rfl ?_
        refine s_isub (nx := 68) hO rfl rfl ?_
        refine s_callV [.int ((sI s4 (p7 + 4) (ix v1)) - 1)] (ci := 9) (F := TX9) (N := 8) (nx := 71) hO rfl kX9_call_102 (by rw [hcl]; rfl) (hs_o9 kc114) (w_X9_put hG H) rfl rfl (Nat.le_of_ble_eq_true rfl) (Nat.zero_le _) (Nat.zero_le _) rfl (k_Qi (fun r9 s10 H => ?_))
        refine s_if_eq (nx := 74) hO rfl rfl (fun c71 => ?_) (fun c71 => ?_)
        · replace H := H.1 c71
          refine s_iconst (x := 0) (nx := 79) hO rfl (by decide) rfl ?_
          exact s_iret hO rfl rfl rfl ⟨rfl, _, _, rfl, rfl, H⟩
        · replace H := H.2 c71
          refine s_iconst (x := 1) (nx := 75) hO rfl (by decide) rfl ?_
          refine s_goto hO rfl ?_
          exact s_iret hO rfl rfl rfl ⟨rfl, _, _, rfl, rfl, H⟩
    · replace H := H.2 c13
      refine s_aload_n (nx := 17) hO rfl rfl rfl ?_
      refine s_aload_n (nx := 18) hO rfl rfl rfl ?_
      obtain ⟨p11, ep11, kp11, H⟩ := H
      refine s_getf (v := .ref (q_b G + p11)) (nx := 21) hO rfl rfl (hs_o9 kc114) (congrArg some (rv_at ep11)) rfl ?_
      refine s_getf (v := .ref (q_b G + (p11 + 3))) (nx := 24) hO rfl rfl (hs_o5 kp11) rfl rfl ?_
      refine s_iload_n (nx := 25) hO rfl rfl rfl ?_
      obtain ⟨b12, H⟩ := H
      refine s_iald (nx := 26) hO rfl (hs_I (kf5_3 kp11)) b12 rfl ?_
      refine s_iload_n (nx := 27) hO rfl rfl rfl ?_
      refine s_ishr (nx := 28) hO rfl rfl ?_
      refine s_iconst (x := 1) (nx := 29) hO rfl (by decide) rfl ?_
      refine s_iand (nx := 30) hO rfl rfl ?_
      refine s_callV [.int (((sI s4 (p11 + 3) (ix v1)) >>> (x3 &&& 31)) &&& 1)] (ci := 9) (F := TX9) (N := 8) (nx := 33) hO rfl kX9_call_109 (by rw [hcl]; rfl) (hs_o9 kc114) (w_X9_take hG H) rfl rfl (Nat.le_of_ble_eq_true rfl) (Nat.zero_le _) (Nat.zero_le _) rfl (k_Qi (fun r13 s14 H => ?_))
      refine s_if_ne (nx := 36) hO rfl rfl (fun c33 => ?_) (fun c33 => ?_)
      · replace H := H.1 c33
        refine goV ((x3 + (-1))) (fun x15 ex15 => ?_)
        replace H := H x15 ex15
        refine e_iinc (nx := 41) (l' := [(2, .int x15), (0, .ref (q_b G + 114)), (1, .int v1)]) ex15 hO rfl (by decide) rfl rfl rfl rfl ?_
        refine s_goto hO rfl ?_
        exact xEx.loc (x_sub1 (List.Mem.tail _ (List.Mem.head _)) (x_sub1 (List.Mem.tail _ (List.Mem.tail _ (List.Mem.head _))) (x_sub1 (List.Mem.head _) x_sub0))) H
      · replace H := H.2 c33
        refine s_iconst (x := 0) (nx := 37) hO rfl (by decide) rfl ?_
        exact s_iret hO rfl rfl rfl ⟨rfl, _, _, rfl, rfl, H⟩
  refine goV (((sI s (p1 + 1) (ix v1)) - 1)) (fun x16 ex16 => ?_)
  replace H := H x16 ex16
  refine e_istore_n (nx := 12) (l' := [(2, .int x16), (0, .ref (q_b G + 114)), (1, .int v1)]) ex16 hO rfl (by decide) rfl rfl ?_
  exact xEx.loc (x_sub1 (List.Mem.tail _ (List.Mem.head _)) (x_sub1 (List.Mem.tail _ (List.Mem.tail _ (List.Mem.head _))) (x_sub1 (List.Mem.head _) x_sub0))) H
def W_X9_hasInts (s : yS) (v1 : Int32) (Q : Int32 → Prop) : Prop :=
 (((sI s 114 4) < v1 → Q 0)
 ∧ (¬ (sI s 114 4) < v1 → ((¬ ((sI s 114 5) >>> (((sI s 114 4) - v1) &&& 31)) = 0 → Q 0)
  ∧ (((sI s 114 5) >>> (((sI s 114 4) - v1) &&& 31)) = 0 → Q 1))))
set_option maxRecDepth 100000 in
set_option maxHeartbeats 40000000 in
theorem w_X9_hasInts {G : xG} (hG : yG G) {z : Nat} {s : yS} {v1 : Int32} {Q : Int32 → Prop} (H : W_X9_hasInts s v1 Q) : xC G mX9_hasInts [.ref (q_b G + 114), .int v1] (hS G s) z 0 0 (yPi G z s Q) := by
  have hW := hG.1
  have hcl := hG.2.1
  have hty := hG.2.2.1
  have hO : xO G mX9_hasInts tbX9_hasInts ptX9_hasInts := ⟨tkX9_hasInts, pkX9_hasInts hcl⟩
  unfold W_X9_hasInts at H
  refine xC.of hW (by decide) rfl (Nat.le_of_ble_eq_true rfl) ?_
  refine s_aload_n (nx := 1) hO rfl rfl rfl ?_
  refine s_getf (v := .int (sI s 114 4)) (nx := 4) hO rfl rfl (hs_o9 kc114) rfl rfl ?_
  refine s_iload_n (nx := 5) hO rfl rfl rfl ?_
  refine s_icmp_lt (nx := 8) hO rfl rfl (fun c5 => ?_) (fun c5 => ?_)
  · replace H := H.1 c5
    refine s_iconst (x := 0) (nx := 27) hO rfl (by decide) rfl ?_
    exact s_iret hO rfl rfl rfl ⟨rfl, _, rfl, rfl, H⟩
  · replace H := H.2 c5
    refine s_aload_n (nx := 9) hO rfl rfl rfl ?_
    refine s_getf (v := .int (sI s 114 5)) (nx := 12) hO rfl rfl (hs_o9 kc114) rfl rfl ?_
    refine s_aload_n (nx := 13) hO rfl rfl rfl ?_
    refine s_getf (v := .int (sI s 114 4)) (nx := 16) hO rfl rfl (hs_o9 kc114) rfl rfl ?_
    refine s_iload_n (nx := 17) hO rfl rfl rfl ?_
    refine s_isub (nx := 18) hO rfl rfl ?_
    refine s_ishr (nx := 19) hO rfl rfl ?_
    refine s_if_ne (nx := 22) hO rfl rfl (fun c19 => ?_) (fun c19 => ?_)
    · replace H := H.1 c19
      refine s_iconst (x := 0) (nx := 27) hO rfl (by decide) rfl ?_
      exact s_iret hO rfl rfl rfl ⟨rfl, _, rfl, rfl, H⟩
    · replace H := H.2 c19
      refine s_iconst (x := 1) (nx := 23) hO rfl (by decide) rfl ?_
      refine s_goto hO rfl ?_
      exact s_iret hO rfl rfl rfl ⟨rfl, _, rfl, rfl, H⟩
def W_X9_takeInts (s : yS) (v1 : Int32) (Q : Int32 → yS → Prop) : Prop :=
 ∀ s1 : yS, s1 = wI s 114 4 ((sI s 114 4) - v1) → 
 Q 1 s1
set_option maxRecDepth 100000 in
set_option maxHeartbeats 40000000 in
theorem w_X9_takeInts {G : xG} (hG : yG G) {z : Nat} {s : yS} {v1 : Int32} {Q : Int32 → yS → Prop} (H : W_X9_takeInts s v1 Q) : xC G mX9_takeInts [.ref (q_b G + 114), .int v1] (hS G s) z 0 0 (yQi G z Q) := by
  have hW := hG.1
  have hcl := hG.2.1
  have hty := hG.2.2.1
  have hO : xO G mX9_takeInts tbX9_takeInts ptX9_takeInts := ⟨tkX9_takeInts, pkX9_takeInts hcl⟩
  unfold W_X9_takeInts at H
  refine xC.of hW (by decide) rfl (Nat.le_of_ble_eq_true rfl) ?_
  refine s_aload_n (nx := 1) hO rfl rfl rfl ?_
  refine s_dup (nx := 2) hO rfl rfl rfl ?_
  refine s_getf (v := .int (sI s 114 4)) (nx := 5) hO rfl rfl (hs_o9 kc114) rfl rfl ?_
  refine s_iload_n (nx := 6) hO rfl rfl rfl ?_
  refine s_isub (nx := 7) hO rfl rfl ?_
  refine goV (wI s 114 4 ((sI s 114 4) - v1)) (fun s1 es1 => ?_)
  replace H := H s1 es1
  refine s_putf (nx := 10) hO rfl rfl (hs_o9 kc114) (Nat.le_of_ble_eq_true rfl) (by rw [hty]; rfl) (by rw [hty]; rfl) pX9_4 rfl ?_
  refine xEx.at (up_oI9 kc114 es1) ?_
  refine s_iconst (x := 1) (nx := 11) hO rfl (by decide) rfl ?_
  exact s_iret hO rfl rfl rfl ⟨rfl, _, _, rfl, rfl, H⟩
def W_X9_change (s : yS) (v1 : Int32) (v2 : Int32) (Q : Int32 → yS → Prop) : Prop :=
 ((((v1).toInt < 0 ∨ 29 < (v1).toInt) → W_X9_take s 0 
  (fun r1 s2 => ((r1 = 0 → Q 0 s2)
  ∧ (¬ r1 = 0 → W_X9_take s2 0 
   (fun r3 s4 => ((r3 = 0 → Q 0 s4)
   ∧ (¬ r3 = 0 → W_X9_put s4 0 
    (fun r5 s6 => ((r5 = 0 → Q 0 s6)
    ∧ (¬ r5 = 0 → Q 1 s6))))))))))
 ∧ ((v1).toInt = 0 → W_X9_put s 0 
   (fun r7 s8 => zb r7 ∧ Q r7 s8))
 ∧ ((v1).toInt = 1 → (((sI s 114 4) ≤ 0 → Q 0 s)
   ∧ (¬ (sI s 114 4) ≤ 0 → W_X9_type s 1 
    (fun r10 => W_X9_take s r10 
    (fun r11 s12 => ((r11 = 0 → Q 0 s12)
    ∧ (¬ r11 = 0 → Q 1 s12)))))))
 ∧ ((v1).toInt = 2 → (((sI s 114 4) ≤ 0 → Q 0 s)
   ∧ (¬ (sI s 114 4) ≤ 0 → W_X9_type s 1 
    (fun r13 => W_X9_put s r13 
    (fun r14 s15 => ((r14 = 0 → Q 0 s15)
    ∧ (¬ r14 = 0 → Q 1 s15)))))))
 ∧ ((v1).toInt = 3 → W_X9_swap s 
   (fun r16 s17 => zb r16 ∧ Q r16 s17))
 ∧ ((v1).toInt = 4 → ∃ p19 : Nat, sR s 114 2 = p19 + 1 ∧ kd p19 = some (9, 0) ∧ 
   vp_in (sI s 114 3) 12 ∧ 
   W_X9_put s (((sI s (p19 + 3) (ix (sI s 114 3))) >>> (v2 &&& 31)) &&& 1) 
   (fun r21 s22 => zb r21 ∧ Q r21 s22))
 ∧ ((v1).toInt = 5 → ∃ p24 : Nat, sR s 114 2 = p24 + 1 ∧ kd p24 = some (9, 0) ∧ 
   vp_in (sI s 114 3) 12 ∧ 
   W_X9_take s (((sI s (p24 + 3) (ix (sI s 114 3))) >>> (v2 &&& 31)) &&& 1) 
   (fun r26 s27 => zb r26 ∧ Q r26 s27))
 ∧ ((v1).toInt = 6 → W_X9_take s 0 
   (fun r29 s30 => ((r29 = 0 → Q 0 s30)
   ∧ (¬ r29 = 0 → W_X9_take s30 0 
    (fun r31 s32 => ((r31 = 0 → Q 0 s32)
    ∧ (¬ r31 = 0 → W_X9_put s32 0 
     (fun r33 s34 => ((r33 = 0 → Q 0 s34)
     ∧ (¬ r33 = 0 → Q 1 s34))))))))))
 ∧ ((v1).toInt = 7 → W_X9_take s 0 
   (fun r35 s36 => ((r35 = 0 → Q 0 s36)
   ∧ (¬ r35 = 0 → W_X9_take s36 0 
    (fun r37 s38 => ((r37 = 0 → Q 0 s38)
    ∧ (¬ r37 = 0 → W_X9_put s38 0 
     (fun r39 s40 => ((r39 = 0 → Q 0 s40)
     ∧ (¬ r39 = 0 → Q 1 s40))))))))))
 ∧ ((v1).toInt = 8 → W_X9_take s 0 
   (fun r41 s42 => ((r41 = 0 → Q 0 s42)
   ∧ (¬ r41 = 0 → W_X9_take s42 0 
    (fun r43 s44 => ((r43 = 0 → Q 0 s44)
    ∧ (¬ r43 = 0 → W_X9_put s44 0 
     (fun r45 s46 => ((r45 = 0 → Q 0 s46)
     ∧ (¬ r45 = 0 → Q 1 s46))))))))))
 ∧ ((v1).toInt = 9 → W_X9_take s 0 
   (fun r47 s48 => ((r47 = 0 → Q 0 s48)
   ∧ (¬ r47 = 0 → W_X9_take s48 0 
    (fun r49 s50 => ((r49 = 0 → Q 0 s50)
    ∧ (¬ r49 = 0 → W_X9_put s50 0 
     (fun r51 s52 => ((r51 = 0 → Q 0 s52)
     ∧ (¬ r51 = 0 → Q 1 s52))))))))))
 ∧ ((v1).toInt = 10 → W_X9_take s 0 
   (fun r53 s54 => ((r53 = 0 → Q 0 s54)
   ∧ (¬ r53 = 0 → W_X9_take s54 0 
    (fun r55 s56 => ((r55 = 0 → Q 0 s56)
    ∧ (¬ r55 = 0 → W_X9_put s56 0 
     (fun r57 s58 => ((r57 = 0 → Q 0 s58)
     ∧ (¬ r57 = 0 → Q 1 s58))))))))))
 ∧ ((v1).toInt = 11 → W_X9_take s 0 
   (fun r59 s60 => ((r59 = 0 → Q 0 s60)
   ∧ (¬ r59 = 0 → W_X9_take s60 0 
    (fun r61 s62 => ((r61 = 0 → Q 0 s62)
    ∧ (¬ r61 = 0 → W_X9_put s62 0 
     (fun r63 s64 => ((r63 = 0 → Q 0 s64)
     ∧ (¬ r63 = 0 → Q 1 s64))))))))))
 ∧ ((v1).toInt = 12 → W_X9_take s 0 
   (fun r65 s66 => ((r65 = 0 → Q 0 s66)
   ∧ (¬ r65 = 0 → W_X9_take s66 0 
    (fun r67 s68 => ((r67 = 0 → Q 0 s68)
    ∧ (¬ r67 = 0 → W_X9_put s68 0 
     (fun r69 s70 => ((r69 = 0 → Q 0 s70)
     ∧ (¬ r69 = 0 → Q 1 s70))))))))))
 ∧ ((v1).toInt = 13 → W_X9_take s 0 
   (fun r71 s72 => ((r71 = 0 → Q 0 s72)
   ∧ (¬ r71 = 0 → W_X9_take s72 0 
    (fun r73 s74 => ((r73 = 0 → Q 0 s74)
    ∧ (¬ r73 = 0 → W_X9_put s74 0 
     (fun r75 s76 => ((r75 = 0 → Q 0 s76)
     ∧ (¬ r75 = 0 → Q 1 s76))))))))))
 ∧ ((v1).toInt = 14 → W_X9_take s 0 
   (fun r77 s78 => ((r77 = 0 → Q 0 s78)
   ∧ (¬ r77 = 0 → W_X9_take s78 0 
    (fun r79 s80 => ((r79 = 0 → Q 0 s80)
    ∧ (¬ r79 = 0 → W_X9_put s80 0 
     (fun r81 s82 => ((r81 = 0 → Q 0 s82)
     ∧ (¬ r81 = 0 → Q 1 s82))))))))))
 ∧ ((v1).toInt = 15 → W_X9_take s 0 
   (fun r83 s84 => ((r83 = 0 → Q 0 s84)
   ∧ (¬ r83 = 0 → W_X9_take s84 0 
    (fun r85 s86 => ((r85 = 0 → Q 0 s86)
    ∧ (¬ r85 = 0 → W_X9_put s86 0 
     (fun r87 s88 => ((r87 = 0 → Q 0 s88)
     ∧ (¬ r87 = 0 → Q 1 s88))))))))))
 ∧ ((v1).toInt = 16 → W_X9_take s 0 
   (fun r89 s90 => ((r89 = 0 → Q 0 s90)
   ∧ (¬ r89 = 0 → W_X9_take s90 0 
    (fun r91 s92 => ((r91 = 0 → Q 0 s92)
    ∧ (¬ r91 = 0 → W_X9_put s92 0 
     (fun r93 s94 => ((r93 = 0 → Q 0 s94)
     ∧ (¬ r93 = 0 → Q 1 s94))))))))))
 ∧ ((v1).toInt = 17 → W_X9_take s 0 
   (fun r95 s96 => ((r95 = 0 → Q 0 s96)
   ∧ (¬ r95 = 0 → W_X9_take s96 0 
    (fun r97 s98 => ((r97 = 0 → Q 0 s98)
    ∧ (¬ r97 = 0 → W_X9_put s98 0 
     (fun r99 s100 => ((r99 = 0 → Q 0 s100)
     ∧ (¬ r99 = 0 → Q 1 s100))))))))))
 ∧ ((v1).toInt = 18 → Q 1 s)
 ∧ ((v1).toInt = 19 → W_X9_take s 0 
   (fun r101 s102 => zb r101 ∧ Q r101 s102))
 ∧ ((v1).toInt = 20 → W_X9_take s 0 
   (fun r104 s105 => zb r104 ∧ Q r104 s105))
 ∧ ((v1).toInt = 21 → W_X9_take s 0 
   (fun r107 s108 => ((r107 = 0 → Q 0 s108)
   ∧ (¬ r107 = 0 → W_X9_put s108 1 
    (fun r109 s110 => ((r109 = 0 → Q 0 s110)
    ∧ (¬ r109 = 0 → Q 1 s110)))))))
 ∧ ((v1).toInt = 22 → W_X9_take s 0 
   (fun r111 s112 => ((r111 = 0 → Q 0 s112)
   ∧ (¬ r111 = 0 → W_X9_take s112 1 
    (fun r113 s114 => ((r113 = 0 → Q 0 s114)
    ∧ (¬ r113 = 0 → W_X9_put s114 0 
     (fun r115 s116 => ((r115 = 0 → Q 0 s116)
     ∧ (¬ r115 = 0 → Q 1 s116))))))))))
 ∧ ((v1).toInt = 23 → W_X9_take s 0 
   (fun r117 s118 => ((r117 = 0 → Q 0 s118)
   ∧ (¬ r117 = 0 → W_X9_take s118 0 
    (fun r119 s120 => ((r119 = 0 → Q 0 s120)
    ∧ (¬ r119 = 0 → W_X9_take s120 1 
     (fun r121 s122 => ((r121 = 0 → Q 0 s122)
     ∧ (¬ r121 = 0 → Q 1 s122))))))))))
 ∧ ((v1).toInt = 24 → W_X9_take s 1 
   (fun r123 s124 => ((r123 = 0 → Q 0 s124)
   ∧ (¬ r123 = 0 → W_X9_put s124 0 
    (fun r125 s126 => ((r125 = 0 → Q 0 s126)
    ∧ (¬ r125 = 0 → Q 1 s126)))))))
 ∧ ((v1).toInt = 25 → W_X9_call s v2 
   (fun r127 s128 => zb r127 ∧ Q r127 s128))
 ∧ ((v1).toInt = 26 → W_X9_hasInts s (v2 - v2 / (nI 4) * (nI 4)) 
   (fun r130 => ((r130 = 0 → Q 0 s)
   ∧ (¬ r130 = 0 → W_X9_takeInts s (v2 - v2 / (nI 4) * (nI 4)) 
    (fun r131 s132 => ((r131 = 0 → Q 0 s132)
    ∧ (¬ r131 = 0 → W_X9_put s132 0 
     (fun r133 s134 => ((r133 = 0 → Q 0 s134)
     ∧ (¬ r133 = 0 → Q 1 s134))))))))))
 ∧ ((v1).toInt = 27 → ∃ p135 : Nat, sR s 114 2 = p135 + 1 ∧ kd p135 = some (9, 0) ∧ 
   vp_in (sI s 114 3) 12 ∧ 
   (((sI s (p135 + 4) (ix (sI s 114 3))) = 0 → Q 1 s)
   ∧ (¬ (sI s (p135 + 4) (ix (sI s 114 3))) = 0 → ∃ p137 : Nat, sR s 114 2 = p137 + 1 ∧ kd p137 = some (9, 0) ∧ 
    vp_in (sI s 114 3) 12 ∧ 
    W_X9_take s ((sI s (p137 + 4) (ix (sI s 114 3))) - 1) 
    (fun r139 s140 => ((r139 = 0 → Q 0 s140)
    ∧ (¬ r139 = 0 → Q 1 s140))))))
 ∧ ((v1).toInt = 28 → W_X9_take s 0 
   (fun r141 s142 => zb r141 ∧ Q r141 s142))
 ∧ ((v1).toInt = 29 → W_X9_hasInts s (v2 - v2 / (nI 4) * (nI 4)) 
   (fun r144 => zb r144 ∧ Q r144 s)))
set_option maxRecDepth 100000 in
set_option maxHeartbeats 40000000 in
theorem w_X9_change {G : xG} (hG : yG G) {z : Nat} {s : yS} {v1 : Int32} {v2 : Int32} {Q : Int32 → yS → Prop} (H : W_X9_change s v1 v2 Q) : xC G mX9_change [.ref (q_b G + 114), .int v1, .int v2] (hS G s) z 0 0 (yQi G z Q) := by
  have hW := hG.1
  have hcl := hG.2.1
  have hty := hG.2.2.1
  have hO : xO G mX9_change tbX9_change ptX9_change := ⟨tkX9_change, pkX9_change hcl⟩
  unfold W_X9_change at H
  refine xC.of hW (by decide) rfl (Nat.le_of_ble_eq_true rfl) ?_
  refine s_iload_n (nx := 1) hO rfl rfl rfl ?_
  refine s_switch hO rfl (fun c1 => ?_) (fun dc1 fc1 => ?_)
  · replace H := H.1 c1
    refine s_aload_n (nx := 442) hO rfl rfl rfl ?_
    refine s_iconst (x := 0) (nx := 443) hO rfl (by decide) rfl ?_
    refine s_callV [.int 0] (ci := 9) (F := TX9) (N := 8) (nx := 446) hO rfl kX9_change_109 (by rw [hcl]; rfl) (hs_o9 kc114) (w_X9_take hG H) rfl rfl (Nat.le_of_ble_eq_true rfl) (Nat.zero_le _) (Nat.zero_le _) rfl (k_Qi (fun r1 s2 H => ?_))
    refine s_if_eq (nx := 449) hO rfl rfl (fun c446 => ?_) (fun c446 => ?_)
    · replace H := H.1 c446
      refine s_iconst (x := 0) (nx := 470) hO rfl (by decide) rfl ?_
      exact s_iret hO rfl rfl rfl ⟨rfl, _, _, rfl, rfl, H⟩
    · replace H := H.2 c446
      refine s_aload_n (nx := 450) hO rfl rfl rfl ?_
      refine s_iconst (x := 0) (nx := 451) hO rfl (by decide) rfl ?_
      refine s_callV [.int 0] (ci := 9) (F := TX9) (N := 8) (nx := 454) hO rfl kX9_change_109 (by rw [hcl]; rfl) (hs_o9 kc114) (w_X9_take hG H) rfl rfl (Nat.le_of_ble_eq_true rfl) (Nat.zero_le _) (Nat.zero_le _) rfl (k_Qi (fun r3 s4 H => ?_))
      refine s_if_eq (nx := 457) hO rfl rfl (fun c454 => ?_) (fun c454 => ?_)
      · replace H := H.1 c454
        refine s_iconst (x := 0) (nx := 470) hO rfl (by decide) rfl ?_
        exact s_iret hO rfl rfl rfl ⟨rfl, _, _, rfl, rfl, H⟩
      · replace H := H.2 c454
        refine s_aload_n (nx := 458) hO rfl rfl rfl ?_
        refine s_iconst (x := 0) (nx := 459) hO rfl (by decide) rfl ?_
        refine s_callV [.int 0] (ci := 9) (F := TX9) (N := 8) (nx := 462) hO rfl kX9_change_102 (by rw [hcl]; rfl) (hs_o9 kc114) (w_X9_put hG H) rfl rfl (Nat.le_of_ble_eq_true rfl) (Nat.zero_le _) (Nat.zero_le _) rfl (k_Qi (fun r5 s6 H => ?_))
        refine s_if_eq (nx := 465) hO rfl rfl (fun c462 => ?_) (fun c462 => ?_)
        · replace H := H.1 c462
          refine s_iconst (x := 0) (nx := 470) hO rfl (by decide) rfl ?_
          exact s_iret hO rfl rfl rfl ⟨rfl, _, _, rfl, rfl, H⟩
        · replace H := H.2 c462
          refine s_iconst (x := 1) (nx := 466) hO rfl (by decide) rfl ?_
          refine s_goto hO rfl ?_
          exact s_iret hO rfl rfl rfl ⟨rfl, _, _, rfl, rfl, H⟩
  · obtain c1 | c1 | c1 | c1 | c1 | c1 | c1 | c1 | c1 | c1 | c1 | c1 | c1 | c1 | c1 | c1 | c1 | c1 | c1 | c1 | c1 | c1 | c1 | c1 | c1 | c1 | c1 | c1 | c1 | c1 : (v1).toInt = 0 ∨ (v1).toInt = 1 ∨ (v1).toInt = 2 ∨ (v1).toInt = 3 ∨ (v1).toInt = 4 ∨ (v1).toInt = 5 ∨ (v1).toInt = 6 ∨ (v1).toInt = 7 ∨ (v1).toInt = 8 ∨ (v1).toInt = 9 ∨ (v1).toInt = 10 ∨ (v1).toInt = 11 ∨ (v1).toInt = 12 ∨ (v1).toInt = 13 ∨ (v1).toInt = 14 ∨ (v1).toInt = 15 ∨ (v1).toInt = 16 ∨ (v1).toInt = 17 ∨ (v1).toInt = 18 ∨ (v1).toInt = 19 ∨ (v1).toInt = 20 ∨ (v1).toInt = 21 ∨ (v1).toInt = 22 ∨ (v1).toInt = 23 ∨ (v1).toInt = 24 ∨ (v1).toInt = 25 ∨ (v1).toInt = 26 ∨ (v1).toInt = 27 ∨ (v1).toInt = 28 ∨ (v1).toInt = 29 := by omega
    · replace H := H.2.1 c1
      refine ⟨136, by rw [c1]; rfl, ?_⟩
      refine s_aload_n (nx := 137) hO rfl rfl rfl ?_
      refine s_iconst (x := 0) (nx := 138) hO rfl (by decide) rfl ?_
      refine s_callV [.int 0] (ci := 9) (F := TX9) (N := 8) (nx := 141) hO rfl kX9_change_102 (by rw [hcl]; rfl) (hs_o9 kc114) (w_X9_put hG H) rfl rfl (Nat.le_of_ble_eq_true rfl) (Nat.zero_le _) (Nat.zero_le _) rfl (k_Qi (fun r7 s8 H => ?_))
      obtain ⟨b9, H⟩ := H
      exact s_iret hO rfl rfl (zb_n b9) ⟨rfl, _, _, rfl, rfl, H⟩
    · replace H := H.2.2.1 c1
      refine ⟨142, by rw [c1]; rfl, ?_⟩
      refine s_aload_n (nx := 143) hO rfl rfl rfl ?_
      refine s_getf (v := .int (sI s 114 4)) (nx := 146) hO rfl rfl (hs_o9 kc114) rfl rfl ?_
      refine s_if_le (nx := 149) hO rfl rfl (fun c146 => ?_) (fun c146 => ?_)
      · replace H := H.1 c146
        refine s_iconst (x := 0) (nx := 166) hO rfl (by decide) rfl ?_
        exact s_iret hO rfl rfl rfl ⟨rfl, _, _, rfl, rfl, H⟩
      · replace H := H.2 c146
        refine s_aload_n (nx := 150) hO rfl rfl rfl ?_
        refine s_aload_n (nx := 151) hO rfl rfl rfl ?_
        refine s_iconst (x := 1) (nx := 152) hO rfl (by decide) rfl ?_
        refine s_callV [.int 1] (ci := 9) (F := TX9) (N := 8) (nx := 155) hO rfl kX9_change_105 (by rw [hcl]; rfl) (hs_o9 kc114) (w_X9_type hG H) rfl rfl (Nat.le_of_ble_eq_true rfl) (Nat.zero_le _) (Nat.zero_le _) rfl (k_Pi (fun r10 H => ?_))
        refine s_callV [.int r10] (ci := 9) (F := TX9) (N := 8) (nx := 158) hO rfl kX9_change_109 (by rw [hcl]; rfl) (hs_o9 kc114) (w_X9_take hG H) rfl rfl (Nat.le_of_ble_eq_true rfl) (Nat.zero_le _) (Nat.zero_le _) rfl (k_Qi (fun r11 s12 H => ?_))
        refine s_if_eq (nx := 161) hO rfl rfl (fun c158 => ?_) (fun c158 => ?_)
        · replace H := H.1 c158
          refine s_iconst (x := 0) (nx := 166) hO rfl (by decide) rfl ?_
          exact s_iret hO rfl rfl rfl ⟨rfl, _, _, rfl, rfl, H⟩
        · replace H := H.2 c158
          refine s_iconst (x := 1) (nx := 162) hO rfl (by decide) rfl ?_
          refine s_goto hO rfl ?_
          exact s_iret hO rfl rfl rfl ⟨rfl, _, _, rfl, rfl, H⟩
    · replace H := H.2.2.2.1 c1
      refine ⟨167, by rw [c1]; rfl, ?_⟩
      refine s_aload_n (nx := 168) hO rfl rfl rfl ?_
      refine s_getf (v := .int (sI s 114 4)) (nx := 171) hO rfl rfl (hs_o9 kc114) rfl rfl ?_
      refine s_if_le (nx := 174) hO rfl rfl (fun c171 => ?_) (fun c171 => ?_)
      · replace H := H.1 c171
        refine s_iconst (x := 0) (nx := 191) hO rfl (by decide) rfl ?_
        exact s_iret hO rfl rfl rfl ⟨rfl, _, _, rfl, rfl, H⟩
      · replace H := H.2 c171
        refine s_aload_n (nx := 175) hO rfl rfl rfl ?_
        refine s_aload_n (nx := 176) hO rfl rfl rfl ?_
        refine s_iconst (x := 1) (nx := 177) hO rfl (by decide) rfl ?_
        refine s_callV [.int 1] (ci := 9) (F := TX9) (N := 8) (nx := 180) hO rfl kX9_change_105 (by rw [hcl]; rfl) (hs_o9 kc114) (w_X9_type hG H) rfl rfl (Nat.le_of_ble_eq_true rfl) (Nat.zero_le _) (Nat.zero_le _) rfl (k_Pi (fun r13 H => ?_))
        refine s_callV [.int r13] (ci := 9) (F := TX9) (N := 8) (nx := 183) hO rfl kX9_change_102 (by rw [hcl]; rfl) (hs_o9 kc114) (w_X9_put hG H) rfl rfl (Nat.le_of_ble_eq_true rfl) (Nat.zero_le _) (Nat.zero_le _) rfl (k_Qi (fun r14 s15 H => ?_))
        refine s_if_eq (nx := 186) hO rfl rfl (fun c183 => ?_) (fun c183 => ?_)
        · replace H := H.1 c183
          refine s_iconst (x := 0) (nx := 191) hO rfl (by decide) rfl ?_
          exact s_iret hO rfl rfl rfl ⟨rfl, _, _, rfl, rfl, H⟩
        · replace H := H.2 c183
          refine s_iconst (x := 1) (nx := 187) hO rfl (by decide) rfl ?_
          refine s_goto hO rfl ?_
          exact s_iret hO rfl rfl rfl ⟨rfl, _, _, rfl, rfl, H⟩
    · replace H := H.2.2.2.2.1 c1
      refine ⟨192, by rw [c1]; rfl, ?_⟩
      refine s_aload_n (nx := 193) hO rfl rfl rfl ?_
      refine s_callV [] (ci := 9) (F := TX9) (N := 8) (nx := 196) hO rfl kX9_change_112 (by rw [hcl]; rfl) (hs_o9 kc114) (w_X9_swap hG H) rfl rfl (Nat.le_of_ble_eq_true rfl) (Nat.zero_le _) (Nat.zero_le _) rfl (k_Qi (fun r16 s17 H => ?_))
      obtain ⟨b18, H⟩ := H
      exact s_iret hO rfl rfl (zb_n b18) ⟨rfl, _, _, rfl, rfl, H⟩
    · replace H := H.2.2.2.2.2.1 c1
      refine ⟨197, by rw [c1]; rfl, ?_⟩
      refine s_aload_n (nx := 198) hO rfl rfl rfl ?_
      refine s_aload_n (nx := 199) hO rfl rfl rfl ?_
      obtain ⟨p19, ep19, kp19, H⟩ := H
      refine s_getf (v := .ref (q_b G + p19)) (nx := 202) hO rfl rfl (hs_o9 kc114) (congrArg some (rv_at ep19)) rfl ?_
      refine s_getf (v := .ref (q_b G + (p19 + 3))) (nx := 205) hO rfl rfl (hs_o5 kp19) rfl rfl ?_
      refine s_aload_n (nx := 206) hO rfl rfl rfl ?_
      refine s_getf (v := .int (sI s 114 3)) (nx := 209) hO rfl rfl (hs_o9 kc114) rfl rfl ?_
      obtain ⟨b20, H⟩ := H
      refine s_iald (nx := 210) hO rfl (hs_I (kf5_3 kp19)) b20 rfl ?_
      refine s_iload_n (nx := 211) hO rfl rfl rfl ?_
      refine s_ishr (nx := 212) hO rfl rfl ?_
      refine s_iconst (x := 1) (nx := 213) hO rfl (by decide) rfl ?_
      refine s_iand (nx := 214) hO rfl rfl ?_
      refine s_callV [.int (((sI s (p19 + 3) (ix (sI s 114 3))) >>> (v2 &&& 31)) &&& 1)] (ci := 9) (F := TX9) (N := 8) (nx := 217) hO rfl kX9_change_102 (by rw [hcl]; rfl) (hs_o9 kc114) (w_X9_put hG H) rfl rfl (Nat.le_of_ble_eq_true rfl) (Nat.zero_le _) (Nat.zero_le _) rfl (k_Qi (fun r21 s22 H => ?_))
      obtain ⟨b23, H⟩ := H
      exact s_iret hO rfl rfl (zb_n b23) ⟨rfl, _, _, rfl, rfl, H⟩
    · replace H := H.2.2.2.2.2.2.1 c1
      refine ⟨218, by rw [c1]; rfl, ?_⟩
      refine s_aload_n (nx := 219) hO rfl rfl rfl ?_
      refine s_aload_n (nx := 220) hO rfl rfl rfl ?_
      obtain ⟨p24, ep24, kp24, H⟩ := H
      refine s_getf (v := .ref (q_b G + p24)) (nx := 223) hO rfl rfl (hs_o9 kc114) (congrArg some (rv_at ep24)) rfl ?_
      refine s_getf (v := .ref (q_b G + (p24 + 3))) (nx := 226) hO rfl rfl (hs_o5 kp24) rfl rfl ?_
      refine s_aload_n (nx := 227) hO rfl rfl rfl ?_
      refine s_getf (v := .int (sI s 114 3)) (nx := 230) hO rfl rfl (hs_o9 kc114) rfl rfl ?_
      obtain ⟨b25, H⟩ := H
      refine s_iald (nx := 231) hO rfl (hs_I (kf5_3 kp24)) b25 rfl ?_
      refine s_iload_n (nx := 232) hO rfl rfl rfl ?_
      refine s_ishr (nx := 233) hO rfl rfl ?_
      refine s_iconst (x := 1) (nx := 234) hO rfl (by decide) rfl ?_
      refine s_iand (nx := 235) hO rfl rfl ?_
      refine s_callV [.int (((sI s (p24 + 3) (ix (sI s 114 3))) >>> (v2 &&& 31)) &&& 1)] (ci := 9) (F := TX9) (N := 8) (nx := 238) hO rfl kX9_change_109 (by rw [hcl]; rfl) (hs_o9 kc114) (w_X9_take hG H) rfl rfl (Nat.le_of_ble_eq_true rfl) (Nat.zero_le _) (Nat.zero_le _) rfl (k_Qi (fun r26 s27 H => ?_))
      obtain ⟨b28, H⟩ := H
      exact s_iret hO rfl rfl (zb_n b28) ⟨rfl, _, _, rfl, rfl, H⟩
    · replace H := H.2.2.2.2.2.2.2.1 c1
      refine ⟨441, by rw [c1]; rfl, ?_⟩
      refine s_aload_n (nx := 442) hO rfl rfl rfl ?_
      refine s_iconst (x := 0) (nx := 443) hO rfl (by decide) rfl ?_
      refine s_callV [.int 0] (ci := 9) (F := TX9) (N := 8) (nx := 446) hO rfl kX9_change_109 (by rw [hcl]; rfl) (hs_o9 kc114) (w_X9_take hG H) rfl rfl (Nat.le_of_ble_eq_true rfl) (Nat.zero_le _) (Nat.zero_le _) rfl (k_Qi (fun r29 s30 H => ?_))
      refine s_if_eq (nx := 449) hO rfl rfl (fun c446 => ?_) (fun c446 => ?_)
      · replace H := H.1 c446
        refine s_iconst (x := 0) (nx := 470) hO rfl (by decide) rfl ?_
        exact s_iret hO rfl rfl rfl ⟨rfl, _, _, rfl, rfl, H⟩
      · replace H := H.2 c446
        refine s_aload_n (nx := 450) hO rfl rfl rfl ?_
        refine s_iconst (x := 0) (nx := 451) hO rfl (by decide) rfl ?_
        refine s_callV [.int 0] (ci := 9) (F := TX9) (N := 8) (nx := 454) hO rfl kX9_change_109 (by rw [hcl]; rfl) (hs_o9 kc114) (w_X9_take hG H) rfl rfl (Nat.le_of_ble_eq_true rfl) (Nat.zero_le _) (Nat.zero_le _) rfl (k_Qi (fun r31 s32 H => ?_))
        refine s_if_eq (nx := 457) hO rfl rfl (fun c454 => ?_) (fun c454 => ?_)
        · replace H := H.1 c454
          refine s_iconst (x := 0) (nx := 470) hO rfl (by decide) rfl ?_
          exact s_iret hO rfl rfl rfl ⟨rfl, _, _, rfl, rfl, H⟩
        · replace H := H.2 c454
          refine s_aload_n (nx := 458) hO rfl rfl rfl ?_
          refine s_iconst (x := 0) (nx := 459) hO rfl (by decide) rfl ?_
          refine s_callV [.int 0] (ci := 9) (F := TX9) (N := 8) (nx := 462) hO rfl kX9_change_102 (by rw [hcl]; rfl) (hs_o9 kc114) (w_X9_put hG H) rfl rfl (Nat.le_of_ble_eq_true rfl) (Nat.zero_le _) (Nat.zero_le _) rfl (k_Qi (fun r33 s34 H => ?_))
          refine s_if_eq (nx := 465) hO rfl rfl (fun c462 => ?_) (fun c462 => ?_)
          · replace H := H.1 c462
            refine s_iconst (x := 0) (nx := 470) hO rfl (by decide) rfl ?_
            exact s_iret hO rfl rfl rfl ⟨rfl, _, _, rfl, rfl, H⟩
          · replace H := H.2 c462
            refine s_iconst (x := 1) (nx := 466) hO rfl (by decide) rfl ?_
            refine s_goto hO rfl ?_
            exact s_iret hO rfl rfl rfl ⟨rfl, _, _, rfl, rfl, H⟩
    · replace H := H.2.2.2.2.2.2.2.2.1 c1
      refine ⟨441, by rw [c1]; rfl, ?_⟩
      refine s_aload_n (nx := 442) hO rfl rfl rfl ?_
      refine s_iconst (x := 0) (nx := 443) hO rfl (by decide) rfl ?_
      refine s_callV [.int 0] (ci := 9) (F := TX9) (N := 8) (nx := 446) hO rfl kX9_change_109 (by rw [hcl]; rfl) (hs_o9 kc114) (w_X9_take hG H) rfl rfl (Nat.le_of_ble_eq_true rfl) (Nat.zero_le _) (Nat.zero_le _) rfl (k_Qi (fun r35 s36 H => ?_))
      refine s_if_eq (nx := 449) hO rfl rfl (fun c446 => ?_) (fun c446 => ?_)
      · replace H := H.1 c446
        refine s_iconst (x := 0) (nx := 470) hO rfl (by decide) rfl ?_
        exact s_iret hO rfl rfl rfl ⟨rfl, _, _, rfl, rfl, H⟩
      · replace H := H.2 c446
        refine s_aload_n (nx := 450) hO rfl rfl rfl ?_
        refine s_iconst (x := 0) (nx := 451) hO rfl (by decide) rfl ?_
        refine s_callV [.int 0] (ci := 9) (F := TX9) (N := 8) (nx := 454) hO rfl kX9_change_109 (by rw [hcl]; rfl) (hs_o9 kc114) (w_X9_take hG H) rfl rfl (Nat.le_of_ble_eq_true rfl) (Nat.zero_le _) (Nat.zero_le _) rfl (k_Qi (fun r37 s38 H => ?_))
        refine s_if_eq (nx := 457) hO rfl rfl (fun c454 => ?_) (fun c454 => ?_)
        · replace H := H.1 c454
          refine s_iconst (x := 0) (nx := 470) hO rfl (by decide) rfl ?_
          exact s_iret hO rfl rfl rfl ⟨rfl, _, _, rfl, rfl, H⟩
        · replace H := H.2 c454
          refine s_aload_n (nx := 458) hO rfl rfl rfl ?_
          refine s_iconst (x := 0) (nx := 459) hO rfl (by decide) rfl ?_
          refine s_callV [.int 0] (ci := 9) (F := TX9) (N := 8) (nx := 462) hO rfl kX9_change_102 (by rw [hcl]; rfl) (hs_o9 kc114) (w_X9_put hG H) rfl rfl (Nat.le_of_ble_eq_true rfl) (Nat.zero_le _) (Nat.zero_le _) rfl (k_Qi (fun r39 s40 H => ?_))
          refine s_if_eq (nx := 465) hO rfl rfl (fun c462 => ?_) (fun c462 => ?_)
          · replace H := H.1 c462
            refine s_iconst (x := 0) (nx := 470) hO rfl (by decide) rfl ?_
            exact s_iret hO rfl rfl rfl ⟨rfl, _, _, rfl, rfl, H⟩
          · replace H := H.2 c462
            refine s_iconst (x := 1) (nx := 466) hO rfl (by decide) rfl ?_
            refine s_goto hO rfl ?_
            exact s_iret hO rfl rfl rfl ⟨rfl, _, _, rfl, rfl, H⟩
    · replace H := H.2.2.2.2.2.2.2.2.2.1 c1
      refine ⟨441, by rw [c1]; rfl, ?_⟩
      refine s_aload_n (nx := 442) hO rfl rfl rfl ?_
      refine s_iconst (x := 0) (nx := 443) hO rfl (by decide) rfl ?_
      refine s_callV [.int 0] (ci := 9) (F := TX9) (N := 8) (nx := 446) hO rfl kX9_change_109 (by rw [hcl]; rfl) (hs_o9 kc114) (w_X9_take hG H) rfl rfl (Nat.le_of_ble_eq_true rfl) (Nat.zero_le _) (Nat.zero_le _) rfl (k_Qi (fun r41 s42 H => ?_))
      refine s_if_eq (nx := 449) hO rfl rfl (fun c446 => ?_) (fun c446 => ?_)
      · replace H := H.1 c446
        refine s_iconst (x := 0) (nx := 470) hO rfl (by decide) rfl ?_
        exact s_iret hO rfl rfl rfl ⟨rfl, _, _, rfl, rfl, H⟩
      · replace H := H.2 c446
        refine s_aload_n (nx := 450) hO rfl rfl rfl ?_
        refine s_iconst (x := 0) (nx := 451) hO rfl (by decide) rfl ?_
        refine s_callV [.int 0] (ci := 9) (F := TX9) (N := 8) (nx := 454) hO rfl kX9_change_109 (by rw [hcl]; rfl) (hs_o9 kc114) (w_X9_take hG H) rfl rfl (Nat.le_of_ble_eq_true rfl) (Nat.zero_le _) (Nat.zero_le _) rfl (k_Qi (fun r43 s44 H => ?_))
        refine s_if_eq (nx := 457) hO rfl rfl (fun c454 => ?_) (fun c454 => ?_)
        · replace H := H.1 c454
          refine s_iconst (x := 0) (nx := 470) hO rfl (by decide) rfl ?_
          exact s_iret hO rfl rfl rfl ⟨rfl, _, _, rfl, rfl, H⟩
        · replace H := H.2 c454
          refine s_aload_n (nx := 458) hO rfl rfl rfl ?_
          refine s_iconst (x := 0) (nx := 459) hO rfl (by decide) rfl ?_
          refine s_callV [.int 0] (ci := 9) (F := TX9) (N := 8) (nx := 462) hO rfl kX9_change_102 (by rw [hcl]; rfl) (hs_o9 kc114) (w_X9_put hG H) rfl rfl (Nat.le_of_ble_eq_true rfl) (Nat.zero_le _) (Nat.zero_le _) rfl (k_Qi (fun r45 s46 H => ?_))
          refine s_if_eq (nx := 465) hO rfl rfl (fun c462 => ?_) (fun c462 => ?_)
          · replace H := H.1 c462
            refine s_iconst (x := 0) (nx := 470) hO rfl (by decide) rfl ?_
            exact s_iret hO rfl rfl rfl ⟨rfl, _, _, rfl, rfl, H⟩
          · replace H := H.2 c462
            refine s_iconst (x := 1) (nx := 466) hO rfl (by decide) rfl ?_
            refine s_goto hO rfl ?_
            exact s_iret hO rfl rfl rfl ⟨rfl, _, _, rfl, rfl, H⟩
    · replace H := H.2.2.2.2.2.2.2.2.2.2.1 c1
      refine ⟨441, by rw [c1]; rfl, ?_⟩
      refine s_aload_n (nx := 442) hO rfl rfl rfl ?_
      refine s_iconst (x := 0) (nx := 443) hO rfl (by decide) rfl ?_
      refine s_callV [.int 0] (ci := 9) (F := TX9) (N := 8) (nx := 446) hO rfl kX9_change_109 (by rw [hcl]; rfl) (hs_o9 kc114) (w_X9_take hG H) rfl rfl (Nat.le_of_ble_eq_true rfl) (Nat.zero_le _) (Nat.zero_le _) rfl (k_Qi (fun r47 s48 H => ?_))
      refine s_if_eq (nx := 449) hO rfl rfl (fun c446 => ?_) (fun c446 => ?_)
      · replace H := H.1 c446
        refine s_iconst (x := 0) (nx := 470) hO rfl (by decide) rfl ?_
        exact s_iret hO rfl rfl rfl ⟨rfl, _, _, rfl, rfl, H⟩
      · replace H := H.2 c446
        refine s_aload_n (nx := 450) hO rfl rfl rfl ?_
        refine s_iconst (x := 0) (nx := 451) hO rfl (by decide) rfl ?_
        refine s_callV [.int 0] (ci := 9) (F := TX9) (N := 8) (nx := 454) hO rfl kX9_change_109 (by rw [hcl]; rfl) (hs_o9 kc114) (w_X9_take hG H) rfl rfl (Nat.le_of_ble_eq_true rfl) (Nat.zero_le _) (Nat.zero_le _) rfl (k_Qi (fun r49 s50 H => ?_))
        refine s_if_eq (nx := 457) hO rfl rfl (fun c454 => ?_) (fun c454 => ?_)
        · replace H := H.1 c454
          refine s_iconst (x := 0) (nx := 470) hO rfl (by decide) rfl ?_
          exact s_iret hO rfl rfl rfl ⟨rfl, _, _, rfl, rfl, H⟩
        · replace H := H.2 c454
          refine s_aload_n (nx := 458) hO rfl rfl rfl ?_
          refine s_iconst (x := 0) (nx := 459) hO rfl (by decide) rfl ?_
          refine s_callV [.int 0] (ci := 9) (F := TX9) (N := 8) (nx := 462) hO rfl kX9_change_102 (by rw [hcl]; rfl) (hs_o9 kc114) (w_X9_put hG H) rfl rfl (Nat.le_of_ble_eq_true rfl) (Nat.zero_le _) (Nat.zero_le _) rfl (k_Qi (fun r51 s52 H => ?_))
          refine s_if_eq (nx := 465) hO rfl rfl (fun c462 => ?_) (fun c462 => ?_)
          · replace H := H.1 c462
            refine s_iconst (x := 0) (nx := 470) hO rfl (by decide) rfl ?_
            exact s_iret hO rfl rfl rfl ⟨rfl, _, _, rfl, rfl, H⟩
          · replace H := H.2 c462
            refine s_iconst (x := 1) (nx := 466) hO rfl (by decide) rfl ?_
            refine s_goto hO rfl ?_
            exact s_iret hO rfl rfl rfl ⟨rfl, _, _, rfl, rfl, H⟩
    · replace H := H.2.2.2.2.2.2.2.2.2.2.2.1 c1
      refine ⟨441, by rw [c1]; rfl, ?_⟩
      refine s_aload_n (nx := 442) hO rfl rfl rfl ?_
      refine s_iconst (x := 0) (nx := 443) hO rfl (by decide) rfl ?_
      refine s_callV [.int 0] (ci := 9) (F := TX9) (N := 8) (nx := 446) hO rfl kX9_change_109 (by rw [hcl]; rfl) (hs_o9 kc114) (w_X9_take hG H) rfl rfl (Nat.le_of_ble_eq_true rfl) (Nat.zero_le _) (Nat.zero_le _) rfl (k_Qi (fun r53 s54 H => ?_))
      refine s_if_eq (nx := 449) hO rfl rfl (fun c446 => ?_) (fun c446 => ?_)
      · replace H := H.1 c446
        refine s_iconst (x := 0) (nx := 470) hO rfl (by decide) rfl ?_
        exact s_iret hO rfl rfl rfl ⟨rfl, _, _, rfl, rfl, H⟩
      · replace H := H.2 c446
        refine s_aload_n (nx := 450) hO rfl rfl rfl ?_
        refine s_iconst (x := 0) (nx := 451) hO rfl (by decide) rfl ?_
        refine s_callV [.int 0] (ci := 9) (F := TX9) (N := 8) (nx := 454) hO rfl kX9_change_109 (by rw [hcl]; rfl) (hs_o9 kc114) (w_X9_take hG H) rfl rfl (Nat.le_of_ble_eq_true rfl) (Nat.zero_le _) (Nat.zero_le _) rfl (k_Qi (fun r55 s56 H => ?_))
        refine s_if_eq (nx := 457) hO rfl rfl (fun c454 => ?_) (fun c454 => ?_)
        · replace H := H.1 c454
          refine s_iconst (x := 0) (nx := 470) hO rfl (by decide) rfl ?_
          exact s_iret hO rfl rfl rfl ⟨rfl, _, _, rfl, rfl, H⟩
        · replace H := H.2 c454
          refine s_aload_n (nx := 458) hO rfl rfl rfl ?_
          refine s_iconst (x := 0) (nx := 459) hO rfl (by decide) rfl ?_
          refine s_callV [.int 0] (ci := 9) (F := TX9) (N := 8) (nx := 462) hO rfl kX9_change_102 (by rw [hcl]; rfl) (hs_o9 kc114) (w_X9_put hG H) rfl rfl (Nat.le_of_ble_eq_true rfl) (Nat.zero_le _) (Nat.zero_le _) rfl (k_Qi (fun r57 s58 H => ?_))
          refine s_if_eq (nx := 465) hO rfl rfl (fun c462 => ?_) (fun c462 => ?_)
          · replace H := H.1 c462
            refine s_iconst (x := 0) (nx := 470) hO rfl (by decide) rfl ?_
            exact s_iret hO rfl rfl rfl ⟨rfl, _, _, rfl, rfl, H⟩
          · replace H := H.2 c462
            refine s_iconst (x := 1) (nx := 466) hO rfl (by decide) rfl ?_
            refine s_goto hO rfl ?_
            exact s_iret hO rfl rfl rfl ⟨rfl, _, _, rfl, rfl, H⟩
    · replace H := H.2.2.2.2.2.2.2.2.2.2.2.2.1 c1
      refine ⟨441, by rw [c1]; rfl, ?_⟩
      refine s_aload_n (nx := 442) hO rfl rfl rfl ?_
      refine s_iconst (x := 0) (nx := 443) hO rfl (by decide) rfl ?_
      refine s_callV [.int 0] (ci := 9) (F := TX9) (N := 8) (nx := 446) hO rfl kX9_change_109 (by rw [hcl]; rfl) (hs_o9 kc114) (w_X9_take hG H) rfl rfl (Nat.le_of_ble_eq_true rfl) (Nat.zero_le _) (Nat.zero_le _) rfl (k_Qi (fun r59 s60 H => ?_))
      refine s_if_eq (nx := 449) hO rfl rfl (fun c446 => ?_) (fun c446 => ?_)
      · replace H := H.1 c446
        refine s_iconst (x := 0) (nx := 470) hO rfl (by decide) rfl ?_
        exact s_iret hO rfl rfl rfl ⟨rfl, _, _, rfl, rfl, H⟩
      · replace H := H.2 c446
        refine s_aload_n (nx := 450) hO rfl rfl rfl ?_
        refine s_iconst (x := 0) (nx := 451) hO rfl (by decide) rfl ?_
        refine s_callV [.int 0] (ci := 9) (F := TX9) (N := 8) (nx := 454) hO rfl kX9_change_109 (by rw [hcl]; rfl) (hs_o9 kc114) (w_X9_take hG H) rfl rfl (Nat.le_of_ble_eq_true rfl) (Nat.zero_le _) (Nat.zero_le _) rfl (k_Qi (fun r61 s62 H => ?_))
        refine s_if_eq (nx := 457) hO rfl rfl (fun c454 => ?_) (fun c454 => ?_)
        · replace H := H.1 c454
          refine s_iconst (x := 0) (nx := 470) hO rfl (by decide) rfl ?_
          exact s_iret hO rfl rfl rfl ⟨rfl, _, _, rfl, rfl, H⟩
        · replace H := H.2 c454
          refine s_aload_n (nx := 458) hO rfl rfl rfl ?_
          refine s_iconst (x := 0) (nx := 459) hO rfl (by decide) rfl ?_
          refine s_callV [.int 0] (ci := 9) (F := TX9) (N := 8) (nx := 462) hO rfl kX9_change_102 (by rw [hcl]; rfl) (hs_o9 kc114) (w_X9_put hG H) rfl rfl (Nat.le_of_ble_eq_true rfl) (Nat.zero_le _) (Nat.zero_le _) rfl (k_Qi (fun r63 s64 H => ?_))
          refine s_if_eq (nx := 465) hO rfl rfl (fun c462 => ?_) (fun c462 => ?_)
          · replace H := H.1 c462
            refine s_iconst (x := 0) (nx := 470) hO rfl (by decide) rfl ?_
            exact s_iret hO rfl rfl rfl ⟨rfl, _, _, rfl, rfl, H⟩
          · replace H := H.2 c462
            refine s_iconst (x := 1) (nx := 466) hO rfl (by decide) rfl ?_
            refine s_goto hO rfl ?_
            exact s_iret hO rfl rfl rfl ⟨rfl, _, _, rfl, rfl, H⟩
    · replace H := H.2.2.2.2.2.2.2.2.2.2.2.2.2.1 c1
      refine ⟨441, by rw [c1]; rfl, ?_⟩
      refine s_aload_n (nx := 442) hO rfl rfl rfl ?_
      refine s_iconst (x := 0) (nx := 443) hO rfl (by decide) rfl ?_
      refine s_callV [.int 0] (ci := 9) (F := TX9) (N := 8) (nx := 446) hO rfl kX9_change_109 (by rw [hcl]; rfl) (hs_o9 kc114) (w_X9_take hG H) rfl rfl (Nat.le_of_ble_eq_true rfl) (Nat.zero_le _) (Nat.zero_le _) rfl (k_Qi (fun r65 s66 H => ?_))
      refine s_if_eq (nx := 449) hO rfl rfl (fun c446 => ?_) (fun c446 => ?_)
      · replace H := H.1 c446
        refine s_iconst (x := 0) (nx := 470) hO rfl (by decide) rfl ?_
        exact s_iret hO rfl rfl rfl ⟨rfl, _, _, rfl, rfl, H⟩
      · replace H := H.2 c446
        refine s_aload_n (nx := 450) hO rfl rfl rfl ?_
        refine s_iconst (x := 0) (nx := 451) hO rfl (by decide) rfl ?_
        refine s_callV [.int 0] (ci := 9) (F := TX9) (N := 8) (nx := 454) hO rfl kX9_change_109 (by rw [hcl]; rfl) (hs_o9 kc114) (w_X9_take hG H) rfl rfl (Nat.le_of_ble_eq_true rfl) (Nat.zero_le _) (Nat.zero_le _) rfl (k_Qi (fun r67 s68 H => ?_))
        refine s_if_eq (nx := 457) hO rfl rfl (fun c454 => ?_) (fun c454 => ?_)
        · replace H := H.1 c454
          refine s_iconst (x := 0) (nx := 470) hO rfl (by decide) rfl ?_
          exact s_iret hO rfl rfl rfl ⟨rfl, _, _, rfl, rfl, H⟩
        · replace H := H.2 c454
          refine s_aload_n (nx := 458) hO rfl rfl rfl ?_
          refine s_iconst (x := 0) (nx := 459) hO rfl (by decide) rfl ?_
          refine s_callV [.int 0] (ci := 9) (F := TX9) (N := 8) (nx := 462) hO rfl kX9_change_102 (by rw [hcl]; rfl) (hs_o9 kc114) (w_X9_put hG H) rfl rfl (Nat.le_of_ble_eq_true rfl) (Nat.zero_le _) (Nat.zero_le _) rfl (k_Qi (fun r69 s70 H => ?_))
          refine s_if_eq (nx := 465) hO rfl rfl (fun c462 => ?_) (fun c462 => ?_)
          · replace H := H.1 c462
            refine s_iconst (x := 0) (nx := 470) hO rfl (by decide) rfl ?_
            exact s_iret hO rfl rfl rfl ⟨rfl, _, _, rfl, rfl, H⟩
          · replace H := H.2 c462
            refine s_iconst (x := 1) (nx := 466) hO rfl (by decide) rfl ?_
            refine s_goto hO rfl ?_
            exact s_iret hO rfl rfl rfl ⟨rfl, _, _, rfl, rfl, H⟩
    · replace H := H.2.2.2.2.2.2.2.2.2.2.2.2.2.2.1 c1
      refine ⟨441, by rw [c1]; rfl, ?_⟩
      refine s_aload_n (nx := 442) hO rfl rfl rfl ?_
      refine s_iconst (x := 0) (nx := 443) hO rfl (by decide) rfl ?_
      refine s_callV [.int 0] (ci := 9) (F := TX9) (N := 8) (nx := 446) hO rfl kX9_change_109 (by rw [hcl]; rfl) (hs_o9 kc114) (w_X9_take hG H) rfl rfl (Nat.le_of_ble_eq_true rfl) (Nat.zero_le _) (Nat.zero_le _) rfl (k_Qi (fun r71 s72 H => ?_))
      refine s_if_eq (nx := 449) hO rfl rfl (fun c446 => ?_) (fun c446 => ?_)
      · replace H := H.1 c446
        refine s_iconst (x := 0) (nx := 470) hO rfl (by decide) rfl ?_
        exact s_iret hO rfl rfl rfl ⟨rfl, _, _, rfl, rfl, H⟩
      · replace H := H.2 c446
        refine s_aload_n (nx := 450) hO rfl rfl rfl ?_
        refine s_iconst (x := 0) (nx := 451) hO rfl (by decide) rfl ?_
        refine s_callV [.int 0] (ci := 9) (F := TX9) (N := 8) (nx := 454) hO rfl kX9_change_109 (by rw [hcl]; rfl) (hs_o9 kc114) (w_X9_take hG H) rfl rfl (Nat.le_of_ble_eq_true rfl) (Nat.zero_le _) (Nat.zero_le _) rfl (k_Qi (fun r73 s74 H => ?_))
        refine s_if_eq (nx := 457) hO rfl rfl (fun c454 => ?_) (fun c454 => ?_)
        · replace H := H.1 c454
          refine s_iconst (x := 0) (nx := 470) hO rfl (by decide) rfl ?_
          exact s_iret hO rfl rfl rfl ⟨rfl, _, _, rfl, rfl, H⟩
        · replace H := H.2 c454
          refine s_aload_n (nx := 458) hO rfl rfl rfl ?_
          refine s_iconst (x := 0) (nx := 459) hO rfl (by decide) rfl ?_
          refine s_callV [.int 0] (ci := 9) (F := TX9) (N := 8) (nx := 462) hO rfl kX9_change_102 (by rw [hcl]; rfl) (hs_o9 kc114) (w_X9_put hG H) rfl rfl (Nat.le_of_ble_eq_true rfl) (Nat.zero_le _) (Nat.zero_le _) rfl (k_Qi (fun r75 s76 H => ?_))
          refine s_if_eq (nx := 465) hO rfl rfl (fun c462 => ?_) (fun c462 => ?_)
          · replace H := H.1 c462
            refine s_iconst (x := 0) (nx := 470) hO rfl (by decide) rfl ?_
            exact s_iret hO rfl rfl rfl ⟨rfl, _, _, rfl, rfl, H⟩
          · replace H := H.2 c462
            refine s_iconst (x := 1) (nx := 466) hO rfl (by decide) rfl ?_
            refine s_goto hO rfl ?_
            exact s_iret hO rfl rfl rfl ⟨rfl, _, _, rfl, rfl, H⟩
    · replace H := H.2.2.2.2.2.2.2.2.2.2.2.2.2.2.2.1 c1
      refine ⟨441, by rw [c1]; rfl, ?_⟩
      refine s_aload_n (nx := 442) hO rfl rfl rfl ?_
      refine s_iconst (x := 0) (nx := 443) hO rfl (by decide) rfl ?_
      refine s_callV [.int 0] (ci := 9) (F := TX9) (N := 8) (nx := 446) hO rfl kX9_change_109 (by rw [hcl]; rfl) (hs_o9 kc114) (w_X9_take hG H) rfl rfl (Nat.le_of_ble_eq_true rfl) (Nat.zero_le _) (Nat.zero_le _) rfl (k_Qi (fun r77 s78 H => ?_))
      refine s_if_eq (nx := 449) hO rfl rfl (fun c446 => ?_) (fun c446 => ?_)
      · replace H := H.1 c446
        refine s_iconst (x := 0) (nx := 470) hO rfl (by decide) rfl ?_
        exact s_iret hO rfl rfl rfl ⟨rfl, _, _, rfl, rfl, H⟩
      · replace H := H.2 c446
        refine s_aload_n (nx := 450) hO rfl rfl rfl ?_
        refine s_iconst (x := 0) (nx := 451) hO rfl (by decide) rfl ?_
        refine s_callV [.int 0] (ci := 9) (F := TX9) (N := 8) (nx := 454) hO rfl kX9_change_109 (by rw [hcl]; rfl) (hs_o9 kc114) (w_X9_take hG H) rfl rfl (Nat.le_of_ble_eq_true rfl) (Nat.zero_le _) (Nat.zero_le _) rfl (k_Qi (fun r79 s80 H => ?_))
        refine s_if_eq (nx := 457) hO rfl rfl (fun c454 => ?_) (fun c454 => ?_)
        · replace H := H.1 c454
          refine s_iconst (x := 0) (nx := 470) hO rfl (by decide) rfl ?_
          exact s_iret hO rfl rfl rfl ⟨rfl, _, _, rfl, rfl, H⟩
        · replace H := H.2 c454
          refine s_aload_n (nx := 458) hO rfl rfl rfl ?_
          refine s_iconst (x := 0) (nx := 459) hO rfl (by decide) rfl ?_
          refine s_callV [.int 0] (ci := 9) (F := TX9) (N := 8) (nx := 462) hO rfl kX9_change_102 (by rw [hcl]; rfl) (hs_o9 kc114) (w_X9_put hG H) rfl rfl (Nat.le_of_ble_eq_true rfl) (Nat.zero_le _) (Nat.zero_le _) rfl (k_Qi (fun r81 s82 H => ?_))
          refine s_if_eq (nx := 465) hO rfl rfl (fun c462 => ?_) (fun c462 => ?_)
          · replace H := H.1 c462
            refine s_iconst (x := 0) (nx := 470) hO rfl (by decide) rfl ?_
            exact s_iret hO rfl rfl rfl ⟨rfl, _, _, rfl, rfl, H⟩
          · replace H := H.2 c462
            refine s_iconst (x := 1) (nx := 466) hO rfl (by decide) rfl ?_
            refine s_goto hO rfl ?_
            exact s_iret hO rfl rfl rfl ⟨rfl, _, _, rfl, rfl, H⟩
    · replace H := H.2.2.2.2.2.2.2.2.2.2.2.2.2.2.2.2.1 c1
      refine ⟨441, by rw [c1]; rfl, ?_⟩
      refine s_aload_n (nx := 442) hO rfl rfl rfl ?_
      refine s_iconst (x := 0) (nx := 443) hO rfl (by decide) rfl ?_
      refine s_callV [.int 0] (ci := 9) (F := TX9) (N := 8) (nx := 446) hO rfl kX9_change_109 (by rw [hcl]; rfl) (hs_o9 kc114) (w_X9_take hG H) rfl rfl (Nat.le_of_ble_eq_true rfl) (Nat.zero_le _) (Nat.zero_le _) rfl (k_Qi (fun r83 s84 H => ?_))
      refine s_if_eq (nx := 449) hO rfl rfl (fun c446 => ?_) (fun c446 => ?_)
      · replace H := H.1 c446
        refine s_iconst (x := 0) (nx := 470) hO rfl (by decide) rfl ?_
        exact s_iret hO rfl rfl rfl ⟨rfl, _, _, rfl, rfl, H⟩
      · replace H := H.2 c446
        refine s_aload_n (nx := 450) hO rfl rfl rfl ?_
        refine s_iconst (x := 0) (nx := 451) hO rfl (by decide) rfl ?_
        refine s_callV [.int 0] (ci := 9) (F := TX9) (N := 8) (nx := 454) hO rfl kX9_change_109 (by rw [hcl]; rfl) (hs_o9 kc114) (w_X9_take hG H) rfl rfl (Nat.le_of_ble_eq_true rfl) (Nat.zero_le _) (Nat.zero_le _) rfl (k_Qi (fun r85 s86 H => ?_))
        refine s_if_eq (nx := 457) hO rfl rfl (fun c454 => ?_) (fun c454 => ?_)
        · replace H := H.1 c454
          refine s_iconst (x := 0) (nx := 470) hO rfl (by decide) rfl ?_
          exact s_iret hO rfl rfl rfl ⟨rfl, _, _, rfl, rfl, H⟩
        · replace H := H.2 c454
          refine s_aload_n (nx := 458) hO rfl rfl rfl ?_
          refine s_iconst (x := 0) (nx := 459) hO rfl (by decide) rfl ?_
          refine s_callV [.int 0] (ci := 9) (F := TX9) (N := 8) (nx := 462) hO rfl kX9_change_102 (by rw [hcl]; rfl) (hs_o9 kc114) (w_X9_put hG H) rfl rfl (Nat.le_of_ble_eq_true rfl) (Nat.zero_le _) (Nat.zero_le _) rfl (k_Qi (fun r87 s88 H => ?_))
          refine s_if_eq (nx := 465) hO rfl rfl (fun c462 => ?_) (fun c462 => ?_)
          · replace H := H.1 c462
            refine s_iconst (x := 0) (nx := 470) hO rfl (by decide) rfl ?_
            exact s_iret hO rfl rfl rfl ⟨rfl, _, _, rfl, rfl, H⟩
          · replace H := H.2 c462
            refine s_iconst (x := 1) (nx := 466) hO rfl (by decide) rfl ?_
            refine s_goto hO rfl ?_
            exact s_iret hO rfl rfl rfl ⟨rfl, _, _, rfl, rfl, H⟩
    · replace H := H.2.2.2.2.2.2.2.2.2.2.2.2.2.2.2.2.2.1 c1
      refine ⟨441, by rw [c1]; rfl, ?_⟩
      refine s_aload_n (nx := 442) hO rfl rfl rfl ?_
      refine s_iconst (x := 0) (nx := 443) hO rfl (by decide) rfl ?_
      refine s_callV [.int 0] (ci := 9) (F := TX9) (N := 8) (nx := 446) hO rfl kX9_change_109 (by rw [hcl]; rfl) (hs_o9 kc114) (w_X9_take hG H) rfl rfl (Nat.le_of_ble_eq_true rfl) (Nat.zero_le _) (Nat.zero_le _) rfl (k_Qi (fun r89 s90 H => ?_))
      refine s_if_eq (nx := 449) hO rfl rfl (fun c446 => ?_) (fun c446 => ?_)
      · replace H := H.1 c446
        refine s_iconst (x := 0) (nx := 470) hO rfl (by decide) rfl ?_
        exact s_iret hO rfl rfl rfl ⟨rfl, _, _, rfl, rfl, H⟩
      · replace H := H.2 c446
        refine s_aload_n (nx := 450) hO rfl rfl rfl ?_
        refine s_iconst (x := 0) (nx := 451) hO rfl (by decide) rfl ?_
        refine s_callV [.int 0] (ci := 9) (F := TX9) (N := 8) (nx := 454) hO rfl kX9_change_109 (by rw [hcl]; rfl) (hs_o9 kc114) (w_X9_take hG H) rfl rfl (Nat.le_of_ble_eq_true rfl) (Nat.zero_le _) (Nat.zero_le _) rfl (k_Qi (fun r91 s92 H => ?_))
        refine s_if_eq (nx := 457) hO rfl rfl (fun c454 => ?_) (fun c454 => ?_)
        · replace H := H.1 c454
          refine s_iconst (x := 0) (nx := 470) hO rfl (by decide) rfl ?_
          exact s_iret hO rfl rfl rfl ⟨rfl, _, _, rfl, rfl, H⟩
        · replace H := H.2 c454
          refine s_aload_n (nx := 458) hO rfl rfl rfl ?_
          refine s_iconst (x := 0) (nx := 459) hO rfl (by decide) rfl ?_
          refine s_callV [.int 0] (ci := 9) (F := TX9) (N := 8) (nx := 462) hO rfl kX9_change_102 (by rw [hcl]; rfl) (hs_o9 kc114) (w_X9_put hG H) rfl rfl (Nat.le_of_ble_eq_true rfl) (Nat.zero_le _) (Nat.zero_le _) rfl (k_Qi (fun r93 s94 H => ?_))
          refine s_if_eq (nx := 465) hO rfl rfl (fun c462 => ?_) (fun c462 => ?_)
          · replace H := H.1 c462
            refine s_iconst (x := 0) (nx := 470) hO rfl (by decide) rfl ?_
            exact s_iret hO rfl rfl rfl ⟨rfl, _, _, rfl, rfl, H⟩
          · replace H := H.2 c462
            refine s_iconst (x := 1) (nx := 466) hO rfl (by decide) rfl ?_
            refine s_goto hO rfl ?_
            exact s_iret hO rfl rfl rfl ⟨rfl, _, _, rfl, rfl, H⟩
    · replace H := H.2.2.2.2.2.2.2.2.2.2.2.2.2.2.2.2.2.2.1 c1
      refine ⟨441, by rw [c1]; rfl, ?_⟩
      refine s_aload_n (nx := 442) hO rfl rfl rfl ?_
      refine s_iconst (x := 0) (nx := 443) hO rfl (by decide) rfl ?_
      refine s_callV [.int 0] (ci := 9) (F := TX9) (N := 8) (nx := 446) hO rfl kX9_change_109 (by rw [hcl]; rfl) (hs_o9 kc114) (w_X9_take hG H) rfl rfl (Nat.le_of_ble_eq_true rfl) (Nat.zero_le _) (Nat.zero_le _) rfl (k_Qi (fun r95 s96 H => ?_))
      refine s_if_eq (nx := 449) hO rfl rfl (fun c446 => ?_) (fun c446 => ?_)
      · replace H := H.1 c446
        refine s_iconst (x := 0) (nx := 470) hO rfl (by decide) rfl ?_
        exact s_iret hO rfl rfl rfl ⟨rfl, _, _, rfl, rfl, H⟩
      · replace H := H.2 c446
        refine s_aload_n (nx := 450) hO rfl rfl rfl ?_
        refine s_iconst (x := 0) (nx := 451) hO rfl (by decide) rfl ?_
        refine s_callV [.int 0] (ci := 9) (F := TX9) (N := 8) (nx := 454) hO rfl kX9_change_109 (by rw [hcl]; rfl) (hs_o9 kc114) (w_X9_take hG H) rfl rfl (Nat.le_of_ble_eq_true rfl) (Nat.zero_le _) (Nat.zero_le _) rfl (k_Qi (fun r97 s98 H => ?_))
        refine s_if_eq (nx := 457) hO rfl rfl (fun c454 => ?_) (fun c454 => ?_)
        · replace H := H.1 c454
          refine s_iconst (x := 0) (nx := 470) hO rfl (by decide) rfl ?_
          exact s_iret hO rfl rfl rfl ⟨rfl, _, _, rfl, rfl, H⟩
        · replace H := H.2 c454
          refine s_aload_n (nx := 458) hO rfl rfl rfl ?_
          refine s_iconst (x := 0) (nx := 459) hO rfl (by decide) rfl ?_
          refine s_callV [.int 0] (ci := 9) (F := TX9) (N := 8) (nx := 462) hO rfl kX9_change_102 (by rw [hcl]; rfl) (hs_o9 kc114) (w_X9_put hG H) rfl rfl (Nat.le_of_ble_eq_true rfl) (Nat.zero_le _) (Nat.zero_le _) rfl (k_Qi (fun r99 s100 H => ?_))
          refine s_if_eq (nx := 465) hO rfl rfl (fun c462 => ?_) (fun c462 => ?_)
          · replace H := H.1 c462
            refine s_iconst (x := 0) (nx := 470) hO rfl (by decide) rfl ?_
            exact s_iret hO rfl rfl rfl ⟨rfl, _, _, rfl, rfl, H⟩
          · replace H := H.2 c462
            refine s_iconst (x := 1) (nx := 466) hO rfl (by decide) rfl ?_
            refine s_goto hO rfl ?_
            exact s_iret hO rfl rfl rfl ⟨rfl, _, _, rfl, rfl, H⟩
    · replace H := H.2.2.2.2.2.2.2.2.2.2.2.2.2.2.2.2.2.2.2.1 c1
      refine ⟨239, by rw [c1]; rfl, ?_⟩
      refine s_iconst (x := 1) (nx := 240) hO rfl (by decide) rfl ?_
      exact s_iret hO rfl rfl rfl ⟨rfl, _, _, rfl, rfl, H⟩
    · replace H := H.2.2.2.2.2.2.2.2.2.2.2.2.2.2.2.2.2.2.2.2.1 c1
      refine ⟨241, by rw [c1]; rfl, ?_⟩
      refine s_aload_n (nx := 242) hO rfl rfl rfl ?_
      refine s_iconst (x := 0) (nx := 243) hO rfl (by decide) rfl ?_
      refine s_callV [.int 0] (ci := 9) (F := TX9) (N := 8) (nx := 246) hO rfl kX9_change_109 (by rw [hcl]; rfl) (hs_o9 kc114) (w_X9_take hG H) rfl rfl (Nat.le_of_ble_eq_true rfl) (Nat.zero_le _) (Nat.zero_le _) rfl (k_Qi (fun r101 s102 H => ?_))
      obtain ⟨b103, H⟩ := H
      exact s_iret hO rfl rfl (zb_n b103) ⟨rfl, _, _, rfl, rfl, H⟩
    · replace H := H.2.2.2.2.2.2.2.2.2.2.2.2.2.2.2.2.2.2.2.2.2.1 c1
      refine ⟨241, by rw [c1]; rfl, ?_⟩
      refine s_aload_n (nx := 242) hO rfl rfl rfl ?_
      refine s_iconst (x := 0) (nx := 243) hO rfl (by decide) rfl ?_
      refine s_callV [.int 0] (ci := 9) (F := TX9) (N := 8) (nx := 246) hO rfl kX9_change_109 (by rw [hcl]; rfl) (hs_o9 kc114) (w_X9_take hG H) rfl rfl (Nat.le_of_ble_eq_true rfl) (Nat.zero_le _) (Nat.zero_le _) rfl (k_Qi (fun r104 s105 H => ?_))
      obtain ⟨b106, H⟩ := H
      exact s_iret hO rfl rfl (zb_n b106) ⟨rfl, _, _, rfl, rfl, H⟩
    · replace H := H.2.2.2.2.2.2.2.2.2.2.2.2.2.2.2.2.2.2.2.2.2.2.1 c1
      refine ⟨247, by rw [c1]; rfl, ?_⟩
      refine s_aload_n (nx := 248) hO rfl rfl rfl ?_
      refine s_iconst (x := 0) (nx := 249) hO rfl (by decide) rfl ?_
      refine s_callV [.int 0] (ci := 9) (F := TX9) (N := 8) (nx := 252) hO rfl kX9_change_109 (by rw [hcl]; rfl) (hs_o9 kc114) (w_X9_take hG H) rfl rfl (Nat.le_of_ble_eq_true rfl) (Nat.zero_le _) (Nat.zero_le _) rfl (k_Qi (fun r107 s108 H => ?_))
      refine s_if_eq (nx := 255) hO rfl rfl (fun c252 => ?_) (fun c252 => ?_)
      · replace H := H.1 c252
        refine s_iconst (x := 0) (nx := 268) hO rfl (by decide) rfl ?_
        exact s_iret hO rfl rfl rfl ⟨rfl, _, _, rfl, rfl, H⟩
      · replace H := H.2 c252
        refine s_aload_n (nx := 256) hO rfl rfl rfl ?_
        refine s_iconst (x := 1) (nx := 257) hO rfl (by decide) rfl ?_
        refine s_callV [.int 1] (ci := 9) (F := TX9) (N := 8) (nx := 260) hO rfl kX9_change_102 (by rw [hcl]; rfl) (hs_o9 kc114) (w_X9_put hG H) rfl rfl (Nat.le_of_ble_eq_true rfl) (Nat.zero_le _) (Nat.zero_le _) rfl (k_Qi (fun r109 s110 H => ?_))
        refine s_if_eq (nx := 263) hO rfl rfl (fun c260 => ?_) (fun c260 => ?_)
        · replace H := H.1 c260
          refine s_iconst (x := 0) (nx := 268) hO rfl (by decide) rfl ?_
          exact s_iret hO rfl rfl rfl ⟨rfl, _, _, rfl, rfl, H⟩
        · replace H := H.2 c260
          refine s_iconst (x := 1) (nx := 264) hO rfl (by decide) rfl ?_
          refine s_goto hO rfl ?_
          exact s_iret hO rfl rfl rfl ⟨rfl, _, _, rfl, rfl, H⟩
    · replace H := H.2.2.2.2.2.2.2.2.2.2.2.2.2.2.2.2.2.2.2.2.2.2.2.1 c1
      refine ⟨269, by rw [c1]; rfl, ?_⟩
      refine s_aload_n (nx := 270) hO rfl rfl rfl ?_
      refine s_iconst (x := 0) (nx := 271) hO rfl (by decide) rfl ?_
      refine s_callV [.int 0] (ci := 9) (F := TX9) (N := 8) (nx := 274) hO rfl kX9_change_109 (by rw [hcl]; rfl) (hs_o9 kc114) (w_X9_take hG H) rfl rfl (Nat.le_of_ble_eq_true rfl) (Nat.zero_le _) (Nat.zero_le _) rfl (k_Qi (fun r111 s112 H => ?_))
      refine s_if_eq (nx := 277) hO rfl rfl (fun c274 => ?_) (fun c274 => ?_)
      · replace H := H.1 c274
        refine s_iconst (x := 0) (nx := 298) hO rfl (by decide) rfl ?_
        exact s_iret hO rfl rfl rfl ⟨rfl, _, _, rfl, rfl, H⟩
      · replace H := H.2 c274
        refine s_aload_n (nx := 278) hO rfl rfl rfl ?_
        refine s_iconst (x := 1) (nx := 279) hO rfl (by decide) rfl ?_
        refine s_callV [.int 1] (ci := 9) (F := TX9) (N := 8) (nx := 282) hO rfl kX9_change_109 (by rw [hcl]; rfl) (hs_o9 kc114) (w_X9_take hG H) rfl rfl (Nat.le_of_ble_eq_true rfl) (Nat.zero_le _) (Nat.zero_le _) rfl (k_Qi (fun r113 s114 H => ?_))
        refine s_if_eq (nx := 285) hO rfl rfl (fun c282 => ?_) (fun c282 => ?_)
        · replace H := H.1 c282
          refine s_iconst (x := 0) (nx := 298) hO rfl (by decide) rfl ?_
          exact s_iret hO rfl rfl rfl ⟨rfl, _, _, rfl, rfl, H⟩
        · replace H := H.2 c282
          refine s_aload_n (nx := 286) hO rfl rfl rfl ?_
          refine s_iconst (x := 0) (nx := 287) hO rfl (by decide) rfl ?_
          refine s_callV [.int 0] (ci := 9) (F := TX9) (N := 8) (nx := 290) hO rfl kX9_change_102 (by rw [hcl]; rfl) (hs_o9 kc114) (w_X9_put hG H) rfl rfl (Nat.le_of_ble_eq_true rfl) (Nat.zero_le _) (Nat.zero_le _) rfl (k_Qi (fun r115 s116 H => ?_))
          refine s_if_eq (nx := 293) hO rfl rfl (fun c290 => ?_) (fun c290 => ?_)
          · replace H := H.1 c290
            refine s_iconst (x := 0) (nx := 298) hO rfl (by decide) rfl ?_
            exact s_iret hO rfl rfl rfl ⟨rfl, _, _, rfl, rfl, H⟩
          · replace H := H.2 c290
            refine s_iconst (x := 1) (nx := 294) hO rfl (by decide) rfl ?_
            refine s_goto hO rfl ?_
            exact s_iret hO rfl rfl rfl ⟨rfl, _, _, rfl, rfl, H⟩
    · replace H := H.2.2.2.2.2.2.2.2.2.2.2.2.2.2.2.2.2.2.2.2.2.2.2.2.1 c1
      refine ⟨299, by rw [c1]; rfl, ?_⟩
      refine s_aload_n (nx := 300) hO rfl rfl rfl ?_
      refine s_iconst (x := 0) (nx := 301) hO rfl (by decide) rfl ?_
      refine s_callV [.int 0] (ci := 9) (F := TX9) (N := 8) (nx := 304) hO rfl kX9_change_109 (by rw [hcl]; rfl) (hs_o9 kc114) (w_X9_take hG H) rfl rfl (Nat.le_of_ble_eq_true rfl) (Nat.zero_le _) (Nat.zero_le _) rfl (k_Qi (fun r117 s118 H => ?_))
      refine s_if_eq (nx := 307) hO rfl rfl (fun c304 => ?_) (fun c304 => ?_)
      · replace H := H.1 c304
        refine s_iconst (x := 0) (nx := 328) hO rfl (by decide) rfl ?_
        exact s_iret hO rfl rfl rfl ⟨rfl, _, _, rfl, rfl, H⟩
      · replace H := H.2 c304
        refine s_aload_n (nx := 308) hO rfl rfl rfl ?_
        refine s_iconst (x := 0) (nx := 309) hO rfl (by decide) rfl ?_
        refine s_callV [.int 0] (ci := 9) (F := TX9) (N := 8) (nx := 312) hO rfl kX9_change_109 (by rw [hcl]; rfl) (hs_o9 kc114) (w_X9_take hG H) rfl rfl (Nat.le_of_ble_eq_true rfl) (Nat.zero_le _) (Nat.zero_le _) rfl (k_Qi (fun r119 s120 H => ?_))
        refine s_if_eq (nx := 315) hO rfl rfl (fun c312 => ?_) (fun c312 => ?_)
        · replace H := H.1 c312
          refine s_iconst (x := 0) (nx := 328) hO rfl (by decide) rfl ?_
          exact s_iret hO rfl rfl rfl ⟨rfl, _, _, rfl, rfl, H⟩
        · replace H := H.2 c312
          refine s_aload_n (nx := 316) hO rfl rfl rfl ?_
          refine s_iconst (x := 1) (nx := 317) hO rfl (by decide) rfl ?_
          refine s_callV [.int 1] (ci := 9) (F := TX9) (N := 8) (nx := 320) hO rfl kX9_change_109 (by rw [hcl]; rfl) (hs_o9 kc114) (w_X9_take hG H) rfl rfl (Nat.le_of_ble_eq_true rfl) (Nat.zero_le _) (Nat.zero_le _) rfl (k_Qi (fun r121 s122 H => ?_))
          refine s_if_eq (nx := 323) hO rfl rfl (fun c320 => ?_) (fun c320 => ?_)
          · replace H := H.1 c320
            refine s_iconst (x := 0) (nx := 328) hO rfl (by decide) rfl ?_
            exact s_iret hO rfl rfl rfl ⟨rfl, _, _, rfl, rfl, H⟩
          · replace H := H.2 c320
            refine s_iconst (x := 1) (nx := 324) hO rfl (by decide) rfl ?_
            refine s_goto hO rfl ?_
            exact s_iret hO rfl rfl rfl ⟨rfl, _, _, rfl, rfl, H⟩
    · replace H := H.2.2.2.2.2.2.2.2.2.2.2.2.2.2.2.2.2.2.2.2.2.2.2.2.2.1 c1
      refine ⟨329, by rw [c1]; rfl, ?_⟩
      refine s_aload_n (nx := 330) hO rfl rfl rfl ?_
      refine s_iconst (x := 1) (nx := 331) hO rfl (by decide) rfl ?_
      refine s_callV [.int 1] (ci := 9) (F := TX9) (N := 8) (nx := 334) hO rfl kX9_change_109 (by rw [hcl]; rfl) (hs_o9 kc114) (w_X9_take hG H) rfl rfl (Nat.le_of_ble_eq_true rfl) (Nat.zero_le _) (Nat.zero_le _) rfl (k_Qi (fun r123 s124 H => ?_))
      refine s_if_eq (nx := 337) hO rfl rfl (fun c334 => ?_) (fun c334 => ?_)
      · replace H := H.1 c334
        refine s_iconst (x := 0) (nx := 350) hO rfl (by decide) rfl ?_
        exact s_iret hO rfl rfl rfl ⟨rfl, _, _, rfl, rfl, H⟩
      · replace H := H.2 c334
        refine s_aload_n (nx := 338) hO rfl rfl rfl ?_
        refine s_iconst (x := 0) (nx := 339) hO rfl (by decide) rfl ?_
        refine s_callV [.int 0] (ci := 9) (F := TX9) (N := 8) (nx := 342) hO rfl kX9_change_102 (by rw [hcl]; rfl) (hs_o9 kc114) (w_X9_put hG H) rfl rfl (Nat.le_of_ble_eq_true rfl) (Nat.zero_le _) (Nat.zero_le _) rfl (k_Qi (fun r125 s126 H => ?_))
        refine s_if_eq (nx := 345) hO rfl rfl (fun c342 => ?_) (fun c342 => ?_)
        · replace H := H.1 c342
          refine s_iconst (x := 0) (nx := 350) hO rfl (by decide) rfl ?_
          exact s_iret hO rfl rfl rfl ⟨rfl, _, _, rfl, rfl, H⟩
        · replace H := H.2 c342
          refine s_iconst (x := 1) (nx := 346) hO rfl (by decide) rfl ?_
          refine s_goto hO rfl ?_
          exact s_iret hO rfl rfl rfl ⟨rfl, _, _, rfl, rfl, H⟩
    · replace H := H.2.2.2.2.2.2.2.2.2.2.2.2.2.2.2.2.2.2.2.2.2.2.2.2.2.2.1 c1
      refine ⟨351, by rw [c1]; rfl, ?_⟩
      refine s_aload_n (nx := 352) hO rfl rfl rfl ?_
      refine s_iload_n (nx := 353) hO rfl rfl rfl ?_
      refine s_callV [.int v2] (ci := 9) (F := TX9) (N := 8) (nx := 356) hO rfl kX9_change_119 (by rw [hcl]; rfl) (hs_o9 kc114) (w_X9_call hG H) rfl rfl (Nat.le_of_ble_eq_true rfl) (Nat.zero_le _) (Nat.zero_le _) rfl (k_Qi (fun r127 s128 H => ?_))
      obtain ⟨b129, H⟩ := H
      exact s_iret hO rfl rfl (zb_n b129) ⟨rfl, _, _, rfl, rfl, H⟩
    · replace H := H.2.2.2.2.2.2.2.2.2.2.2.2.2.2.2.2.2.2.2.2.2.2.2.2.2.2.2.1 c1
      refine ⟨357, by rw [c1]; rfl, ?_⟩
      refine s_aload_n (nx := 358) hO rfl rfl rfl ?_
      refine s_iload_n (nx := 359) hO rfl rfl rfl ?_
      refine s_iconst (x := (nI 4)) (nx := 360) hO rfl (by decide) rfl ?_
      refine s_irem (nx := 361) hO rfl (by decide) rfl ?_
      refine s_callV [.int (v2 - v2 / (nI 4) * (nI 4))] (ci := 9) (F := TX9) (N := 8) (nx := 364) hO rfl kX9_change_122 (by rw [hcl]; rfl) (hs_o9 kc114) (w_X9_hasInts hG H) rfl rfl (Nat.le_of_ble_eq_true rfl) (Nat.zero_le _) (Nat.zero_le _) rfl (k_Pi (fun r130 H => ?_))
      refine s_if_eq (nx := 367) hO rfl rfl (fun c364 => ?_) (fun c364 => ?_)
      · replace H := H.1 c364
        refine s_iconst (x := 0) (nx := 390) hO rfl (by decide) rfl ?_
        exact s_iret hO rfl rfl rfl ⟨rfl, _, _, rfl, rfl, H⟩
      · replace H := H.2 c364
        refine s_aload_n (nx := 368) hO rfl rfl rfl ?_
        refine s_iload_n (nx := 369) hO rfl rfl rfl ?_
        refine s_iconst (x := (nI 4)) (nx := 370) hO rfl (by decide) rfl ?_
        refine s_irem (nx := 371) hO rfl (by decide) rfl ?_
        refine s_callV [.int (v2 - v2 / (nI 4) * (nI 4))] (ci := 9) (F := TX9) (N := 8) (nx := 374) hO rfl kX9_change_125 (by rw [hcl]; rfl) (hs_o9 kc114) (w_X9_takeInts hG H) rfl rfl (Nat.le_of_ble_eq_true rfl) (Nat.zero_le _) (Nat.zero_le _) rfl (k_Qi (fun r131 s132 H => ?_))
        refine s_if_eq (nx := 377) hO rfl rfl (fun c374 => ?_) (fun c374 => ?_)
        · replace H := H.1 c374
          refine s_iconst (x := 0) (nx := 390) hO rfl (by decide) rfl ?_
          exact s_iret hO rfl rfl rfl ⟨rfl, _, _, rfl, rfl, H⟩
        · replace H := H.2 c374
          refine s_aload_n (nx := 378) hO rfl rfl rfl ?_
          refine s_iconst (x := 0) (nx := 379) hO rfl (by decide) rfl ?_
          refine s_callV [.int 0] (ci := 9) (F := TX9) (N := 8) (nx := 382) hO rfl kX9_change_102 (by rw [hcl]; rfl) (hs_o9 kc114) (w_X9_put hG H) rfl rfl (Nat.le_of_ble_eq_true rfl) (Nat.zero_le _) (Nat.zero_le _) rfl (k_Qi (fun r133 s134 H => ?_))
          refine s_if_eq (nx := 385) hO rfl rfl (fun c382 => ?_) (fun c382 => ?_)
          · replace H := H.1 c382
            refine s_iconst (x := 0) (nx := 390) hO rfl (by decide) rfl ?_
            exact s_iret hO rfl rfl rfl ⟨rfl, _, _, rfl, rfl, H⟩
          · replace H := H.2 c382
            refine s_iconst (x := 1) (nx := 386) hO rfl (by decide) rfl ?_
            refine s_goto hO rfl ?_
            exact s_iret hO rfl rfl rfl ⟨rfl, _, _, rfl, rfl, H⟩
    · replace H := H.2.2.2.2.2.2.2.2.2.2.2.2.2.2.2.2.2.2.2.2.2.2.2.2.2.2.2.2.1 c1
      refine ⟨391, by rw [c1]; rfl, ?_⟩
      refine s_aload_n (nx := 392) hO rfl rfl rfl ?_
      obtain ⟨p135, ep135, kp135, H⟩ := H
      refine s_getf (v := .ref (q_b G + p135)) (nx := 395) hO rfl rfl (hs_o9 kc114) (congrArg some (rv_at ep135)) rfl ?_
      refine s_getf (v := .ref (q_b G + (p135 + 4))) (nx := 398) hO rfl rfl (hs_o5 kp135) rfl rfl ?_
      refine s_aload_n (nx := 399) hO rfl rfl rfl ?_
      refine s_getf (v := .int (sI s 114 3)) (nx := 402) hO rfl rfl (hs_o9 kc114) rfl rfl ?_
      obtain ⟨b136, H⟩ := H
      refine s_iald (nx := 403) hO rfl (hs_I (kf5_4 kp135)) b136 rfl ?_
      refine s_if_eq (nx := 406) hO rfl rfl (fun c403 => ?_) (fun c403 => ?_)
      · replace H := H.1 c403
        refine s_iconst (x := 1) (nx := 428) hO rfl (by decide) rfl ?_
        refine s_goto hO rfl ?_
        exact s_iret hO rfl rfl rfl ⟨rfl, _, _, rfl, rfl, H⟩
      · replace H := H.2 c403
        refine s_aload_n (nx := 407) hO rfl rfl rfl ?_
        refine s_aload_n (nx := 408) hO rfl rfl rfl ?_
        obtain ⟨p137, ep137, kp137, H⟩ := H
        refine s_getf (v := .ref (q_b G + p137)) (nx := 411) hO rfl rfl (hs_o9 kc114) (congrArg some (rv_at ep137)) rfl ?_
        refine s_getf (v := .ref (q_b G + (p137 + 4))) (nx := 414) hO rfl rfl (hs_o5 kp137) rfl rfl ?_
        refine s_aload_n (nx := 415) hO rfl rfl rfl ?_
        refine s_getf (v := .int (sI s 114 3)) (nx := 418) hO rfl rfl (hs_o9 kc114) rfl rfl ?_
        obtain ⟨b138, H⟩ := H
        refine s_iald (nx := 419) hO rfl (hs_I (kf5_4 kp137)) b138 rfl ?_
        refine s_iconst (x := 1) (nx := 420) hO rfl (by decide) rfl ?_
        refine s_isub (nx := 421) hO rfl rfl ?_
        refine s_callV [.int ((sI s (p137 + 4) (ix (sI s 114 3))) - 1)] (ci := 9) (F := TX9) (N := 8) (nx := 424) hO rfl kX9_change_109 (by rw [hcl]; rfl) (hs_o9 kc114) (w_X9_take hG H) rfl rfl (Nat.le_of_ble_eq_true rfl) (Nat.zero_le _) (Nat.zero_le _) rfl (k_Qi (fun r139 s140 H => ?_))
        refine s_if_eq (nx := 427) hO rfl rfl (fun c424 => ?_) (fun c424 => ?_)
        · replace H := H.1 c424
          refine s_iconst (x := 0) (nx := 432) hO rfl (by decide) rfl ?_
          exact s_iret hO rfl rfl rfl ⟨rfl, _, _, rfl, rfl, H⟩
        · replace H := H.2 c424
          refine s_iconst (x := 1) (nx := 428) hO rfl (by decide) rfl ?_
          refine s_goto hO rfl ?_
          exact s_iret hO rfl rfl rfl ⟨rfl, _, _, rfl, rfl, H⟩
    · replace H := H.2.2.2.2.2.2.2.2.2.2.2.2.2.2.2.2.2.2.2.2.2.2.2.2.2.2.2.2.2.1 c1
      refine ⟨241, by rw [c1]; rfl, ?_⟩
      refine s_aload_n (nx := 242) hO rfl rfl rfl ?_
      refine s_iconst (x := 0) (nx := 243) hO rfl (by decide) rfl ?_
      refine s_callV [.int 0] (ci := 9) (F := TX9) (N := 8) (nx := 246) hO rfl kX9_change_109 (by rw [hcl]; rfl) (hs_o9 kc114) (w_X9_take hG H) rfl rfl (Nat.le_of_ble_eq_true rfl) (Nat.zero_le _) (Nat.zero_le _) rfl (k_Qi (fun r141 s142 H => ?_))
      obtain ⟨b143, H⟩ := H
      exact s_iret hO rfl rfl (zb_n b143) ⟨rfl, _, _, rfl, rfl, H⟩
    · replace H := H.2.2.2.2.2.2.2.2.2.2.2.2.2.2.2.2.2.2.2.2.2.2.2.2.2.2.2.2.2.2 c1
      refine ⟨433, by rw [c1]; rfl, ?_⟩
      refine s_aload_n (nx := 434) hO rfl rfl rfl ?_
      refine s_iload_n (nx := 435) hO rfl rfl rfl ?_
      refine s_iconst (x := (nI 4)) (nx := 436) hO rfl (by decide) rfl ?_
      refine s_irem (nx := 437) hO rfl (by decide) rfl ?_
      refine s_callV [.int (v2 - v2 / (nI 4) * (nI 4))] (ci := 9) (F := TX9) (N := 8) (nx := 440) hO rfl kX9_change_122 (by rw [hcl]; rfl) (hs_o9 kc114) (w_X9_hasInts hG H) rfl rfl (Nat.le_of_ble_eq_true rfl) (Nat.zero_le _) (Nat.zero_le _) rfl (k_Pi (fun r144 H => ?_))
      obtain ⟨b145, H⟩ := H
      exact s_iret hO rfl rfl (zb_n b145) ⟨rfl, _, _, rfl, rfl, H⟩
def W_X11_giveBytes (s : yS) (v1 : Int64) (v2 : Int32) (Q : Int32 → yS → Prop) : Prop :=
 ((v2 < 1 → Q 0 s)
 ∧ (¬ v2 < 1 → (((nI 8) < v2 → Q 0 s)
  ∧ (¬ (nI 8) < v2 → ((v2 ≤ ((nI 8192) - (sI s 0 2)) → ∀ P30 : Int32 → yS → Prop, (∀ (x1 : Int32) (s2 : yS), (((x1 < 0 → Q 1 s2)
     ∧ (¬ x1 < 0 → vp_in (sI s2 0 2) 8192 ∧ ∀ s4 : yS, s4 = wI s2 1 (ix (sI s2 0 2)) (vp_nar .byte (((v1 >>> ((((nI 8) * x1)).toInt64 &&& 63))).toInt32).toInt8.toInt32) → 
      ∀ s5 : yS, s5 = wI s4 0 2 ((sI s4 0 2) + 1) → 
      ∀ x6 : Int32, x6 = (x1 + (-1)) → 
      P30 x6 s5))) → P30 x1 s2) → 
    ∀ x7 : Int32, x7 = (v2 - 1) → 
    P30 x7 s)
   ∧ (¬ v2 ≤ ((nI 8192) - (sI s 0 2)) → Q 0 s))))))
set_option maxRecDepth 100000 in
set_option maxHeartbeats 40000000 in
theorem w_X11_giveBytes {G : xG} (hG : yG G) {z : Nat} {s : yS} {v1 : Int64} {v2 : Int32} {Q : Int32 → yS → Prop} (H : W_X11_giveBytes s v1 v2 Q) : xC G mX11_giveBytes [.ref (q_b G + 0), .long v1, .int v2] (hS G s) z 0 0 (yQi G z Q) := by
  have hW := hG.1
  have hcl := hG.2.1
  have hty := hG.2.2.1
  have hO : xO G mX11_giveBytes tbX11_giveBytes ptX11_giveBytes := ⟨tkX11_giveBytes, pkX11_giveBytes hcl⟩
  unfold W_X11_giveBytes at H
  refine xC.of hW (by decide) rfl (Nat.le_of_ble_eq_true rfl) ?_
  refine s_iload_n (nx := 1) hO rfl rfl rfl ?_
  refine s_iconst (x := 1) (nx := 2) hO rfl (by decide) rfl ?_
  refine s_icmp_lt (nx := 5) hO rfl rfl (fun c2 => ?_) (fun c2 => ?_)
  · replace H := H.1 c2
    refine s_iconst (x := 0) (nx := 24) hO rfl (by decide) rfl ?_
    exact s_iret hO rfl rfl rfl ⟨rfl, _, _, rfl, rfl, H⟩
  · replace H := H.2 c2
    refine s_iload_n (nx := 6) hO rfl rfl rfl ?_
    refine s_bipush (x := (nI 8)) (nx := 8) hO rfl (by decide) rfl ?_
    refine s_icmp_gt (nx := 11) hO rfl rfl (fun c8 => ?_) (fun c8 => ?_)
    · replace H := H.1 c8
      refine s_iconst (x := 0) (nx := 24) hO rfl (by decide) rfl ?_
      exact s_iret hO rfl rfl rfl ⟨rfl, _, _, rfl, rfl, H⟩
    · replace H := H.2 c8
      refine s_iload_n (nx := 12) hO rfl rfl rfl ?_
      refine s_sipush (x := (nI 8192)) (nx := 15) hO rfl (by decide) rfl ?_
      refine s_aload_n (nx := 16) hO rfl rfl rfl ?_
      refine s_getf (v := .int (sI s 0 2)) (nx := 19) hO rfl rfl (hs_o11 kc0) rfl rfl ?_
      refine s_isub (nx := 20) hO rfl rfl ?_
      refine s_icmp_le (nx := 23) hO rfl rfl (fun c20 => ?_) (fun c20 => ?_)
      · replace H := H.1 c20
        refine s_iload_n (nx := 26) hO rfl rfl rfl ?_
        refine s_iconst (x := 1) (nx := 27) hO rfl (by decide) rfl ?_
        refine s_isub (nx := 28) hO rfl rfl ?_
        refine goK (H (fun (x1 : Int32) (s2 : yS) => xEx G mX11_giveBytes 30 [(0, .ref (q_b G + 0)), (1, .long v1), (4, .int x1)] [] (hS G s2) z 0 0 (yQi G z Q)) (fun x1 s2 H => ?_)) (fun H => ?_)
        · show xEx G mX11_giveBytes 30 [(0, .ref (q_b G + 0)), (1, .long v1), (4, .int x1)] [] (hS G s2) z 0 0 (yQi G z Q)
          refine s_iload (nx := 32) hO rfl rfl rfl ?_
          refine s_if_lt (nx := 35) hO rfl rfl (fun c32 => ?_) (fun c32 => ?_)
          · replace H := H.1 c32
            refine s_iconst (x := 1) (nx := 70) hO rfl (by decide) rfl ?_
            exact s_iret hO rfl rfl rfl ⟨rfl, _, _, rfl, rfl, H⟩
          · replace H := H.2 c32
            refine s_aload_n (nx := 36) hO rfl rfl rfl ?_
            refine s_getf (v := .ref (q_b G + 1)) (nx := 39) hO rfl rfl (hs_o11 kc0) rfl rfl ?_
            refine s_aload_n (nx := 40) hO rfl rfl rfl ?_
            refine s_getf (v := .int (sI s2 0 2)) (nx := 43) hO rfl rfl (hs_o11 kc0) rfl rfl ?_
            refine s_lload_n (nx := 44) hO rfl rfl rfl ?_
            refine s_bipush (x := (nI 8)) (nx := 46) hO rfl (by decide) rfl ?_
            refine s_iload (nx := 48) hO rfl rfl rfl ?_
            refine s_imul (nx := 49) hO rfl rfl ?_
            refine s_lshr (nx := 50) hO rfl rfl ?_
            refine s_l2i (nx := 51) hO rfl rfl ?_
            refine s_i2b (nx := 52) hO rfl rfl ?_
            obtain ⟨b3, H⟩ := H
            refine goV (wI s2 1 (ix (sI s2 0 2)) (vp_nar .byte (((v1 >>> ((((nI 8) * x1)).toInt64 &&& 63))).toInt32).toInt8.toInt32)) (fun s4 es4 => ?_)
            replace H := H s4 es4
            refine s_bast (nx := 53) hO rfl (hs_B kc1) b3 rfl ?_
            refine xEx.at (up_B kc1 es4) ?_
            refine s_aload_n (nx := 54) hO rfl rfl rfl ?_
            refine s_dup (nx := 55) hO rfl rfl rfl ?_
            refine s_getf (v := .int (sI s4 0 2)) (nx := 58) hO rfl rfl (hs_o11 kc0) rfl rfl ?_
            refine s_iconst (x := 1) (nx := 59) hO rfl (by decide) rfl ?_
            refine s_iadd (nx := 60) hO rfl rfl ?_
            refine goV (wI s4 0 2 ((sI s4 0 2) + 1)) (fun s5 es5 => ?_)
            replace H := H s5 es5
            refine s_putf (nx := 63) hO rfl rfl (hs_o11 kc0) (Nat.le_of_ble_eq_true rfl) (by rw [hty]; rfl) (by rw [hty]; rfl) pX11_2 rfl ?_
            refine xEx.at (up_oI11 kc0 es5) ?_
            refine goV ((x1 + (-1))) (fun x6 ex6 => ?_)
            replace H := H x6 ex6
            refine e_iinc (nx := 66) (l' := [(4, .int x6), (0, .ref (q_b G + 0)), (1, .long v1)]) ex6 hO rfl (by decide) rfl rfl rfl rfl ?_
            refine s_goto hO rfl ?_
            exact xEx.loc (x_sub1 (List.Mem.tail _ (List.Mem.head _)) (x_sub1 (List.Mem.tail _ (List.Mem.tail _ (List.Mem.head _))) (x_sub1 (List.Mem.head _) x_sub0))) H
        refine goV ((v2 - 1)) (fun x7 ex7 => ?_)
        replace H := H x7 ex7
        refine e_istore (nx := 30) (l' := [(4, .int x7), (0, .ref (q_b G + 0)), (1, .long v1), (3, .int v2)]) ex7 hO rfl (by decide) rfl rfl ?_
        exact xEx.loc (x_sub1 (List.Mem.tail _ (List.Mem.head _)) (x_sub1 (List.Mem.tail _ (List.Mem.tail _ (List.Mem.head _))) (x_sub1 (List.Mem.head _) x_sub0))) H
      · replace H := H.2 c20
        refine s_iconst (x := 0) (nx := 24) hO rfl (by decide) rfl ?_
        exact s_iret hO rfl rfl rfl ⟨rfl, _, _, rfl, rfl, H⟩
def W_X11_cutBytes (s : yS) (v1 : Int32) (Q : Int32 → yS → Prop) : Prop :=
 ((v1 < 0 → Q 0 s)
 ∧ (¬ v1 < 0 → ((v1 ≤ (sI s 0 2) → ∀ s1 : yS, s1 = wI s 0 2 v1 → 
   Q 1 s1)
  ∧ (¬ v1 ≤ (sI s 0 2) → Q 0 s))))
set_option maxRecDepth 100000 in
set_option maxHeartbeats 40000000 in
theorem w_X11_cutBytes {G : xG} (hG : yG G) {z : Nat} {s : yS} {v1 : Int32} {Q : Int32 → yS → Prop} (H : W_X11_cutBytes s v1 Q) : xC G mX11_cutBytes [.ref (q_b G + 0), .int v1] (hS G s) z 0 0 (yQi G z Q) := by
  have hW := hG.1
  have hcl := hG.2.1
  have hty := hG.2.2.1
  have hO : xO G mX11_cutBytes tbX11_cutBytes ptX11_cutBytes := ⟨tkX11_cutBytes, pkX11_cutBytes hcl⟩
  unfold W_X11_cutBytes at H
  refine xC.of hW (by decide) rfl (Nat.le_of_ble_eq_true rfl) ?_
  refine s_iload_n (nx := 1) hO rfl rfl rfl ?_
  refine s_if_lt (nx := 4) hO rfl rfl (fun c1 => ?_) (fun c1 => ?_)
  · replace H := H.1 c1
    refine s_iconst (x := 0) (nx := 13) hO rfl (by decide) rfl ?_
    exact s_iret hO rfl rfl rfl ⟨rfl, _, _, rfl, rfl, H⟩
  · replace H := H.2 c1
    refine s_iload_n (nx := 5) hO rfl rfl rfl ?_
    refine s_aload_n (nx := 6) hO rfl rfl rfl ?_
    refine s_getf (v := .int (sI s 0 2)) (nx := 9) hO rfl rfl (hs_o11 kc0) rfl rfl ?_
    refine s_icmp_le (nx := 12) hO rfl rfl (fun c9 => ?_) (fun c9 => ?_)
    · replace H := H.1 c9
      refine s_aload_n (nx := 15) hO rfl rfl rfl ?_
      refine s_iload_n (nx := 16) hO rfl rfl rfl ?_
      refine goV (wI s 0 2 v1) (fun s1 es1 => ?_)
      replace H := H s1 es1
      refine s_putf (nx := 19) hO rfl rfl (hs_o11 kc0) (Nat.le_of_ble_eq_true rfl) (by rw [hty]; rfl) (by rw [hty]; rfl) pX11_2 rfl ?_
      refine xEx.at (up_oI11 kc0 es1) ?_
      refine s_iconst (x := 1) (nx := 20) hO rfl (by decide) rfl ?_
      exact s_iret hO rfl rfl rfl ⟨rfl, _, _, rfl, rfl, H⟩
    · replace H := H.2 c9
      refine s_iconst (x := 0) (nx := 13) hO rfl (by decide) rfl ?_
      exact s_iret hO rfl rfl rfl ⟨rfl, _, _, rfl, rfl, H⟩
def W_X11_pokeByte (s : yS) (v1 : Int32) (v2 : Int32) (Q : Int32 → yS → Prop) : Prop :=
 ((v1 < 0 → Q 0 s)
 ∧ (¬ v1 < 0 → ((v1 < (sI s 0 2) → vp_in v1 8192 ∧ ∀ s2 : yS, s2 = wI s 1 (ix v1) (vp_nar .byte (v2).toInt8.toInt32) → 
   Q 1 s2)
  ∧ (¬ v1 < (sI s 0 2) → Q 0 s))))
set_option maxRecDepth 100000 in
set_option maxHeartbeats 40000000 in
theorem w_X11_pokeByte {G : xG} (hG : yG G) {z : Nat} {s : yS} {v1 : Int32} {v2 : Int32} {Q : Int32 → yS → Prop} (H : W_X11_pokeByte s v1 v2 Q) : xC G mX11_pokeByte [.ref (q_b G + 0), .int v1, .int v2] (hS G s) z 0 0 (yQi G z Q) := by
  have hW := hG.1
  have hcl := hG.2.1
  have hty := hG.2.2.1
  have hO : xO G mX11_pokeByte tbX11_pokeByte ptX11_pokeByte := ⟨tkX11_pokeByte, pkX11_pokeByte hcl⟩
  unfold W_X11_pokeByte at H
  refine xC.of hW (by decide) rfl (Nat.le_of_ble_eq_true rfl) ?_
  refine s_iload_n (nx := 1) hO rfl rfl rfl ?_
  refine s_if_lt (nx := 4) hO rfl rfl (fun c1 => ?_) (fun c1 => ?_)
  · replace H := H.1 c1
    refine s_iconst (x := 0) (nx := 13) hO rfl (by decide) rfl ?_
    exact s_iret hO rfl rfl rfl ⟨rfl, _, _, rfl, rfl, H⟩
  · replace H := H.2 c1
    refine s_iload_n (nx := 5) hO rfl rfl rfl ?_
    refine s_aload_n (nx := 6) hO rfl rfl rfl ?_
    refine s_getf (v := .int (sI s 0 2)) (nx := 9) hO rfl rfl (hs_o11 kc0) rfl rfl ?_
    refine s_icmp_lt (nx := 12) hO rfl rfl (fun c9 => ?_) (fun c9 => ?_)
    · replace H := H.1 c9
      refine s_aload_n (nx := 15) hO rfl rfl rfl ?_
      refine s_getf (v := .ref (q_b G + 1)) (nx := 18) hO rfl rfl (hs_o11 kc0) rfl rfl ?_
      refine s_iload_n (nx := 19) hO rfl rfl rfl ?_
      refine s_iload_n (nx := 20) hO rfl rfl rfl ?_
      refine s_i2b (nx := 21) hO rfl rfl ?_
      obtain ⟨b1, H⟩ := H
      refine goV (wI s 1 (ix v1) (vp_nar .byte (v2).toInt8.toInt32)) (fun s2 es2 => ?_)
      replace H := H s2 es2
      refine s_bast (nx := 22) hO rfl (hs_B kc1) b1 rfl ?_
      refine xEx.at (up_B kc1 es2) ?_
      refine s_iconst (x := 1) (nx := 23) hO rfl (by decide) rfl ?_
      exact s_iret hO rfl rfl rfl ⟨rfl, _, _, rfl, rfl, H⟩
    · replace H := H.2 c9
      refine s_iconst (x := 0) (nx := 13) hO rfl (by decide) rfl ?_
      exact s_iret hO rfl rfl rfl ⟨rfl, _, _, rfl, rfl, H⟩
def W_X11_has (s : yS) (v1 : Int32) (Q : Int32 → Prop) : Prop :=
 ((v1 = 0 → zb (sI s 0 11) ∧ Q (sI s 0 11))
 ∧ (¬ v1 = 0 → zb (sI s 0 12) ∧ Q (sI s 0 12)))
set_option maxRecDepth 100000 in
set_option maxHeartbeats 40000000 in
theorem w_X11_has {G : xG} (hG : yG G) {z : Nat} {s : yS} {v1 : Int32} {Q : Int32 → Prop} (H : W_X11_has s v1 Q) : xC G mX11_has [.ref (q_b G + 0), .int v1] (hS G s) z 0 0 (yPi G z s Q) := by
  have hW := hG.1
  have hcl := hG.2.1
  have hty := hG.2.2.1
  have hO : xO G mX11_has tbX11_has ptX11_has := ⟨tkX11_has, pkX11_has hcl⟩
  unfold W_X11_has at H
  refine xC.of hW (by decide) rfl (Nat.le_of_ble_eq_true rfl) ?_
  refine s_iload_n (nx := 1) hO rfl rfl rfl ?_
  refine s_if_eq (nx := 4) hO rfl rfl (fun c1 => ?_) (fun c1 => ?_)
  · replace H := H.1 c1
    refine s_aload_n (nx := 12) hO rfl rfl rfl ?_
    refine s_getf (v := .int (sI s 0 11)) (nx := 15) hO rfl rfl (hs_o11 kc0) rfl rfl ?_
    obtain ⟨b1, H⟩ := H
    exact s_iret hO rfl rfl (zb_n b1) ⟨rfl, _, rfl, rfl, H⟩
  · replace H := H.2 c1
    refine s_aload_n (nx := 5) hO rfl rfl rfl ?_
    refine s_getf (v := .int (sI s 0 12)) (nx := 8) hO rfl rfl (hs_o11 kc0) rfl rfl ?_
    refine s_goto hO rfl ?_
    obtain ⟨b2, H⟩ := H
    exact s_iret hO rfl rfl (zb_n b2) ⟨rfl, _, rfl, rfl, H⟩
def W_X11_pick (s : yS) (v1 : Int32) (Q : Nat → Prop) : Prop :=
 ((v1 = 0 → ∃ p1 : Nat, sR s 0 8 = p1 + 1 ∧ kd p1 = some (9, 0) ∧ 
  Q p1)
 ∧ (¬ v1 = 0 → ∃ p2 : Nat, sR s 0 9 = p2 + 1 ∧ kd p2 = some (9, 0) ∧ 
  Q p2))
set_option maxRecDepth 100000 in
set_option maxHeartbeats 40000000 in
theorem w_X11_pick {G : xG} (hG : yG G) {z : Nat} {s : yS} {v1 : Int32} {Q : Nat → Prop} (H : W_X11_pick s v1 Q) : xC G mX11_pick [.ref (q_b G + 0), .int v1] (hS G s) z 0 0 (yPa G z s Q) := by
  have hW := hG.1
  have hcl := hG.2.1
  have hty := hG.2.2.1
  have hO : xO G mX11_pick tbX11_pick ptX11_pick := ⟨tkX11_pick, pkX11_pick hcl⟩
  unfold W_X11_pick at H
  refine xC.of hW (by decide) rfl (Nat.le_of_ble_eq_true rfl) ?_
  refine s_iload_n (nx := 1) hO rfl rfl rfl ?_
  refine s_if_eq (nx := 4) hO rfl rfl (fun c1 => ?_) (fun c1 => ?_)
  · replace H := H.1 c1
    refine s_aload_n (nx := 12) hO rfl rfl rfl ?_
    obtain ⟨p1, ep1, kp1, H⟩ := H
    refine s_getf (v := .ref (q_b G + p1)) (nx := 15) hO rfl rfl (hs_o11 kc0) (congrArg (fun q => some (Value.ref q)) (hv_11 ep1)) rfl ?_
    exact s_aret hO rfl rfl ⟨rfl, _, rfl, rfl, H⟩
  · replace H := H.2 c1
    refine s_aload_n (nx := 5) hO rfl rfl rfl ?_
    obtain ⟨p2, ep2, kp2, H⟩ := H
    refine s_getf (v := .ref (q_b G + p2)) (nx := 8) hO rfl rfl (hs_o11 kc0) (congrArg (fun q => some (Value.ref q)) (hv_11 ep2)) rfl ?_
    refine s_goto hO rfl ?_
    exact s_aret hO rfl rfl ⟨rfl, _, rfl, rfl, H⟩
def W_X11_saveProgram (s : yS) (v1 : Int32) (Q : Int32 → yS → Prop) : Prop :=
 W_X11_has s v1 
 (fun r1 => ((¬ r1 = 0 → W_X11_pick s v1 
  (fun r2 => kd r2 = some (9, 0) ∧ W_X5_write s r2 2 8192 
  (fun r3 s4 => ∀ s5 : yS, s5 = wI s4 0 3 r3 → 
  Q (sI s5 0 3) s5)))
 ∧ (r1 = 0 → Q (-1) s)))
set_option maxRecDepth 100000 in
set_option maxHeartbeats 40000000 in
theorem w_X11_saveProgram {G : xG} (hG : yG G) {z : Nat} {s : yS} {v1 : Int32} {Q : Int32 → yS → Prop} (H : W_X11_saveProgram s v1 Q) : xC G mX11_saveProgram [.ref (q_b G + 0), .int v1] (hS G s) z 0 0 (yQi G z Q) := by
  have hW := hG.1
  have hcl := hG.2.1
  have hty := hG.2.2.1
  have hO : xO G mX11_saveProgram tbX11_saveProgram ptX11_saveProgram := ⟨tkX11_saveProgram, pkX11_saveProgram hcl⟩
  unfold W_X11_saveProgram at H
  refine xC.of hW (by decide) rfl (Nat.le_of_ble_eq_true rfl) ?_
  refine s_aload_n (nx := 1) hO rfl rfl rfl ?_
  refine s_iload_n (nx := 2) hO rfl rfl rfl ?_
  refine s_callV [.int v1] (ci := 11) (F := TX11) (N := 20) (nx := 5) hO rfl kX11_saveProgram_156 (by rw [hcl]; rfl) (hs_o11 kc0) (w_X11_has hG H) rfl rfl (Nat.le_of_ble_eq_true rfl) (Nat.zero_le _) (Nat.zero_le _) rfl (k_Pi (fun r1 H => ?_))
  refine s_if_ne (nx := 8) hO rfl rfl (fun c5 => ?_) (fun c5 => ?_)
  · replace H := H.1 c5
    refine s_aload_n (nx := 11) hO rfl rfl rfl ?_
    refine s_aload_n (nx := 12) hO rfl rfl rfl ?_
    refine s_iload_n (nx := 13) hO rfl rfl rfl ?_
    refine s_callV [.int v1] (ci := 11) (F := TX11) (N := 20) (nx := 16) hO rfl kX11_saveProgram_160 (by rw [hcl]; rfl) (hs_o11 kc0) (w_X11_pick hG H) rfl rfl (Nat.le_of_ble_eq_true rfl) (Nat.zero_le _) (Nat.zero_le _) rfl (k_Pa (fun r2 H => ?_))
    obtain ⟨kr2, H⟩ := H
    refine s_aload_n (nx := 17) hO rfl rfl rfl ?_
    refine s_getf (v := .ref (q_b G + 2)) (nx := 20) hO rfl rfl (hs_o11 kc0) rfl rfl ?_
    refine s_callV [.ref (q_b G + 2)] (ci := 5) (F := TX5) (N := 19) (nx := 23) hO rfl kX11_saveProgram_164 (by rw [hcl]; rfl) (hs_o5 kr2) (w_X5_write hG kr2 kc2 H) rfl rfl (Nat.le_of_ble_eq_true rfl) (Nat.zero_le _) (Nat.zero_le _) rfl (k_Qi (fun r3 s4 H => ?_))
    refine goV (wI s4 0 3 r3) (fun s5 es5 => ?_)
    replace H := H s5 es5
    refine s_putf (nx := 26) hO rfl rfl (hs_o11 kc0) (Nat.le_of_ble_eq_true rfl) (by rw [hty]; rfl) (by rw [hty]; rfl) pX11_3 rfl ?_
    refine xEx.at (up_oI11 kc0 es5) ?_
    refine s_aload_n (nx := 27) hO rfl rfl rfl ?_
    refine s_getf (v := .int (sI s5 0 3)) (nx := 30) hO rfl rfl (hs_o11 kc0) rfl rfl ?_
    exact s_iret hO rfl rfl rfl ⟨rfl, _, _, rfl, rfl, H⟩
  · replace H := H.2 c5
    refine s_iconst (x := (-1)) (nx := 9) hO rfl (by decide) rfl ?_
    exact s_iret hO rfl rfl rfl ⟨rfl, _, _, rfl, rfl, H⟩
def W_X11_certifyIt (s : yS) (v1 : Int32) (Q : Int32 → yS → Prop) : Prop :=
 W_X11_has s v1 
 (fun r1 => ((¬ r1 = 0 → W_X11_pick s v1 
  (fun r2 => kd r2 = some (9, 0) ∧ ∃ p3 : Nat, sR s 0 6 = p3 + 1 ∧ kd p3 = some (7, 0) ∧ 
  W_X0_settle s r2 p3 
  (fun s4 => ∀ P30 : Int32 → Prop, (∀ (x5 : Int32), ((((sI s4 r2 0) ≤ x5 → Q 0 s4)
   ∧ (¬ (sI s4 r2 0) ≤ x5 → ∀ P41 : Int32 → Prop, (∀ (x6 : Int32), (vp_in x5 12 ∧ 
     (((sI s4 (r2 + 5) (ix x5)) ≤ x6 → ∀ x8 : Int32, x8 = (x5 + 1) → 
      P30 x8)
     ∧ (¬ (sI s4 (r2 + 5) (ix x5)) ≤ x6 → ∃ p9 : Nat, sR s4 0 6 = p9 + 1 ∧ kd p9 = some (7, 0) ∧ 
      W_X0_passes s4 r2 p9 x5 x6 
      (fun r10 => ((¬ r10 = 0 → ∀ x11 : Int32, x11 = (x6 + 1) → 
       P41 x11)
      ∧ (r10 = 0 → Q ((1 + ((nI 512) * x5)) + x6) s4)))))) → P41 x6) → 
    P41 0))) → P30 x5) → 
  P30 0)))
 ∧ (r1 = 0 → Q (-1) s)))
set_option maxRecDepth 100000 in
set_option maxHeartbeats 40000000 in
theorem w_X11_certifyIt {G : xG} (hG : yG G) {z : Nat} {s : yS} {v1 : Int32} {Q : Int32 → yS → Prop} (H : W_X11_certifyIt s v1 Q) : xC G mX11_certifyIt [.ref (q_b G + 0), .int v1] (hS G s) z 0 0 (yQi G z Q) := by
  have hW := hG.1
  have hcl := hG.2.1
  have hty := hG.2.2.1
  have hO : xO G mX11_certifyIt tbX11_certifyIt ptX11_certifyIt := ⟨tkX11_certifyIt, pkX11_certifyIt hcl⟩
  unfold W_X11_certifyIt at H
  refine xC.of hW (by decide) rfl (Nat.le_of_ble_eq_true rfl) ?_
  refine s_aload_n (nx := 1) hO rfl rfl rfl ?_
  refine s_iload_n (nx := 2) hO rfl rfl rfl ?_
  refine s_callV [.int v1] (ci := 11) (F := TX11) (N := 20) (nx := 5) hO rfl kX11_certifyIt_156 (by rw [hcl]; rfl) (hs_o11 kc0) (w_X11_has hG H) rfl rfl (Nat.le_of_ble_eq_true rfl) (Nat.zero_le _) (Nat.zero_le _) rfl (k_Pi (fun r1 H => ?_))
  refine s_if_ne (nx := 8) hO rfl rfl (fun c5 => ?_) (fun c5 => ?_)
  · replace H := H.1 c5
    refine s_aload_n (nx := 11) hO rfl rfl rfl ?_
    refine s_iload_n (nx := 12) hO rfl rfl rfl ?_
    refine s_callV [.int v1] (ci := 11) (F := TX11) (N := 20) (nx := 15) hO rfl kX11_certifyIt_160 (by rw [hcl]; rfl) (hs_o11 kc0) (w_X11_pick hG H) rfl rfl (Nat.le_of_ble_eq_true rfl) (Nat.zero_le _) (Nat.zero_le _) rfl (k_Pa (fun r2 H => ?_))
    obtain ⟨kr2, H⟩ := H
    refine s_astore_n (nx := 16) (l' := [(2, .ref (q_b G + r2)), (0, .ref (q_b G + 0)), (1, .int v1)]) hO rfl (by decide) rfl rfl ?_
    refine s_aload_n (nx := 17) hO rfl rfl rfl ?_
    refine s_getf (v := .ref (q_b G + 116)) (nx := 20) hO rfl rfl (hs_o11 kc0) rfl rfl ?_
    refine s_aload_n (nx := 21) hO rfl rfl rfl ?_
    refine s_aload_n (nx := 22) hO rfl rfl rfl ?_
    obtain ⟨p3, ep3, kp3, H⟩ := H
    refine s_getf (v := .ref (q_b G + p3)) (nx := 25) hO rfl rfl (hs_o11 kc0) (congrArg (fun q => some (Value.ref q)) (hv_11 ep3)) rfl ?_
    refine s_callV [.ref (q_b G + r2), .ref (q_b G + p3)] (ci := 0) (F := TX0) (N := 11) (nx := 28) hO rfl kX11_certifyIt_172 (by rw [hcl]; rfl) (hs_o0 kc116) (w_X0_settle hG kr2 kp3 H) rfl rfl (Nat.le_of_ble_eq_true rfl) (Nat.zero_le _) (Nat.zero_le _) rfl (k_Qv (fun s4 H => ?_))
    refine s_iconst (x := 0) (nx := 29) hO rfl (by decide) rfl ?_
    refine goK (H (fun (x5 : Int32) => xEx G mX11_certifyIt 30 [(0, .ref (q_b G + 0)), (2, .ref (q_b G + r2)), (3, .int x5)] [] (hS G s4) z 0 0 (yQi G z Q)) (fun x5 H => ?_)) (fun H => ?_)
    · show xEx G mX11_certifyIt 30 [(0, .ref (q_b G + 0)), (2, .ref (q_b G + r2)), (3, .int x5)] [] (hS G s4) z 0 0 (yQi G z Q)
      refine s_iload_n (nx := 31) hO rfl rfl rfl ?_
      refine s_aload_n (nx := 32) hO rfl rfl rfl ?_
      refine s_getf (v := .int (sI s4 r2 0)) (nx := 35) hO rfl rfl (hs_o5 kr2) rfl rfl ?_
      refine s_icmp_ge (nx := 38) hO rfl rfl (fun c35 => ?_) (fun c35 => ?_)
      · replace H := H.1 c35
        refine s_iconst (x := 0) (nx := 94) hO rfl (by decide) rfl ?_
        exact s_iret hO rfl rfl rfl ⟨rfl, _, _, rfl, rfl, H⟩
      · replace H := H.2 c35
        refine s_iconst (x := 0) (nx := 39) hO rfl (by decide) rfl ?_
        refine goK (H (fun (x6 : Int32) => xEx G mX11_certifyIt 41 [(0, .ref (q_b G + 0)), (2, .ref (q_b G + r2)), (3, .int x5), (4, .int x6)] [] (hS G s4) z 0 0 (yQi G z Q)) (fun x6 H => ?_)) (fun H => ?_)
        · show xEx G mX11_certifyIt 41 [(0, .ref (q_b G + 0)), (2, .ref (q_b G + r2)), (3, .int x5), (4, .int x6)] [] (hS G s4) z 0 0 (yQi G z Q)
          refine s_iload (nx := 43) hO rfl rfl rfl ?_
          refine s_aload_n (nx := 44) hO rfl rfl rfl ?_
          refine s_getf (v := .ref (q_b G + (r2 + 5))) (nx := 47) hO rfl rfl (hs_o5 kr2) rfl rfl ?_
          refine s_iload_n (nx := 48) hO rfl rfl rfl ?_
          obtain ⟨b7, H⟩ := H
          refine s_iald (nx := 49) hO rfl (hs_I (kf5_5 kr2)) b7 rfl ?_
          refine s_icmp_ge (nx := 52) hO rfl rfl (fun c49 => ?_) (fun c49 => ?_)
          · replace H := H.1 c49
            refine goV ((x5 + 1)) (fun x8 ex8 => ?_)
            replace H := H x8 ex8
            refine e_iinc (nx := 90) (l' := [(3, .int x8), (0, .ref (q_b G + 0)), (2, .ref (q_b G + r2)), (4, .int x6)]) ex8 hO rfl (by decide) rfl rfl rfl rfl ?_
            refine s_goto hO rfl ?_
            exact xEx.loc (x_sub1 (List.Mem.tail _ (List.Mem.head _)) (x_sub1 (List.Mem.tail _ (List.Mem.tail _ (List.Mem.head _))) (x_sub1 (List.Mem.head _) x_sub0))) H
          · replace H := H.2 c49
            refine s_aload_n (nx := 53) hO rfl rfl rfl ?_
            refine s_getf (v := .ref (q_b G + 116)) (nx := 56) hO rfl rfl (hs_o11 kc0) rfl rfl ?_
            refine s_aload_n (nx := 57) hO rfl rfl rfl ?_
            refine s_aload_n (nx := 58) hO rfl rfl rfl ?_
            obtain ⟨p9, ep9, kp9, H⟩ := H
            refine s_getf (v := .ref (q_b G + p9)) (nx := 61) hO rfl rfl (hs_o11 kc0) (congrArg (fun q => some (Value.ref q)) (hv_11 ep9)) rfl ?_
            refine s_iload_n (nx := 62) hO rfl rfl rfl ?_
            refine s_iload (nx := 64) hO rfl rfl rfl ?_
            refine s_callV [.ref (q_b G + r2), .ref (q_b G + p9), .int x5, .int x6] (ci := 0) (F := TX0) (N := 11) (nx := 67) hO rfl kX11_certifyIt_187 (by rw [hcl]; rfl) (hs_o0 kc116) (w_X0_passes hG kr2 kp9 H) rfl rfl (Nat.le_of_ble_eq_true rfl) (Nat.zero_le _) (Nat.zero_le _) rfl (k_Pi (fun r10 H => ?_))
            refine s_if_ne (nx := 70) hO rfl rfl (fun c67 => ?_) (fun c67 => ?_)
            · replace H := H.1 c67
              refine goV ((x6 + 1)) (fun x11 ex11 => ?_)
              replace H := H x11 ex11
              refine e_iinc (nx := 84) (l' := [(4, .int x11), (0, .ref (q_b G + 0)), (2, .ref (q_b G + r2)), (3, .int x5)]) ex11 hO rfl (by decide) rfl rfl rfl rfl ?_
              refine s_goto hO rfl ?_
              exact xEx.loc (x_sub1 (List.Mem.tail _ (List.Mem.head _)) (x_sub1 (List.Mem.tail _ (List.Mem.tail _ (List.Mem.head _))) (x_sub1 (List.Mem.tail _ (List.Mem.tail _ (List.Mem.tail _ (List.Mem.head _)))) (x_sub1 (List.Mem.head _) x_sub0)))) H
            · replace H := H.2 c67
              refine s_iconst (x := 1) (nx := 71) hO rfl (by decide) rfl ?_
              refine s_sipush (x := (nI 512)) (nx := 74) hO rfl (by decide) rfl ?_
              refine s_iload_n (nx := 75) hO rfl rfl rfl ?_
              refine s_imul (nx := 76) hO rfl rfl ?_
              refine s_iadd (nx := 77) hO rfl rfl ?_
              refine s_iload (nx := 79) hO rfl rfl rfl ?_
              refine s_iadd (nx := 80) hO rfl rfl ?_
              exact s_iret hO rfl rfl rfl ⟨rfl, _, _, rfl, rfl, H⟩
        refine s_istore (nx := 41) (l' := [(4, .int 0), (0, .ref (q_b G + 0)), (2, .ref (q_b G + r2)), (3, .int x5)]) hO rfl (by decide) rfl rfl ?_
        exact xEx.loc (x_sub1 (List.Mem.tail _ (List.Mem.head _)) (x_sub1 (List.Mem.tail _ (List.Mem.tail _ (List.Mem.head _))) (x_sub1 (List.Mem.tail _ (List.Mem.tail _ (List.Mem.tail _ (List.Mem.head _)))) (x_sub1 (List.Mem.head _) x_sub0)))) H
    refine s_istore_n (nx := 30) (l' := [(3, .int 0), (2, .ref (q_b G + r2)), (0, .ref (q_b G + 0)), (1, .int v1)]) hO rfl (by decide) rfl rfl ?_
    exact xEx.loc (x_sub1 (List.Mem.tail _ (List.Mem.tail _ (List.Mem.head _))) (x_sub1 (List.Mem.tail _ (List.Mem.head _)) (x_sub1 (List.Mem.head _) x_sub0))) H
  · replace H := H.2 c5
    refine s_iconst (x := (-1)) (nx := 9) hO rfl (by decide) rfl ?_
    exact s_iret hO rfl rfl rfl ⟨rfl, _, _, rfl, rfl, H⟩
def W_X11_addAnswer (s : yS) (v1 : Int32) (Q : Int32 → yS → Prop) : Prop :=
 W_X2_takeAnswer s v1 
 (fun r1 s2 => Q r1 s2)
set_option maxRecDepth 100000 in
set_option maxHeartbeats 40000000 in
theorem w_X11_addAnswer {G : xG} (hG : yG G) {z : Nat} {s : yS} {v1 : Int32} {Q : Int32 → yS → Prop} (H : W_X11_addAnswer s v1 Q) : xC G mX11_addAnswer [.ref (q_b G + 0), .int v1] (hS G s) z 0 0 (yQi G z Q) := by
  have hW := hG.1
  have hcl := hG.2.1
  have hty := hG.2.2.1
  have hO : xO G mX11_addAnswer tbX11_addAnswer ptX11_addAnswer := ⟨tkX11_addAnswer, pkX11_addAnswer hcl⟩
  unfold W_X11_addAnswer at H
  refine xC.of hW (by decide) rfl (Nat.le_of_ble_eq_true rfl) ?_
  refine s_aload_n (nx := 1) hO rfl rfl rfl ?_
  refine s_getf (v := .ref (q_b G + 123)) (nx := 4) hO rfl rfl (hs_o11 kc0) rfl rfl ?_
  refine s_iload_n (nx := 5) hO rfl rfl rfl ?_
  refine s_callV [.int v1] (ci := 2) (F := TX2) (N := 18) (nx := 8) hO rfl kX11_addAnswer_191 (by rw [hcl]; rfl) (hs_o2 kc123) (w_X2_takeAnswer hG H) rfl rfl (Nat.le_of_ble_eq_true rfl) (Nat.zero_le _) (Nat.zero_le _) rfl (k_Qi (fun r1 s2 H => ?_))
  exact s_iret hO rfl rfl rfl ⟨rfl, _, _, rfl, rfl, H⟩
def W_X11_dropAnswers (s : yS) (Q : yS → Prop) : Prop :=
 ∀ s1 : yS, s1 = wI s 123 2 0 → 
 Q s1
set_option maxRecDepth 100000 in
set_option maxHeartbeats 40000000 in
theorem w_X11_dropAnswers {G : xG} (hG : yG G) {z : Nat} {s : yS} {Q : yS → Prop} (H : W_X11_dropAnswers s Q) : xC G mX11_dropAnswers [.ref (q_b G + 0)] (hS G s) z 0 0 (yQv G z Q) := by
  have hW := hG.1
  have hcl := hG.2.1
  have hty := hG.2.2.1
  have hO : xO G mX11_dropAnswers tbX11_dropAnswers ptX11_dropAnswers := ⟨tkX11_dropAnswers, pkX11_dropAnswers hcl⟩
  unfold W_X11_dropAnswers at H
  refine xC.of hW (by decide) rfl (Nat.le_of_ble_eq_true rfl) ?_
  refine s_aload_n (nx := 1) hO rfl rfl rfl ?_
  refine s_getf (v := .ref (q_b G + 123)) (nx := 4) hO rfl rfl (hs_o11 kc0) rfl rfl ?_
  refine s_iconst (x := 0) (nx := 5) hO rfl (by decide) rfl ?_
  refine goV (wI s 123 2 0) (fun s1 es1 => ?_)
  replace H := H s1 es1
  refine s_putf (nx := 8) hO rfl rfl (hs_o2 kc123) (Nat.le_of_ble_eq_true rfl) (by rw [hty]; rfl) (by rw [hty]; rfl) pX2_2 rfl ?_
  refine xEx.at (up_oI2 kc123 es1) ?_
  exact s_vret hO rfl rfl ⟨rfl, _, rfl, rfl, H⟩
def W_X11_endOf (s : yS) (v1 : Int32) (Q : Int32 → Prop) : Prop :=
 W_X2_hasRun s 
 (fun r1 => ((r1 = 0 → Q (-1))
 ∧ (¬ r1 = 0 → ((v1 < 0 → Q (-1))
  ∧ (¬ v1 < 0 → (((nI 8) ≤ v1 → Q (-1))
   ∧ (¬ (nI 8) ≤ v1 → vp_in v1 8 ∧ 
    Q (sI s 124 (ix v1)))))))))
set_option maxRecDepth 100000 in
set_option maxHeartbeats 40000000 in
theorem w_X11_endOf {G : xG} (hG : yG G) {z : Nat} {s : yS} {v1 : Int32} {Q : Int32 → Prop} (H : W_X11_endOf s v1 Q) : xC G mX11_endOf [.ref (q_b G + 0), .int v1] (hS G s) z 0 0 (yPi G z s Q) := by
  have hW := hG.1
  have hcl := hG.2.1
  have hty := hG.2.2.1
  have hO : xO G mX11_endOf tbX11_endOf ptX11_endOf := ⟨tkX11_endOf, pkX11_endOf hcl⟩
  unfold W_X11_endOf at H
  refine xC.of hW (by decide) rfl (Nat.le_of_ble_eq_true rfl) ?_
  refine s_aload_n (nx := 1) hO rfl rfl rfl ?_
  refine s_getf (v := .ref (q_b G + 123)) (nx := 4) hO rfl rfl (hs_o11 kc0) rfl rfl ?_
  refine s_callV [] (ci := 2) (F := TX2) (N := 18) (nx := 7) hO rfl kX11_endOf_205 (by rw [hcl]; rfl) (hs_o2 kc123) (w_X2_hasRun hG H) rfl rfl (Nat.le_of_ble_eq_true rfl) (Nat.zero_le _) (Nat.zero_le _) rfl (k_Pi (fun r1 H => ?_))
  refine s_if_eq (nx := 10) hO rfl rfl (fun c7 => ?_) (fun c7 => ?_)
  · replace H := H.1 c7
    refine s_iconst (x := (-1)) (nx := 33) hO rfl (by decide) rfl ?_
    exact s_iret hO rfl rfl rfl ⟨rfl, _, rfl, rfl, H⟩
  · replace H := H.2 c7
    refine s_iload_n (nx := 11) hO rfl rfl rfl ?_
    refine s_if_lt (nx := 14) hO rfl rfl (fun c11 => ?_) (fun c11 => ?_)
    · replace H := H.1 c11
      refine s_iconst (x := (-1)) (nx := 33) hO rfl (by decide) rfl ?_
      exact s_iret hO rfl rfl rfl ⟨rfl, _, rfl, rfl, H⟩
    · replace H := H.2 c11
      refine s_iload_n (nx := 15) hO rfl rfl rfl ?_
      refine s_bipush (x := (nI 8)) (nx := 17) hO rfl (by decide) rfl ?_
      refine s_icmp_ge (nx := 20) hO rfl rfl (fun c17 => ?_) (fun c17 => ?_)
      · replace H := H.1 c17
        refine s_iconst (x := (-1)) (nx := 33) hO rfl (by decide) rfl ?_
        exact s_iret hO rfl rfl rfl ⟨rfl, _, rfl, rfl, H⟩
      · replace H := H.2 c17
        refine s_aload_n (nx := 21) hO rfl rfl rfl ?_
        refine s_getf (v := .ref (q_b G + 123)) (nx := 24) hO rfl rfl (hs_o11 kc0) rfl rfl ?_
        refine s_getf (v := .ref (q_b G + 124)) (nx := 27) hO rfl rfl (hs_o2 kc123) rfl rfl ?_
        refine s_iload_n (nx := 28) hO rfl rfl rfl ?_
        obtain ⟨b2, H⟩ := H
        refine s_iald (nx := 29) hO rfl (hs_I kc124) b2 rfl ?_
        refine s_goto hO rfl ?_
        exact s_iret hO rfl rfl rfl ⟨rfl, _, rfl, rfl, H⟩
def W_X11_traceAt (s : yS) (v1 : Int32) (v2 : Int32) (Q : Int32 → Prop) : Prop :=
 W_X2_hasRun s 
 (fun r1 => ((r1 = 0 → Q 0)
 ∧ (¬ r1 = 0 → W_X2_traced s v1 v2 
  (fun r2 => Q r2))))
set_option maxRecDepth 100000 in
set_option maxHeartbeats 40000000 in
theorem w_X11_traceAt {G : xG} (hG : yG G) {z : Nat} {s : yS} {v1 : Int32} {v2 : Int32} {Q : Int32 → Prop} (H : W_X11_traceAt s v1 v2 Q) : xC G mX11_traceAt [.ref (q_b G + 0), .int v1, .int v2] (hS G s) z 0 0 (yPi G z s Q) := by
  have hW := hG.1
  have hcl := hG.2.1
  have hty := hG.2.2.1
  have hO : xO G mX11_traceAt tbX11_traceAt ptX11_traceAt := ⟨tkX11_traceAt, pkX11_traceAt hcl⟩
  unfold W_X11_traceAt at H
  refine xC.of hW (by decide) rfl (Nat.le_of_ble_eq_true rfl) ?_
  refine s_aload_n (nx := 1) hO rfl rfl rfl ?_
  refine s_getf (v := .ref (q_b G + 123)) (nx := 4) hO rfl rfl (hs_o11 kc0) rfl rfl ?_
  refine s_callV [] (ci := 2) (F := TX2) (N := 18) (nx := 7) hO rfl kX11_traceAt_205 (by rw [hcl]; rfl) (hs_o2 kc123) (w_X2_hasRun hG H) rfl rfl (Nat.le_of_ble_eq_true rfl) (Nat.zero_le _) (Nat.zero_le _) rfl (k_Pi (fun r1 H => ?_))
  refine s_if_eq (nx := 10) hO rfl rfl (fun c7 => ?_) (fun c7 => ?_)
  · replace H := H.1 c7
    refine s_iconst (x := 0) (nx := 23) hO rfl (by decide) rfl ?_
    exact s_iret hO rfl rfl rfl ⟨rfl, _, rfl, rfl, H⟩
  · replace H := H.2 c7
    refine s_aload_n (nx := 11) hO rfl rfl rfl ?_
    refine s_getf (v := .ref (q_b G + 123)) (nx := 14) hO rfl rfl (hs_o11 kc0) rfl rfl ?_
    refine s_iload_n (nx := 15) hO rfl rfl rfl ?_
    refine s_iload_n (nx := 16) hO rfl rfl rfl ?_
    refine s_callV [.int v1, .int v2] (ci := 2) (F := TX2) (N := 18) (nx := 19) hO rfl kX11_traceAt_208 (by rw [hcl]; rfl) (hs_o2 kc123) (w_X2_traced hG H) rfl rfl (Nat.le_of_ble_eq_true rfl) (Nat.zero_le _) (Nat.zero_le _) rfl (k_Pi (fun r2 H => ?_))
    refine s_goto hO rfl ?_
    exact s_iret hO rfl rfl rfl ⟨rfl, _, rfl, rfl, H⟩
def W_X11_counterOf (s : yS) (v1 : Int32) (v2 : Int32) (Q : Int32 → Prop) : Prop :=
 ((v1 < 0 → Q (-1))
 ∧ (¬ v1 < 0 → ∃ p1 : Nat, sR s 0 6 = p1 + 1 ∧ kd p1 = some (7, 0) ∧ 
  (((sI s p1 0) ≤ v1 → Q (-1))
  ∧ (¬ (sI s p1 0) ≤ v1 → ∀ P31 : Prop, ((((v2 = 0 → vp_in v1 6 ∧ 
     Q (sI s 126 (ix v1)))
    ∧ (¬ v2 = 0 → vp_in v1 6 ∧ 
     Q (sI s 137 (ix v1))))) → P31) → 
   ((¬ v2 = 0 → P31)
   ∧ (v2 = 0 → W_X2_hasRun s 
    (fun r4 => ((¬ r4 = 0 → P31)
    ∧ (r4 = 0 → Q (-1))))))))))
set_option maxRecDepth 100000 in
set_option maxHeartbeats 40000000 in
theorem w_X11_counterOf {G : xG} (hG : yG G) {z : Nat} {s : yS} {v1 : Int32} {v2 : Int32} {Q : Int32 → Prop} (H : W_X11_counterOf s v1 v2 Q) : xC G mX11_counterOf [.ref (q_b G + 0), .int v1, .int v2] (hS G s) z 0 0 (yPi G z s Q) := by
  have hW := hG.1
  have hcl := hG.2.1
  have hty := hG.2.2.1
  have hO : xO G mX11_counterOf tbX11_counterOf ptX11_counterOf := ⟨tkX11_counterOf, pkX11_counterOf hcl⟩
  unfold W_X11_counterOf at H
  refine xC.of hW (by decide) rfl (Nat.le_of_ble_eq_true rfl) ?_
  refine s_iload_n (nx := 1) hO rfl rfl rfl ?_
  refine s_if_lt (nx := 4) hO rfl rfl (fun c1 => ?_) (fun c1 => ?_)
  · replace H := H.1 c1
    refine s_iconst (x := (-1)) (nx := 30) hO rfl (by decide) rfl ?_
    exact s_iret hO rfl rfl rfl ⟨rfl, _, rfl, rfl, H⟩
  · replace H := H.2 c1
    refine s_iload_n (nx := 5) hO rfl rfl rfl ?_
    refine s_aload_n (nx := 6) hO rfl rfl rfl ?_
    obtain ⟨p1, ep1, kp1, H⟩ := H
    refine s_getf (v := .ref (q_b G + p1)) (nx := 9) hO rfl rfl (hs_o11 kc0) (congrArg (fun q => some (Value.ref q)) (hv_11 ep1)) rfl ?_
    refine s_getf (v := .int (sI s p1 0)) (nx := 12) hO rfl rfl (hs_o3 kp1) rfl rfl ?_
    refine s_icmp_ge (nx := 15) hO rfl rfl (fun c12 => ?_) (fun c12 => ?_)
    · replace H := H.1 c12
      refine s_iconst (x := (-1)) (nx := 30) hO rfl (by decide) rfl ?_
      exact s_iret hO rfl rfl rfl ⟨rfl, _, rfl, rfl, H⟩
    · replace H := H.2 c12
      refine s_iload_n (nx := 16) hO rfl rfl rfl ?_
      refine goK (H (xEx G mX11_counterOf 31 [(0, .ref (q_b G + 0)), (1, .int v1), (2, .int v2)] [] (hS G s) z 0 0 (yPi G z s Q)) (fun H => ?_)) (fun H => ?_)
      · show xEx G mX11_counterOf 31 [(0, .ref (q_b G + 0)), (1, .int v1), (2, .int v2)] [] (hS G s) z 0 0 (yPi G z s Q)
        refine s_iload_n (nx := 32) hO rfl rfl rfl ?_
        refine s_if_eq (nx := 35) hO rfl rfl (fun c32 => ?_) (fun c32 => ?_)
        · replace H := H.1 c32
          refine s_aload_n (nx := 48) hO rfl rfl rfl ?_
          refine s_getf (v := .ref (q_b G + 123)) (nx := 51) hO rfl rfl (hs_o11 kc0) rfl rfl ?_
          refine s_getf (v := .ref (q_b G + 125)) (nx := 54) hO rfl rfl (hs_o2 kc123) rfl rfl ?_
          refine s_getf (v := .ref (q_b G + 126)) (nx := 57) hO rfl rfl (hs_o10 kc125) rfl rfl ?_
          refine s_iload_n (nx := 58) hO rfl rfl rfl ?_
          obtain ⟨b2, H⟩ := H
          refine s_iald (nx := 59) hO rfl (hs_I kc126) b2 rfl ?_
          exact s_iret hO rfl rfl rfl ⟨rfl, _, rfl, rfl, H⟩
        · replace H := H.2 c32
          refine s_aload_n (nx := 36) hO rfl rfl rfl ?_
          refine s_getf (v := .ref (q_b G + 136)) (nx := 39) hO rfl rfl (hs_o11 kc0) rfl rfl ?_
          refine s_getf (v := .ref (q_b G + 137)) (nx := 42) hO rfl rfl (hs_o10 kc136) rfl rfl ?_
          refine s_iload_n (nx := 43) hO rfl rfl rfl ?_
          obtain ⟨b3, H⟩ := H
          refine s_iald (nx := 44) hO rfl (hs_I kc137) b3 rfl ?_
          refine s_goto hO rfl ?_
          exact s_iret hO rfl rfl rfl ⟨rfl, _, rfl, rfl, H⟩
      refine s_if_ne (nx := 19) hO rfl rfl (fun c16 => ?_) (fun c16 => ?_)
      · replace H := H.1 c16
        exact xEx.loc (x_sub1 (List.Mem.head _) (x_sub1 (List.Mem.tail _ (List.Mem.head _)) (x_sub1 (List.Mem.tail _ (List.Mem.tail _ (List.Mem.head _))) x_sub0))) H
      · replace H := H.2 c16
        refine s_aload_n (nx := 20) hO rfl rfl rfl ?_
        refine s_getf (v := .ref (q_b G + 123)) (nx := 23) hO rfl rfl (hs_o11 kc0) rfl rfl ?_
        refine s_callV [] (ci := 2) (F := TX2) (N := 18) (nx := 26) hO rfl kX11_counterOf_205 (by rw [hcl]; rfl) (hs_o2 kc123) (w_X2_hasRun hG H) rfl rfl (Nat.le_of_ble_eq_true rfl) (Nat.zero_le _) (Nat.zero_le _) rfl (k_Pi (fun r4 H => ?_))
        refine s_if_ne (nx := 29) hO rfl rfl (fun c26 => ?_) (fun c26 => ?_)
        · replace H := H.1 c26
          exact xEx.loc (x_sub1 (List.Mem.head _) (x_sub1 (List.Mem.tail _ (List.Mem.head _)) (x_sub1 (List.Mem.tail _ (List.Mem.tail _ (List.Mem.head _))) x_sub0))) H
        · replace H := H.2 c26
          refine s_iconst (x := (-1)) (nx := 30) hO rfl (by decide) rfl ?_
          exact s_iret hO rfl rfl rfl ⟨rfl, _, rfl, rfl, H⟩
def W_X11_resetWatch (s : yS) (Q : yS → Prop) : Prop :=
 W_X10_begin s 136 
 (fun s1 => Q s1)
set_option maxRecDepth 100000 in
set_option maxHeartbeats 40000000 in
theorem w_X11_resetWatch {G : xG} (hG : yG G) {z : Nat} {s : yS} {Q : yS → Prop} (H : W_X11_resetWatch s Q) : xC G mX11_resetWatch [.ref (q_b G + 0)] (hS G s) z 0 0 (yQv G z Q) := by
  have hW := hG.1
  have hcl := hG.2.1
  have hty := hG.2.2.1
  have hO : xO G mX11_resetWatch tbX11_resetWatch ptX11_resetWatch := ⟨tkX11_resetWatch, pkX11_resetWatch hcl⟩
  unfold W_X11_resetWatch at H
  refine xC.of hW (by decide) rfl (Nat.le_of_ble_eq_true rfl) ?_
  refine s_aload_n (nx := 1) hO rfl rfl rfl ?_
  refine s_getf (v := .ref (q_b G + 136)) (nx := 4) hO rfl rfl (hs_o11 kc0) rfl rfl ?_
  refine s_callV [] (ci := 10) (F := TX10) (N := 3) (nx := 7) hO rfl kX11_resetWatch_140 (by rw [hcl]; rfl) (hs_o10 kc136) (w_X10_begin hG kc136 H) rfl rfl (Nat.le_of_ble_eq_true rfl) (Nat.zero_le _) (Nat.zero_le _) rfl (k_Qv (fun s1 H => ?_))
  exact s_vret hO rfl rfl ⟨rfl, _, rfl, rfl, H⟩
def W_X11_wayOf (s : yS) (v1 : Int32) (v2 : Int32) (Q : Int32 → Prop) : Prop :=
 ((v1 < 0 → Q (-1))
 ∧ (¬ v1 < 0 → ∃ p1 : Nat, sR s 0 6 = p1 + 1 ∧ kd p1 = some (7, 0) ∧ 
  (((sI s p1 3) ≤ v1 → Q (-1))
  ∧ (¬ (sI s p1 3) ≤ v1 → ((v2 < 0 → Q (-1))
   ∧ (¬ v2 < 0 → ∃ p2 : Nat, sR s 0 6 = p2 + 1 ∧ kd p2 = some (7, 0) ∧ 
    W_X1_count s (p2 + 10) 
    (fun r3 => ((v2 < r3 → ∃ p4 : Nat, sR s 0 6 = p4 + 1 ∧ kd p4 = some (7, 0) ∧ 
     vp_in ((v1 * (nI 512)) + v2) 32256 ∧ 
     Q (sI s (p4 + 14) (ix ((v1 * (nI 512)) + v2))))
    ∧ (¬ v2 < r3 → Q (-1))))))))))
set_option maxRecDepth 100000 in
set_option maxHeartbeats 40000000 in
theorem w_X11_wayOf {G : xG} (hG : yG G) {z : Nat} {s : yS} {v1 : Int32} {v2 : Int32} {Q : Int32 → Prop} (H : W_X11_wayOf s v1 v2 Q) : xC G mX11_wayOf [.ref (q_b G + 0), .int v1, .int v2] (hS G s) z 0 0 (yPi G z s Q) := by
  have hW := hG.1
  have hcl := hG.2.1
  have hty := hG.2.2.1
  have hO : xO G mX11_wayOf tbX11_wayOf ptX11_wayOf := ⟨tkX11_wayOf, pkX11_wayOf hcl⟩
  unfold W_X11_wayOf at H
  refine xC.of hW (by decide) rfl (Nat.le_of_ble_eq_true rfl) ?_
  refine s_iload_n (nx := 1) hO rfl rfl rfl ?_
  refine s_if_lt (nx := 4) hO rfl rfl (fun c1 => ?_) (fun c1 => ?_)
  · replace H := H.1 c1
    refine s_iconst (x := (-1)) (nx := 34) hO rfl (by decide) rfl ?_
    exact s_iret hO rfl rfl rfl ⟨rfl, _, rfl, rfl, H⟩
  · replace H := H.2 c1
    refine s_iload_n (nx := 5) hO rfl rfl rfl ?_
    refine s_aload_n (nx := 6) hO rfl rfl rfl ?_
    obtain ⟨p1, ep1, kp1, H⟩ := H
    refine s_getf (v := .ref (q_b G + p1)) (nx := 9) hO rfl rfl (hs_o11 kc0) (congrArg (fun q => some (Value.ref q)) (hv_11 ep1)) rfl ?_
    refine s_getf (v := .int (sI s p1 3)) (nx := 12) hO rfl rfl (hs_o3 kp1) rfl rfl ?_
    refine s_icmp_ge (nx := 15) hO rfl rfl (fun c12 => ?_) (fun c12 => ?_)
    · replace H := H.1 c12
      refine s_iconst (x := (-1)) (nx := 34) hO rfl (by decide) rfl ?_
      exact s_iret hO rfl rfl rfl ⟨rfl, _, rfl, rfl, H⟩
    · replace H := H.2 c12
      refine s_iload_n (nx := 16) hO rfl rfl rfl ?_
      refine s_if_lt (nx := 19) hO rfl rfl (fun c16 => ?_) (fun c16 => ?_)
      · replace H := H.1 c16
        refine s_iconst (x := (-1)) (nx := 34) hO rfl (by decide) rfl ?_
        exact s_iret hO rfl rfl rfl ⟨rfl, _, rfl, rfl, H⟩
      · replace H := H.2 c16
        refine s_iload_n (nx := 20) hO rfl rfl rfl ?_
        refine s_aload_n (nx := 21) hO rfl rfl rfl ?_
        obtain ⟨p2, ep2, kp2, H⟩ := H
        refine s_getf (v := .ref (q_b G + p2)) (nx := 24) hO rfl rfl (hs_o11 kc0) (congrArg (fun q => some (Value.ref q)) (hv_11 ep2)) rfl ?_
        refine s_getf (v := .ref (q_b G + (p2 + 10))) (nx := 27) hO rfl rfl (hs_o3 kp2) rfl rfl ?_
        refine s_callV [] (ci := 1) (F := TX1) (N := 3) (nx := 30) hO rfl kX11_wayOf_228 (by rw [hcl]; rfl) (hs_o1 (kf3_16 kp2)) (w_X1_count hG (kf3_16 kp2) H) rfl rfl (Nat.le_of_ble_eq_true rfl) (Nat.zero_le _) (Nat.zero_le _) rfl (k_Pi (fun r3 H => ?_))
        refine s_icmp_lt (nx := 33) hO rfl rfl (fun c30 => ?_) (fun c30 => ?_)
        · replace H := H.1 c30
          refine s_aload_n (nx := 36) hO rfl rfl rfl ?_
          obtain ⟨p4, ep4, kp4, H⟩ := H
          refine s_getf (v := .ref (q_b G + p4)) (nx := 39) hO rfl rfl (hs_o11 kc0) (congrArg (fun q => some (Value.ref q)) (hv_11 ep4)) rfl ?_
          refine s_getf (v := .ref (q_b G + (p4 + 14))) (nx := 42) hO rfl rfl (hs_o3 kp4) rfl rfl ?_
          refine s_iload_n (nx := 43) hO rfl rfl rfl ?_
          refine s_sipush (x := (nI 512)) (nx := 46) hO rfl (by decide) rfl ?_
          refine s_imul (nx := 47) hO rfl rfl ?_
          refine s_iload_n (nx := 48) hO rfl rfl rfl ?_
          refine s_iadd (nx := 49) hO rfl rfl ?_
          obtain ⟨b5, H⟩ := H
          refine s_iald (nx := 50) hO rfl (hs_I (kf3_17 kp4)) b5 rfl ?_
          exact s_iret hO rfl rfl rfl ⟨rfl, _, rfl, rfl, H⟩
        · replace H := H.2 c30
          refine s_iconst (x := (-1)) (nx := 34) hO rfl (by decide) rfl ?_
          exact s_iret hO rfl rfl rfl ⟨rfl, _, rfl, rfl, H⟩
def W_X11_hasFunction (s : yS) (v1 : Int32) (v2 : Int32) (Q : Int32 → Prop) : Prop :=
 W_X11_has s v1 
 (fun r1 => ((r1 = 0 → Q 0)
 ∧ (¬ r1 = 0 → ((v2 < 0 → Q 0)
  ∧ (¬ v2 < 0 → W_X11_pick s v1 
   (fun r2 => kd r2 = some (9, 0) ∧ (((sI s r2 0) ≤ v2 → Q 0)
   ∧ (¬ (sI s r2 0) ≤ v2 → Q 1))))))))
set_option maxRecDepth 100000 in
set_option maxHeartbeats 40000000 in
theorem w_X11_hasFunction {G : xG} (hG : yG G) {z : Nat} {s : yS} {v1 : Int32} {v2 : Int32} {Q : Int32 → Prop} (H : W_X11_hasFunction s v1 v2 Q) : xC G mX11_hasFunction [.ref (q_b G + 0), .int v1, .int v2] (hS G s) z 0 0 (yPi G z s Q) := by
  have hW := hG.1
  have hcl := hG.2.1
  have hty := hG.2.2.1
  have hO : xO G mX11_hasFunction tbX11_hasFunction ptX11_hasFunction := ⟨tkX11_hasFunction, pkX11_hasFunction hcl⟩
  unfold W_X11_hasFunction at H
  refine xC.of hW (by decide) rfl (Nat.le_of_ble_eq_true rfl) ?_
  refine s_aload_n (nx := 1) hO rfl rfl rfl ?_
  refine s_iload_n (nx := 2) hO rfl rfl rfl ?_
  refine s_callV [.int v1] (ci := 11) (F := TX11) (N := 20) (nx := 5) hO rfl kX11_hasFunction_156 (by rw [hcl]; rfl) (hs_o11 kc0) (w_X11_has hG H) rfl rfl (Nat.le_of_ble_eq_true rfl) (Nat.zero_le _) (Nat.zero_le _) rfl (k_Pi (fun r1 H => ?_))
  refine s_if_eq (nx := 8) hO rfl rfl (fun c5 => ?_) (fun c5 => ?_)
  · replace H := H.1 c5
    refine s_iconst (x := 0) (nx := 29) hO rfl (by decide) rfl ?_
    exact s_iret hO rfl rfl rfl ⟨rfl, _, rfl, rfl, H⟩
  · replace H := H.2 c5
    refine s_iload_n (nx := 9) hO rfl rfl rfl ?_
    refine s_if_lt (nx := 12) hO rfl rfl (fun c9 => ?_) (fun c9 => ?_)
    · replace H := H.1 c9
      refine s_iconst (x := 0) (nx := 29) hO rfl (by decide) rfl ?_
      exact s_iret hO rfl rfl rfl ⟨rfl, _, rfl, rfl, H⟩
    · replace H := H.2 c9
      refine s_iload_n (nx := 13) hO rfl rfl rfl ?_
      refine s_aload_n (nx := 14) hO rfl rfl rfl ?_
      refine s_iload_n (nx := 15) hO rfl rfl rfl ?_
      refine s_callV [.int v1] (ci := 11) (F := TX11) (N := 20) (nx := 18) hO rfl kX11_hasFunction_160 (by rw [hcl]; rfl) (hs_o11 kc0) (w_X11_pick hG H) rfl rfl (Nat.le_of_ble_eq_true rfl) (Nat.zero_le _) (Nat.zero_le _) rfl (k_Pa (fun r2 H => ?_))
      obtain ⟨kr2, H⟩ := H
      refine s_getf (v := .int (sI s r2 0)) (nx := 21) hO rfl rfl (hs_o5 kr2) rfl rfl ?_
      refine s_icmp_ge (nx := 24) hO rfl rfl (fun c21 => ?_) (fun c21 => ?_)
      · replace H := H.1 c21
        refine s_iconst (x := 0) (nx := 29) hO rfl (by decide) rfl ?_
        exact s_iret hO rfl rfl rfl ⟨rfl, _, rfl, rfl, H⟩
      · replace H := H.2 c21
        refine s_iconst (x := 1) (nx := 25) hO rfl (by decide) rfl ?_
        refine s_goto hO rfl ?_
        exact s_iret hO rfl rfl rfl ⟨rfl, _, rfl, rfl, H⟩
def W_X11_hasInstruction (s : yS) (v1 : Int32) (v2 : Int32) (v3 : Int32) (Q : Int32 → Prop) : Prop :=
 W_X11_hasFunction s v1 v2 
 (fun r1 => ((r1 = 0 → Q 0)
 ∧ (¬ r1 = 0 → ((v3 < 0 → Q 0)
  ∧ (¬ v3 < 0 → W_X11_pick s v1 
   (fun r2 => kd r2 = some (9, 0) ∧ vp_in v2 12 ∧ 
   (((sI s (r2 + 5) (ix v2)) ≤ v3 → Q 0)
   ∧ (¬ (sI s (r2 + 5) (ix v2)) ≤ v3 → Q 1))))))))
set_option maxRecDepth 100000 in
set_option maxHeartbeats 40000000 in
theorem w_X11_hasInstruction {G : xG} (hG : yG G) {z : Nat} {s : yS} {v1 : Int32} {v2 : Int32} {v3 : Int32} {Q : Int32 → Prop} (H : W_X11_hasInstruction s v1 v2 v3 Q) : xC G mX11_hasInstruction [.ref (q_b G + 0), .int v1, .int v2, .int v3] (hS G s) z 0 0 (yPi G z s Q) := by
  have hW := hG.1
  have hcl := hG.2.1
  have hty := hG.2.2.1
  have hO : xO G mX11_hasInstruction tbX11_hasInstruction ptX11_hasInstruction := ⟨tkX11_hasInstruction, pkX11_hasInstruction hcl⟩
  unfold W_X11_hasInstruction at H
  refine xC.of hW (by decide) rfl (Nat.le_of_ble_eq_true rfl) ?_
  refine s_aload_n (nx := 1) hO rfl rfl rfl ?_
  refine s_iload_n (nx := 2) hO rfl rfl rfl ?_
  refine s_iload_n (nx := 3) hO rfl rfl rfl ?_
  refine s_callV [.int v1, .int v2] (ci := 11) (F := TX11) (N := 20) (nx := 6) hO rfl kX11_hasInstruction_268 (by rw [hcl]; rfl) (hs_o11 kc0) (w_X11_hasFunction hG H) rfl rfl (Nat.le_of_ble_eq_true rfl) (Nat.zero_le _) (Nat.zero_le _) rfl (k_Pi (fun r1 H => ?_))
  refine s_if_eq (nx := 9) hO rfl rfl (fun c6 => ?_) (fun c6 => ?_)
  · replace H := H.1 c6
    refine s_iconst (x := 0) (nx := 32) hO rfl (by decide) rfl ?_
    exact s_iret hO rfl rfl rfl ⟨rfl, _, rfl, rfl, H⟩
  · replace H := H.2 c6
    refine s_iload_n (nx := 10) hO rfl rfl rfl ?_
    refine s_if_lt (nx := 13) hO rfl rfl (fun c10 => ?_) (fun c10 => ?_)
    · replace H := H.1 c10
      refine s_iconst (x := 0) (nx := 32) hO rfl (by decide) rfl ?_
      exact s_iret hO rfl rfl rfl ⟨rfl, _, rfl, rfl, H⟩
    · replace H := H.2 c10
      refine s_iload_n (nx := 14) hO rfl rfl rfl ?_
      refine s_aload_n (nx := 15) hO rfl rfl rfl ?_
      refine s_iload_n (nx := 16) hO rfl rfl rfl ?_
      refine s_callV [.int v1] (ci := 11) (F := TX11) (N := 20) (nx := 19) hO rfl kX11_hasInstruction_160 (by rw [hcl]; rfl) (hs_o11 kc0) (w_X11_pick hG H) rfl rfl (Nat.le_of_ble_eq_true rfl) (Nat.zero_le _) (Nat.zero_le _) rfl (k_Pa (fun r2 H => ?_))
      obtain ⟨kr2, H⟩ := H
      refine s_getf (v := .ref (q_b G + (r2 + 5))) (nx := 22) hO rfl rfl (hs_o5 kr2) rfl rfl ?_
      refine s_iload_n (nx := 23) hO rfl rfl rfl ?_
      obtain ⟨b3, H⟩ := H
      refine s_iald (nx := 24) hO rfl (hs_I (kf5_5 kr2)) b3 rfl ?_
      refine s_icmp_ge (nx := 27) hO rfl rfl (fun c24 => ?_) (fun c24 => ?_)
      · replace H := H.1 c24
        refine s_iconst (x := 0) (nx := 32) hO rfl (by decide) rfl ?_
        exact s_iret hO rfl rfl rfl ⟨rfl, _, rfl, rfl, H⟩
      · replace H := H.2 c24
        refine s_iconst (x := 1) (nx := 28) hO rfl (by decide) rfl ?_
        refine s_goto hO rfl ?_
        exact s_iret hO rfl rfl rfl ⟨rfl, _, rfl, rfl, H⟩
def W_X11_codeOf (s : yS) (v1 : Int32) (v2 : Int32) (v3 : Int32) (v4 : Int32) (Q : Int32 → yS → Prop) : Prop :=
 W_X11_hasInstruction s v1 v2 v3 
 (fun r1 => ((¬ r1 = 0 → W_X11_pick s v1 
  (fun r2 => kd r2 = some (9, 0) ∧ ∀ x3 : Int32, x3 = ((v2 * (nI 400)) + v3) → 
  ((((v4).toInt < 0 ∨ 5 < (v4).toInt) → Q 0 s)
  ∧ ((v4).toInt = 0 → vp_in x3 4800 ∧ 
    Q (sI s (r2 + 7) (ix x3)) s)
  ∧ ((v4).toInt = 1 → vp_in x3 4800 ∧ 
    Q (sI s (r2 + 8) (ix x3)) s)
  ∧ ((v4).toInt = 2 → vp_in x3 4800 ∧ 
    Q (sI s (r2 + 9) (ix x3)) s)
  ∧ ((v4).toInt = 3 → vp_in x3 4800 ∧ 
    Q (sI s (r2 + 10) (ix x3)) s)
  ∧ ((v4).toInt = 4 → W_X5_isGuarded s r2 v2 v3 
    (fun r8 => ((r8 = 0 → Q 0 s)
    ∧ (¬ r8 = 0 → Q 1 s))))
  ∧ ((v4).toInt = 5 → ∃ p9 : Nat, sR s 0 6 = p9 + 1 ∧ kd p9 = some (7, 0) ∧ 
    W_X0_settle s r2 p9 
    (fun s10 => ∃ p11 : Nat, sR s10 0 6 = p11 + 1 ∧ kd p11 = some (7, 0) ∧ 
    W_X0_needs s10 r2 p11 x3 
    (fun r12 => ((r12 = 0 → Q 0 s10)
    ∧ (¬ r12 = 0 → Q 1 s10))))))))
 ∧ (r1 = 0 → Q 0 s)))
set_option maxRecDepth 100000 in
set_option maxHeartbeats 40000000 in
theorem w_X11_codeOf {G : xG} (hG : yG G) {z : Nat} {s : yS} {v1 : Int32} {v2 : Int32} {v3 : Int32} {v4 : Int32} {Q : Int32 → yS → Prop} (H : W_X11_codeOf s v1 v2 v3 v4 Q) : xC G mX11_codeOf [.ref (q_b G + 0), .int v1, .int v2, .int v3, .int v4] (hS G s) z 0 0 (yQi G z Q) := by
  have hW := hG.1
  have hcl := hG.2.1
  have hty := hG.2.2.1
  have hO : xO G mX11_codeOf tbX11_codeOf ptX11_codeOf := ⟨tkX11_codeOf, pkX11_codeOf hcl⟩
  unfold W_X11_codeOf at H
  refine xC.of hW (by decide) rfl (Nat.le_of_ble_eq_true rfl) ?_
  refine s_aload_n (nx := 1) hO rfl rfl rfl ?_
  refine s_iload_n (nx := 2) hO rfl rfl rfl ?_
  refine s_iload_n (nx := 3) hO rfl rfl rfl ?_
  refine s_iload_n (nx := 4) hO rfl rfl rfl ?_
  refine s_callV [.int v1, .int v2, .int v3] (ci := 11) (F := TX11) (N := 20) (nx := 7) hO rfl kX11_codeOf_240 (by rw [hcl]; rfl) (hs_o11 kc0) (w_X11_hasInstruction hG H) rfl rfl (Nat.le_of_ble_eq_true rfl) (Nat.zero_le _) (Nat.zero_le _) rfl (k_Pi (fun r1 H => ?_))
  refine s_if_ne (nx := 10) hO rfl rfl (fun c7 => ?_) (fun c7 => ?_)
  · replace H := H.1 c7
    refine s_aload_n (nx := 13) hO rfl rfl rfl ?_
    refine s_iload_n (nx := 14) hO rfl rfl rfl ?_
    refine s_callV [.int v1] (ci := 11) (F := TX11) (N := 20) (nx := 17) hO rfl kX11_codeOf_160 (by rw [hcl]; rfl) (hs_o11 kc0) (w_X11_pick hG H) rfl rfl (Nat.le_of_ble_eq_true rfl) (Nat.zero_le _) (Nat.zero_le _) rfl (k_Pa (fun r2 H => ?_))
    obtain ⟨kr2, H⟩ := H
    refine s_astore (nx := 19) (l' := [(5, .ref (q_b G + r2)), (0, .ref (q_b G + 0)), (1, .int v1), (2, .int v2), (3, .int v3), (4, .int v4)]) hO rfl (by decide) rfl rfl ?_
    refine s_iload_n (nx := 20) hO rfl rfl rfl ?_
    refine s_sipush (x := (nI 400)) (nx := 23) hO rfl (by decide) rfl ?_
    refine s_imul (nx := 24) hO rfl rfl ?_
    refine s_iload_n (nx := 25) hO rfl rfl rfl ?_
    refine s_iadd (nx := 26) hO rfl rfl ?_
    refine goV (((v2 * (nI 400)) + v3)) (fun x3 ex3 => ?_)
    replace H := H x3 ex3
    refine e_istore (nx := 28) (l' := [(6, .int x3), (5, .ref (q_b G + r2)), (0, .ref (q_b G + 0)), (1, .int v1), (2, .int v2), (3, .int v3), (4, .int v4)]) ex3 hO rfl (by decide) rfl rfl ?_
    refine s_iload (nx := 30) hO rfl rfl rfl ?_
    refine s_switch hO rfl (fun c30 => ?_) (fun dc30 fc30 => ?_)
    · replace H := H.1 c30
      refine s_iconst (x := 0) (nx := 158) hO rfl (by decide) rfl ?_
      exact s_iret hO rfl rfl rfl ⟨rfl, _, _, rfl, rfl, H⟩
    · obtain c30 | c30 | c30 | c30 | c30 | c30 : (v4).toInt = 0 ∨ (v4).toInt = 1 ∨ (v4).toInt = 2 ∨ (v4).toInt = 3 ∨ (v4).toInt = 4 ∨ (v4).toInt = 5 := by omega
      · replace H := H.2.1 c30
        refine ⟨68, by rw [c30]; rfl, ?_⟩
        refine s_aload (nx := 70) hO rfl rfl rfl ?_
        refine s_getf (v := .ref (q_b G + (r2 + 7))) (nx := 73) hO rfl rfl (hs_o5 kr2) rfl rfl ?_
        refine s_iload (nx := 75) hO rfl rfl rfl ?_
        obtain ⟨b4, H⟩ := H
        refine s_iald (nx := 76) hO rfl (hs_I (kf5_7 kr2)) b4 rfl ?_
        exact s_iret hO rfl rfl rfl ⟨rfl, _, _, rfl, rfl, H⟩
      · replace H := H.2.2.1 c30
        refine ⟨77, by rw [c30]; rfl, ?_⟩
        refine s_aload (nx := 79) hO rfl rfl rfl ?_
        refine s_getf (v := .ref (q_b G + (r2 + 8))) (nx := 82) hO rfl rfl (hs_o5 kr2) rfl rfl ?_
        refine s_iload (nx := 84) hO rfl rfl rfl ?_
        obtain ⟨b5, H⟩ := H
        refine s_iald (nx := 85) hO rfl (hs_I (kf5_8 kr2)) b5 rfl ?_
        exact s_iret hO rfl rfl rfl ⟨rfl, _, _, rfl, rfl, H⟩
      · replace H := H.2.2.2.1 c30
        refine ⟨86, by rw [c30]; rfl, ?_⟩
        refine s_aload (nx := 88) hO rfl rfl rfl ?_
        refine s_getf (v := .ref (q_b G + (r2 + 9))) (nx := 91) hO rfl rfl (hs_o5 kr2) rfl rfl ?_
        refine s_iload (nx := 93) hO rfl rfl rfl ?_
        obtain ⟨b6, H⟩ := H
        refine s_iald (nx := 94) hO rfl (hs_I (kf5_9 kr2)) b6 rfl ?_
        exact s_iret hO rfl rfl rfl ⟨rfl, _, _, rfl, rfl, H⟩
      · replace H := H.2.2.2.2.1 c30
        refine ⟨95, by rw [c30]; rfl, ?_⟩
        refine s_aload (nx := 97) hO rfl rfl rfl ?_
        refine s_getf (v := .ref (q_b G + (r2 + 10))) (nx := 100) hO rfl rfl (hs_o5 kr2) rfl rfl ?_
        refine s_iload (nx := 102) hO rfl rfl rfl ?_
        obtain ⟨b7, H⟩ := H
        refine s_iald (nx := 103) hO rfl (hs_I (kf5_10 kr2)) b7 rfl ?_
        exact s_iret hO rfl rfl rfl ⟨rfl, _, _, rfl, rfl, H⟩
      · replace H := H.2.2.2.2.2.1 c30
        refine ⟨104, by rw [c30]; rfl, ?_⟩
        refine s_aload (nx := 106) hO rfl rfl rfl ?_
        refine s_iload_n (nx := 107) hO rfl rfl rfl ?_
        refine s_iload_n (nx := 108) hO rfl rfl rfl ?_
        refine s_callV [.int v2, .int v3] (ci := 5) (F := TX5) (N := 19) (nx := 111) hO rfl kX11_codeOf_256 (by rw [hcl]; rfl) (hs_o5 kr2) (w_X5_isGuarded hG kr2 H) rfl rfl (Nat.le_of_ble_eq_true rfl) (Nat.zero_le _) (Nat.zero_le _) rfl (k_Pi (fun r8 H => ?_))
        refine s_if_eq (nx := 114) hO rfl rfl (fun c111 => ?_) (fun c111 => ?_)
        · replace H := H.1 c111
          refine s_iconst (x := 0) (nx := 119) hO rfl (by decide) rfl ?_
          exact s_iret hO rfl rfl rfl ⟨rfl, _, _, rfl, rfl, H⟩
        · replace H := H.2 c111
          refine s_iconst (x := 1) (nx := 115) hO rfl (by decide) rfl ?_
          refine s_goto hO rfl ?_
          exact s_iret hO rfl rfl rfl ⟨rfl, _, _, rfl, rfl, H⟩
      · replace H := H.2.2.2.2.2.2 c30
        refine ⟨120, by rw [c30]; rfl, ?_⟩
        refine s_aload_n (nx := 121) hO rfl rfl rfl ?_
        refine s_getf (v := .ref (q_b G + 116)) (nx := 124) hO rfl rfl (hs_o11 kc0) rfl rfl ?_
        refine s_aload (nx := 126) hO rfl rfl rfl ?_
        refine s_aload_n (nx := 127) hO rfl rfl rfl ?_
        obtain ⟨p9, ep9, kp9, H⟩ := H
        refine s_getf (v := .ref (q_b G + p9)) (nx := 130) hO rfl rfl (hs_o11 kc0) (congrArg (fun q => some (Value.ref q)) (hv_11 ep9)) rfl ?_
        refine s_callV [.ref (q_b G + r2), .ref (q_b G + p9)] (ci := 0) (F := TX0) (N := 11) (nx := 133) hO rfl kX11_codeOf_172 (by rw [hcl]; rfl) (hs_o0 kc116) (w_X0_settle hG kr2 kp9 H) rfl rfl (Nat.le_of_ble_eq_true rfl) (Nat.zero_le _) (Nat.zero_le _) rfl (k_Qv (fun s10 H => ?_))
        refine s_aload_n (nx := 134) hO rfl rfl rfl ?_
        refine s_getf (v := .ref (q_b G + 116)) (nx := 137) hO rfl rfl (hs_o11 kc0) rfl rfl ?_
        refine s_aload (nx := 139) hO rfl rfl rfl ?_
        refine s_aload_n (nx := 140) hO rfl rfl rfl ?_
        obtain ⟨p11, ep11, kp11, H⟩ := H
        refine s_getf (v := .ref (q_b G + p11)) (nx := 143) hO rfl rfl (hs_o11 kc0) (congrArg (fun q => some (Value.ref q)) (hv_11 ep11)) rfl ?_
        refine s_iload (nx := 145) hO rfl rfl rfl ?_
        refine s_callV [.ref (q_b G + r2), .ref (q_b G + p11), .int x3] (ci := 0) (F := TX0) (N := 11) (nx := 148) hO rfl kX11_codeOf_260 (by rw [hcl]; rfl) (hs_o0 kc116) (w_X0_needs hG kr2 kp11 H) rfl rfl (Nat.le_of_ble_eq_true rfl) (Nat.zero_le _) (Nat.zero_le _) rfl (k_Pi (fun r12 H => ?_))
        refine s_if_eq (nx := 151) hO rfl rfl (fun c148 => ?_) (fun c148 => ?_)
        · replace H := H.1 c148
          refine s_iconst (x := 0) (nx := 156) hO rfl (by decide) rfl ?_
          exact s_iret hO rfl rfl rfl ⟨rfl, _, _, rfl, rfl, H⟩
        · replace H := H.2 c148
          refine s_iconst (x := 1) (nx := 152) hO rfl (by decide) rfl ?_
          refine s_goto hO rfl ?_
          exact s_iret hO rfl rfl rfl ⟨rfl, _, _, rfl, rfl, H⟩
  · replace H := H.2 c7
    refine s_iconst (x := 0) (nx := 11) hO rfl (by decide) rfl ?_
    exact s_iret hO rfl rfl rfl ⟨rfl, _, _, rfl, rfl, H⟩
def W_X11_mayOf (s : yS) (v1 : Int32) (v2 : Int32) (v3 : Int32) (Q : Int64 → yS → Prop) : Prop :=
 W_X11_hasInstruction s v1 v2 v3 
 (fun r1 => ((¬ r1 = 0 → W_X11_pick s v1 
  (fun r2 => kd r2 = some (9, 0) ∧ ∃ p3 : Nat, sR s 0 6 = p3 + 1 ∧ kd p3 = some (7, 0) ∧ 
  W_X0_settle s r2 p3 
  (fun s4 => vp_in ((v2 * (nI 400)) + v3) 4800 ∧ 
  Q (sJ s4 (r2 + 12) (ix ((v2 * (nI 400)) + v3))) s4)))
 ∧ (r1 = 0 → Q 0 s)))
set_option maxRecDepth 100000 in
set_option maxHeartbeats 40000000 in
theorem w_X11_mayOf {G : xG} (hG : yG G) {z : Nat} {s : yS} {v1 : Int32} {v2 : Int32} {v3 : Int32} {Q : Int64 → yS → Prop} (H : W_X11_mayOf s v1 v2 v3 Q) : xC G mX11_mayOf [.ref (q_b G + 0), .int v1, .int v2, .int v3] (hS G s) z 0 0 (yQl G z Q) := by
  have hW := hG.1
  have hcl := hG.2.1
  have hty := hG.2.2.1
  have hO : xO G mX11_mayOf tbX11_mayOf ptX11_mayOf := ⟨tkX11_mayOf, pkX11_mayOf hcl⟩
  unfold W_X11_mayOf at H
  refine xC.of hW (by decide) rfl (Nat.le_of_ble_eq_true rfl) ?_
  refine s_aload_n (nx := 1) hO rfl rfl rfl ?_
  refine s_iload_n (nx := 2) hO rfl rfl rfl ?_
  refine s_iload_n (nx := 3) hO rfl rfl rfl ?_
  refine s_iload_n (nx := 4) hO rfl rfl rfl ?_
  refine s_callV [.int v1, .int v2, .int v3] (ci := 11) (F := TX11) (N := 20) (nx := 7) hO rfl kX11_mayOf_240 (by rw [hcl]; rfl) (hs_o11 kc0) (w_X11_hasInstruction hG H) rfl rfl (Nat.le_of_ble_eq_true rfl) (Nat.zero_le _) (Nat.zero_le _) rfl (k_Pi (fun r1 H => ?_))
  refine s_if_ne (nx := 10) hO rfl rfl (fun c7 => ?_) (fun c7 => ?_)
  · replace H := H.1 c7
    refine s_aload_n (nx := 13) hO rfl rfl rfl ?_
    refine s_iload_n (nx := 14) hO rfl rfl rfl ?_
    refine s_callV [.int v1] (ci := 11) (F := TX11) (N := 20) (nx := 17) hO rfl kX11_mayOf_160 (by rw [hcl]; rfl) (hs_o11 kc0) (w_X11_pick hG H) rfl rfl (Nat.le_of_ble_eq_true rfl) (Nat.zero_le _) (Nat.zero_le _) rfl (k_Pa (fun r2 H => ?_))
    obtain ⟨kr2, H⟩ := H
    refine s_astore (nx := 19) (l' := [(4, .ref (q_b G + r2)), (0, .ref (q_b G + 0)), (1, .int v1), (2, .int v2), (3, .int v3)]) hO rfl (by decide) rfl rfl ?_
    refine s_aload_n (nx := 20) hO rfl rfl rfl ?_
    refine s_getf (v := .ref (q_b G + 116)) (nx := 23) hO rfl rfl (hs_o11 kc0) rfl rfl ?_
    refine s_aload (nx := 25) hO rfl rfl rfl ?_
    refine s_aload_n (nx := 26) hO rfl rfl rfl ?_
    obtain ⟨p3, ep3, kp3, H⟩ := H
    refine s_getf (v := .ref (q_b G + p3)) (nx := 29) hO rfl rfl (hs_o11 kc0) (congrArg (fun q => some (Value.ref q)) (hv_11 ep3)) rfl ?_
    refine s_callV [.ref (q_b G + r2), .ref (q_b G + p3)] (ci := 0) (F := TX0) (N := 11) (nx := 32) hO rfl kX11_mayOf_172 (by rw [hcl]; rfl) (hs_o0 kc116) (w_X0_settle hG kr2 kp3 H) rfl rfl (Nat.le_of_ble_eq_true rfl) (Nat.zero_le _) (Nat.zero_le _) rfl (k_Qv (fun s4 H => ?_))
    refine s_aload (nx := 34) hO rfl rfl rfl ?_
    refine s_getf (v := .ref (q_b G + (r2 + 12))) (nx := 37) hO rfl rfl (hs_o5 kr2) rfl rfl ?_
    refine s_iload_n (nx := 38) hO rfl rfl rfl ?_
    refine s_sipush (x := (nI 400)) (nx := 41) hO rfl (by decide) rfl ?_
    refine s_imul (nx := 42) hO rfl rfl ?_
    refine s_iload_n (nx := 43) hO rfl rfl rfl ?_
    refine s_iadd (nx := 44) hO rfl rfl ?_
    obtain ⟨b5, H⟩ := H
    refine s_lald (nx := 45) hO rfl (hs_J (kf5_12 kr2)) b5 rfl ?_
    exact s_lret hO rfl rfl ⟨rfl, _, _, rfl, rfl, H⟩
  · replace H := H.2 c7
    refine s_lconst (x := 0) (nx := 11) hO rfl (by decide) rfl ?_
    exact s_lret hO rfl rfl ⟨rfl, _, _, rfl, rfl, H⟩

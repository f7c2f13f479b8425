def W_X9_verifyFunction (s : yS) (Q : yS → Prop) : Prop :=
 ∃ p1 : Nat, sR s 114 2 = p1 + 1 ∧ kd p1 = some (9, 0) ∧ 
 vp_in (sI s 114 3) 12 ∧ 
 ∀ x3 : Int32, x3 = (sI s (p1 + 5) (ix (sI s 114 3))) → 
 ∀ P15 : Int32 → yS → Prop, (∀ (x4 : Int32) (s5 : yS), (((x3 ≤ x4 → ∀ s6 : yS, s6 = wI s5 114 6 0 → 
   W_X9_comeTo s6 0 0 0 
   (fun r7 s8 => ∀ P50 : Int32 → Int32 → yS → Prop, (∀ (x9 : Int32) (x10 : Int32) (s11 : yS), (((x3 ≤ x10 → Q s11)
    ∧ (¬ x3 ≤ x10 → ∀ P59 : yS → Prop, (∀ (s12 : yS), (∀ P92 : Prop, ((((¬ (sI s12 114 6) = x3 → vp_in (sI s12 114 6) 400 ∧ ∀ s14 : yS, s14 = wI s12 115 (ix (sI s12 114 6)) (vp_nar .boolean 0) → 
        W_X9_look s14 (sI s14 114 6) 
        (fun r15 s16 => ∀ x17 : Int32, x17 = (x10 + 1) → 
        P50 r15 x17 s16))
       ∧ ((sI s12 114 6) = x3 → Q s12))) → P92) → 
      ((x3 ≤ (sI s12 114 6) → P92)
      ∧ (¬ x3 ≤ (sI s12 114 6) → vp_in (sI s12 114 6) 400 ∧ 
       ((¬ (sI s12 115 (ix (sI s12 114 6))) = 0 → P92)
       ∧ ((sI s12 115 (ix (sI s12 114 6))) = 0 → ∀ s19 : yS, s19 = wI s12 114 6 ((sI s12 114 6) + 1) → 
        P59 s19))))) → P59 s12) → 
     ((x9 = 0 → Q s11)
     ∧ (¬ x9 = 0 → P59 s11))))) → P50 x9 x10 s11) → 
   P50 1 0 s8))
  ∧ (¬ x3 ≤ x4 → vp_in x4 400 ∧ ∀ s21 : yS, s21 = wI s5 115 (ix x4) (vp_nar .boolean 0) → 
   ∀ x22 : Int32, x22 = (x4 + 1) → 
   P15 x22 s21))) → P15 x4 s5) → 
 P15 0 s
set_option maxRecDepth 100000 in
set_option maxHeartbeats 40000000 in
theorem w_X9_verifyFunction {G : xG} (hG : yG G) {z : Nat} {s : yS} {Q : yS → Prop} (H : W_X9_verifyFunction s Q) : xC G mX9_verifyFunction [.ref (q_b G + 114)] (hS G s) z 0 0 (yQv G z Q) := by
  have hW := hG.1
  have hcl := hG.2.1
  have hty := hG.2.2.1
  have hO : xO G mX9_verifyFunction tbX9_verifyFunction ptX9_verifyFunction := ⟨tkX9_verifyFunction, pkX9_verifyFunction hcl⟩
  unfold W_X9_verifyFunction at H
  refine xC.of hW (by decide) rfl (Nat.le_of_ble_eq_true rfl) ?_
  refine s_aload_n (nx := 1) hO rfl rfl rfl ?_
  obtain ⟨p1, ep1, kp1, H⟩ := H
  refine s_getf (v := .ref (q_b G + p1)) (nx := 4) hO rfl rfl (hs_o9 kc114) (congrArg some (rv_at ep1)) rfl ?_
  refine s_getf (v := .ref (q_b G + (p1 + 5))) (nx := 7) hO rfl rfl (hs_o5 kp1) rfl rfl ?_
  refine s_aload_n (nx := 8) hO rfl rfl rfl ?_
  refine s_getf (v := .int (sI s 114 3)) (nx := 11) hO rfl rfl (hs_o9 kc114) rfl rfl ?_
  obtain ⟨b2, H⟩ := H
  refine s_iald (nx := 12) hO rfl (hs_I (kf5_5 kp1)) b2 rfl ?_
  refine goV ((sI s (p1 + 5) (ix (sI s 114 3)))) (fun x3 ex3 => ?_)
  replace H := H x3 ex3
  refine e_istore_n (nx := 13) (l' := [(1, .int x3), (0, .ref (q_b G + 114))]) ex3 hO rfl (by decide) rfl rfl ?_
  refine s_iconst (x := 0) (nx := 14) hO rfl (by decide) rfl ?_
  refine goK (H (fun (x4 : Int32) (s5 : yS) => xEx G mX9_verifyFunction 15 [(0, .ref (q_b G + 114)), (1, .int x3), (2, .int x4)] [] (hS G s5) z 0 0 (yQv G z Q)) (fun x4 s5 H => ?_)) (fun H => ?_)
  · show xEx G mX9_verifyFunction 15 [(0, .ref (q_b G + 114)), (1, .int x3), (2, .int x4)] [] (hS G s5) z 0 0 (yQv G z Q)
    refine s_iload_n (nx := 16) hO rfl rfl rfl ?_
    refine s_iload_n (nx := 17) hO rfl rfl rfl ?_
    refine s_icmp_ge (nx := 20) hO rfl rfl (fun c17 => ?_) (fun c17 => ?_)
    · replace H := H.1 c17
      refine s_aload_n (nx := 34) hO rfl rfl rfl ?_
      refine s_iconst (x := 0) (nx := 35) hO rfl (by decide) rfl ?_
      refine goV (wI s5 114 6 0) (fun s6 es6 => ?_)
      replace H := H s6 es6
      refine s_putf (nx := 38) hO rfl rfl (hs_o9 kc114) (Nat.le_of_ble_eq_true rfl) (by rw [hty]; rfl) (by rw [hty]; rfl) pX9_6 rfl ?_
      refine xEx.at (up_oI9 kc114 es6) ?_
      refine s_aload_n (nx := 39) hO rfl rfl rfl ?_
      refine s_iconst (x := 0) (nx := 40) hO rfl (by decide) rfl ?_
      refine s_iconst (x := 0) (nx := 41) hO rfl (by decide) rfl ?_
      refine s_iconst (x := 0) (nx := 42) hO rfl (by decide) rfl ?_
      refine s_callV [.int 0, .int 0, .int 0] (ci := 9) (F := TX9) (N := 8) (nx := 45) hO rfl kX9_verifyFunction_56 (by rw [hcl]; rfl) (hs_o9 kc114) (w_X9_comeTo hG H) rfl rfl (Nat.le_of_ble_eq_true rfl) (Nat.zero_le _) (Nat.zero_le _) rfl (k_Qi (fun r7 s8 H => ?_))
      refine s_pop (nx := 46) hO rfl rfl rfl ?_
      refine s_iconst (x := 1) (nx := 47) hO rfl (by decide) rfl ?_
      refine s_istore_n (nx := 48) (l' := [(2, .int 1), (0, .ref (q_b G + 114)), (1, .int x3)]) hO rfl (by decide) rfl rfl ?_
      refine s_iconst (x := 0) (nx := 49) hO rfl (by decide) rfl ?_
      refine goK (H (fun (x9 : Int32) (x10 : Int32) (s11 : yS) => xEx G mX9_verifyFunction 50 [(0, .ref (q_b G + 114)), (1, .int x3), (2, .int x9), (3, .int x10)] [] (hS G s11) z 0 0 (yQv G z Q)) (fun x9 x10 s11 H => ?_)) (fun H => ?_)
      · show xEx G mX9_verifyFunction 50 [(0, .ref (q_b G + 114)), (1, .int x3), (2, .int x9), (3, .int x10)] [] (hS G s11) z 0 0 (yQv G z Q)
        refine s_iload_n (nx := 51) hO rfl rfl rfl ?_
        refine s_iload_n (nx := 52) hO rfl rfl rfl ?_
        refine s_icmp_ge (nx := 55) hO rfl rfl (fun c52 => ?_) (fun c52 => ?_)
        · replace H := H.1 c52
          exact s_vret hO rfl rfl ⟨rfl, _, rfl, rfl, H⟩
        · replace H := H.2 c52
          refine s_iload_n (nx := 56) hO rfl rfl rfl ?_
          refine goK (H (fun (s12 : yS) => xEx G mX9_verifyFunction 59 [(0, .ref (q_b G + 114)), (1, .int x3), (3, .int x10)] [] (hS G s12) z 0 0 (yQv G z Q)) (fun s12 H => ?_)) (fun H => ?_)
          · show xEx G mX9_verifyFunction 59 [(0, .ref (q_b G + 114)), (1, .int x3), (3, .int x10)] [] (hS G s12) z 0 0 (yQv G z Q)
            refine s_aload_n (nx := 60) hO rfl rfl rfl ?_
            refine s_getf (v := .int (sI s12 114 6)) (nx := 63) hO rfl rfl (hs_o9 kc114) rfl rfl ?_
            refine s_iload_n (nx := 64) hO rfl rfl rfl ?_
            refine goK (H (xEx G mX9_verifyFunction 92 [(0, .ref (q_b G + 114)), (1, .int x3), (3, .int x10)] [] (hS G s12) z 0 0 (yQv G z Q)) (fun H => ?_)) (fun H => ?_)
            · show xEx G mX9_verifyFunction 92 [(0, .ref (q_b G + 114)), (1, .int x3), (3, .int x10)] [] (hS G s12) z 0 0 (yQv G z Q)
              refine s_aload_n (nx := 93) hO rfl rfl rfl ?_
              refine s_getf (v := .int (sI s12 114 6)) (nx := 96) hO rfl rfl (hs_o9 kc114) rfl rfl ?_
              refine s_iload_n (nx := 97) hO rfl rfl rfl ?_
              refine s_icmp_ne (nx := 100) hO rfl rfl (fun c97 => ?_) (fun c97 => ?_)
              · replace H := H.1 c97
                refine s_aload_n (nx := 102) hO rfl rfl rfl ?_
                refine s_getf (v := .ref (q_b G + 115)) (nx := 105) hO rfl rfl (hs_o9 kc114) rfl rfl ?_
                refine s_aload_n (nx := 106) hO rfl rfl rfl ?_
                refine s_getf (v := .int (sI s12 114 6)) (nx := 109) hO rfl rfl (hs_o9 kc114) rfl rfl ?_
                refine s_iconst (x := 0) (nx := 110) hO rfl (by decide) rfl ?_
                obtain ⟨b13, H⟩ := H
                refine goV (wI s12 115 (ix (sI s12 114 6)) (vp_nar .boolean 0)) (fun s14 es14 => ?_)
                replace H := H s14 es14
                refine s_zast (nx := 111) hO rfl (hs_Z kc115) b13 rfl ?_
                refine xEx.at (up_Z kc115 es14) ?_
                refine s_aload_n (nx := 112) hO rfl rfl rfl ?_
                refine s_aload_n (nx := 113) hO rfl rfl rfl ?_
                refine s_getf (v := .int (sI s14 114 6)) (nx := 116) hO rfl rfl (hs_o9 kc114) rfl rfl ?_
                refine s_callV [.int (sI s14 114 6)] (ci := 9) (F := TX9) (N := 8) (nx := 119) hO rfl kX9_verifyFunction_60 (by rw [hcl]; rfl) (hs_o9 kc114) (w_X9_look hG H) rfl rfl (Nat.le_of_ble_eq_true rfl) (Nat.zero_le _) (Nat.zero_le _) rfl (k_Qi (fun r15 s16 H => ?_))
                refine s_istore_n (nx := 120) (l' := [(2, .int r15), (0, .ref (q_b G + 114)), (1, .int x3), (3, .int x10)]) hO rfl (by decide) rfl rfl ?_
                refine goV ((x10 + 1)) (fun x17 ex17 => ?_)
                replace H := H x17 ex17
                refine e_iinc (nx := 123) (l' := [(3, .int x17), (2, .int r15), (0, .ref (q_b G + 114)), (1, .int x3)]) ex17 hO rfl (by decide) rfl rfl rfl rfl ?_
                refine s_goto hO rfl ?_
                exact xEx.loc (x_sub1 (List.Mem.tail _ (List.Mem.tail _ (List.Mem.head _))) (x_sub1 (List.Mem.tail _ (List.Mem.tail _ (List.Mem.tail _ (List.Mem.head _)))) (x_sub1 (List.Mem.tail _ (List.Mem.head _)) (x_sub1 (List.Mem.head _) x_sub0)))) H
              · replace H := H.2 c97
                exact s_vret hO rfl rfl ⟨rfl, _, rfl, rfl, H⟩
            refine s_icmp_ge (nx := 67) hO rfl rfl (fun c64 => ?_) (fun c64 => ?_)
            · replace H := H.1 c64
              exact xEx.loc (x_sub1 (List.Mem.head _) (x_sub1 (List.Mem.tail _ (List.Mem.head _)) (x_sub1 (List.Mem.tail _ (List.Mem.tail _ (List.Mem.head _))) x_sub0))) H
            · replace H := H.2 c64
              refine s_aload_n (nx := 68) hO rfl rfl rfl ?_
              refine s_getf (v := .ref (q_b G + 115)) (nx := 71) hO rfl rfl (hs_o9 kc114) rfl rfl ?_
              refine s_aload_n (nx := 72) hO rfl rfl rfl ?_
              refine s_getf (v := .int (sI s12 114 6)) (nx := 75) hO rfl rfl (hs_o9 kc114) rfl rfl ?_
              obtain ⟨b18, H⟩ := H
              refine s_zald (nx := 76) hO rfl (hs_Z kc115) b18 rfl ?_
              refine s_if_ne (nx := 79) hO rfl rfl (fun c76 => ?_) (fun c76 => ?_)
              · replace H := H.1 c76
                exact xEx.loc (x_sub1 (List.Mem.head _) (x_sub1 (List.Mem.tail _ (List.Mem.head _)) (x_sub1 (List.Mem.tail _ (List.Mem.tail _ (List.Mem.head _))) x_sub0))) H
              · replace H := H.2 c76
                refine s_aload_n (nx := 80) hO rfl rfl rfl ?_
                refine s_dup (nx := 81) hO rfl rfl rfl ?_
                refine s_getf (v := .int (sI s12 114 6)) (nx := 84) hO rfl rfl (hs_o9 kc114) rfl rfl ?_
                refine s_iconst (x := 1) (nx := 85) hO rfl (by decide) rfl ?_
                refine s_iadd (nx := 86) hO rfl rfl ?_
                refine goV (wI s12 114 6 ((sI s12 114 6) + 1)) (fun s19 es19 => ?_)
                replace H := H s19 es19
                refine s_putf (nx := 89) hO rfl rfl (hs_o9 kc114) (Nat.le_of_ble_eq_true rfl) (by rw [hty]; rfl) (by rw [hty]; rfl) pX9_6 rfl ?_
                refine xEx.at (up_oI9 kc114 es19) ?_
                refine s_goto hO rfl ?_
                exact xEx.loc (x_sub1 (List.Mem.head _) (x_sub1 (List.Mem.tail _ (List.Mem.head _)) (x_sub1 (List.Mem.tail _ (List.Mem.tail _ (List.Mem.head _))) x_sub0))) H
          refine s_if_eq (nx := 59) hO rfl rfl (fun c56 => ?_) (fun c56 => ?_)
          · replace H := H.1 c56
            exact s_vret hO rfl rfl ⟨rfl, _, rfl, rfl, H⟩
          · replace H := H.2 c56
            exact xEx.loc (x_sub1 (List.Mem.head _) (x_sub1 (List.Mem.tail _ (List.Mem.head _)) (x_sub1 (List.Mem.tail _ (List.Mem.tail _ (List.Mem.tail _ (List.Mem.head _)))) x_sub0))) H
      refine s_istore_n (nx := 50) (l' := [(3, .int 0), (2, .int 1), (0, .ref (q_b G + 114)), (1, .int x3)]) hO rfl (by decide) rfl rfl ?_
      exact xEx.loc (x_sub1 (List.Mem.tail _ (List.Mem.tail _ (List.Mem.head _))) (x_sub1 (List.Mem.tail _ (List.Mem.tail _ (List.Mem.tail _ (List.Mem.head _)))) (x_sub1 (List.Mem.tail _ (List.Mem.head _)) (x_sub1 (List.Mem.head _) x_sub0)))) H
    · replace H := H.2 c17
      refine s_aload_n (nx := 21) hO rfl rfl rfl ?_
      refine s_getf (v := .ref (q_b G + 115)) (nx := 24) hO rfl rfl (hs_o9 kc114) rfl rfl ?_
      refine s_iload_n (nx := 25) hO rfl rfl rfl ?_
      refine s_iconst (x := 0) (nx := 26) hO rfl (by decide) rfl ?_
      obtain ⟨b20, H⟩ := H
      refine goV (wI s5 115 (ix x4) (vp_nar .boolean 0)) (fun s21 es21 => ?_)
      replace H := H s21 es21
      refine s_zast (nx := 27) hO rfl (hs_Z kc115) b20 rfl ?_
      refine xEx.at (up_Z kc115 es21) ?_
      refine goV ((x4 + 1)) (fun x22 ex22 => ?_)
      replace H := H x22 ex22
      refine e_iinc (nx := 30) (l' := [(2, .int x22), (0, .ref (q_b G + 114)), (1, .int x3)]) ex22 hO rfl (by decide) rfl rfl rfl rfl ?_
      refine s_goto hO rfl ?_
      exact xEx.loc (x_sub1 (List.Mem.tail _ (List.Mem.head _)) (x_sub1 (List.Mem.tail _ (List.Mem.tail _ (List.Mem.head _))) (x_sub1 (List.Mem.head _) x_sub0))) H
  refine s_istore_n (nx := 15) (l' := [(2, .int 0), (1, .int x3), (0, .ref (q_b G + 114))]) hO rfl (by decide) rfl rfl ?_
  exact xEx.loc (x_sub1 (List.Mem.tail _ (List.Mem.tail _ (List.Mem.head _))) (x_sub1 (List.Mem.tail _ (List.Mem.head _)) (x_sub1 (List.Mem.head _) x_sub0))) H
def W_X9_verify (s : yS) (o1 : Nat) (Q : Int32 → yS → Prop) : Prop :=
 ∀ s1 : yS, s1 = wR s 114 2 (o1 + 1) → 
 ∀ s2 : yS, s2 = wI s1 114 1 0 → 
 ∀ s3 : yS, s3 = wI s2 114 0 (-1) → 
 W_J7_fill_53178 s3 (o1 + 9) 4800 (-1) 
 (fun s4 => W_J7_fill_53178 s4 (o1 + 10) 4800 0 
 (fun s5 => ∀ P33 : Int32 → yS → Prop, (∀ (x6 : Int32) (s7 : yS), ((((sI s7 o1 0) ≤ x6 → Q (sI s7 114 1) s7)
  ∧ (¬ (sI s7 o1 0) ≤ x6 → ((¬ (sI s7 114 1) = 0 → Q (sI s7 114 1) s7)
   ∧ ((sI s7 114 1) = 0 → ∀ s8 : yS, s8 = wI s7 114 3 x6 → 
    W_X9_verifyFunction s8 
    (fun s9 => ∀ x10 : Int32, x10 = (x6 + 1) → 
    P33 x10 s9)))))) → P33 x6 s7) → 
 P33 0 s5))
set_option maxRecDepth 100000 in
set_option maxHeartbeats 40000000 in
theorem w_X9_verify {G : xG} (hG : yG G) {z : Nat} {s : yS} {o1 : Nat} {Q : Int32 → yS → Prop} (ho1 : kd o1 = some (9, 0)) (H : W_X9_verify s o1 Q) : xC G mX9_verify [.ref (q_b G + 114), .ref (q_b G + o1)] (hS G s) z 0 0 (yQi G z Q) := by
  have hW := hG.1
  have hcl := hG.2.1
  have hty := hG.2.2.1
  have hO : xO G mX9_verify tbX9_verify ptX9_verify := ⟨tkX9_verify, pkX9_verify hcl⟩
  unfold W_X9_verify at H
  refine xC.of hW (by decide) rfl (Nat.le_of_ble_eq_true rfl) ?_
  refine s_aload_n (nx := 1) hO rfl rfl rfl ?_
  refine s_aload_n (nx := 2) hO rfl rfl rfl ?_
  refine goV (wR s 114 2 (o1 + 1)) (fun s1 es1 => ?_)
  replace H := H s1 es1
  refine s_putf (nx := 5) hO rfl rfl (hs_o9 kc114) (Nat.le_of_ble_eq_true rfl) (by rw [hty]; rfl) (by rw [hty]; rfl) pX9_2 rfl ?_
  refine xEx.at (up_oR9 kc114 es1) ?_
  refine s_aload_n (nx := 6) hO rfl rfl rfl ?_
  refine s_iconst (x := 0) (nx := 7) hO rfl (by decide) rfl ?_
  refine goV (wI s1 114 1 0) (fun s2 es2 => ?_)
  replace H := H s2 es2
  refine s_putf (nx := 10) hO rfl rfl (hs_o9 kc114) (Nat.le_of_ble_eq_true rfl) (by rw [hty]; rfl) (by rw [hty]; rfl) pX9_1 rfl ?_
  refine xEx.at (up_oI9 kc114 es2) ?_
  refine s_aload_n (nx := 11) hO rfl rfl rfl ?_
  refine s_iconst (x := (-1)) (nx := 12) hO rfl (by decide) rfl ?_
  refine goV (wI s2 114 0 (-1)) (fun s3 es3 => ?_)
  replace H := H s3 es3
  refine s_putf (nx := 15) hO rfl rfl (hs_o9 kc114) (Nat.le_of_ble_eq_true rfl) (by rw [hty]; rfl) (by rw [hty]; rfl) pX9_0 rfl ?_
  refine xEx.at (up_oI9 kc114 es3) ?_
  refine s_aload_n (nx := 16) hO rfl rfl rfl ?_
  refine s_getf (v := .ref (q_b G + (o1 + 9))) (nx := 19) hO rfl rfl (hs_o5 ho1) rfl rfl ?_
  refine s_iconst (x := (-1)) (nx := 20) hO rfl (by decide) rfl ?_
  refine s_callS [.ref (q_b G + (o1 + 9)), .int (-1)] (nx := 23) hO rfl kX9_verify_32 (w_J7_fill_53178 hG (kf5_9 ho1) H) rfl rfl (Nat.le_of_ble_eq_true rfl) (Nat.zero_le _) (Nat.zero_le _) rfl (k_Qv (fun s4 H => ?_))
  refine s_aload_n (nx := 24) hO rfl rfl rfl ?_
  refine s_getf (v := .ref (q_b G + (o1 + 10))) (nx := 27) hO rfl rfl (hs_o5 ho1) rfl rfl ?_
  refine s_iconst (x := 0) (nx := 28) hO rfl (by decide) rfl ?_
  refine s_callS [.ref (q_b G + (o1 + 10)), .int 0] (nx := 31) hO rfl kX9_verify_32 (w_J7_fill_53178 hG (kf5_10 ho1) H) rfl rfl (Nat.le_of_ble_eq_true rfl) (Nat.zero_le _) (Nat.zero_le _) rfl (k_Qv (fun s5 H => ?_))
  refine s_iconst (x := 0) (nx := 32) hO rfl (by decide) rfl ?_
  refine goK (H (fun (x6 : Int32) (s7 : yS) => xEx G mX9_verify 33 [(0, .ref (q_b G + 114)), (1, .ref (q_b G + o1)), (2, .int x6)] [] (hS G s7) z 0 0 (yQi G z Q)) (fun x6 s7 H => ?_)) (fun H => ?_)
  · show xEx G mX9_verify 33 [(0, .ref (q_b G + 114)), (1, .ref (q_b G + o1)), (2, .int x6)] [] (hS G s7) z 0 0 (yQi G z Q)
    refine s_iload_n (nx := 34) hO rfl rfl rfl ?_
    refine s_aload_n (nx := 35) hO rfl rfl rfl ?_
    refine s_getf (v := .int (sI s7 o1 0)) (nx := 38) hO rfl rfl (hs_o5 ho1) rfl rfl ?_
    refine s_icmp_ge (nx := 41) hO rfl rfl (fun c38 => ?_) (fun c38 => ?_)
    · replace H := H.1 c38
      refine s_aload_n (nx := 64) hO rfl rfl rfl ?_
      refine s_getf (v := .int (sI s7 114 1)) (nx := 67) hO rfl rfl (hs_o9 kc114) rfl rfl ?_
      exact s_iret hO rfl rfl rfl ⟨rfl, _, _, rfl, rfl, H⟩
    · replace H := H.2 c38
      refine s_aload_n (nx := 42) hO rfl rfl rfl ?_
      refine s_getf (v := .int (sI s7 114 1)) (nx := 45) hO rfl rfl (hs_o9 kc114) rfl rfl ?_
      refine s_if_ne (nx := 48) hO rfl rfl (fun c45 => ?_) (fun c45 => ?_)
      · replace H := H.1 c45
        refine s_aload_n (nx := 64) hO rfl rfl rfl ?_
        refine s_getf (v := .int (sI s7 114 1)) (nx := 67) hO rfl rfl (hs_o9 kc114) rfl rfl ?_
        exact s_iret hO rfl rfl rfl ⟨rfl, _, _, rfl, rfl, H⟩
      · replace H := H.2 c45
        refine s_aload_n (nx := 49) hO rfl rfl rfl ?_
        refine s_iload_n (nx := 50) hO rfl rfl rfl ?_
        refine goV (wI s7 114 3 x6) (fun s8 es8 => ?_)
        replace H := H s8 es8
        refine s_putf (nx := 53) hO rfl rfl (hs_o9 kc114) (Nat.le_of_ble_eq_true rfl) (by rw [hty]; rfl) (by rw [hty]; rfl) pX9_3 rfl ?_
        refine xEx.at (up_oI9 kc114 es8) ?_
        refine s_aload_n (nx := 54) hO rfl rfl rfl ?_
        refine s_callV [] (ci := 9) (F := TX9) (N := 8) (nx := 57) hO rfl kX9_verify_47 (by rw [hcl]; rfl) (hs_o9 kc114) (w_X9_verifyFunction hG H) rfl rfl (Nat.le_of_ble_eq_true rfl) (Nat.zero_le _) (Nat.zero_le _) rfl (k_Qv (fun s9 H => ?_))
        refine goV ((x6 + 1)) (fun x10 ex10 => ?_)
        replace H := H x10 ex10
        refine e_iinc (nx := 60) (l' := [(2, .int x10), (0, .ref (q_b G + 114)), (1, .ref (q_b G + o1))]) ex10 hO rfl (by decide) rfl rfl rfl rfl ?_
        refine s_goto hO rfl ?_
        exact xEx.loc (x_sub1 (List.Mem.tail _ (List.Mem.head _)) (x_sub1 (List.Mem.tail _ (List.Mem.tail _ (List.Mem.head _))) (x_sub1 (List.Mem.head _) x_sub0))) H
  refine s_istore_n (nx := 33) (l' := [(2, .int 0), (0, .ref (q_b G + 114)), (1, .ref (q_b G + o1))]) hO rfl (by decide) rfl rfl ?_
  exact xEx.loc (x_sub1 (List.Mem.tail _ (List.Mem.head _)) (x_sub1 (List.Mem.tail _ (List.Mem.tail _ (List.Mem.head _))) (x_sub1 (List.Mem.head _) x_sub0))) H
def W_X11_giveBytes (s : yS) (v1 : Int64) (v2 : Int32) (Q : Int32 → yS → Prop) : Prop :=
 ((v2 < 1 → Q 0 s)
 ∧ (¬ v2 < 1 → (((nI 8) < v2 → Q 0 s)
  ∧ (¬ (nI 8) < v2 → ((v2 ≤ ((nI 8192) - (sI s 0 2)) → ∀ P30 : Int32 → yS → Prop, (∀ (x1 : Int32) (s2 : yS), (((x1 < 0 → Q 1 s2)
     ∧ (¬ x1 < 0 → vp_in (sI s2 0 2) 8192 ∧ ∀ s4 : yS, s4 = wI s2 1 (ix (sI s2 0 2)) (vp_nar .byte (((v1 >>> ((((nI 8) * x1)).toInt64 &&& 63))).toInt32).toInt8.toInt32) → 
      ∀ s5 : yS, s5 = wI s4 0 2 ((sI s4 0 2) + 1) → 
      ∀ x6 : Int32, x6 = (x1 + (-1)) → 
      P30 x6 s5))) → P30 x1 s2) → 
    ∀ x7 : Int32, x7 = (v2 - 1) → 
    P30 x7 s)
   ∧ (¬ v2 ≤ ((nI 8192) - (sI s 0 2)) → Q 0 s))))))
set_option maxRecDepth 100000 in
set_option maxHeartbeats 40000000 in
theorem w_X11_giveBytes {G : xG} (hG : yG G) {z : Nat} {s : yS} {v1 : Int64} {v2 : Int32} {Q : Int32 → yS → Prop} (H : W_X11_giveBytes s v1 v2 Q) : xC G mX11_giveBytes [.ref (q_b G + 0), .long v1, .int v2] (hS G s) z 0 0 (yQi G z Q) := by
  have hW := hG.1
  have hcl := hG.2.1
  have hty := hG.2.2.1
  have hO : xO G mX11_giveBytes tbX11_giveBytes ptX11_giveBytes := ⟨tkX11_giveBytes, pkX11_giveBytes hcl⟩
  unfold W_X11_giveBytes at H
  refine xC.of hW (by decide) rfl (Nat.le_of_ble_eq_true rfl) ?_
  refine s_iload_n (nx := 1) hO rfl rfl rfl ?_
  refine s_iconst (x := 1) (nx := 2) hO rfl (by decide) rfl ?_
  refine s_icmp_lt (nx := 5) hO rfl rfl (fun c2 => ?_) (fun c2 => ?_)
  · replace H := H.1 c2
    refine s_iconst (x := 0) (nx := 24) hO rfl (by decide) rfl ?_
    exact s_iret hO rfl rfl rfl ⟨rfl, _, _, rfl, rfl, H⟩
  · replace H := H.2 c2
    refine s_iload_n (nx := 6) hO rfl rfl rfl ?_
    refine s_bipush (x := (nI 8)) (nx := 8) hO rfl (by decide) rfl ?_
    refine s_icmp_gt (nx := 11) hO rfl rfl (fun c8 => ?_) (fun c8 => ?_)
    · replace H := H.1 c8
      refine s_iconst (x := 0) (nx := 24) hO rfl (by decide) rfl ?_
      exact s_iret hO rfl rfl rfl ⟨rfl, _, _, rfl, rfl, H⟩
    · replace H := H.2 c8
      refine s_iload_n (nx := 12) hO rfl rfl rfl ?_
      refine s_sipush (x := (nI 8192)) (nx := 15) hO rfl (by decide) rfl ?_
      refine s_aload_n (nx := 16) hO rfl rfl rfl ?_
      refine s_getf (v := .int (sI s 0 2)) (nx := 19) hO rfl rfl (hs_o11 kc0) rfl rfl ?_
      refine s_isub (nx := 20) hO rfl rfl ?_
      refine s_icmp_le (nx := 23) hO rfl rfl (fun c20 => ?_) (fun c20 => ?_)
      · replace H := H.1 c20
        refine s_iload_n (nx := 26) hO rfl rfl rfl ?_
        refine s_iconst (x := 1) (nx := 27) hO rfl (by decide) rfl ?_
        refine s_isub (nx := 28) hO rfl rfl ?_
        refine goK (H (fun (x1 : Int32) (s2 : yS) => xEx G mX11_giveBytes 30 [(0, .ref (q_b G + 0)), (1, .long v1), (4, .int x1)] [] (hS G s2) z 0 0 (yQi G z Q)) (fun x1 s2 H => ?_)) (fun H => ?_)
        · show xEx G mX11_giveBytes 30 [(0, .ref (q_b G + 0)), (1, .long v1), (4, .int x1)] [] (hS G s2) z 0 0 (yQi G z Q)
          refine s_iload (nx := 32) hO rfl rfl rfl ?_
          refine s_if_lt (nx := 35) hO rfl rfl (fun c32 => ?_) (fun c32 => ?_)
          · replace H := H.1 c32
            refine s_iconst (x := 1) (nx := 70) hO rfl (by decide) rfl ?_
            exact s_iret hO rfl rfl rfl ⟨rfl, _, _, rfl, rfl, H⟩
          · replace H := H.2 c32
            refine s_aload_n (nx := 36) hO rfl rfl rfl ?_
            refine s_getf (v := .ref (q_b G + 1)) (nx := 39) hO rfl rfl (hs_o11 kc0) rfl rfl ?_
            refine s_aload_n (nx := 40) hO rfl rfl rfl ?_
            refine s_getf (v := .int (sI s2 0 2)) (nx := 43) hO rfl rfl (hs_o11 kc0) rfl rfl ?_
            refine s_lload_n (nx := 44) hO rfl rfl rfl ?_
            refine s_bipush (x := (nI 8)) (nx := 46) hO rfl (by decide) rfl ?_
            refine s_iload (nx := 48) hO rfl rfl rfl ?_
            refine s_imul (nx := 49) hO rfl rfl ?_
            refine s_lshr (nx := 50) hO rfl rfl ?_
            refine s_l2i (nx := 51) hO rfl rfl ?_
            refine s_i2b (nx := 52) hO rfl rfl ?_
            obtain ⟨b3, H⟩ := H
            refine goV (wI s2 1 (ix (sI s2 0 2)) (vp_nar .byte (((v1 >>> ((((nI 8) * x1)).toInt64 &&& 63))).toInt32).toInt8.toInt32)) (fun s4 es4 => ?_)
            replace H := H s4 es4
            refine s_bast (nx := 53) hO rfl (hs_B kc1) b3 rfl ?_
            refine xEx.at (up_B kc1 es4) ?_
            refine s_aload_n (nx := 54) hO rfl rfl rfl ?_
            refine s_dup (nx := 55) hO rfl rfl rfl ?_
            refine s_getf (v := .int (sI s4 0 2)) (nx := 58) hO rfl rfl (hs_o11 kc0) rfl rfl ?_
            refine s_iconst (x := 1) (nx := 59) hO rfl (by decide) rfl ?_
            refine s_iadd (nx := 60) hO rfl rfl ?_
            refine goV (wI s4 0 2 ((sI s4 0 2) + 1)) (fun s5 es5 => ?_)
            replace H := H s5 es5
            refine s_putf (nx := 63) hO rfl rfl (hs_o11 kc0) (Nat.le_of_ble_eq_true rfl) (by rw [hty]; rfl) (by rw [hty]; rfl) pX11_2 rfl ?_
            refine xEx.at (up_oI11 kc0 es5) ?_
            refine goV ((x1 + (-1))) (fun x6 ex6 => ?_)
            replace H := H x6 ex6
            refine e_iinc (nx := 66) (l' := [(4, .int x6), (0, .ref (q_b G + 0)), (1, .long v1)]) ex6 hO rfl (by decide) rfl rfl rfl rfl ?_
            refine s_goto hO rfl ?_
            exact xEx.loc (x_sub1 (List.Mem.tail _ (List.Mem.head _)) (x_sub1 (List.Mem.tail _ (List.Mem.tail _ (List.Mem.head _))) (x_sub1 (List.Mem.head _) x_sub0))) H
        refine goV ((v2 - 1)) (fun x7 ex7 => ?_)
        replace H := H x7 ex7
        refine e_istore (nx := 30) (l' := [(4, .int x7), (0, .ref (q_b G + 0)), (1, .long v1), (3, .int v2)]) ex7 hO rfl (by decide) rfl rfl ?_
        exact xEx.loc (x_sub1 (List.Mem.tail _ (List.Mem.head _)) (x_sub1 (List.Mem.tail _ (List.Mem.tail _ (List.Mem.head _))) (x_sub1 (List.Mem.head _) x_sub0))) H
      · replace H := H.2 c20
        refine s_iconst (x := 0) (nx := 24) hO rfl (by decide) rfl ?_
        exact s_iret hO rfl rfl rfl ⟨rfl, _, _, rfl, rfl, H⟩
def W_X11_cutBytes (s : yS) (v1 : Int32) (Q : Int32 → yS → Prop) : Prop :=
 ((v1 < 0 → Q 0 s)
 ∧ (¬ v1 < 0 → ((v1 ≤ (sI s 0 2) → ∀ s1 : yS, s1 = wI s 0 2 v1 → 
   Q 1 s1)
  ∧ (¬ v1 ≤ (sI s 0 2) → Q 0 s))))
set_option maxRecDepth 100000 in
set_option maxHeartbeats 40000000 in
theorem w_X11_cutBytes {G : xG} (hG : yG G) {z : Nat} {s : yS} {v1 : Int32} {Q : Int32 → yS → Prop} (H : W_X11_cutBytes s v1 Q) : xC G mX11_cutBytes [.ref (q_b G + 0), .int v1] (hS G s) z 0 0 (yQi G z Q) := by
  have hW := hG.1
  have hcl := hG.2.1
  have hty := hG.2.2.1
  have hO : xO G mX11_cutBytes tbX11_cutBytes ptX11_cutBytes := ⟨tkX11_cutBytes, pkX11_cutBytes hcl⟩
  unfold W_X11_cutBytes at H
  refine xC.of hW (by decide) rfl (Nat.le_of_ble_eq_true rfl) ?_
  refine s_iload_n (nx := 1) hO rfl rfl rfl ?_
  refine s_if_lt (nx := 4) hO rfl rfl (fun c1 => ?_) (fun c1 => ?_)
  · replace H := H.1 c1
    refine s_iconst (x := 0) (nx := 13) hO rfl (by decide) rfl ?_
    exact s_iret hO rfl rfl rfl ⟨rfl, _, _, rfl, rfl, H⟩
  · replace H := H.2 c1
    refine s_iload_n (nx := 5) hO rfl rfl rfl ?_
    refine s_aload_n (nx := 6) hO rfl rfl rfl ?_
    refine s_getf (v := .int (sI s 0 2)) (nx := 9) hO rfl rfl (hs_o11 kc0) rfl rfl ?_
    refine s_icmp_le (nx := 12) hO rfl rfl (fun c9 => ?_) (fun c9 => ?_)
    · replace H := H.1 c9
      refine s_aload_n (nx := 15) hO rfl rfl rfl ?_
      refine s_iload_n (nx := 16) hO rfl rfl rfl ?_
      refine goV (wI s 0 2 v1) (fun s1 es1 => ?_)
      replace H := H s1 es1
      refine s_putf (nx := 19) hO rfl rfl (hs_o11 kc0) (Nat.le_of_ble_eq_true rfl) (by rw [hty]; rfl) (by rw [hty]; rfl) pX11_2 rfl ?_
      refine xEx.at (up_oI11 kc0 es1) ?_
      refine s_iconst (x := 1) (nx := 20) hO rfl (by decide) rfl ?_
      exact s_iret hO rfl rfl rfl ⟨rfl, _, _, rfl, rfl, H⟩
    · replace H := H.2 c9
      refine s_iconst (x := 0) (nx := 13) hO rfl (by decide) rfl ?_
      exact s_iret hO rfl rfl rfl ⟨rfl, _, _, rfl, rfl, H⟩
def W_X11_pokeByte (s : yS) (v1 : Int32) (v2 : Int32) (Q : Int32 → yS → Prop) : Prop :=
 ((v1 < 0 → Q 0 s)
 ∧ (¬ v1 < 0 → ((v1 < (sI s 0 2) → vp_in v1 8192 ∧ ∀ s2 : yS, s2 = wI s 1 (ix v1) (vp_nar .byte (v2).toInt8.toInt32) → 
   Q 1 s2)
  ∧ (¬ v1 < (sI s 0 2) → Q 0 s))))
set_option maxRecDepth 100000 in
set_option maxHeartbeats 40000000 in
theorem w_X11_pokeByte {G : xG} (hG : yG G) {z : Nat} {s : yS} {v1 : Int32} {v2 : Int32} {Q : Int32 → yS → Prop} (H : W_X11_pokeByte s v1 v2 Q) : xC G mX11_pokeByte [.ref (q_b G + 0), .int v1, .int v2] (hS G s) z 0 0 (yQi G z Q) := by
  have hW := hG.1
  have hcl := hG.2.1
  have hty := hG.2.2.1
  have hO : xO G mX11_pokeByte tbX11_pokeByte ptX11_pokeByte := ⟨tkX11_pokeByte, pkX11_pokeByte hcl⟩
  unfold W_X11_pokeByte at H
  refine xC.of hW (by decide) rfl (Nat.le_of_ble_eq_true rfl) ?_
  refine s_iload_n (nx := 1) hO rfl rfl rfl ?_
  refine s_if_lt (nx := 4) hO rfl rfl (fun c1 => ?_) (fun c1 => ?_)
  · replace H := H.1 c1
    refine s_iconst (x := 0) (nx := 13) hO rfl (by decide) rfl ?_
    exact s_iret hO rfl rfl rfl ⟨rfl, _, _, rfl, rfl, H⟩
  · replace H := H.2 c1
    refine s_iload_n (nx := 5) hO rfl rfl rfl ?_
    refine s_aload_n (nx := 6) hO rfl rfl rfl ?_
    refine s_getf (v := .int (sI s 0 2)) (nx := 9) hO rfl rfl (hs_o11 kc0) rfl rfl ?_
    refine s_icmp_lt (nx := 12) hO rfl rfl (fun c9 => ?_) (fun c9 => ?_)
    · replace H := H.1 c9
      refine s_aload_n (nx := 15) hO rfl rfl rfl ?_
      refine s_getf (v := .ref (q_b G + 1)) (nx := 18) hO rfl rfl (hs_o11 kc0) rfl rfl ?_
      refine s_iload_n (nx := 19) hO rfl rfl rfl ?_
      refine s_iload_n (nx := 20) hO rfl rfl rfl ?_
      refine s_i2b (nx := 21) hO rfl rfl ?_
      obtain ⟨b1, H⟩ := H
      refine goV (wI s 1 (ix v1) (vp_nar .byte (v2).toInt8.toInt32)) (fun s2 es2 => ?_)
      replace H := H s2 es2
      refine s_bast (nx := 22) hO rfl (hs_B kc1) b1 rfl ?_
      refine xEx.at (up_B kc1 es2) ?_
      refine s_iconst (x := 1) (nx := 23) hO rfl (by decide) rfl ?_
      exact s_iret hO rfl rfl rfl ⟨rfl, _, _, rfl, rfl, H⟩
    · replace H := H.2 c9
      refine s_iconst (x := 0) (nx := 13) hO rfl (by decide) rfl ?_
      exact s_iret hO rfl rfl rfl ⟨rfl, _, _, rfl, rfl, H⟩
def W_X11_turnBytes (s : yS) (Q : yS → Prop) : Prop :=
 (¬ (0 : Int32) < 0 ∧ ¬ (0 : Int32) < 0 ∧ ¬ ((sI s 0 3) : Int32) < 0 ∧ ix 0 + ix (sI s 0 3) ≤ 8192 ∧ ix 0 + ix (sI s 0 3) ≤ 8192) ∧ (∀ i, i < ix (sI s 0 3) → fits .byte (.int (sI s 2 (ix 0 + i))) = true) ∧ 
 ∀ s1 : yS, s1 = wC s 1 (va_cpy (sI s 2) (sI s 1) (ix 0) (ix 0) (ix (sI s 0 3))) → 
 ∀ s4 : yS, s4 = wI s1 0 2 (sI s1 0 3) → 
 Q s4
set_option maxRecDepth 100000 in
set_option maxHeartbeats 40000000 in
theorem w_X11_turnBytes {G : xG} (hG : yG G) {z : Nat} {s : yS} {Q : yS → Prop} (H : W_X11_turnBytes s Q) : xC G mX11_turnBytes [.ref (q_b G + 0)] (hS G s) z 0 0 (yQv G z Q) := by
  have hW := hG.1
  have hcl := hG.2.1
  have hty := hG.2.2.1
  have hO : xO G mX11_turnBytes tbX11_turnBytes ptX11_turnBytes := ⟨tkX11_turnBytes, pkX11_turnBytes hcl⟩
  unfold W_X11_turnBytes at H
  refine xC.of hW (by decide) rfl (Nat.le_of_ble_eq_true rfl) ?_
  refine s_aload_n (nx := 1) hO rfl rfl rfl ?_
  refine s_getf (v := .ref (q_b G + 2)) (nx := 4) hO rfl rfl (hs_o11 kc0) rfl rfl ?_
  refine s_iconst (x := 0) (nx := 5) hO rfl (by decide) rfl ?_
  refine s_aload_n (nx := 6) hO rfl rfl rfl ?_
  refine s_getf (v := .ref (q_b G + 1)) (nx := 9) hO rfl rfl (hs_o11 kc0) rfl rfl ?_
  refine s_iconst (x := 0) (nx := 10) hO rfl (by decide) rfl ?_
  refine s_aload_n (nx := 11) hO rfl rfl rfl ?_
  refine s_getf (v := .int (sI s 0 3)) (nx := 14) hO rfl rfl (hs_o11 kc0) rfl rfl ?_
  obtain ⟨b2, H⟩ := H
  obtain ⟨f3, H⟩ := H
  refine goV (wC s 1 (va_cpy (sI s 2) (sI s 1) (ix 0) (ix 0) (ix (sI s 0 3)))) (fun s1 es1 => ?_)
  replace H := H s1 es1
  refine e_copy (nx := 17) hO rfl x_tyB rfl (hs_B kc2) (hs_B kc1) b2 f3 (List.mem_cons_of_mem _ (ir23 _ (List.mem_of_getElem? (i := 21) rfl))) (List.mem_cons_of_mem _ (ir23 _ (List.mem_of_getElem? (i := 22) rfl))) (List.mem_cons_of_mem _ (ir23 _ (List.mem_of_getElem? (i := 23) rfl))) (List.mem_cons_of_mem _ (ir24 _ (List.mem_of_getElem? (i := 0) rfl))) (by decide) (Nat.le_of_ble_eq_true rfl) rfl (up_CB kc1 es1) ?_
  refine s_aload_n (nx := 18) hO rfl rfl rfl ?_
  refine s_aload_n (nx := 19) hO rfl rfl rfl ?_
  refine s_getf (v := .int (sI s1 0 3)) (nx := 22) hO rfl rfl (hs_o11 kc0) rfl rfl ?_
  refine goV (wI s1 0 2 (sI s1 0 3)) (fun s4 es4 => ?_)
  replace H := H s4 es4
  refine s_putf (nx := 25) hO rfl rfl (hs_o11 kc0) (Nat.le_of_ble_eq_true rfl) (by rw [hty]; rfl) (by rw [hty]; rfl) pX11_2 rfl ?_
  refine xEx.at (up_oI11 kc0 es4) ?_
  exact s_vret hO rfl rfl ⟨rfl, _, rfl, rfl, H⟩
def W_X11_loadPolicy (s : yS) (Q : Int32 → yS → Prop) : Prop :=
 ∃ p1 : Nat, sR s 0 7 = p1 + 1 ∧ kd p1 = some (7, 0) ∧ 
 W_X4_parse s 1 8192 (sI s 0 2) p1 
 (fun r2 s3 => ∀ P40 : Int32 → yS → Prop, (∀ (y4 : Int32) (s5 : yS), (∀ s6 : yS, s6 = wI s5 0 4 y4 → 
  ∀ s7 : yS, s7 = wI s6 0 5 (sI s6 91 1) → 
  ∀ P115 : yS → Prop, (∀ (s8 : yS), ((((sI s8 0 4) = 0 → ∀ s9 : yS, s9 = wI s8 0 5 (-1) → 
    ∃ p10 : Nat, sR s9 0 6 = p10 + 1 ∧ kd p10 = some (7, 0) ∧ 
    ∃ p11 : Nat, sR s9 0 7 = p11 + 1 ∧ kd p11 = some (7, 0) ∧ 
    ∀ s12 : yS, s12 = wR s9 0 6 (p11 + 1) → 
    ∀ s13 : yS, s13 = wR s12 0 7 (p10 + 1) → 
    ∃ p14 : Nat, sR s13 0 8 = p14 + 1 ∧ kd p14 = some (9, 0) ∧ 
    ∀ s15 : yS, s15 = wI s13 p14 13 0 → 
    ∀ s16 : yS, s16 = wI s15 0 12 0 → 
    W_X2_forget s16 
    (fun s17 => W_X10_begin s17 136 
    (fun s18 => Q 0 s18)))
   ∧ (¬ (sI s8 0 4) = 0 → Q (sI s8 0 4) s8))) → P115 s8) → 
  ((¬ (sI s7 0 4) = 0 → P115 s7)
  ∧ ((sI s7 0 4) = 0 → ∀ s19 : yS, s19 = wI s7 0 5 (sI s7 0 2) → 
   ∃ p20 : Nat, sR s19 0 7 = p20 + 1 ∧ kd p20 = some (7, 0) ∧ 
   ∃ p21 : Nat, sR s19 0 7 = p21 + 1 ∧ kd p21 = some (7, 0) ∧ 
   W_X1_divide s19 (p20 + 10) p21 
   (fun r22 s23 => ∀ P112 : Int32 → yS → Prop, (∀ (y24 : Int32) (s25 : yS), (∀ s26 : yS, s26 = wI s25 0 4 y24 → 
    P115 s26) → P112 y24 s25) → 
   ((¬ r22 = 0 → ∃ p27 : Nat, sR s23 0 7 = p27 + 1 ∧ kd p27 = some (7, 0) ∧ 
    W_X7_make s23 p27 
    (fun r28 s29 => ((¬ r28 = 0 → P112 0 s29)
    ∧ (r28 = 0 → P112 (nI 8) s29))))
   ∧ (r22 = 0 → P112 (nI 7) s23)))))) → P40 y4 s5) → 
 ((r2 = 0 → P40 (sI s3 91 0) s3)
 ∧ (¬ r2 = 0 → W_X4_findNames s3 
  (fun r30 s31 => P40 r30 s31))))
set_option maxRecDepth 100000 in
set_option maxHeartbeats 40000000 in
theorem w_X11_loadPolicy {G : xG} (hG : yG G) {z : Nat} {s : yS} {Q : Int32 → yS → Prop} (H : W_X11_loadPolicy s Q) : xC G mX11_loadPolicy [.ref (q_b G + 0)] (hS G s) z 0 0 (yQi G z Q) := by
  have hW := hG.1
  have hcl := hG.2.1
  have hty := hG.2.2.1
  have hO : xO G mX11_loadPolicy tbX11_loadPolicy ptX11_loadPolicy := ⟨tkX11_loadPolicy, pkX11_loadPolicy hcl⟩
  unfold W_X11_loadPolicy at H
  refine xC.of hW (by decide) rfl (Nat.le_of_ble_eq_true rfl) ?_
  refine s_aload_n (nx := 1) hO rfl rfl rfl ?_
  refine s_aload_n (nx := 2) hO rfl rfl rfl ?_
  refine s_getf (v := .ref (q_b G + 91)) (nx := 5) hO rfl rfl (hs_o11 kc0) rfl rfl ?_
  refine s_aload_n (nx := 6) hO rfl rfl rfl ?_
  refine s_getf (v := .ref (q_b G + 1)) (nx := 9) hO rfl rfl (hs_o11 kc0) rfl rfl ?_
  refine s_aload_n (nx := 10) hO rfl rfl rfl ?_
  refine s_getf (v := .int (sI s 0 2)) (nx := 13) hO rfl rfl (hs_o11 kc0) rfl rfl ?_
  refine s_aload_n (nx := 14) hO rfl rfl rfl ?_
  obtain ⟨p1, ep1, kp1, H⟩ := H
  refine s_getf (v := .ref (q_b G + p1)) (nx := 17) hO rfl rfl (hs_o11 kc0) (congrArg (fun q => some (Value.ref q)) (hv_11 ep1)) rfl ?_
  refine s_callV [.ref (q_b G + 1), .int (sI s 0 2), .ref (q_b G + p1)] (ci := 4) (F := TX4) (N := 12) (nx := 20) hO rfl kX11_loadPolicy_104 (by rw [hcl]; rfl) (hs_o4 kc91) (w_X4_parse hG kc1 kp1 H) rfl rfl (Nat.le_of_ble_eq_true rfl) (Nat.zero_le _) (Nat.zero_le _) rfl (k_Qi (fun r2 s3 H => ?_))
  refine goK (H (fun (y4 : Int32) (s5 : yS) => xEx G mX11_loadPolicy 40 [(0, .ref (q_b G + 0))] [.int y4, .ref (q_b G + 0)] (hS G s5) z 0 0 (yQi G z Q)) (fun y4 s5 H => ?_)) (fun H => ?_)
  · show xEx G mX11_loadPolicy 40 [(0, .ref (q_b G + 0))] [.int y4, .ref (q_b G + 0)] (hS G s5) z 0 0 (yQi G z Q)
    refine goV (wI s5 0 4 y4) (fun s6 es6 => ?_)
    replace H := H s6 es6
    refine s_putf (nx := 43) hO rfl rfl (hs_o11 kc0) (Nat.le_of_ble_eq_true rfl) (by rw [hty]; rfl) (by rw [hty]; rfl) pX11_4 rfl ?_
    refine xEx.at (up_oI11 kc0 es6) ?_
    refine s_aload_n (nx := 44) hO rfl rfl rfl ?_
    refine s_aload_n (nx := 45) hO rfl rfl rfl ?_
    refine s_getf (v := .ref (q_b G + 91)) (nx := 48) hO rfl rfl (hs_o11 kc0) rfl rfl ?_
    refine s_getf (v := .int (sI s6 91 1)) (nx := 51) hO rfl rfl (hs_o4 kc91) rfl rfl ?_
    refine goV (wI s6 0 5 (sI s6 91 1)) (fun s7 es7 => ?_)
    replace H := H s7 es7
    refine s_putf (nx := 54) hO rfl rfl (hs_o11 kc0) (Nat.le_of_ble_eq_true rfl) (by rw [hty]; rfl) (by rw [hty]; rfl) pX11_5 rfl ?_
    refine xEx.at (up_oI11 kc0 es7) ?_
    refine s_aload_n (nx := 55) hO rfl rfl rfl ?_
    refine s_getf (v := .int (sI s7 0 4)) (nx := 58) hO rfl rfl (hs_o11 kc0) rfl rfl ?_
    refine goK (H (fun (s8 : yS) => xEx G mX11_loadPolicy 115 [(0, .ref (q_b G + 0))] [] (hS G s8) z 0 0 (yQi G z Q)) (fun s8 H => ?_)) (fun H => ?_)
    · show xEx G mX11_loadPolicy 115 [(0, .ref (q_b G + 0))] [] (hS G s8) z 0 0 (yQi G z Q)
      refine s_aload_n (nx := 116) hO rfl rfl rfl ?_
      refine s_getf (v := .int (sI s8 0 4)) (nx := 119) hO rfl rfl (hs_o11 kc0) rfl rfl ?_
      refine s_if_eq (nx := 122) hO rfl rfl (fun c119 => ?_) (fun c119 => ?_)
      · replace H := H.1 c119
        refine s_aload_n (nx := 128) hO rfl rfl rfl ?_
        refine s_iconst (x := (-1)) (nx := 129) hO rfl (by decide) rfl ?_
        refine goV (wI s8 0 5 (-1)) (fun s9 es9 => ?_)
        replace H := H s9 es9
        refine s_putf (nx := 132) hO rfl rfl (hs_o11 kc0) (Nat.le_of_ble_eq_true rfl) (by rw [hty]; rfl) (by rw [hty]; rfl) pX11_5 rfl ?_
        refine xEx.at (up_oI11 kc0 es9) ?_
        refine s_aload_n (nx := 133) hO rfl rfl rfl ?_
        obtain ⟨p10, ep10, kp10, H⟩ := H
        refine s_getf (v := .ref (q_b G + p10)) (nx := 136) hO rfl rfl (hs_o11 kc0) (congrArg (fun q => some (Value.ref q)) (hv_11 ep10)) rfl ?_
        refine s_astore_n (nx := 137) (l' := [(1, .ref (q_b G + p10)), (0, .ref (q_b G + 0))]) hO rfl (by decide) rfl rfl ?_
        refine s_aload_n (nx := 138) hO rfl rfl rfl ?_
        refine s_aload_n (nx := 139) hO rfl rfl rfl ?_
        obtain ⟨p11, ep11, kp11, H⟩ := H
        refine s_getf (v := .ref (q_b G + p11)) (nx := 142) hO rfl rfl (hs_o11 kc0) (congrArg (fun q => some (Value.ref q)) (hv_11 ep11)) rfl ?_
        refine goV (wR s9 0 6 (p11 + 1)) (fun s12 es12 => ?_)
        replace H := H s12 es12
        refine s_putf (nx := 145) hO rfl rfl (hs_o11 kc0) (Nat.le_of_ble_eq_true rfl) (by rw [hty]; rfl) (by rw [hty]; rfl) pX11_6 rfl ?_
        refine xEx.at (up_oR11 (by decide) kc0 es12) ?_
        refine s_aload_n (nx := 146) hO rfl rfl rfl ?_
        refine s_aload_n (nx := 147) hO rfl rfl rfl ?_
        refine goV (wR s12 0 7 (p10 + 1)) (fun s13 es13 => ?_)
        replace H := H s13 es13
        refine s_putf (nx := 150) hO rfl rfl (hs_o11 kc0) (Nat.le_of_ble_eq_true rfl) (by rw [hty]; rfl) (by rw [hty]; rfl) pX11_7 rfl ?_
        refine xEx.at (up_oR11 (by decide) kc0 es13) ?_
        refine s_aload_n (nx := 151) hO rfl rfl rfl ?_
        obtain ⟨p14, ep14, kp14, H⟩ := H
        refine s_getf (v := .ref (q_b G + p14)) (nx := 154) hO rfl rfl (hs_o11 kc0) (congrArg (fun q => some (Value.ref q)) (hv_11 ep14)) rfl ?_
        refine s_iconst (x := 0) (nx := 155) hO rfl (by decide) rfl ?_
        refine goV (wI s13 p14 13 0) (fun s15 es15 => ?_)
        replace H := H s15 es15
        refine s_putf (nx := 158) hO rfl rfl (hs_o5 kp14) (Nat.le_of_ble_eq_true rfl) (by rw [hty]; rfl) (by rw [hty]; rfl) pX5_13 rfl ?_
        refine xEx.at (up_oI5 kp14 es15) ?_
        refine s_aload_n (nx := 159) hO rfl rfl rfl ?_
        refine s_iconst (x := 0) (nx := 160) hO rfl (by decide) rfl ?_
        refine goV (wI s15 0 12 0) (fun s16 es16 => ?_)
        replace H := H s16 es16
        refine s_putf (nx := 163) hO rfl rfl (hs_o11 kc0) (Nat.le_of_ble_eq_true rfl) (by rw [hty]; rfl) (by rw [hty]; rfl) pX11_12 rfl ?_
        refine xEx.at (up_oI11 kc0 es16) ?_
        refine s_aload_n (nx := 164) hO rfl rfl rfl ?_
        refine s_getf (v := .ref (q_b G + 123)) (nx := 167) hO rfl rfl (hs_o11 kc0) rfl rfl ?_
        refine s_callV [] (ci := 2) (F := TX2) (N := 18) (nx := 170) hO rfl kX11_loadPolicy_137 (by rw [hcl]; rfl) (hs_o2 kc123) (w_X2_forget hG H) rfl rfl (Nat.le_of_ble_eq_true rfl) (Nat.zero_le _) (Nat.zero_le _) rfl (k_Qv (fun s17 H => ?_))
        refine s_aload_n (nx := 171) hO rfl rfl rfl ?_
        refine s_getf (v := .ref (q_b G + 136)) (nx := 174) hO rfl rfl (hs_o11 kc0) rfl rfl ?_
        refine s_callV [] (ci := 10) (F := TX10) (N := 3) (nx := 177) hO rfl kX11_loadPolicy_140 (by rw [hcl]; rfl) (hs_o10 kc136) (w_X10_begin hG kc136 H) rfl rfl (Nat.le_of_ble_eq_true rfl) (Nat.zero_le _) (Nat.zero_le _) rfl (k_Qv (fun s18 H => ?_))
        refine s_iconst (x := 0) (nx := 178) hO rfl (by decide) rfl ?_
        exact s_iret hO rfl rfl rfl ⟨rfl, _, _, rfl, rfl, H⟩
      · replace H := H.2 c119
        refine s_aload_n (nx := 123) hO rfl rfl rfl ?_
        refine s_getf (v := .int (sI s8 0 4)) (nx := 126) hO rfl rfl (hs_o11 kc0) rfl rfl ?_
        exact s_iret hO rfl rfl rfl ⟨rfl, _, _, rfl, rfl, H⟩
    refine s_if_ne (nx := 61) hO rfl rfl (fun c58 => ?_) (fun c58 => ?_)
    · replace H := H.1 c58
      exact xEx.loc (x_sub1 (List.Mem.head _) x_sub0) H
    · replace H := H.2 c58
      refine s_aload_n (nx := 62) hO rfl rfl rfl ?_
      refine s_aload_n (nx := 63) hO rfl rfl rfl ?_
      refine s_getf (v := .int (sI s7 0 2)) (nx := 66) hO rfl rfl (hs_o11 kc0) rfl rfl ?_
      refine goV (wI s7 0 5 (sI s7 0 2)) (fun s19 es19 => ?_)
      replace H := H s19 es19
      refine s_putf (nx := 69) hO rfl rfl (hs_o11 kc0) (Nat.le_of_ble_eq_true rfl) (by rw [hty]; rfl) (by rw [hty]; rfl) pX11_5 rfl ?_
      refine xEx.at (up_oI11 kc0 es19) ?_
      refine s_aload_n (nx := 70) hO rfl rfl rfl ?_
      refine s_aload_n (nx := 71) hO rfl rfl rfl ?_
      obtain ⟨p20, ep20, kp20, H⟩ := H
      refine s_getf (v := .ref (q_b G + p20)) (nx := 74) hO rfl rfl (hs_o11 kc0) (congrArg (fun q => some (Value.ref q)) (hv_11 ep20)) rfl ?_
      refine s_getf (v := .ref (q_b G + (p20 + 10))) (nx := 77) hO rfl rfl (hs_o3 kp20) rfl rfl ?_
      refine s_aload_n (nx := 78) hO rfl rfl rfl ?_
      obtain ⟨p21, ep21, kp21, H⟩ := H
      refine s_getf (v := .ref (q_b G + p21)) (nx := 81) hO rfl rfl (hs_o11 kc0) (congrArg (fun q => some (Value.ref q)) (hv_11 ep21)) rfl ?_
      refine s_callV [.ref (q_b G + p21)] (ci := 1) (F := TX1) (N := 3) (nx := 84) hO rfl kX11_loadPolicy_121 (by rw [hcl]; rfl) (hs_o1 (kf3_16 kp20)) (w_X1_divide hG (kf3_16 kp20) kp21 H) rfl rfl (Nat.le_of_ble_eq_true rfl) (Nat.zero_le _) (Nat.zero_le _) rfl (k_Qi (fun r22 s23 H => ?_))
      refine goK (H (fun (y24 : Int32) (s25 : yS) => xEx G mX11_loadPolicy 112 [(0, .ref (q_b G + 0))] [.int y24, .ref (q_b G + 0)] (hS G s25) z 0 0 (yQi G z Q)) (fun y24 s25 H => ?_)) (fun H => ?_)
      · show xEx G mX11_loadPolicy 112 [(0, .ref (q_b G + 0))] [.int y24, .ref (q_b G + 0)] (hS G s25) z 0 0 (yQi G z Q)
        refine goV (wI s25 0 4 y24) (fun s26 es26 => ?_)
        replace H := H s26 es26
        refine s_putf (nx := 115) hO rfl rfl (hs_o11 kc0) (Nat.le_of_ble_eq_true rfl) (by rw [hty]; rfl) (by rw [hty]; rfl) pX11_4 rfl ?_
        refine xEx.at (up_oI11 kc0 es26) ?_
        exact xEx.loc (x_sub1 (List.Mem.head _) x_sub0) H
      refine s_if_ne (nx := 87) hO rfl rfl (fun c84 => ?_) (fun c84 => ?_)
      · replace H := H.1 c84
        refine s_aload_n (nx := 93) hO rfl rfl rfl ?_
        refine s_getf (v := .ref (q_b G + 103)) (nx := 96) hO rfl rfl (hs_o11 kc0) rfl rfl ?_
        refine s_aload_n (nx := 97) hO rfl rfl rfl ?_
        obtain ⟨p27, ep27, kp27, H⟩ := H
        refine s_getf (v := .ref (q_b G + p27)) (nx := 100) hO rfl rfl (hs_o11 kc0) (congrArg (fun q => some (Value.ref q)) (hv_11 ep27)) rfl ?_
        refine s_callV [.ref (q_b G + p27)] (ci := 7) (F := TX7) (N := 12) (nx := 103) hO rfl kX11_loadPolicy_127 (by rw [hcl]; rfl) (hs_o7 kc103) (w_X7_make hG kp27 H) rfl rfl (Nat.le_of_ble_eq_true rfl) (Nat.zero_le _) (Nat.zero_le _) rfl (k_Qi (fun r28 s29 H => ?_))
        refine s_if_ne (nx := 106) hO rfl rfl (fun c103 => ?_) (fun c103 => ?_)
        · replace H := H.1 c103
          refine s_iconst (x := 0) (nx := 112) hO rfl (by decide) rfl ?_
          exact xEx.loc (x_sub1 (List.Mem.head _) x_sub0) H
        · replace H := H.2 c103
          refine s_bipush (x := (nI 8)) (nx := 108) hO rfl (by decide) rfl ?_
          refine s_goto hO rfl ?_
          exact xEx.loc (x_sub1 (List.Mem.head _) x_sub0) H
      · replace H := H.2 c84
        refine s_bipush (x := (nI 7)) (nx := 89) hO rfl (by decide) rfl ?_
        refine s_goto hO rfl ?_
        exact xEx.loc (x_sub1 (List.Mem.head _) x_sub0) H
  refine s_if_eq (nx := 23) hO rfl rfl (fun c20 => ?_) (fun c20 => ?_)
  · replace H := H.1 c20
    refine s_aload_n (nx := 34) hO rfl rfl rfl ?_
    refine s_getf (v := .ref (q_b G + 91)) (nx := 37) hO rfl rfl (hs_o11 kc0) rfl rfl ?_
    refine s_getf (v := .int (sI s3 91 0)) (nx := 40) hO rfl rfl (hs_o4 kc91) rfl rfl ?_
    exact xEx.loc (x_sub1 (List.Mem.head _) x_sub0) H
  · replace H := H.2 c20
    refine s_aload_n (nx := 24) hO rfl rfl rfl ?_
    refine s_getf (v := .ref (q_b G + 91)) (nx := 27) hO rfl rfl (hs_o11 kc0) rfl rfl ?_
    refine s_callV [] (ci := 4) (F := TX4) (N := 12) (nx := 30) hO rfl kX11_loadPolicy_108 (by rw [hcl]; rfl) (hs_o4 kc91) (w_X4_findNames hG H) rfl rfl (Nat.le_of_ble_eq_true rfl) (Nat.zero_le _) (Nat.zero_le _) rfl (k_Qi (fun r30 s31 H => ?_))
    refine s_goto hO rfl ?_
    exact xEx.loc (x_sub1 (List.Mem.head _) x_sub0) H
def W_X11_loadProgram (s : yS) (Q : Int32 → yS → Prop) : Prop :=
 ∃ p1 : Nat, sR s 0 10 = p1 + 1 ∧ kd p1 = some (9, 0) ∧ 
 W_X6_read s 1 8192 (sI s 0 2) p1 
 (fun r2 s3 => ∀ s4 : yS, s4 = wI s3 0 4 r2 → 
 ∀ s5 : yS, s5 = wI s4 0 5 (sI s4 113 0) → 
 ∀ P67 : yS → Prop, (∀ (s6 : yS), ((((sI s6 0 4) = 0 → ∀ s7 : yS, s7 = wI s6 0 5 (-1) → 
   ∃ p8 : Nat, sR s7 0 8 = p8 + 1 ∧ kd p8 = some (9, 0) ∧ 
   ∃ p9 : Nat, sR s7 0 10 = p9 + 1 ∧ kd p9 = some (9, 0) ∧ 
   ∀ s10 : yS, s10 = wR s7 0 8 (p9 + 1) → 
   ∀ s11 : yS, s11 = wR s10 0 10 (p8 + 1) → 
   ∀ s12 : yS, s12 = wI s11 0 11 1 → 
   ∀ s13 : yS, s13 = wI s12 0 12 0 → 
   W_X2_forget s13 
   (fun s14 => Q 0 s14))
  ∧ (¬ (sI s6 0 4) = 0 → Q (sI s6 0 4) s6))) → P67 s6) → 
 ((¬ (sI s5 0 4) = 0 → P67 s5)
 ∧ ((sI s5 0 4) = 0 → ∃ p15 : Nat, sR s5 0 10 = p15 + 1 ∧ kd p15 = some (9, 0) ∧ 
  W_X9_verify s5 p15 
  (fun r16 s17 => ∀ s18 : yS, s18 = wI s17 0 4 r16 → 
  ∀ s19 : yS, s19 = wI s18 0 5 (sI s18 114 0) → 
  P67 s19))))
set_option maxRecDepth 100000 in
set_option maxHeartbeats 40000000 in
theorem w_X11_loadProgram {G : xG} (hG : yG G) {z : Nat} {s : yS} {Q : Int32 → yS → Prop} (H : W_X11_loadProgram s Q) : xC G mX11_loadProgram [.ref (q_b G + 0)] (hS G s) z 0 0 (yQi G z Q) := by
  have hW := hG.1
  have hcl := hG.2.1
  have hty := hG.2.2.1
  have hO : xO G mX11_loadProgram tbX11_loadProgram ptX11_loadProgram := ⟨tkX11_loadProgram, pkX11_loadProgram hcl⟩
  unfold W_X11_loadProgram at H
  refine xC.of hW (by decide) rfl (Nat.le_of_ble_eq_true rfl) ?_
  refine s_aload_n (nx := 1) hO rfl rfl rfl ?_
  refine s_aload_n (nx := 2) hO rfl rfl rfl ?_
  refine s_getf (v := .ref (q_b G + 113)) (nx := 5) hO rfl rfl (hs_o11 kc0) rfl rfl ?_
  refine s_aload_n (nx := 6) hO rfl rfl rfl ?_
  refine s_getf (v := .ref (q_b G + 1)) (nx := 9) hO rfl rfl (hs_o11 kc0) rfl rfl ?_
  refine s_aload_n (nx := 10) hO rfl rfl rfl ?_
  refine s_getf (v := .int (sI s 0 2)) (nx := 13) hO rfl rfl (hs_o11 kc0) rfl rfl ?_
  refine s_aload_n (nx := 14) hO rfl rfl rfl ?_
  obtain ⟨p1, ep1, kp1, H⟩ := H
  refine s_getf (v := .ref (q_b G + p1)) (nx := 17) hO rfl rfl (hs_o11 kc0) (congrArg (fun q => some (Value.ref q)) (hv_11 ep1)) rfl ?_
  refine s_callV [.ref (q_b G + 1), .int (sI s 0 2), .ref (q_b G + p1)] (ci := 6) (F := TX6) (N := 7) (nx := 20) hO rfl kX11_loadProgram_143 (by rw [hcl]; rfl) (hs_o6 kc113) (w_X6_read hG kc1 kp1 H) rfl rfl (Nat.le_of_ble_eq_true rfl) (Nat.zero_le _) (Nat.zero_le _) rfl (k_Qi (fun r2 s3 H => ?_))
  refine goV (wI s3 0 4 r2) (fun s4 es4 => ?_)
  replace H := H s4 es4
  refine s_putf (nx := 23) hO rfl rfl (hs_o11 kc0) (Nat.le_of_ble_eq_true rfl) (by rw [hty]; rfl) (by rw [hty]; rfl) pX11_4 rfl ?_
  refine xEx.at (up_oI11 kc0 es4) ?_
  refine s_aload_n (nx := 24) hO rfl rfl rfl ?_
  refine s_aload_n (nx := 25) hO rfl rfl rfl ?_
  refine s_getf (v := .ref (q_b G + 113)) (nx := 28) hO rfl rfl (hs_o11 kc0) rfl rfl ?_
  refine s_getf (v := .int (sI s4 113 0)) (nx := 31) hO rfl rfl (hs_o6 kc113) rfl rfl ?_
  refine goV (wI s4 0 5 (sI s4 113 0)) (fun s5 es5 => ?_)
  replace H := H s5 es5
  refine s_putf (nx := 34) hO rfl rfl (hs_o11 kc0) (Nat.le_of_ble_eq_true rfl) (by rw [hty]; rfl) (by rw [hty]; rfl) pX11_5 rfl ?_
  refine xEx.at (up_oI11 kc0 es5) ?_
  refine s_aload_n (nx := 35) hO rfl rfl rfl ?_
  refine s_getf (v := .int (sI s5 0 4)) (nx := 38) hO rfl rfl (hs_o11 kc0) rfl rfl ?_
  refine goK (H (fun (s6 : yS) => xEx G mX11_loadProgram 67 [(0, .ref (q_b G + 0))] [] (hS G s6) z 0 0 (yQi G z Q)) (fun s6 H => ?_)) (fun H => ?_)
  · show xEx G mX11_loadProgram 67 [(0, .ref (q_b G + 0))] [] (hS G s6) z 0 0 (yQi G z Q)
    refine s_aload_n (nx := 68) hO rfl rfl rfl ?_
    refine s_getf (v := .int (sI s6 0 4)) (nx := 71) hO rfl rfl (hs_o11 kc0) rfl rfl ?_
    refine s_if_eq (nx := 74) hO rfl rfl (fun c71 => ?_) (fun c71 => ?_)
    · replace H := H.1 c71
      refine s_aload_n (nx := 80) hO rfl rfl rfl ?_
      refine s_iconst (x := (-1)) (nx := 81) hO rfl (by decide) rfl ?_
      refine goV (wI s6 0 5 (-1)) (fun s7 es7 => ?_)
      replace H := H s7 es7
      refine s_putf (nx := 84) hO rfl rfl (hs_o11 kc0) (Nat.le_of_ble_eq_true rfl) (by rw [hty]; rfl) (by rw [hty]; rfl) pX11_5 rfl ?_
      refine xEx.at (up_oI11 kc0 es7) ?_
      refine s_aload_n (nx := 85) hO rfl rfl rfl ?_
      obtain ⟨p8, ep8, kp8, H⟩ := H
      refine s_getf (v := .ref (q_b G + p8)) (nx := 88) hO rfl rfl (hs_o11 kc0) (congrArg (fun q => some (Value.ref q)) (hv_11 ep8)) rfl ?_
      refine s_astore_n (nx := 89) (l' := [(1, .ref (q_b G + p8)), (0, .ref (q_b G + 0))]) hO rfl (by decide) rfl rfl ?_
      refine s_aload_n (nx := 90) hO rfl rfl rfl ?_
      refine s_aload_n (nx := 91) hO rfl rfl rfl ?_
      obtain ⟨p9, ep9, kp9, H⟩ := H
      refine s_getf (v := .ref (q_b G + p9)) (nx := 94) hO rfl rfl (hs_o11 kc0) (congrArg (fun q => some (Value.ref q)) (hv_11 ep9)) rfl ?_
      refine goV (wR s7 0 8 (p9 + 1)) (fun s10 es10 => ?_)
      replace H := H s10 es10
      refine s_putf (nx := 97) hO rfl rfl (hs_o11 kc0) (Nat.le_of_ble_eq_true rfl) (by rw [hty]; rfl) (by rw [hty]; rfl) pX11_8 rfl ?_
      refine xEx.at (up_oR11 (by decide) kc0 es10) ?_
      refine s_aload_n (nx := 98) hO rfl rfl rfl ?_
      refine s_aload_n (nx := 99) hO rfl rfl rfl ?_
      refine goV (wR s10 0 10 (p8 + 1)) (fun s11 es11 => ?_)
      replace H := H s11 es11
      refine s_putf (nx := 102) hO rfl rfl (hs_o11 kc0) (Nat.le_of_ble_eq_true rfl) (by rw [hty]; rfl) (by rw [hty]; rfl) pX11_10 rfl ?_
      refine xEx.at (up_oR11 (by decide) kc0 es11) ?_
      refine s_aload_n (nx := 103) hO rfl rfl rfl ?_
      refine s_iconst (x := 1) (nx := 104) hO rfl (by decide) rfl ?_
      refine goV (wI s11 0 11 1) (fun s12 es12 => ?_)
      replace H := H s12 es12
      refine s_putf (nx := 107) hO rfl rfl (hs_o11 kc0) (Nat.le_of_ble_eq_true rfl) (by rw [hty]; rfl) (by rw [hty]; rfl) pX11_11 rfl ?_
      refine xEx.at (up_oI11 kc0 es12) ?_
      refine s_aload_n (nx := 108) hO rfl rfl rfl ?_
      refine s_iconst (x := 0) (nx := 109) hO rfl (by decide) rfl ?_
      refine goV (wI s12 0 12 0) (fun s13 es13 => ?_)
      replace H := H s13 es13
      refine s_putf (nx := 112) hO rfl rfl (hs_o11 kc0) (Nat.le_of_ble_eq_true rfl) (by rw [hty]; rfl) (by rw [hty]; rfl) pX11_12 rfl ?_
      refine xEx.at (up_oI11 kc0 es13) ?_
      refine s_aload_n (nx := 113) hO rfl rfl rfl ?_
      refine s_getf (v := .ref (q_b G + 123)) (nx := 116) hO rfl rfl (hs_o11 kc0) rfl rfl ?_
      refine s_callV [] (ci := 2) (F := TX2) (N := 18) (nx := 119) hO rfl kX11_loadProgram_137 (by rw [hcl]; rfl) (hs_o2 kc123) (w_X2_forget hG H) rfl rfl (Nat.le_of_ble_eq_true rfl) (Nat.zero_le _) (Nat.zero_le _) rfl (k_Qv (fun s14 H => ?_))
      refine s_iconst (x := 0) (nx := 120) hO rfl (by decide) rfl ?_
      exact s_iret hO rfl rfl rfl ⟨rfl, _, _, rfl, rfl, H⟩
    · replace H := H.2 c71
      refine s_aload_n (nx := 75) hO rfl rfl rfl ?_
      refine s_getf (v := .int (sI s6 0 4)) (nx := 78) hO rfl rfl (hs_o11 kc0) rfl rfl ?_
      exact s_iret hO rfl rfl rfl ⟨rfl, _, _, rfl, rfl, H⟩
  refine s_if_ne (nx := 41) hO rfl rfl (fun c38 => ?_) (fun c38 => ?_)
  · replace H := H.1 c38
    exact xEx.loc (x_sub1 (List.Mem.head _) x_sub0) H
  · replace H := H.2 c38
    refine s_aload_n (nx := 42) hO rfl rfl rfl ?_
    refine s_aload_n (nx := 43) hO rfl rfl rfl ?_
    refine s_getf (v := .ref (q_b G + 114)) (nx := 46) hO rfl rfl (hs_o11 kc0) rfl rfl ?_
    refine s_aload_n (nx := 47) hO rfl rfl rfl ?_
    obtain ⟨p15, ep15, kp15, H⟩ := H
    refine s_getf (v := .ref (q_b G + p15)) (nx := 50) hO rfl rfl (hs_o11 kc0) (congrArg (fun q => some (Value.ref q)) (hv_11 ep15)) rfl ?_
    refine s_callV [.ref (q_b G + p15)] (ci := 9) (F := TX9) (N := 8) (nx := 53) hO rfl kX11_loadProgram_148 (by rw [hcl]; rfl) (hs_o9 kc114) (w_X9_verify hG kp15 H) rfl rfl (Nat.le_of_ble_eq_true rfl) (Nat.zero_le _) (Nat.zero_le _) rfl (k_Qi (fun r16 s17 H => ?_))
    refine goV (wI s17 0 4 r16) (fun s18 es18 => ?_)
    replace H := H s18 es18
    refine s_putf (nx := 56) hO rfl rfl (hs_o11 kc0) (Nat.le_of_ble_eq_true rfl) (by rw [hty]; rfl) (by rw [hty]; rfl) pX11_4 rfl ?_
    refine xEx.at (up_oI11 kc0 es18) ?_
    refine s_aload_n (nx := 57) hO rfl rfl rfl ?_
    refine s_aload_n (nx := 58) hO rfl rfl rfl ?_
    refine s_getf (v := .ref (q_b G + 114)) (nx := 61) hO rfl rfl (hs_o11 kc0) rfl rfl ?_
    refine s_getf (v := .int (sI s18 114 0)) (nx := 64) hO rfl rfl (hs_o9 kc114) rfl rfl ?_
    refine goV (wI s18 0 5 (sI s18 114 0)) (fun s19 es19 => ?_)
    replace H := H s19 es19
    refine s_putf (nx := 67) hO rfl rfl (hs_o11 kc0) (Nat.le_of_ble_eq_true rfl) (by rw [hty]; rfl) (by rw [hty]; rfl) pX11_5 rfl ?_
    refine xEx.at (up_oI11 kc0 es19) ?_
    exact xEx.loc (x_sub1 (List.Mem.head _) x_sub0) H
def W_X11_has (s : yS) (v1 : Int32) (Q : Int32 → Prop) : Prop :=
 ((v1 = 0 → zb (sI s 0 11) ∧ Q (sI s 0 11))
 ∧ (¬ v1 = 0 → zb (sI s 0 12) ∧ Q (sI s 0 12)))
set_option maxRecDepth 100000 in
set_option maxHeartbeats 40000000 in
theorem w_X11_has {G : xG} (hG : yG G) {z : Nat} {s : yS} {v1 : Int32} {Q : Int32 → Prop} (H : W_X11_has s v1 Q) : xC G mX11_has [.ref (q_b G + 0), .int v1] (hS G s) z 0 0 (yPi G z s Q) := by
  have hW := hG.1
  have hcl := hG.2.1
  have hty := hG.2.2.1
  have hO : xO G mX11_has tbX11_has ptX11_has := ⟨tkX11_has, pkX11_has hcl⟩
  unfold W_X11_has at H
  refine xC.of hW (by decide) rfl (Nat.le_of_ble_eq_true rfl) ?_
  refine s_iload_n (nx := 1) hO rfl rfl rfl ?_
  refine s_if_eq (nx := 4) hO rfl rfl (fun c1 => ?_) (fun c1 => ?_)
  · replace H := H.1 c1
    refine s_aload_n (nx := 12) hO rfl rfl rfl ?_
    refine s_getf (v := .int (sI s 0 11)) (nx := 15) hO rfl rfl (hs_o11 kc0) rfl rfl ?_
    obtain ⟨b1, H⟩ := H
    exact s_iret hO rfl rfl (zb_n b1) ⟨rfl, _, rfl, rfl, H⟩
  · replace H := H.2 c1
    refine s_aload_n (nx := 5) hO rfl rfl rfl ?_
    refine s_getf (v := .int (sI s 0 12)) (nx := 8) hO rfl rfl (hs_o11 kc0) rfl rfl ?_
    refine s_goto hO rfl ?_
    obtain ⟨b2, H⟩ := H
    exact s_iret hO rfl rfl (zb_n b2) ⟨rfl, _, rfl, rfl, H⟩
def W_X11_pick (s : yS) (v1 : Int32) (Q : Nat → Prop) : Prop :=
 ((v1 = 0 → ∃ p1 : Nat, sR s 0 8 = p1 + 1 ∧ kd p1 = some (9, 0) ∧ 
  Q p1)
 ∧ (¬ v1 = 0 → ∃ p2 : Nat, sR s 0 9 = p2 + 1 ∧ kd p2 = some (9, 0) ∧ 
  Q p2))
set_option maxRecDepth 100000 in
set_option maxHeartbeats 40000000 in
theorem w_X11_pick {G : xG} (hG : yG G) {z : Nat} {s : yS} {v1 : Int32} {Q : Nat → Prop} (H : W_X11_pick s v1 Q) : xC G mX11_pick [.ref (q_b G + 0), .int v1] (hS G s) z 0 0 (yPa G z s Q) := by
  have hW := hG.1
  have hcl := hG.2.1
  have hty := hG.2.2.1
  have hO : xO G mX11_pick tbX11_pick ptX11_pick := ⟨tkX11_pick, pkX11_pick hcl⟩
  unfold W_X11_pick at H
  refine xC.of hW (by decide) rfl (Nat.le_of_ble_eq_true rfl) ?_
  refine s_iload_n (nx := 1) hO rfl rfl rfl ?_
  refine s_if_eq (nx := 4) hO rfl rfl (fun c1 => ?_) (fun c1 => ?_)
  · replace H := H.1 c1
    refine s_aload_n (nx := 12) hO rfl rfl rfl ?_
    obtain ⟨p1, ep1, kp1, H⟩ := H
    refine s_getf (v := .ref (q_b G + p1)) (nx := 15) hO rfl rfl (hs_o11 kc0) (congrArg (fun q => some (Value.ref q)) (hv_11 ep1)) rfl ?_
    exact s_aret hO rfl rfl ⟨rfl, _, rfl, rfl, H⟩
  · replace H := H.2 c1
    refine s_aload_n (nx := 5) hO rfl rfl rfl ?_
    obtain ⟨p2, ep2, kp2, H⟩ := H
    refine s_getf (v := .ref (q_b G + p2)) (nx := 8) hO rfl rfl (hs_o11 kc0) (congrArg (fun q => some (Value.ref q)) (hv_11 ep2)) rfl ?_
    refine s_goto hO rfl ?_
    exact s_aret hO rfl rfl ⟨rfl, _, rfl, rfl, H⟩
def W_X11_saveProgram (s : yS) (v1 : Int32) (Q : Int32 → yS → Prop) : Prop :=
 W_X11_has s v1 
 (fun r1 => ((¬ r1 = 0 → W_X11_pick s v1 
  (fun r2 => kd r2 = some (9, 0) ∧ W_X5_write s r2 2 8192 
  (fun r3 s4 => ∀ s5 : yS, s5 = wI s4 0 3 r3 → 
  Q (sI s5 0 3) s5)))
 ∧ (r1 = 0 → Q (-1) s)))
set_option maxRecDepth 100000 in
set_option maxHeartbeats 40000000 in
theorem w_X11_saveProgram {G : xG} (hG : yG G) {z : Nat} {s : yS} {v1 : Int32} {Q : Int32 → yS → Prop} (H : W_X11_saveProgram s v1 Q) : xC G mX11_saveProgram [.ref (q_b G + 0), .int v1] (hS G s) z 0 0 (yQi G z Q) := by
  have hW := hG.1
  have hcl := hG.2.1
  have hty := hG.2.2.1
  have hO : xO G mX11_saveProgram tbX11_saveProgram ptX11_saveProgram := ⟨tkX11_saveProgram, pkX11_saveProgram hcl⟩
  unfold W_X11_saveProgram at H
  refine xC.of hW (by decide) rfl (Nat.le_of_ble_eq_true rfl) ?_
  refine s_aload_n (nx := 1) hO rfl rfl rfl ?_
  refine s_iload_n (nx := 2) hO rfl rfl rfl ?_
  refine s_callV [.int v1] (ci := 11) (F := TX11) (N := 20) (nx := 5) hO rfl kX11_saveProgram_156 (by rw [hcl]; rfl) (hs_o11 kc0) (w_X11_has hG H) rfl rfl (Nat.le_of_ble_eq_true rfl) (Nat.zero_le _) (Nat.zero_le _) rfl (k_Pi (fun r1 H => ?_))
  refine s_if_ne (nx := 8) hO rfl rfl (fun c5 => ?_) (fun c5 => ?_)
  · replace H := H.1 c5
    refine s_aload_n (nx := 11) hO rfl rfl rfl ?_
    refine s_aload_n (nx := 12) hO rfl rfl rfl ?_
    refine s_iload_n (nx := 13) hO rfl rfl rfl ?_
    refine s_callV [.int v1] (ci := 11) (F := TX11) (N := 20) (nx := 16) hO rfl kX11_saveProgram_160 (by rw [hcl]; rfl) (hs_o11 kc0) (w_X11_pick hG H) rfl rfl (Nat.le_of_ble_eq_true rfl) (Nat.zero_le _) (Nat.zero_le _) rfl (k_Pa (fun r2 H => ?_))
    obtain ⟨kr2, H⟩ := H
    refine s_aload_n (nx := 17) hO rfl rfl rfl ?_
    refine s_getf (v := .ref (q_b G + 2)) (nx := 20) hO rfl rfl (hs_o11 kc0) rfl rfl ?_
    refine s_callV [.ref (q_b G + 2)] (ci := 5) (F := TX5) (N := 19) (nx := 23) hO rfl kX11_saveProgram_164 (by rw [hcl]; rfl) (hs_o5 kr2) (w_X5_write hG kr2 kc2 H) rfl rfl (Nat.le_of_ble_eq_true rfl) (Nat.zero_le _) (Nat.zero_le _) rfl (k_Qi (fun r3 s4 H => ?_))
    refine goV (wI s4 0 3 r3) (fun s5 es5 => ?_)
    replace H := H s5 es5
    refine s_putf (nx := 26) hO rfl rfl (hs_o11 kc0) (Nat.le_of_ble_eq_true rfl) (by rw [hty]; rfl) (by rw [hty]; rfl) pX11_3 rfl ?_
    refine xEx.at (up_oI11 kc0 es5) ?_
    refine s_aload_n (nx := 27) hO rfl rfl rfl ?_
    refine s_getf (v := .int (sI s5 0 3)) (nx := 30) hO rfl rfl (hs_o11 kc0) rfl rfl ?_
    exact s_iret hO rfl rfl rfl ⟨rfl, _, _, rfl, rfl, H⟩
  · replace H := H.2 c5
    refine s_iconst (x := (-1)) (nx := 9) hO rfl (by decide) rfl ?_
    exact s_iret hO rfl rfl rfl ⟨rfl, _, _, rfl, rfl, H⟩
def W_X11_forgeIt (s : yS) (Q : Int32 → yS → Prop) : Prop :=
 (((sI s 0 11) = 0 → Q (-1) s)
 ∧ (¬ (sI s 0 11) = 0 → ∃ p1 : Nat, sR s 0 8 = p1 + 1 ∧ kd p1 = some (9, 0) ∧ 
  W_X5_hasGuard s p1 
  (fun r2 => ((r2 = 0 → ∃ p3 : Nat, sR s 0 8 = p3 + 1 ∧ kd p3 = some (9, 0) ∧ 
   ∃ p4 : Nat, sR s 0 6 = p4 + 1 ∧ kd p4 = some (7, 0) ∧ 
   W_X0_settle s p3 p4 
   (fun s5 => ∃ p6 : Nat, sR s5 0 8 = p6 + 1 ∧ kd p6 = some (9, 0) ∧ 
   ∃ p7 : Nat, sR s5 0 6 = p7 + 1 ∧ kd p7 = some (7, 0) ∧ 
   ∃ p8 : Nat, sR s5 0 10 = p8 + 1 ∧ kd p8 = some (9, 0) ∧ 
   W_X0_forge s5 p6 p7 p8 
   (fun r9 s10 => ((0 ≤ r9 → ∃ p11 : Nat, sR s10 0 10 = p11 + 1 ∧ kd p11 = some (9, 0) ∧ 
    W_X9_verify s10 p11 
    (fun r12 s13 => ∃ p14 : Nat, sR s13 0 9 = p14 + 1 ∧ kd p14 = some (9, 0) ∧ 
    ∃ p15 : Nat, sR s13 0 10 = p15 + 1 ∧ kd p15 = some (9, 0) ∧ 
    ∀ s16 : yS, s16 = wR s13 0 9 (p15 + 1) → 
    ∀ s17 : yS, s17 = wR s16 0 10 (p14 + 1) → 
    ∀ s18 : yS, s18 = wI s17 0 12 1 → 
    Q r9 s18))
   ∧ (¬ 0 ≤ r9 → Q r9 s10)))))
  ∧ (¬ r2 = 0 → Q (-1) s)))))
set_option maxRecDepth 100000 in
set_option maxHeartbeats 40000000 in
theorem w_X11_forgeIt {G : xG} (hG : yG G) {z : Nat} {s : yS} {Q : Int32 → yS → Prop} (H : W_X11_forgeIt s Q) : xC G mX11_forgeIt [.ref (q_b G + 0)] (hS G s) z 0 0 (yQi G z Q) := by
  have hW := hG.1
  have hcl := hG.2.1
  have hty := hG.2.2.1
  have hO : xO G mX11_forgeIt tbX11_forgeIt ptX11_forgeIt := ⟨tkX11_forgeIt, pkX11_forgeIt hcl⟩
  unfold W_X11_forgeIt at H
  refine xC.of hW (by decide) rfl (Nat.le_of_ble_eq_true rfl) ?_
  refine s_aload_n (nx := 1) hO rfl rfl rfl ?_
  refine s_getf (v := .int (sI s 0 11)) (nx := 4) hO rfl rfl (hs_o11 kc0) rfl rfl ?_
  refine s_if_eq (nx := 7) hO rfl rfl (fun c4 => ?_) (fun c4 => ?_)
  · replace H := H.1 c4
    refine s_iconst (x := (-1)) (nx := 18) hO rfl (by decide) rfl ?_
    exact s_iret hO rfl rfl rfl ⟨rfl, _, _, rfl, rfl, H⟩
  · replace H := H.2 c4
    refine s_aload_n (nx := 8) hO rfl rfl rfl ?_
    obtain ⟨p1, ep1, kp1, H⟩ := H
    refine s_getf (v := .ref (q_b G + p1)) (nx := 11) hO rfl rfl (hs_o11 kc0) (congrArg (fun q => some (Value.ref q)) (hv_11 ep1)) rfl ?_
    refine s_callV [] (ci := 5) (F := TX5) (N := 19) (nx := 14) hO rfl kX11_forgeIt_168 (by rw [hcl]; rfl) (hs_o5 kp1) (w_X5_hasGuard hG kp1 H) rfl rfl (Nat.le_of_ble_eq_true rfl) (Nat.zero_le _) (Nat.zero_le _) rfl (k_Pi (fun r2 H => ?_))
    refine s_if_eq (nx := 17) hO rfl rfl (fun c14 => ?_) (fun c14 => ?_)
    · replace H := H.1 c14
      refine s_aload_n (nx := 20) hO rfl rfl rfl ?_
      refine s_getf (v := .ref (q_b G + 116)) (nx := 23) hO rfl rfl (hs_o11 kc0) rfl rfl ?_
      refine s_aload_n (nx := 24) hO rfl rfl rfl ?_
      obtain ⟨p3, ep3, kp3, H⟩ := H
      refine s_getf (v := .ref (q_b G + p3)) (nx := 27) hO rfl rfl (hs_o11 kc0) (congrArg (fun q => some (Value.ref q)) (hv_11 ep3)) rfl ?_
      refine s_aload_n (nx := 28) hO rfl rfl rfl ?_
      obtain ⟨p4, ep4, kp4, H⟩ := H
      refine s_getf (v := .ref (q_b G + p4)) (nx := 31) hO rfl rfl (hs_o11 kc0) (congrArg (fun q => some (Value.ref q)) (hv_11 ep4)) rfl ?_
      refine s_callV [.ref (q_b G + p3), .ref (q_b G + p4)] (ci := 0) (F := TX0) (N := 11) (nx := 34) hO rfl kX11_forgeIt_172 (by rw [hcl]; rfl) (hs_o0 kc116) (w_X0_settle hG kp3 kp4 H) rfl rfl (Nat.le_of_ble_eq_true rfl) (Nat.zero_le _) (Nat.zero_le _) rfl (k_Qv (fun s5 H => ?_))
      refine s_aload_n (nx := 35) hO rfl rfl rfl ?_
      refine s_getf (v := .ref (q_b G + 116)) (nx := 38) hO rfl rfl (hs_o11 kc0) rfl rfl ?_
      refine s_aload_n (nx := 39) hO rfl rfl rfl ?_
      obtain ⟨p6, ep6, kp6, H⟩ := H
      refine s_getf (v := .ref (q_b G + p6)) (nx := 42) hO rfl rfl (hs_o11 kc0) (congrArg (fun q => some (Value.ref q)) (hv_11 ep6)) rfl ?_
      refine s_aload_n (nx := 43) hO rfl rfl rfl ?_
      obtain ⟨p7, ep7, kp7, H⟩ := H
      refine s_getf (v := .ref (q_b G + p7)) (nx := 46) hO rfl rfl (hs_o11 kc0) (congrArg (fun q => some (Value.ref q)) (hv_11 ep7)) rfl ?_
      refine s_aload_n (nx := 47) hO rfl rfl rfl ?_
      obtain ⟨p8, ep8, kp8, H⟩ := H
      refine s_getf (v := .ref (q_b G + p8)) (nx := 50) hO rfl rfl (hs_o11 kc0) (congrArg (fun q => some (Value.ref q)) (hv_11 ep8)) rfl ?_
      refine s_callV [.ref (q_b G + p6), .ref (q_b G + p7), .ref (q_b G + p8)] (ci := 0) (F := TX0) (N := 11) (nx := 53) hO rfl kX11_forgeIt_176 (by rw [hcl]; rfl) (hs_o0 kc116) (w_X0_forge hG kp6 kp7 kp8 H) rfl rfl (Nat.le_of_ble_eq_true rfl) (Nat.zero_le _) (Nat.zero_le _) rfl (k_Qi (fun r9 s10 H => ?_))
      refine s_istore_n (nx := 54) (l' := [(1, .int r9), (0, .ref (q_b G + 0))]) hO rfl (by decide) rfl rfl ?_
      refine s_iload_n (nx := 55) hO rfl rfl rfl ?_
      refine s_if_ge (nx := 58) hO rfl rfl (fun c55 => ?_) (fun c55 => ?_)
      · replace H := H.1 c55
        refine s_aload_n (nx := 61) hO rfl rfl rfl ?_
        refine s_getf (v := .ref (q_b G + 114)) (nx := 64) hO rfl rfl (hs_o11 kc0) rfl rfl ?_
        refine s_aload_n (nx := 65) hO rfl rfl rfl ?_
        obtain ⟨p11, ep11, kp11, H⟩ := H
        refine s_getf (v := .ref (q_b G + p11)) (nx := 68) hO rfl rfl (hs_o11 kc0) (congrArg (fun q => some (Value.ref q)) (hv_11 ep11)) rfl ?_
        refine s_callV [.ref (q_b G + p11)] (ci := 9) (F := TX9) (N := 8) (nx := 71) hO rfl kX11_forgeIt_148 (by rw [hcl]; rfl) (hs_o9 kc114) (w_X9_verify hG kp11 H) rfl rfl (Nat.le_of_ble_eq_true rfl) (Nat.zero_le _) (Nat.zero_le _) rfl (k_Qi (fun r12 s13 H => ?_))
        refine s_pop (nx := 72) hO rfl rfl rfl ?_
        refine s_aload_n (nx := 73) hO rfl rfl rfl ?_
        obtain ⟨p14, ep14, kp14, H⟩ := H
        refine s_getf (v := .ref (q_b G + p14)) (nx := 76) hO rfl rfl (hs_o11 kc0) (congrArg (fun q => some (Value.ref q)) (hv_11 ep14)) rfl ?_
        refine s_astore_n (nx := 77) (l' := [(2, .ref (q_b G + p14)), (1, .int r9), (0, .ref (q_b G + 0))]) hO rfl (by decide) rfl rfl ?_
        refine s_aload_n (nx := 78) hO rfl rfl rfl ?_
        refine s_aload_n (nx := 79) hO rfl rfl rfl ?_
        obtain ⟨p15, ep15, kp15, H⟩ := H
        refine s_getf (v := .ref (q_b G + p15)) (nx := 82) hO rfl rfl (hs_o11 kc0) (congrArg (fun q => some (Value.ref q)) (hv_11 ep15)) rfl ?_
        refine goV (wR s13 0 9 (p15 + 1)) (fun s16 es16 => ?_)
        replace H := H s16 es16
        refine s_putf (nx := 85) hO rfl rfl (hs_o11 kc0) (Nat.le_of_ble_eq_true rfl) (by rw [hty]; rfl) (by rw [hty]; rfl) pX11_9 rfl ?_
        refine xEx.at (up_oR11 (by decide) kc0 es16) ?_
        refine s_aload_n (nx := 86) hO rfl rfl rfl ?_
        refine s_aload_n (nx := 87) hO rfl rfl rfl ?_
        refine goV (wR s16 0 10 (p14 + 1)) (fun s17 es17 => ?_)
        replace H := H s17 es17
        refine s_putf (nx := 90) hO rfl rfl (hs_o11 kc0) (Nat.le_of_ble_eq_true rfl) (by rw [hty]; rfl) (by rw [hty]; rfl) pX11_10 rfl ?_
        refine xEx.at (up_oR11 (by decide) kc0 es17) ?_
        refine s_aload_n (nx := 91) hO rfl rfl rfl ?_
        refine s_iconst (x := 1) (nx := 92) hO rfl (by decide) rfl ?_
        refine goV (wI s17 0 12 1) (fun s18 es18 => ?_)
        replace H := H s18 es18
        refine s_putf (nx := 95) hO rfl rfl (hs_o11 kc0) (Nat.le_of_ble_eq_true rfl) (by rw [hty]; rfl) (by rw [hty]; rfl) pX11_12 rfl ?_
        refine xEx.at (up_oI11 kc0 es18) ?_
        refine s_iload_n (nx := 96) hO rfl rfl rfl ?_
        exact s_iret hO rfl rfl rfl ⟨rfl, _, _, rfl, rfl, H⟩
      · replace H := H.2 c55
        refine s_iload_n (nx := 59) hO rfl rfl rfl ?_
        exact s_iret hO rfl rfl rfl ⟨rfl, _, _, rfl, rfl, H⟩
    · replace H := H.2 c14
      refine s_iconst (x := (-1)) (nx := 18) hO rfl (by decide) rfl ?_
      exact s_iret hO rfl rfl rfl ⟨rfl, _, _, rfl, rfl, H⟩
def W_X11_certifyIt (s : yS) (v1 : Int32) (Q : Int32 → yS → Prop) : Prop :=
 W_X11_has s v1 
 (fun r1 => ((¬ r1 = 0 → W_X11_pick s v1 
  (fun r2 => kd r2 = some (9, 0) ∧ ∃ p3 : Nat, sR s 0 6 = p3 + 1 ∧ kd p3 = some (7, 0) ∧ 
  W_X0_settle s r2 p3 
  (fun s4 => ∀ P30 : Int32 → Prop, (∀ (x5 : Int32), ((((sI s4 r2 0) ≤ x5 → Q 0 s4)
   ∧ (¬ (sI s4 r2 0) ≤ x5 → ∀ P41 : Int32 → Prop, (∀ (x6 : Int32), (vp_in x5 12 ∧ 
     (((sI s4 (r2 + 5) (ix x5)) ≤ x6 → ∀ x8 : Int32, x8 = (x5 + 1) → 
      P30 x8)
     ∧ (¬ (sI s4 (r2 + 5) (ix x5)) ≤ x6 → ∃ p9 : Nat, sR s4 0 6 = p9 + 1 ∧ kd p9 = some (7, 0) ∧ 
      W_X0_passes s4 r2 p9 x5 x6 
      (fun r10 => ((¬ r10 = 0 → ∀ x11 : Int32, x11 = (x6 + 1) → 
       P41 x11)
      ∧ (r10 = 0 → Q ((1 + ((nI 512) * x5)) + x6) s4)))))) → P41 x6) → 
    P41 0))) → P30 x5) → 
  P30 0)))
 ∧ (r1 = 0 → Q (-1) s)))
set_option maxRecDepth 100000 in
set_option maxHeartbeats 40000000 in
theorem w_X11_certifyIt {G : xG} (hG : yG G) {z : Nat} {s : yS} {v1 : Int32} {Q : Int32 → yS → Prop} (H : W_X11_certifyIt s v1 Q) : xC G mX11_certifyIt [.ref (q_b G + 0), .int v1] (hS G s) z 0 0 (yQi G z Q) := by
  have hW := hG.1
  have hcl := hG.2.1
  have hty := hG.2.2.1
  have hO : xO G mX11_certifyIt tbX11_certifyIt ptX11_certifyIt := ⟨tkX11_certifyIt, pkX11_certifyIt hcl⟩
  unfold W_X11_certifyIt at H
  refine xC.of hW (by decide) rfl (Nat.le_of_ble_eq_true rfl) ?_
  refine s_aload_n (nx := 1) hO rfl rfl rfl ?_
  refine s_iload_n (nx := 2) hO rfl rfl rfl ?_
  refine s_callV [.int v1] (ci := 11) (F := TX11) (N := 20) (nx := 5) hO rfl kX11_certifyIt_156 (by rw [hcl]; rfl) (hs_o11 kc0) (w_X11_has hG H) rfl rfl (Nat.le_of_ble_eq_true rfl) (Nat.zero_le _) (Nat.zero_le _) rfl (k_Pi (fun r1 H => ?_))
  refine s_if_ne (nx := 8) hO rfl rfl (fun c5 => ?_) (fun c5 => ?_)
  · replace H := H.1 c5
    refine s_aload_n (nx := 11) hO rfl rfl rfl ?_
    refine s_iload_n (nx := 12) hO rfl rfl rfl ?_
    refine s_callV [.int v1] (ci := 11) (F := TX11) (N := 20) (nx := 15) hO rfl kX11_certifyIt_160 (by rw [hcl]; rfl) (hs_o11 kc0) (w_X11_pick hG H) rfl rfl (Nat.le_of_ble_eq_true rfl) (Nat.zero_le _) (Nat.zero_le _) rfl (k_Pa (fun r2 H => ?_))
    obtain ⟨kr2, H⟩ := H
    refine s_astore_n (nx := 16) (l' := [(2, .ref (q_b G + r2)), (0, .ref (q_b G + 0)), (1, .int v1)]) hO rfl (by decide) rfl rfl ?_
    refine s_aload_n (nx := 17) hO rfl rfl rfl ?_
    refine s_getf (v := .ref (q_b G + 116)) (nx := 20) hO rfl rfl (hs_o11 kc0) rfl rfl ?_
    refine s_aload_n (nx := 21) hO rfl rfl rfl ?_
    refine s_aload_n (nx := 22) hO rfl rfl rfl ?_
    obtain ⟨p3, ep3, kp3, H⟩ := H
    refine s_getf (v := .ref (q_b G + p3)) (nx := 25) hO rfl rfl (hs_o11 kc0) (congrArg (fun q => some (Value.ref q)) (hv_11 ep3)) rfl ?_
    refine s_callV [.ref (q_b G + r2), .ref (q_b G + p3)] (ci := 0) (F := TX0) (N := 11) (nx := 28) hO rfl kX11_certifyIt_172 (by rw [hcl]; rfl) (hs_o0 kc116) (w_X0_settle hG kr2 kp3 H) rfl rfl (Nat.le_of_ble_eq_true rfl) (Nat.zero_le _) (Nat.zero_le _) rfl (k_Qv (fun s4 H => ?_))
    refine s_iconst (x := 0) (nx := 29) hO rfl (by decide) rfl ?_
    refine goK (H (fun (x5 : Int32) => xEx G mX11_certifyIt 30 [(0, .ref (q_b G + 0)), (2, .ref (q_b G + r2)), (3, .int x5)] [] (hS G s4) z 0 0 (yQi G z Q)) (fun x5 H => ?_)) (fun H => ?_)
    · show xEx G mX11_certifyIt 30 [(0, .ref (q_b G + 0)), (2, .ref (q_b G + r2)), (3, .int x5)] [] (hS G s4) z 0 0 (yQi G z Q)
      refine s_iload_n (nx := 31) hO rfl rfl rfl ?_
      refine s_aload_n (nx := 32) hO rfl rfl rfl ?_
      refine s_getf (v := .int (sI s4 r2 0)) (nx := 35) hO rfl rfl (hs_o5 kr2) rfl rfl ?_
      refine s_icmp_ge (nx := 38) hO rfl rfl (fun c35 => ?_) (fun c35 => ?_)
      · replace H := H.1 c35
        refine s_iconst (x := 0) (nx := 94) hO rfl (by decide) rfl ?_
        exact s_iret hO rfl rfl rfl ⟨rfl, _, _, rfl, rfl, H⟩
      · replace H := H.2 c35
        refine s_iconst (x := 0) (nx := 39) hO rfl (by decide) rfl ?_
        refine goK (H (fun (x6 : Int32) => xEx G mX11_certifyIt 41 [(0, .ref (q_b G + 0)), (2, .ref (q_b G + r2)), (3, .int x5), (4, .int x6)] [] (hS G s4) z 0 0 (yQi G z Q)) (fun x6 H => ?_)) (fun H => ?_)
        · show xEx G mX11_certifyIt 41 [(0, .ref (q_b G + 0)), (2, .ref (q_b G + r2)), (3, .int x5), (4, .int x6)] [] (hS G s4) z 0 0 (yQi G z Q)
          refine s_iload (nx := 43) hO rfl rfl rfl ?_
          refine s_aload_n (nx := 44) hO rfl rfl rfl ?_
          refine s_getf (v := .ref (q_b G + (r2 + 5))) (nx := 47) hO rfl rfl (hs_o5 kr2) rfl rfl ?_
          refine s_iload_n (nx := 48) hO rfl rfl rfl ?_
          obtain ⟨b7, H⟩ := H
          refine s_iald (nx := 49) hO rfl (hs_I (kf5_5 kr2)) b7 rfl ?_
          refine s_icmp_ge (nx := 52) hO rfl rfl (fun c49 => ?_) (fun c49 => ?_)
          · replace H := H.1 c49
            refine goV ((x5 + 1)) (fun x8 ex8 => ?_)
            replace H := H x8 ex8
            refine e_iinc (nx := 90) (l' := [(3, .int x8), (0, .ref (q_b G + 0)), (2, .ref (q_b G + r2)), (4, .int x6)]) ex8 hO rfl (by decide) rfl rfl rfl rfl ?_
            refine s_goto hO rfl ?_
            exact xEx.loc (x_sub1 (List.Mem.tail _ (List.Mem.head _)) (x_sub1 (List.Mem.tail _ (List.Mem.tail _ (List.Mem.head _))) (x_sub1 (List.Mem.head _) x_sub0))) H
          · replace H := H.2 c49
            refine s_aload_n (nx := 53) hO rfl rfl rfl ?_
            refine s_getf (v := .ref (q_b G + 116)) (nx := 56) hO rfl rfl (hs_o11 kc0) rfl rfl ?_
            refine s_aload_n (nx := 57) hO rfl rfl rfl ?_
            refine s_aload_n (nx := 58) hO rfl rfl rfl ?_
            obtain ⟨p9, ep9, kp9, H⟩ := H
            refine s_getf (v := .ref (q_b G + p9)) (nx := 61) hO rfl rfl (hs_o11 kc0) (congrArg (fun q => some (Value.ref q)) (hv_11 ep9)) rfl ?_
            refine s_iload_n (nx := 62) hO rfl rfl rfl ?_
            refine s_iload (nx := 64) hO rfl rfl rfl ?_
            refine s_callV [.ref (q_b G + r2), .ref (q_b G + p9), .int x5, .int x6] (ci := 0) (F := TX0) (N := 11) (nx := 67) hO rfl kX11_certifyIt_187 (by rw [hcl]; rfl) (hs_o0 kc116) (w_X0_passes hG kr2 kp9 H) rfl rfl (Nat.le_of_ble_eq_true rfl) (Nat.zero_le _) (Nat.zero_le _) rfl (k_Pi (fun r10 H => ?_))
            refine s_if_ne (nx := 70) hO rfl rfl (fun c67 => ?_) (fun c67 => ?_)
            · replace H := H.1 c67
              refine goV ((x6 + 1)) (fun x11 ex11 => ?_)
              replace H := H x11 ex11
              refine e_iinc (nx := 84) (l' := [(4, .int x11), (0, .ref (q_b G + 0)), (2, .ref (q_b G + r2)), (3, .int x5)]) ex11 hO rfl (by decide) rfl rfl rfl rfl ?_
              refine s_goto hO rfl ?_
              exact xEx.loc (x_sub1 (List.Mem.tail _ (List.Mem.head _)) (x_sub1 (List.Mem.tail _ (List.Mem.tail _ (List.Mem.head _))) (x_sub1 (List.Mem.tail _ (List.Mem.tail _ (List.Mem.tail _ (List.Mem.head _)))) (x_sub1 (List.Mem.head _) x_sub0)))) H
            · replace H := H.2 c67
              refine s_iconst (x := 1) (nx := 71) hO rfl (by decide) rfl ?_
              refine s_sipush (x := (nI 512)) (nx := 74) hO rfl (by decide) rfl ?_
              refine s_iload_n (nx := 75) hO rfl rfl rfl ?_
              refine s_imul (nx := 76) hO rfl rfl ?_
              refine s_iadd (nx := 77) hO rfl rfl ?_
              refine s_iload (nx := 79) hO rfl rfl rfl ?_
              refine s_iadd (nx := 80) hO rfl rfl ?_
              exact s_iret hO rfl rfl rfl ⟨rfl, _, _, rfl, rfl, H⟩
        refine s_istore (nx := 41) (l' := [(4, .int 0), (0, .ref (q_b G + 0)), (2, .ref (q_b G + r2)), (3, .int x5)]) hO rfl (by decide) rfl rfl ?_
        exact xEx.loc (x_sub1 (List.Mem.tail _ (List.Mem.head _)) (x_sub1 (List.Mem.tail _ (List.Mem.tail _ (List.Mem.head _))) (x_sub1 (List.Mem.tail _ (List.Mem.tail _ (List.Mem.tail _ (List.Mem.head _)))) (x_sub1 (List.Mem.head _) x_sub0)))) H
    refine s_istore_n (nx := 30) (l' := [(3, .int 0), (2, .ref (q_b G + r2)), (0, .ref (q_b G + 0)), (1, .int v1)]) hO rfl (by decide) rfl rfl ?_
    exact xEx.loc (x_sub1 (List.Mem.tail _ (List.Mem.tail _ (List.Mem.head _))) (x_sub1 (List.Mem.tail _ (List.Mem.head _)) (x_sub1 (List.Mem.head _) x_sub0))) H
  · replace H := H.2 c5
    refine s_iconst (x := (-1)) (nx := 9) hO rfl (by decide) rfl ?_
    exact s_iret hO rfl rfl rfl ⟨rfl, _, _, rfl, rfl, H⟩
def W_X11_addAnswer (s : yS) (v1 : Int32) (Q : Int32 → yS → Prop) : Prop :=
 W_X2_takeAnswer s v1 
 (fun r1 s2 => Q r1 s2)
set_option maxRecDepth 100000 in
set_option maxHeartbeats 40000000 in
theorem w_X11_addAnswer {G : xG} (hG : yG G) {z : Nat} {s : yS} {v1 : Int32} {Q : Int32 → yS → Prop} (H : W_X11_addAnswer s v1 Q) : xC G mX11_addAnswer [.ref (q_b G + 0), .int v1] (hS G s) z 0 0 (yQi G z Q) := by
  have hW := hG.1
  have hcl := hG.2.1
  have hty := hG.2.2.1
  have hO : xO G mX11_addAnswer tbX11_addAnswer ptX11_addAnswer := ⟨tkX11_addAnswer, pkX11_addAnswer hcl⟩
  unfold W_X11_addAnswer at H
  refine xC.of hW (by decide) rfl (Nat.le_of_ble_eq_true rfl) ?_
  refine s_aload_n (nx := 1) hO rfl rfl rfl ?_
  refine s_getf (v := .ref (q_b G + 123)) (nx := 4) hO rfl rfl (hs_o11 kc0) rfl rfl ?_
  refine s_iload_n (nx := 5) hO rfl rfl rfl ?_
  refine s_callV [.int v1] (ci := 2) (F := TX2) (N := 18) (nx := 8) hO rfl kX11_addAnswer_191 (by rw [hcl]; rfl) (hs_o2 kc123) (w_X2_takeAnswer hG H) rfl rfl (Nat.le_of_ble_eq_true rfl) (Nat.zero_le _) (Nat.zero_le _) rfl (k_Qi (fun r1 s2 H => ?_))
  exact s_iret hO rfl rfl rfl ⟨rfl, _, _, rfl, rfl, H⟩
def W_X11_dropAnswers (s : yS) (Q : yS → Prop) : Prop :=
 ∀ s1 : yS, s1 = wI s 123 2 0 → 
 Q s1
set_option maxRecDepth 100000 in
set_option maxHeartbeats 40000000 in
theorem w_X11_dropAnswers {G : xG} (hG : yG G) {z : Nat} {s : yS} {Q : yS → Prop} (H : W_X11_dropAnswers s Q) : xC G mX11_dropAnswers [.ref (q_b G + 0)] (hS G s) z 0 0 (yQv G z Q) := by
  have hW := hG.1
  have hcl := hG.2.1
  have hty := hG.2.2.1
  have hO : xO G mX11_dropAnswers tbX11_dropAnswers ptX11_dropAnswers := ⟨tkX11_dropAnswers, pkX11_dropAnswers hcl⟩
  unfold W_X11_dropAnswers at H
  refine xC.of hW (by decide) rfl (Nat.le_of_ble_eq_true rfl) ?_
  refine s_aload_n (nx := 1) hO rfl rfl rfl ?_
  refine s_getf (v := .ref (q_b G + 123)) (nx := 4) hO rfl rfl (hs_o11 kc0) rfl rfl ?_
  refine s_iconst (x := 0) (nx := 5) hO rfl (by decide) rfl ?_
  refine goV (wI s 123 2 0) (fun s1 es1 => ?_)
  replace H := H s1 es1
  refine s_putf (nx := 8) hO rfl rfl (hs_o2 kc123) (Nat.le_of_ble_eq_true rfl) (by rw [hty]; rfl) (by rw [hty]; rfl) pX2_2 rfl ?_
  refine xEx.at (up_oI2 kc123 es1) ?_
  exact s_vret hO rfl rfl ⟨rfl, _, rfl, rfl, H⟩
def W_X11_runIt (s : yS) (v1 : Int32) (v2 : Int32) (Q : Int32 → yS → Prop) : Prop :=
 W_X11_has s v1 
 (fun r1 => ((r1 = 0 → Q (-1) s)
 ∧ (¬ r1 = 0 → ((v2 < 0 → Q (-1) s)
  ∧ (¬ v2 < 0 → ((v2 ≤ (nI 20000) → W_X11_pick s v1 
    (fun r2 => kd r2 = some (9, 0) ∧ ∃ p3 : Nat, sR s 0 6 = p3 + 1 ∧ kd p3 = some (7, 0) ∧ 
    W_X2_run s r2 p3 v2 
    (fun s4 => vp_in 0 8 ∧ 
    Q (sI s4 124 (ix 0)) s4)))
   ∧ (¬ v2 ≤ (nI 20000) → Q (-1) s)))))))
set_option maxRecDepth 100000 in
set_option maxHeartbeats 40000000 in
theorem w_X11_runIt {G : xG} (hG : yG G) {z : Nat} {s : yS} {v1 : Int32} {v2 : Int32} {Q : Int32 → yS → Prop} (H : W_X11_runIt s v1 v2 Q) : xC G mX11_runIt [.ref (q_b G + 0), .int v1, .int v2] (hS G s) z 0 0 (yQi G z Q) := by
  have hW := hG.1
  have hcl := hG.2.1
  have hty := hG.2.2.1
  have hO : xO G mX11_runIt tbX11_runIt ptX11_runIt := ⟨tkX11_runIt, pkX11_runIt hcl⟩
  unfold W_X11_runIt at H
  refine xC.of hW (by decide) rfl (Nat.le_of_ble_eq_true rfl) ?_
  refine s_aload_n (nx := 1) hO rfl rfl rfl ?_
  refine s_iload_n (nx := 2) hO rfl rfl rfl ?_
  refine s_callV [.int v1] (ci := 11) (F := TX11) (N := 20) (nx := 5) hO rfl kX11_runIt_156 (by rw [hcl]; rfl) (hs_o11 kc0) (w_X11_has hG H) rfl rfl (Nat.le_of_ble_eq_true rfl) (Nat.zero_le _) (Nat.zero_le _) rfl (k_Pi (fun r1 H => ?_))
  refine s_if_eq (nx := 8) hO rfl rfl (fun c5 => ?_) (fun c5 => ?_)
  · replace H := H.1 c5
    refine s_iconst (x := (-1)) (nx := 20) hO rfl (by decide) rfl ?_
    exact s_iret hO rfl rfl rfl ⟨rfl, _, _, rfl, rfl, H⟩
  · replace H := H.2 c5
    refine s_iload_n (nx := 9) hO rfl rfl rfl ?_
    refine s_if_lt (nx := 12) hO rfl rfl (fun c9 => ?_) (fun c9 => ?_)
    · replace H := H.1 c9
      refine s_iconst (x := (-1)) (nx := 20) hO rfl (by decide) rfl ?_
      exact s_iret hO rfl rfl rfl ⟨rfl, _, _, rfl, rfl, H⟩
    · replace H := H.2 c9
      refine s_iload_n (nx := 13) hO rfl rfl rfl ?_
      refine s_sipush (x := (nI 20000)) (nx := 16) hO rfl (by decide) rfl ?_
      refine s_icmp_le (nx := 19) hO rfl rfl (fun c16 => ?_) (fun c16 => ?_)
      · replace H := H.1 c16
        refine s_aload_n (nx := 22) hO rfl rfl rfl ?_
        refine s_getf (v := .ref (q_b G + 123)) (nx := 25) hO rfl rfl (hs_o11 kc0) rfl rfl ?_
        refine s_aload_n (nx := 26) hO rfl rfl rfl ?_
        refine s_iload_n (nx := 27) hO rfl rfl rfl ?_
        refine s_callV [.int v1] (ci := 11) (F := TX11) (N := 20) (nx := 30) hO rfl kX11_runIt_160 (by rw [hcl]; rfl) (hs_o11 kc0) (w_X11_pick hG H) rfl rfl (Nat.le_of_ble_eq_true rfl) (Nat.zero_le _) (Nat.zero_le _) rfl (k_Pa (fun r2 H => ?_))
        obtain ⟨kr2, H⟩ := H
        refine s_aload_n (nx := 31) hO rfl rfl rfl ?_
        obtain ⟨p3, ep3, kp3, H⟩ := H
        refine s_getf (v := .ref (q_b G + p3)) (nx := 34) hO rfl rfl (hs_o11 kc0) (congrArg (fun q => some (Value.ref q)) (hv_11 ep3)) rfl ?_
        refine s_iload_n (nx := 35) hO rfl rfl rfl ?_
        refine s_callV [.ref (q_b G + r2), .ref (q_b G + p3), .int v2] (ci := 2) (F := TX2) (N := 18) (nx := 38) hO rfl kX11_runIt_198 (by rw [hcl]; rfl) (hs_o2 kc123) (w_X2_run hG kr2 kp3 H) rfl rfl (Nat.le_of_ble_eq_true rfl) (Nat.zero_le _) (Nat.zero_le _) rfl (k_Qv (fun s4 H => ?_))
        refine s_aload_n (nx := 39) hO rfl rfl rfl ?_
        refine s_getf (v := .ref (q_b G + 123)) (nx := 42) hO rfl rfl (hs_o11 kc0) rfl rfl ?_
        refine s_getf (v := .ref (q_b G + 124)) (nx := 45) hO rfl rfl (hs_o2 kc123) rfl rfl ?_
        refine s_iconst (x := 0) (nx := 46) hO rfl (by decide) rfl ?_
        obtain ⟨b5, H⟩ := H
        refine s_iald (nx := 47) hO rfl (hs_I kc124) b5 rfl ?_
        exact s_iret hO rfl rfl rfl ⟨rfl, _, _, rfl, rfl, H⟩
      · replace H := H.2 c16
        refine s_iconst (x := (-1)) (nx := 20) hO rfl (by decide) rfl ?_
        exact s_iret hO rfl rfl rfl ⟨rfl, _, _, rfl, rfl, H⟩
def W_X11_endOf (s : yS) (v1 : Int32) (Q : Int32 → Prop) : Prop :=
 W_X2_hasRun s 
 (fun r1 => ((r1 = 0 → Q (-1))
 ∧ (¬ r1 = 0 → ((v1 < 0 → Q (-1))
  ∧ (¬ v1 < 0 → (((nI 8) ≤ v1 → Q (-1))
   ∧ (¬ (nI 8) ≤ v1 → vp_in v1 8 ∧ 
    Q (sI s 124 (ix v1)))))))))
set_option maxRecDepth 100000 in
set_option maxHeartbeats 40000000 in
theorem w_X11_endOf {G : xG} (hG : yG G) {z : Nat} {s : yS} {v1 : Int32} {Q : Int32 → Prop} (H : W_X11_endOf s v1 Q) : xC G mX11_endOf [.ref (q_b G + 0), .int v1] (hS G s) z 0 0 (yPi G z s Q) := by
  have hW := hG.1
  have hcl := hG.2.1
  have hty := hG.2.2.1
  have hO : xO G mX11_endOf tbX11_endOf ptX11_endOf := ⟨tkX11_endOf, pkX11_endOf hcl⟩
  unfold W_X11_endOf at H
  refine xC.of hW (by decide) rfl (Nat.le_of_ble_eq_true rfl) ?_
  refine s_aload_n (nx := 1) hO rfl rfl rfl ?_
  refine s_getf (v := .ref (q_b G + 123)) (nx := 4) hO rfl rfl (hs_o11 kc0) rfl rfl ?_
  refine s_callV [] (ci := 2) (F := TX2) (N := 18) (nx := 7) hO rfl kX11_endOf_205 (by rw [hcl]; rfl) (hs_o2 kc123) (w_X2_hasRun hG H) rfl rfl (Nat.le_of_ble_eq_true rfl) (Nat.zero_le _) (Nat.zero_le _) rfl (k_Pi (fun r1 H => ?_))
  refine s_if_eq (nx := 10) hO rfl rfl (fun c7 => ?_) (fun c7 => ?_)
  · replace H := H.1 c7
    refine s_iconst (x := (-1)) (nx := 33) hO rfl (by decide) rfl ?_
    exact s_iret hO rfl rfl rfl ⟨rfl, _, rfl, rfl, H⟩
  · replace H := H.2 c7
    refine s_iload_n (nx := 11) hO rfl rfl rfl ?_
    refine s_if_lt (nx := 14) hO rfl rfl (fun c11 => ?_) (fun c11 => ?_)
    · replace H := H.1 c11
      refine s_iconst (x := (-1)) (nx := 33) hO rfl (by decide) rfl ?_
      exact s_iret hO rfl rfl rfl ⟨rfl, _, rfl, rfl, H⟩
    · replace H := H.2 c11
      refine s_iload_n (nx := 15) hO rfl rfl rfl ?_
      refine s_bipush (x := (nI 8)) (nx := 17) hO rfl (by decide) rfl ?_
      refine s_icmp_ge (nx := 20) hO rfl rfl (fun c17 => ?_) (fun c17 => ?_)
      · replace H := H.1 c17
        refine s_iconst (x := (-1)) (nx := 33) hO rfl (by decide) rfl ?_
        exact s_iret hO rfl rfl rfl ⟨rfl, _, rfl, rfl, H⟩
      · replace H := H.2 c17
        refine s_aload_n (nx := 21) hO rfl rfl rfl ?_
        refine s_getf (v := .ref (q_b G + 123)) (nx := 24) hO rfl rfl (hs_o11 kc0) rfl rfl ?_
        refine s_getf (v := .ref (q_b G + 124)) (nx := 27) hO rfl rfl (hs_o2 kc123) rfl rfl ?_
        refine s_iload_n (nx := 28) hO rfl rfl rfl ?_
        obtain ⟨b2, H⟩ := H
        refine s_iald (nx := 29) hO rfl (hs_I kc124) b2 rfl ?_
        refine s_goto hO rfl ?_
        exact s_iret hO rfl rfl rfl ⟨rfl, _, rfl, rfl, H⟩
def W_X11_traceAt (s : yS) (v1 : Int32) (v2 : Int32) (Q : Int32 → Prop) : Prop :=
 W_X2_hasRun s 
 (fun r1 => ((r1 = 0 → Q 0)
 ∧ (¬ r1 = 0 → W_X2_traced s v1 v2 
  (fun r2 => Q r2))))
set_option maxRecDepth 100000 in
set_option maxHeartbeats 40000000 in
theorem w_X11_traceAt {G : xG} (hG : yG G) {z : Nat} {s : yS} {v1 : Int32} {v2 : Int32} {Q : Int32 → Prop} (H : W_X11_traceAt s v1 v2 Q) : xC G mX11_traceAt [.ref (q_b G + 0), .int v1, .int v2] (hS G s) z 0 0 (yPi G z s Q) := by
  have hW := hG.1
  have hcl := hG.2.1
  have hty := hG.2.2.1
  have hO : xO G mX11_traceAt tbX11_traceAt ptX11_traceAt := ⟨tkX11_traceAt, pkX11_traceAt hcl⟩
  unfold W_X11_traceAt at H
  refine xC.of hW (by decide) rfl (Nat.le_of_ble_eq_true rfl) ?_
  refine s_aload_n (nx := 1) hO rfl rfl rfl ?_
  refine s_getf (v := .ref (q_b G + 123)) (nx := 4) hO rfl rfl (hs_o11 kc0) rfl rfl ?_
  refine s_callV [] (ci := 2) (F := TX2) (N := 18) (nx := 7) hO rfl kX11_traceAt_205 (by rw [hcl]; rfl) (hs_o2 kc123) (w_X2_hasRun hG H) rfl rfl (Nat.le_of_ble_eq_true rfl) (Nat.zero_le _) (Nat.zero_le _) rfl (k_Pi (fun r1 H => ?_))
  refine s_if_eq (nx := 10) hO rfl rfl (fun c7 => ?_) (fun c7 => ?_)
  · replace H := H.1 c7
    refine s_iconst (x := 0) (nx := 23) hO rfl (by decide) rfl ?_
    exact s_iret hO rfl rfl rfl ⟨rfl, _, rfl, rfl, H⟩
  · replace H := H.2 c7
    refine s_aload_n (nx := 11) hO rfl rfl rfl ?_
    refine s_getf (v := .ref (q_b G + 123)) (nx := 14) hO rfl rfl (hs_o11 kc0) rfl rfl ?_
    refine s_iload_n (nx := 15) hO rfl rfl rfl ?_
    refine s_iload_n (nx := 16) hO rfl rfl rfl ?_
    refine s_callV [.int v1, .int v2] (ci := 2) (F := TX2) (N := 18) (nx := 19) hO rfl kX11_traceAt_208 (by rw [hcl]; rfl) (hs_o2 kc123) (w_X2_traced hG H) rfl rfl (Nat.le_of_ble_eq_true rfl) (Nat.zero_le _) (Nat.zero_le _) rfl (k_Pi (fun r2 H => ?_))
    refine s_goto hO rfl ?_
    exact s_iret hO rfl rfl rfl ⟨rfl, _, rfl, rfl, H⟩
def W_X11_counterOf (s : yS) (v1 : Int32) (v2 : Int32) (Q : Int32 → Prop) : Prop :=
 ((v1 < 0 → Q (-1))
 ∧ (¬ v1 < 0 → ∃ p1 : Nat, sR s 0 6 = p1 + 1 ∧ kd p1 = some (7, 0) ∧ 
  (((sI s p1 0) ≤ v1 → Q (-1))
  ∧ (¬ (sI s p1 0) ≤ v1 → ∀ P31 : Prop, ((((v2 = 0 → vp_in v1 6 ∧ 
     Q (sI s 126 (ix v1)))
    ∧ (¬ v2 = 0 → vp_in v1 6 ∧ 
     Q (sI s 137 (ix v1))))) → P31) → 
   ((¬ v2 = 0 → P31)
   ∧ (v2 = 0 → W_X2_hasRun s 
    (fun r4 => ((¬ r4 = 0 → P31)
    ∧ (r4 = 0 → Q (-1))))))))))
set_option maxRecDepth 100000 in
set_option maxHeartbeats 40000000 in
theorem w_X11_counterOf {G : xG} (hG : yG G) {z : Nat} {s : yS} {v1 : Int32} {v2 : Int32} {Q : Int32 → Prop} (H : W_X11_counterOf s v1 v2 Q) : xC G mX11_counterOf [.ref (q_b G + 0), .int v1, .int v2] (hS G s) z 0 0 (yPi G z s Q) := by
  have hW := hG.1
  have hcl := hG.2.1
  have hty := hG.2.2.1
  have hO : xO G mX11_counterOf tbX11_counterOf ptX11_counterOf := ⟨tkX11_counterOf, pkX11_counterOf hcl⟩
  unfold W_X11_counterOf at H
  refine xC.of hW (by decide) rfl (Nat.le_of_ble_eq_true rfl) ?_
  refine s_iload_n (nx := 1) hO rfl rfl rfl ?_
  refine s_if_lt (nx := 4) hO rfl rfl (fun c1 => ?_) (fun c1 => ?_)
  · replace H := H.1 c1
    refine s_iconst (x := (-1)) (nx := 30) hO rfl (by decide) rfl ?_
    exact s_iret hO rfl rfl rfl ⟨rfl, _, rfl, rfl, H⟩
  · replace H := H.2 c1
    refine s_iload_n (nx := 5) hO rfl rfl rfl ?_
    refine s_aload_n (nx := 6) hO rfl rfl rfl ?_
    obtain ⟨p1, ep1, kp1, H⟩ := H
    refine s_getf (v := .ref (q_b G + p1)) (nx := 9) hO rfl rfl (hs_o11 kc0) (congrArg (fun q => some (Value.ref q)) (hv_11 ep1)) rfl ?_
    refine s_getf (v := .int (sI s p1 0)) (nx := 12) hO rfl rfl (hs_o3 kp1) rfl rfl ?_
    refine s_icmp_ge (nx := 15) hO rfl rfl (fun c12 => ?_) (fun c12 => ?_)
    · replace H := H.1 c12
      refine s_iconst (x := (-1)) (nx := 30) hO rfl (by decide) rfl ?_
      exact s_iret hO rfl rfl rfl ⟨rfl, _, rfl, rfl, H⟩
    · replace H := H.2 c12
      refine s_iload_n (nx := 16) hO rfl rfl rfl ?_
      refine goK (H (xEx G mX11_counterOf 31 [(0, .ref (q_b G + 0)), (1, .int v1), (2, .int v2)] [] (hS G s) z 0 0 (yPi G z s Q)) (fun H => ?_)) (fun H => ?_)
      · show xEx G mX11_counterOf 31 [(0, .ref (q_b G + 0)), (1, .int v1), (2, .int v2)] [] (hS G s) z 0 0 (yPi G z s Q)
        refine s_iload_n (nx := 32) hO rfl rfl rfl ?_
        refine s_if_eq (nx := 35) hO rfl rfl (fun c32 => ?_) (fun c32 => ?_)
        · replace H := H.1 c32
          refine s_aload_n (nx := 48) hO rfl rfl rfl ?_
          refine s_getf (v := .ref (q_b G + 123)) (nx := 51) hO rfl rfl (hs_o11 kc0) rfl rfl ?_
          refine s_getf (v := .ref (q_b G + 125)) (nx := 54) hO rfl rfl (hs_o2 kc123) rfl rfl ?_
          refine s_getf (v := .ref (q_b G + 126)) (nx := 57) hO rfl rfl (hs_o10 kc125) rfl rfl ?_
          refine s_iload_n (nx := 58) hO rfl rfl rfl ?_
          obtain ⟨b2, H⟩ := H
          refine s_iald (nx := 59) hO rfl (hs_I kc126) b2 rfl ?_
          exact s_iret hO rfl rfl rfl ⟨rfl, _, rfl, rfl, H⟩
        · replace H := H.2 c32
          refine s_aload_n (nx := 36) hO rfl rfl rfl ?_
          refine s_getf (v := .ref (q_b G + 136)) (nx := 39) hO rfl rfl (hs_o11 kc0) rfl rfl ?_
          refine s_getf (v := .ref (q_b G + 137)) (nx := 42) hO rfl rfl (hs_o10 kc136) rfl rfl ?_
          refine s_iload_n (nx := 43) hO rfl rfl rfl ?_
          obtain ⟨b3, H⟩ := H
          refine s_iald (nx := 44) hO rfl (hs_I kc137) b3 rfl ?_
          refine s_goto hO rfl ?_
          exact s_iret hO rfl rfl rfl ⟨rfl, _, rfl, rfl, H⟩
      refine s_if_ne (nx := 19) hO rfl rfl (fun c16 => ?_) (fun c16 => ?_)
      · replace H := H.1 c16
        exact xEx.loc (x_sub1 (List.Mem.head _) (x_sub1 (List.Mem.tail _ (List.Mem.head _)) (x_sub1 (List.Mem.tail _ (List.Mem.tail _ (List.Mem.head _))) x_sub0))) H
      · replace H := H.2 c16
        refine s_aload_n (nx := 20) hO rfl rfl rfl ?_
        refine s_getf (v := .ref (q_b G + 123)) (nx := 23) hO rfl rfl (hs_o11 kc0) rfl rfl ?_
        refine s_callV [] (ci := 2) (F := TX2) (N := 18) (nx := 26) hO rfl kX11_counterOf_205 (by rw [hcl]; rfl) (hs_o2 kc123) (w_X2_hasRun hG H) rfl rfl (Nat.le_of_ble_eq_true rfl) (Nat.zero_le _) (Nat.zero_le _) rfl (k_Pi (fun r4 H => ?_))
        refine s_if_ne (nx := 29) hO rfl rfl (fun c26 => ?_) (fun c26 => ?_)
        · replace H := H.1 c26
          exact xEx.loc (x_sub1 (List.Mem.head _) (x_sub1 (List.Mem.tail _ (List.Mem.head _)) (x_sub1 (List.Mem.tail _ (List.Mem.tail _ (List.Mem.head _))) x_sub0))) H
        · replace H := H.2 c26
          refine s_iconst (x := (-1)) (nx := 30) hO rfl (by decide) rfl ?_
          exact s_iret hO rfl rfl rfl ⟨rfl, _, rfl, rfl, H⟩
def W_X11_resetWatch (s : yS) (Q : yS → Prop) : Prop :=
 W_X10_begin s 136 
 (fun s1 => Q s1)
set_option maxRecDepth 100000 in
set_option maxHeartbeats 40000000 in
theorem w_X11_resetWatch {G : xG} (hG : yG G) {z : Nat} {s : yS} {Q : yS → Prop} (H : W_X11_resetWatch s Q) : xC G mX11_resetWatch [.ref (q_b G + 0)] (hS G s) z 0 0 (yQv G z Q) := by
  have hW := hG.1
  have hcl := hG.2.1
  have hty := hG.2.2.1
  have hO : xO G mX11_resetWatch tbX11_resetWatch ptX11_resetWatch := ⟨tkX11_resetWatch, pkX11_resetWatch hcl⟩
  unfold W_X11_resetWatch at H
  refine xC.of hW (by decide) rfl (Nat.le_of_ble_eq_true rfl) ?_
  refine s_aload_n (nx := 1) hO rfl rfl rfl ?_
  refine s_getf (v := .ref (q_b G + 136)) (nx := 4) hO rfl rfl (hs_o11 kc0) rfl rfl ?_
  refine s_callV [] (ci := 10) (F := TX10) (N := 3) (nx := 7) hO rfl kX11_resetWatch_140 (by rw [hcl]; rfl) (hs_o10 kc136) (w_X10_begin hG kc136 H) rfl rfl (Nat.le_of_ble_eq_true rfl) (Nat.zero_le _) (Nat.zero_le _) rfl (k_Qv (fun s1 H => ?_))
  exact s_vret hO rfl rfl ⟨rfl, _, rfl, rfl, H⟩
def W_X11_watchCall (s : yS) (v1 : Int32) (v2 : Int32) (v3 : Int32) (v4 : Int32) (Q : Int32 → yS → Prop) : Prop :=
 ((v1 < 0 → Q (-1) s)
 ∧ (¬ v1 < 0 → (((nI 16) ≤ v1 → Q (-1) s)
  ∧ (¬ (nI 16) ≤ v1 → ∃ p1 : Nat, sR s 0 6 = p1 + 1 ∧ kd p1 = some (7, 0) ∧ 
   W_X10_pass s 136 p1 v1 v2 v3 v4 
   (fun r2 s3 => ((¬ r2 = 0 → Q (sI s3 136 0) s3)
   ∧ (r2 = 0 → Q (-1) s3)))))))
set_option maxRecDepth 100000 in
set_option maxHeartbeats 40000000 in
theorem w_X11_watchCall {G : xG} (hG : yG G) {z : Nat} {s : yS} {v1 : Int32} {v2 : Int32} {v3 : Int32} {v4 : Int32} {Q : Int32 → yS → Prop} (H : W_X11_watchCall s v1 v2 v3 v4 Q) : xC G mX11_watchCall [.ref (q_b G + 0), .int v1, .int v2, .int v3, .int v4] (hS G s) z 0 0 (yQi G z Q) := by
  have hW := hG.1
  have hcl := hG.2.1
  have hty := hG.2.2.1
  have hO : xO G mX11_watchCall tbX11_watchCall ptX11_watchCall := ⟨tkX11_watchCall, pkX11_watchCall hcl⟩
  unfold W_X11_watchCall at H
  refine xC.of hW (by decide) rfl (Nat.le_of_ble_eq_true rfl) ?_
  refine s_iload_n (nx := 1) hO rfl rfl rfl ?_
  refine s_if_lt (nx := 4) hO rfl rfl (fun c1 => ?_) (fun c1 => ?_)
  · replace H := H.1 c1
    refine s_iconst (x := (-1)) (nx := 30) hO rfl (by decide) rfl ?_
    exact s_iret hO rfl rfl rfl ⟨rfl, _, _, rfl, rfl, H⟩
  · replace H := H.2 c1
    refine s_iload_n (nx := 5) hO rfl rfl rfl ?_
    refine s_bipush (x := (nI 16)) (nx := 7) hO rfl (by decide) rfl ?_
    refine s_icmp_ge (nx := 10) hO rfl rfl (fun c7 => ?_) (fun c7 => ?_)
    · replace H := H.1 c7
      refine s_iconst (x := (-1)) (nx := 30) hO rfl (by decide) rfl ?_
      exact s_iret hO rfl rfl rfl ⟨rfl, _, _, rfl, rfl, H⟩
    · replace H := H.2 c7
      refine s_aload_n (nx := 11) hO rfl rfl rfl ?_
      refine s_getf (v := .ref (q_b G + 136)) (nx := 14) hO rfl rfl (hs_o11 kc0) rfl rfl ?_
      refine s_aload_n (nx := 15) hO rfl rfl rfl ?_
      obtain ⟨p1, ep1, kp1, H⟩ := H
      refine s_getf (v := .ref (q_b G + p1)) (nx := 18) hO rfl rfl (hs_o11 kc0) (congrArg (fun q => some (Value.ref q)) (hv_11 ep1)) rfl ?_
      refine s_iload_n (nx := 19) hO rfl rfl rfl ?_
      refine s_iload_n (nx := 20) hO rfl rfl rfl ?_
      refine s_iload_n (nx := 21) hO rfl rfl rfl ?_
      refine s_iload (nx := 23) hO rfl rfl rfl ?_
      refine s_callV [.ref (q_b G + p1), .int v1, .int v2, .int v3, .int v4] (ci := 10) (F := TX10) (N := 3) (nx := 26) hO rfl kX11_watchCall_218 (by rw [hcl]; rfl) (hs_o10 kc136) (w_X10_pass hG kc136 kp1 H) rfl rfl (Nat.le_of_ble_eq_true rfl) (Nat.zero_le _) (Nat.zero_le _) rfl (k_Qi (fun r2 s3 H => ?_))
      refine s_if_ne (nx := 29) hO rfl rfl (fun c26 => ?_) (fun c26 => ?_)
      · replace H := H.1 c26
        refine s_aload_n (nx := 32) hO rfl rfl rfl ?_
        refine s_getf (v := .ref (q_b G + 136)) (nx := 35) hO rfl rfl (hs_o11 kc0) rfl rfl ?_
        refine s_getf (v := .int (sI s3 136 0)) (nx := 38) hO rfl rfl (hs_o10 kc136) rfl rfl ?_
        exact s_iret hO rfl rfl rfl ⟨rfl, _, _, rfl, rfl, H⟩
      · replace H := H.2 c26
        refine s_iconst (x := (-1)) (nx := 30) hO rfl (by decide) rfl ?_
        exact s_iret hO rfl rfl rfl ⟨rfl, _, _, rfl, rfl, H⟩
def W_X11_wayOf (s : yS) (v1 : Int32) (v2 : Int32) (Q : Int32 → Prop) : Prop :=
 ((v1 < 0 → Q (-1))
 ∧ (¬ v1 < 0 → ∃ p1 : Nat, sR s 0 6 = p1 + 1 ∧ kd p1 = some (7, 0) ∧ 
  (((sI s p1 3) ≤ v1 → Q (-1))
  ∧ (¬ (sI s p1 3) ≤ v1 → ((v2 < 0 → Q (-1))
   ∧ (¬ v2 < 0 → ∃ p2 : Nat, sR s 0 6 = p2 + 1 ∧ kd p2 = some (7, 0) ∧ 
    W_X1_count s (p2 + 10) 
    (fun r3 => ((v2 < r3 → ∃ p4 : Nat, sR s 0 6 = p4 + 1 ∧ kd p4 = some (7, 0) ∧ 
     vp_in ((v1 * (nI 512)) + v2) 32256 ∧ 
     Q (sI s (p4 + 14) (ix ((v1 * (nI 512)) + v2))))
    ∧ (¬ v2 < r3 → Q (-1))))))))))
set_option maxRecDepth 100000 in
set_option maxHeartbeats 40000000 in
theorem w_X11_wayOf {G : xG} (hG : yG G) {z : Nat} {s : yS} {v1 : Int32} {v2 : Int32} {Q : Int32 → Prop} (H : W_X11_wayOf s v1 v2 Q) : xC G mX11_wayOf [.ref (q_b G + 0), .int v1, .int v2] (hS G s) z 0 0 (yPi G z s Q) := by
  have hW := hG.1
  have hcl := hG.2.1
  have hty := hG.2.2.1
  have hO : xO G mX11_wayOf tbX11_wayOf ptX11_wayOf := ⟨tkX11_wayOf, pkX11_wayOf hcl⟩
  unfold W_X11_wayOf at H
  refine xC.of hW (by decide) rfl (Nat.le_of_ble_eq_true rfl) ?_
  refine s_iload_n (nx := 1) hO rfl rfl rfl ?_
  refine s_if_lt (nx := 4) hO rfl rfl (fun c1 => ?_) (fun c1 => ?_)
  · replace H := H.1 c1
    refine s_iconst (x := (-1)) (nx := 34) hO rfl (by decide) rfl ?_
    exact s_iret hO rfl rfl rfl ⟨rfl, _, rfl, rfl, H⟩
  · replace H := H.2 c1
    refine s_iload_n (nx := 5) hO rfl rfl rfl ?_
    refine s_aload_n (nx := 6) hO rfl rfl rfl ?_
    obtain ⟨p1, ep1, kp1, H⟩ := H
    refine s_getf (v := .ref (q_b G + p1)) (nx := 9) hO rfl rfl (hs_o11 kc0) (congrArg (fun q => some (Value.ref q)) (hv_11 ep1)) rfl ?_
    refine s_getf (v := .int (sI s p1 3)) (nx := 12) hO rfl rfl (hs_o3 kp1) rfl rfl ?_
    refine s_icmp_ge (nx := 15) hO rfl rfl (fun c12 => ?_) (fun c12 => ?_)
    · replace H := H.1 c12
      refine s_iconst (x := (-1)) (nx := 34) hO rfl (by decide) rfl ?_
      exact s_iret hO rfl rfl rfl ⟨rfl, _, rfl, rfl, H⟩
    · replace H := H.2 c12
      refine s_iload_n (nx := 16) hO rfl rfl rfl ?_
      refine s_if_lt (nx := 19) hO rfl rfl (fun c16 => ?_) (fun c16 => ?_)
      · replace H := H.1 c16
        refine s_iconst (x := (-1)) (nx := 34) hO rfl (by decide) rfl ?_
        exact s_iret hO rfl rfl rfl ⟨rfl, _, rfl, rfl, H⟩
      · replace H := H.2 c16
        refine s_iload_n (nx := 20) hO rfl rfl rfl ?_
        refine s_aload_n (nx := 21) hO rfl rfl rfl ?_
        obtain ⟨p2, ep2, kp2, H⟩ := H
        refine s_getf (v := .ref (q_b G + p2)) (nx := 24) hO rfl rfl (hs_o11 kc0) (congrArg (fun q => some (Value.ref q)) (hv_11 ep2)) rfl ?_
        refine s_getf (v := .ref (q_b G + (p2 + 10))) (nx := 27) hO rfl rfl (hs_o3 kp2) rfl rfl ?_
        refine s_callV [] (ci := 1) (F := TX1) (N := 3) (nx := 30) hO rfl kX11_wayOf_228 (by rw [hcl]; rfl) (hs_o1 (kf3_16 kp2)) (w_X1_count hG (kf3_16 kp2) H) rfl rfl (Nat.le_of_ble_eq_true rfl) (Nat.zero_le _) (Nat.zero_le _) rfl (k_Pi (fun r3 H => ?_))
        refine s_icmp_lt (nx := 33) hO rfl rfl (fun c30 => ?_) (fun c30 => ?_)
        · replace H := H.1 c30
          refine s_aload_n (nx := 36) hO rfl rfl rfl ?_
          obtain ⟨p4, ep4, kp4, H⟩ := H
          refine s_getf (v := .ref (q_b G + p4)) (nx := 39) hO rfl rfl (hs_o11 kc0) (congrArg (fun q => some (Value.ref q)) (hv_11 ep4)) rfl ?_
          refine s_getf (v := .ref (q_b G + (p4 + 14))) (nx := 42) hO rfl rfl (hs_o3 kp4) rfl rfl ?_
          refine s_iload_n (nx := 43) hO rfl rfl rfl ?_
          refine s_sipush (x := (nI 512)) (nx := 46) hO rfl (by decide) rfl ?_
          refine s_imul (nx := 47) hO rfl rfl ?_
          refine s_iload_n (nx := 48) hO rfl rfl rfl ?_
          refine s_iadd (nx := 49) hO rfl rfl ?_
          obtain ⟨b5, H⟩ := H
          refine s_iald (nx := 50) hO rfl (hs_I (kf3_17 kp4)) b5 rfl ?_
          exact s_iret hO rfl rfl rfl ⟨rfl, _, rfl, rfl, H⟩
        · replace H := H.2 c30
          refine s_iconst (x := (-1)) (nx := 34) hO rfl (by decide) rfl ?_
          exact s_iret hO rfl rfl rfl ⟨rfl, _, rfl, rfl, H⟩
def W_X11_letterOf (s : yS) (v1 : Int32) (v2 : Int32) (Q : Int32 → Prop) : Prop :=
 ((v1 < 0 → Q 0)
 ∧ (¬ v1 < 0 → ∃ p1 : Nat, sR s 0 6 = p1 + 1 ∧ kd p1 = some (7, 0) ∧ 
  W_X1_count s (p1 + 10) 
  (fun r2 => ((r2 ≤ v1 → Q 0)
  ∧ (¬ r2 ≤ v1 → ((v2 < 0 → Q 0)
   ∧ (¬ v2 < 0 → ((v2 ≤ (nI 9) → ((¬ v2 = 0 → ∃ p3 : Nat, sR s 0 6 = p3 + 1 ∧ kd p3 = some (7, 0) ∧ 
      W_X1_leastAt s (p3 + 10) v1 (v2 - 1) 
      (fun r4 => Q r4))
     ∧ (v2 = 0 → ∃ p5 : Nat, sR s 0 6 = p5 + 1 ∧ kd p5 = some (7, 0) ∧ 
      W_X1_callAt s (p5 + 10) v1 
      (fun r6 => Q r6))))
    ∧ (¬ v2 ≤ (nI 9) → Q 0)))))))))
set_option maxRecDepth 100000 in
set_option maxHeartbeats 40000000 in
theorem w_X11_letterOf {G : xG} (hG : yG G) {z : Nat} {s : yS} {v1 : Int32} {v2 : Int32} {Q : Int32 → Prop} (H : W_X11_letterOf s v1 v2 Q) : xC G mX11_letterOf [.ref (q_b G + 0), .int v1, .int v2] (hS G s) z 0 0 (yPi G z s Q) := by
  have hW := hG.1
  have hcl := hG.2.1
  have hty := hG.2.2.1
  have hO : xO G mX11_letterOf tbX11_letterOf ptX11_letterOf := ⟨tkX11_letterOf, pkX11_letterOf hcl⟩
  unfold W_X11_letterOf at H
  refine xC.of hW (by decide) rfl (Nat.le_of_ble_eq_true rfl) ?_
  refine s_iload_n (nx := 1) hO rfl rfl rfl ?_
  refine s_if_lt (nx := 4) hO rfl rfl (fun c1 => ?_) (fun c1 => ?_)
  · replace H := H.1 c1
    refine s_iconst (x := 0) (nx := 29) hO rfl (by decide) rfl ?_
    exact s_iret hO rfl rfl rfl ⟨rfl, _, rfl, rfl, H⟩
  · replace H := H.2 c1
    refine s_iload_n (nx := 5) hO rfl rfl rfl ?_
    refine s_aload_n (nx := 6) hO rfl rfl rfl ?_
    obtain ⟨p1, ep1, kp1, H⟩ := H
    refine s_getf (v := .ref (q_b G + p1)) (nx := 9) hO rfl rfl (hs_o11 kc0) (congrArg (fun q => some (Value.ref q)) (hv_11 ep1)) rfl ?_
    refine s_getf (v := .ref (q_b G + (p1 + 10))) (nx := 12) hO rfl rfl (hs_o3 kp1) rfl rfl ?_
    refine s_callV [] (ci := 1) (F := TX1) (N := 3) (nx := 15) hO rfl kX11_letterOf_228 (by rw [hcl]; rfl) (hs_o1 (kf3_16 kp1)) (w_X1_count hG (kf3_16 kp1) H) rfl rfl (Nat.le_of_ble_eq_true rfl) (Nat.zero_le _) (Nat.zero_le _) rfl (k_Pi (fun r2 H => ?_))
    refine s_icmp_ge (nx := 18) hO rfl rfl (fun c15 => ?_) (fun c15 => ?_)
    · replace H := H.1 c15
      refine s_iconst (x := 0) (nx := 29) hO rfl (by decide) rfl ?_
      exact s_iret hO rfl rfl rfl ⟨rfl, _, rfl, rfl, H⟩
    · replace H := H.2 c15
      refine s_iload_n (nx := 19) hO rfl rfl rfl ?_
      refine s_if_lt (nx := 22) hO rfl rfl (fun c19 => ?_) (fun c19 => ?_)
      · replace H := H.1 c19
        refine s_iconst (x := 0) (nx := 29) hO rfl (by decide) rfl ?_
        exact s_iret hO rfl rfl rfl ⟨rfl, _, rfl, rfl, H⟩
      · replace H := H.2 c19
        refine s_iload_n (nx := 23) hO rfl rfl rfl ?_
        refine s_bipush (x := (nI 9)) (nx := 25) hO rfl (by decide) rfl ?_
        refine s_icmp_le (nx := 28) hO rfl rfl (fun c25 => ?_) (fun c25 => ?_)
        · replace H := H.1 c25
          refine s_iload_n (nx := 31) hO rfl rfl rfl ?_
          refine s_if_ne (nx := 34) hO rfl rfl (fun c31 => ?_) (fun c31 => ?_)
          · replace H := H.1 c31
            refine s_aload_n (nx := 49) hO rfl rfl rfl ?_
            obtain ⟨p3, ep3, kp3, H⟩ := H
            refine s_getf (v := .ref (q_b G + p3)) (nx := 52) hO rfl rfl (hs_o11 kc0) (congrArg (fun q => some (Value.ref q)) (hv_11 ep3)) rfl ?_
            refine s_getf (v := .ref (q_b G + (p3 + 10))) (nx := 55) hO rfl rfl (hs_o3 kp3) rfl rfl ?_
            refine s_iload_n (nx := 56) hO rfl rfl rfl ?_
            refine s_iload_n (nx := 57) hO rfl rfl rfl ?_
            refine s_iconst (x := 1) (nx := 58) hO rfl (by decide) rfl ?_
            refine s_isub (nx := 59) hO rfl rfl ?_
            refine s_callV [.int v1, .int (v2 - 1)] (ci := 1) (F := TX1) (N := 3) (nx := 62) hO rfl kX11_letterOf_237 (by rw [hcl]; rfl) (hs_o1 (kf3_16 kp3)) (w_X1_leastAt hG (kf3_16 kp3) H) rfl rfl (Nat.le_of_ble_eq_true rfl) (Nat.zero_le _) (Nat.zero_le _) rfl (k_Pi (fun r4 H => ?_))
            exact s_iret hO rfl rfl rfl ⟨rfl, _, rfl, rfl, H⟩
          · replace H := H.2 c31
            refine s_aload_n (nx := 35) hO rfl rfl rfl ?_
            obtain ⟨p5, ep5, kp5, H⟩ := H
            refine s_getf (v := .ref (q_b G + p5)) (nx := 38) hO rfl rfl (hs_o11 kc0) (congrArg (fun q => some (Value.ref q)) (hv_11 ep5)) rfl ?_
            refine s_getf (v := .ref (q_b G + (p5 + 10))) (nx := 41) hO rfl rfl (hs_o3 kp5) rfl rfl ?_
            refine s_iload_n (nx := 42) hO rfl rfl rfl ?_
            refine s_callV [.int v1] (ci := 1) (F := TX1) (N := 3) (nx := 45) hO rfl kX11_letterOf_234 (by rw [hcl]; rfl) (hs_o1 (kf3_16 kp5)) (w_X1_callAt hG (kf3_16 kp5) H) rfl rfl (Nat.le_of_ble_eq_true rfl) (Nat.zero_le _) (Nat.zero_le _) rfl (k_Pi (fun r6 H => ?_))
            refine s_goto hO rfl ?_
            exact s_iret hO rfl rfl rfl ⟨rfl, _, rfl, rfl, H⟩
        · replace H := H.2 c25
          refine s_iconst (x := 0) (nx := 29) hO rfl (by decide) rfl ?_
          exact s_iret hO rfl rfl rfl ⟨rfl, _, rfl, rfl, H⟩
def W_X11_hasFunction (s : yS) (v1 : Int32) (v2 : Int32) (Q : Int32 → Prop) : Prop :=
 W_X11_has s v1 
 (fun r1 => ((r1 = 0 → Q 0)
 ∧ (¬ r1 = 0 → ((v2 < 0 → Q 0)
  ∧ (¬ v2 < 0 → W_X11_pick s v1 
   (fun r2 => kd r2 = some (9, 0) ∧ (((sI s r2 0) ≤ v2 → Q 0)
   ∧ (¬ (sI s r2 0) ≤ v2 → Q 1))))))))
set_option maxRecDepth 100000 in
set_option maxHeartbeats 40000000 in
theorem w_X11_hasFunction {G : xG} (hG : yG G) {z : Nat} {s : yS} {v1 : Int32} {v2 : Int32} {Q : Int32 → Prop} (H : W_X11_hasFunction s v1 v2 Q) : xC G mX11_hasFunction [.ref (q_b G + 0), .int v1, .int v2] (hS G s) z 0 0 (yPi G z s Q) := by
  have hW := hG.1
  have hcl := hG.2.1
  have hty := hG.2.2.1
  have hO : xO G mX11_hasFunction tbX11_hasFunction ptX11_hasFunction := ⟨tkX11_hasFunction, pkX11_hasFunction hcl⟩
  unfold W_X11_hasFunction at H
  refine xC.of hW (by decide) rfl (Nat.le_of_ble_eq_true rfl) ?_
  refine s_aload_n (nx := 1) hO rfl rfl rfl ?_
  refine s_iload_n (nx := 2) hO rfl rfl rfl ?_
  refine s_callV [.int v1] (ci := 11) (F := TX11) (N := 20) (nx := 5) hO rfl kX11_hasFunction_156 (by rw [hcl]; rfl) (hs_o11 kc0) (w_X11_has hG H) rfl rfl (Nat.le_of_ble_eq_true rfl) (Nat.zero_le _) (Nat.zero_le _) rfl (k_Pi (fun r1 H => ?_))
  refine s_if_eq (nx := 8) hO rfl rfl (fun c5 => ?_) (fun c5 => ?_)
  · replace H := H.1 c5
    refine s_iconst (x := 0) (nx := 29) hO rfl (by decide) rfl ?_
    exact s_iret hO rfl rfl rfl ⟨rfl, _, rfl, rfl, H⟩
  · replace H := H.2 c5
    refine s_iload_n (nx := 9) hO rfl rfl rfl ?_
    refine s_if_lt (nx := 12) hO rfl rfl (fun c9 => ?_) (fun c9 => ?_)
    · replace H := H.1 c9
      refine s_iconst (x := 0) (nx := 29) hO rfl (by decide) rfl ?_
      exact s_iret hO rfl rfl rfl ⟨rfl, _, rfl, rfl, H⟩
    · replace H := H.2 c9
      refine s_iload_n (nx := 13) hO rfl rfl rfl ?_
      refine s_aload_n (nx := 14) hO rfl rfl rfl ?_
      refine s_iload_n (nx := 15) hO rfl rfl rfl ?_
      refine s_callV [.int v1] (ci := 11) (F := TX11) (N := 20) (nx := 18) hO rfl kX11_hasFunction_160 (by rw [hcl]; rfl) (hs_o11 kc0) (w_X11_pick hG H) rfl rfl (Nat.le_of_ble_eq_true rfl) (Nat.zero_le _) (Nat.zero_le _) rfl (k_Pa (fun r2 H => ?_))
      obtain ⟨kr2, H⟩ := H
      refine s_getf (v := .int (sI s r2 0)) (nx := 21) hO rfl rfl (hs_o5 kr2) rfl rfl ?_
      refine s_icmp_ge (nx := 24) hO rfl rfl (fun c21 => ?_) (fun c21 => ?_)
      · replace H := H.1 c21
        refine s_iconst (x := 0) (nx := 29) hO rfl (by decide) rfl ?_
        exact s_iret hO rfl rfl rfl ⟨rfl, _, rfl, rfl, H⟩
      · replace H := H.2 c21
        refine s_iconst (x := 1) (nx := 25) hO rfl (by decide) rfl ?_
        refine s_goto hO rfl ?_
        exact s_iret hO rfl rfl rfl ⟨rfl, _, rfl, rfl, H⟩
def W_X11_hasInstruction (s : yS) (v1 : Int32) (v2 : Int32) (v3 : Int32) (Q : Int32 → Prop) : Prop :=
 W_X11_hasFunction s v1 v2 
 (fun r1 => ((r1 = 0 → Q 0)
 ∧ (¬ r1 = 0 → ((v3 < 0 → Q 0)
  ∧ (¬ v3 < 0 → W_X11_pick s v1 
   (fun r2 => kd r2 = some (9, 0) ∧ vp_in v2 12 ∧ 
   (((sI s (r2 + 5) (ix v2)) ≤ v3 → Q 0)
   ∧ (¬ (sI s (r2 + 5) (ix v2)) ≤ v3 → Q 1))))))))
set_option maxRecDepth 100000 in
set_option maxHeartbeats 40000000 in
theorem w_X11_hasInstruction {G : xG} (hG : yG G) {z : Nat} {s : yS} {v1 : Int32} {v2 : Int32} {v3 : Int32} {Q : Int32 → Prop} (H : W_X11_hasInstruction s v1 v2 v3 Q) : xC G mX11_hasInstruction [.ref (q_b G + 0), .int v1, .int v2, .int v3] (hS G s) z 0 0 (yPi G z s Q) := by
  have hW := hG.1
  have hcl := hG.2.1
  have hty := hG.2.2.1
  have hO : xO G mX11_hasInstruction tbX11_hasInstruction ptX11_hasInstruction := ⟨tkX11_hasInstruction, pkX11_hasInstruction hcl⟩
  unfold W_X11_hasInstruction at H
  refine xC.of hW (by decide) rfl (Nat.le_of_ble_eq_true rfl) ?_
  refine s_aload_n (nx := 1) hO rfl rfl rfl ?_
  refine s_iload_n (nx := 2) hO rfl rfl rfl ?_
  refine s_iload_n (nx := 3) hO rfl rfl rfl ?_
  refine s_callV [.int v1, .int v2] (ci := 11) (F := TX11) (N := 20) (nx := 6) hO rfl kX11_hasInstruction_268 (by rw [hcl]; rfl) (hs_o11 kc0) (w_X11_hasFunction hG H) rfl rfl (Nat.le_of_ble_eq_true rfl) (Nat.zero_le _) (Nat.zero_le _) rfl (k_Pi (fun r1 H => ?_))
  refine s_if_eq (nx := 9) hO rfl rfl (fun c6 => ?_) (fun c6 => ?_)
  · replace H := H.1 c6
    refine s_iconst (x := 0) (nx := 32) hO rfl (by decide) rfl ?_
    exact s_iret hO rfl rfl rfl ⟨rfl, _, rfl, rfl, H⟩
  · replace H := H.2 c6
    refine s_iload_n (nx := 10) hO rfl rfl rfl ?_
    refine s_if_lt (nx := 13) hO rfl rfl (fun c10 => ?_) (fun c10 => ?_)
    · replace H := H.1 c10
      refine s_iconst (x := 0) (nx := 32) hO rfl (by decide) rfl ?_
      exact s_iret hO rfl rfl rfl ⟨rfl, _, rfl, rfl, H⟩
    · replace H := H.2 c10
      refine s_iload_n (nx := 14) hO rfl rfl rfl ?_
      refine s_aload_n (nx := 15) hO rfl rfl rfl ?_
      refine s_iload_n (nx := 16) hO rfl rfl rfl ?_
      refine s_callV [.int v1] (ci := 11) (F := TX11) (N := 20) (nx := 19) hO rfl kX11_hasInstruction_160 (by rw [hcl]; rfl) (hs_o11 kc0) (w_X11_pick hG H) rfl rfl (Nat.le_of_ble_eq_true rfl) (Nat.zero_le _) (Nat.zero_le _) rfl (k_Pa (fun r2 H => ?_))
      obtain ⟨kr2, H⟩ := H
      refine s_getf (v := .ref (q_b G + (r2 + 5))) (nx := 22) hO rfl rfl (hs_o5 kr2) rfl rfl ?_
      refine s_iload_n (nx := 23) hO rfl rfl rfl ?_
      obtain ⟨b3, H⟩ := H
      refine s_iald (nx := 24) hO rfl (hs_I (kf5_5 kr2)) b3 rfl ?_
      refine s_icmp_ge (nx := 27) hO rfl rfl (fun c24 => ?_) (fun c24 => ?_)
      · replace H := H.1 c24
        refine s_iconst (x := 0) (nx := 32) hO rfl (by decide) rfl ?_
        exact s_iret hO rfl rfl rfl ⟨rfl, _, rfl, rfl, H⟩
      · replace H := H.2 c24
        refine s_iconst (x := 1) (nx := 28) hO rfl (by decide) rfl ?_
        refine s_goto hO rfl ?_
        exact s_iret hO rfl rfl rfl ⟨rfl, _, rfl, rfl, H⟩
def W_X11_codeOf (s : yS) (v1 : Int32) (v2 : Int32) (v3 : Int32) (v4 : Int32) (Q : Int32 → yS → Prop) : Prop :=
 W_X11_hasInstruction s v1 v2 v3 
 (fun r1 => ((¬ r1 = 0 → W_X11_pick s v1 
  (fun r2 => kd r2 = some (9, 0) ∧ ∀ x3 : Int32, x3 = ((v2 * (nI 400)) + v3) → 
  ((((v4).toInt < 0 ∨ 5 < (v4).toInt) → Q 0 s)
  ∧ ((v4).toInt = 0 → vp_in x3 4800 ∧ 
    Q (sI s (r2 + 7) (ix x3)) s)
  ∧ ((v4).toInt = 1 → vp_in x3 4800 ∧ 
    Q (sI s (r2 + 8) (ix x3)) s)
  ∧ ((v4).toInt = 2 → vp_in x3 4800 ∧ 
    Q (sI s (r2 + 9) (ix x3)) s)
  ∧ ((v4).toInt = 3 → vp_in x3 4800 ∧ 
    Q (sI s (r2 + 10) (ix x3)) s)
  ∧ ((v4).toInt = 4 → W_X5_isGuarded s r2 v2 v3 
    (fun r8 => ((r8 = 0 → Q 0 s)
    ∧ (¬ r8 = 0 → Q 1 s))))
  ∧ ((v4).toInt = 5 → ∃ p9 : Nat, sR s 0 6 = p9 + 1 ∧ kd p9 = some (7, 0) ∧ 
    W_X0_settle s r2 p9 
    (fun s10 => ∃ p11 : Nat, sR s10 0 6 = p11 + 1 ∧ kd p11 = some (7, 0) ∧ 
    W_X0_needs s10 r2 p11 x3 
    (fun r12 => ((r12 = 0 → Q 0 s10)
    ∧ (¬ r12 = 0 → Q 1 s10))))))))
 ∧ (r1 = 0 → Q 0 s)))
set_option maxRecDepth 100000 in
set_option maxHeartbeats 40000000 in
theorem w_X11_codeOf {G : xG} (hG : yG G) {z : Nat} {s : yS} {v1 : Int32} {v2 : Int32} {v3 : Int32} {v4 : Int32} {Q : Int32 → yS → Prop} (H : W_X11_codeOf s v1 v2 v3 v4 Q) : xC G mX11_codeOf [.ref (q_b G + 0), .int v1, .int v2, .int v3, .int v4] (hS G s) z 0 0 (yQi G z Q) := by
  have hW := hG.1
  have hcl := hG.2.1
  have hty := hG.2.2.1
  have hO : xO G mX11_codeOf tbX11_codeOf ptX11_codeOf := ⟨tkX11_codeOf, pkX11_codeOf hcl⟩
  unfold W_X11_codeOf at H
  refine xC.of hW (by decide) rfl (Nat.le_of_ble_eq_true rfl) ?_
  refine s_aload_n (nx := 1) hO rfl rfl rfl ?_
  refine s_iload_n (nx := 2) hO rfl rfl rfl ?_
  refine s_iload_n (nx := 3) hO rfl rfl rfl ?_
  refine s_iload_n (nx := 4) hO rfl rfl rfl ?_
  refine s_callV [.int v1, .int v2, .int v3] (ci := 11) (F := TX11) (N := 20) (nx := 7) hO rfl kX11_codeOf_240 (by rw [hcl]; rfl) (hs_o11 kc0) (w_X11_hasInstruction hG H) rfl rfl (Nat.le_of_ble_eq_true rfl) (Nat.zero_le _) (Nat.zero_le _) rfl (k_Pi (fun r1 H => ?_))
  refine s_if_ne (nx := 10) hO rfl rfl (fun c7 => ?_) (fun c7 => ?_)
  · replace H := H.1 c7
    refine s_aload_n (nx := 13) hO rfl rfl rfl ?_
    refine s_iload_n (nx := 14) hO rfl rfl rfl ?_
    refine s_callV [.int v1] (ci := 11) (F := TX11) (N := 20) (nx := 17) hO rfl kX11_codeOf_160 (by rw [hcl]; rfl) (hs_o11 kc0) (w_X11_pick hG H) rfl rfl (Nat.le_of_ble_eq_true rfl) (Nat.zero_le _) (Nat.zero_le _) rfl (k_Pa (fun r2 H => ?_))
    obtain ⟨kr2, H⟩ := H
    refine s_astore (nx := 19) (l' := [(5, .ref (q_b G + r2)), (0, .ref (q_b G + 0)), (1, .int v1), (2, .int v2), (3, .int v3), (4, .int v4)]) hO rfl (by decide) rfl rfl ?_
    refine s_iload_n (nx := 20) hO rfl rfl rfl ?_
    refine s_sipush (x := (nI 400)) (nx := 23) hO rfl (by decide) rfl ?_
    refine s_imul (nx := 24) hO rfl rfl ?_
    refine s_iload_n (nx := 25) hO rfl rfl rfl ?_
    refine s_iadd (nx := 26) hO rfl rfl ?_
    refine goV (((v2 * (nI 400)) + v3)) (fun x3 ex3 => ?_)
    replace H := H x3 ex3
    refine e_istore (nx := 28) (l' := [(6, .int x3), (5, .ref (q_b G + r2)), (0, .ref (q_b G + 0)), (1, .int v1), (2, .int v2), (3, .int v3), (4, .int v4)]) ex3 hO rfl (by decide) rfl rfl ?_
    refine s_iload (nx := 30) hO rfl rfl rfl ?_
    refine s_switch hO rfl (fun c30 => ?_) (fun dc30 fc30 => ?_)
    · replace H := H.1 c30
      refine s_iconst (x := 0) (nx := 158) hO rfl (by decide) rfl ?_
      exact s_iret hO rfl rfl rfl ⟨rfl, _, _, rfl, rfl, H⟩
    · obtain c30 | c30 | c30 | c30 | c30 | c30 : (v4).toInt = 0 ∨ (v4).toInt = 1 ∨ (v4).toInt = 2 ∨ (v4).toInt = 3 ∨ (v4).toInt = 4 ∨ (v4).toInt = 5 := by omega
      · replace H := H.2.1 c30
        refine ⟨68, by rw [c30]; rfl, ?_⟩
        refine s_aload (nx := 70) hO rfl rfl rfl ?_
        refine s_getf (v := .ref (q_b G + (r2 + 7))) (nx := 73) hO rfl rfl (hs_o5 kr2) rfl rfl ?_
        refine s_iload (nx := 75) hO rfl rfl rfl ?_
        obtain ⟨b4, H⟩ := H
        refine s_iald (nx := 76) hO rfl (hs_I (kf5_7 kr2)) b4 rfl ?_
        exact s_iret hO rfl rfl rfl ⟨rfl, _, _, rfl, rfl, H⟩
      · replace H := H.2.2.1 c30
        refine ⟨77, by rw [c30]; rfl, ?_⟩
        refine s_aload (nx := 79) hO rfl rfl rfl ?_
        refine s_getf (v := .ref (q_b G + (r2 + 8))) (nx := 82) hO rfl rfl (hs_o5 kr2) rfl rfl ?_
        refine s_iload (nx := 84) hO rfl rfl rfl ?_
        obtain ⟨b5, H⟩ := H
        refine s_iald (nx := 85) hO rfl (hs_I (kf5_8 kr2)) b5 rfl ?_
        exact s_iret hO rfl rfl rfl ⟨rfl, _, _, rfl, rfl, H⟩
      · replace H := H.2.2.2.1 c30
        refine ⟨86, by rw [c30]; rfl, ?_⟩
        refine s_aload (nx := 88) hO rfl rfl rfl ?_
        refine s_getf (v := .ref (q_b G + (r2 + 9))) (nx := 91) hO rfl rfl (hs_o5 kr2) rfl rfl ?_
        refine s_iload (nx := 93) hO rfl rfl rfl ?_
        obtain ⟨b6, H⟩ := H
        refine s_iald (nx := 94) hO rfl (hs_I (kf5_9 kr2)) b6 rfl ?_
        exact s_iret hO rfl rfl rfl ⟨rfl, _, _, rfl, rfl, H⟩
      · replace H := H.2.2.2.2.1 c30
        refine ⟨95, by rw [c30]; rfl, ?_⟩
        refine s_aload (nx := 97) hO rfl rfl rfl ?_
        refine s_getf (v := .ref (q_b G + (r2 + 10))) (nx := 100) hO rfl rfl (hs_o5 kr2) rfl rfl ?_
        refine s_iload (nx := 102) hO rfl rfl rfl ?_
        obtain ⟨b7, H⟩ := H
        refine s_iald (nx := 103) hO rfl (hs_I (kf5_10 kr2)) b7 rfl ?_
        exact s_iret hO rfl rfl rfl ⟨rfl, _, _, rfl, rfl, H⟩
      · replace H := H.2.2.2.2.2.1 c30
        refine ⟨104, by rw [c30]; rfl, ?_⟩
        refine s_aload (nx := 106) hO rfl rfl rfl ?_
        refine s_iload_n (nx := 107) hO rfl rfl rfl ?_
        refine s_iload_n (nx := 108) hO rfl rfl rfl ?_
        refine s_callV [.int v2, .int v3] (ci := 5) (F := TX5) (N := 19) (nx := 111) hO rfl kX11_codeOf_256 (by rw [hcl]; rfl) (hs_o5 kr2) (w_X5_isGuarded hG kr2 H) rfl rfl (Nat.le_of_ble_eq_true rfl) (Nat.zero_le _) (Nat.zero_le _) rfl (k_Pi (fun r8 H => ?_))
        refine s_if_eq (nx := 114) hO rfl rfl (fun c111 => ?_) (fun c111 => ?_)
        · replace H := H.1 c111
          refine s_iconst (x := 0) (nx := 119) hO rfl (by decide) rfl ?_
          exact s_iret hO rfl rfl rfl ⟨rfl, _, _, rfl, rfl, H⟩
        · replace H := H.2 c111
          refine s_iconst (x := 1) (nx := 115) hO rfl (by decide) rfl ?_
          refine s_goto hO rfl ?_
          exact s_iret hO rfl rfl rfl ⟨rfl, _, _, rfl, rfl, H⟩
      · replace H := H.2.2.2.2.2.2 c30
        refine ⟨120, by rw [c30]; rfl, ?_⟩
        refine s_aload_n (nx := 121) hO rfl rfl rfl ?_
        refine s_getf (v := .ref (q_b G + 116)) (nx := 124) hO rfl rfl (hs_o11 kc0) rfl rfl ?_
        refine s_aload (nx := 126) hO rfl rfl rfl ?_
        refine s_aload_n (nx := 127) hO rfl rfl rfl ?_
        obtain ⟨p9, ep9, kp9, H⟩ := H
        refine s_getf (v := .ref (q_b G + p9)) (nx := 130) hO rfl rfl (hs_o11 kc0) (congrArg (fun q => some (Value.ref q)) (hv_11 ep9)) rfl ?_
        refine s_callV [.ref (q_b G + r2), .ref (q_b G + p9)] (ci := 0) (F := TX0) (N := 11) (nx := 133) hO rfl kX11_codeOf_172 (by rw [hcl]; rfl) (hs_o0 kc116) (w_X0_settle hG kr2 kp9 H) rfl rfl (Nat.le_of_ble_eq_true rfl) (Nat.zero_le _) (Nat.zero_le _) rfl (k_Qv (fun s10 H => ?_))
        refine s_aload_n (nx := 134) hO rfl rfl rfl ?_
        refine s_getf (v := .ref (q_b G + 116)) (nx := 137) hO rfl rfl (hs_o11 kc0) rfl rfl ?_
        refine s_aload (nx := 139) hO rfl rfl rfl ?_
        refine s_aload_n (nx := 140) hO rfl rfl rfl ?_
        obtain ⟨p11, ep11, kp11, H⟩ := H
        refine s_getf (v := .ref (q_b G + p11)) (nx := 143) hO rfl rfl (hs_o11 kc0) (congrArg (fun q => some (Value.ref q)) (hv_11 ep11)) rfl ?_
        refine s_iload (nx := 145) hO rfl rfl rfl ?_
        refine s_callV [.ref (q_b G + r2), .ref (q_b G + p11), .int x3] (ci := 0) (F := TX0) (N := 11) (nx := 148) hO rfl kX11_codeOf_260 (by rw [hcl]; rfl) (hs_o0 kc116) (w_X0_needs hG kr2 kp11 H) rfl rfl (Nat.le_of_ble_eq_true rfl) (Nat.zero_le _) (Nat.zero_le _) rfl (k_Pi (fun r12 H => ?_))
        refine s_if_eq (nx := 151) hO rfl rfl (fun c148 => ?_) (fun c148 => ?_)
        · replace H := H.1 c148
          refine s_iconst (x := 0) (nx := 156) hO rfl (by decide) rfl ?_
          exact s_iret hO rfl rfl rfl ⟨rfl, _, _, rfl, rfl, H⟩
        · replace H := H.2 c148
          refine s_iconst (x := 1) (nx := 152) hO rfl (by decide) rfl ?_
          refine s_goto hO rfl ?_
          exact s_iret hO rfl rfl rfl ⟨rfl, _, _, rfl, rfl, H⟩
  · replace H := H.2 c7
    refine s_iconst (x := 0) (nx := 11) hO rfl (by decide) rfl ?_
    exact s_iret hO rfl rfl rfl ⟨rfl, _, _, rfl, rfl, H⟩
def W_X11_mayOf (s : yS) (v1 : Int32) (v2 : Int32) (v3 : Int32) (Q : Int64 → yS → Prop) : Prop :=
 W_X11_hasInstruction s v1 v2 v3 
 (fun r1 => ((¬ r1 = 0 → W_X11_pick s v1 
  (fun r2 => kd r2 = some (9, 0) ∧ ∃ p3 : Nat, sR s 0 6 = p3 + 1 ∧ kd p3 = some (7, 0) ∧ 
  W_X0_settle s r2 p3 
  (fun s4 => vp_in ((v2 * (nI 400)) + v3) 4800 ∧ 
  Q (sJ s4 (r2 + 12) (ix ((v2 * (nI 400)) + v3))) s4)))
 ∧ (r1 = 0 → Q 0 s)))
set_option maxRecDepth 100000 in
set_option maxHeartbeats 40000000 in
theorem w_X11_mayOf {G : xG} (hG : yG G) {z : Nat} {s : yS} {v1 : Int32} {v2 : Int32} {v3 : Int32} {Q : Int64 → yS → Prop} (H : W_X11_mayOf s v1 v2 v3 Q) : xC G mX11_mayOf [.ref (q_b G + 0), .int v1, .int v2, .int v3] (hS G s) z 0 0 (yQl G z Q) := by
  have hW := hG.1
  have hcl := hG.2.1
  have hty := hG.2.2.1
  have hO : xO G mX11_mayOf tbX11_mayOf ptX11_mayOf := ⟨tkX11_mayOf, pkX11_mayOf hcl⟩
  unfold W_X11_mayOf at H
  refine xC.of hW (by decide) rfl (Nat.le_of_ble_eq_true rfl) ?_
  refine s_aload_n (nx := 1) hO rfl rfl rfl ?_
  refine s_iload_n (nx := 2) hO rfl rfl rfl ?_
  refine s_iload_n (nx := 3) hO rfl rfl rfl ?_
  refine s_iload_n (nx := 4) hO rfl rfl rfl ?_
  refine s_callV [.int v1, .int v2, .int v3] (ci := 11) (F := TX11) (N := 20) (nx := 7) hO rfl kX11_mayOf_240 (by rw [hcl]; rfl) (hs_o11 kc0) (w_X11_hasInstruction hG H) rfl rfl (Nat.le_of_ble_eq_true rfl) (Nat.zero_le _) (Nat.zero_le _) rfl (k_Pi (fun r1 H => ?_))
  refine s_if_ne (nx := 10) hO rfl rfl (fun c7 => ?_) (fun c7 => ?_)
  · replace H := H.1 c7
    refine s_aload_n (nx := 13) hO rfl rfl rfl ?_
    refine s_iload_n (nx := 14) hO rfl rfl rfl ?_
    refine s_callV [.int v1] (ci := 11) (F := TX11) (N := 20) (nx := 17) hO rfl kX11_mayOf_160 (by rw [hcl]; rfl) (hs_o11 kc0) (w_X11_pick hG H) rfl rfl (Nat.le_of_ble_eq_true rfl) (Nat.zero_le _) (Nat.zero_le _) rfl (k_Pa (fun r2 H => ?_))
    obtain ⟨kr2, H⟩ := H
    refine s_astore (nx := 19) (l' := [(4, .ref (q_b G + r2)), (0, .ref (q_b G + 0)), (1, .int v1), (2, .int v2), (3, .int v3)]) hO rfl (by decide) rfl rfl ?_
    refine s_aload_n (nx := 20) hO rfl rfl rfl ?_
    refine s_getf (v := .ref (q_b G + 116)) (nx := 23) hO rfl rfl (hs_o11 kc0) rfl rfl ?_
    refine s_aload (nx := 25) hO rfl rfl rfl ?_
    refine s_aload_n (nx := 26) hO rfl rfl rfl ?_
    obtain ⟨p3, ep3, kp3, H⟩ := H
    refine s_getf (v := .ref (q_b G + p3)) (nx := 29) hO rfl rfl (hs_o11 kc0) (congrArg (fun q => some (Value.ref q)) (hv_11 ep3)) rfl ?_
    refine s_callV [.ref (q_b G + r2), .ref (q_b G + p3)] (ci := 0) (F := TX0) (N := 11) (nx := 32) hO rfl kX11_mayOf_172 (by rw [hcl]; rfl) (hs_o0 kc116) (w_X0_settle hG kr2 kp3 H) rfl rfl (Nat.le_of_ble_eq_true rfl) (Nat.zero_le _) (Nat.zero_le _) rfl (k_Qv (fun s4 H => ?_))
    refine s_aload (nx := 34) hO rfl rfl rfl ?_
    refine s_getf (v := .ref (q_b G + (r2 + 12))) (nx := 37) hO rfl rfl (hs_o5 kr2) rfl rfl ?_
    refine s_iload_n (nx := 38) hO rfl rfl rfl ?_
    refine s_sipush (x := (nI 400)) (nx := 41) hO rfl (by decide) rfl ?_
    refine s_imul (nx := 42) hO rfl rfl ?_
    refine s_iload_n (nx := 43) hO rfl rfl rfl ?_
    refine s_iadd (nx := 44) hO rfl rfl ?_
    obtain ⟨b5, H⟩ := H
    refine s_lald (nx := 45) hO rfl (hs_J (kf5_12 kr2)) b5 rfl ?_
    exact s_lret hO rfl rfl ⟨rfl, _, _, rfl, rfl, H⟩
  · replace H := H.2 c7
    refine s_lconst (x := 0) (nx := 11) hO rfl (by decide) rfl ?_
    exact s_lret hO rfl rfl ⟨rfl, _, _, rfl, rfl, H⟩
def W_X11_functionOf (s : yS) (v1 : Int32) (v2 : Int32) (v3 : Int32) (Q : Int32 → Prop) : Prop :=
 W_X11_hasFunction s v1 v2 
 (fun r1 => ((¬ r1 = 0 → W_X11_pick s v1 
  (fun r2 => kd r2 = some (9, 0) ∧ ((((v3).toInt < 0 ∨ 4 < (v3).toInt) → Q (-1))
  ∧ ((v3).toInt = 0 → vp_in v2 12 ∧ 
    Q (sI s (r2 + 1) (ix v2)))
  ∧ ((v3).toInt = 1 → vp_in v2 12 ∧ 
    Q (sI s (r2 + 2) (ix v2)))
  ∧ ((v3).toInt = 2 → vp_in v2 12 ∧ 
    Q (sI s (r2 + 4) (ix v2)))
  ∧ ((v3).toInt = 3 → vp_in v2 12 ∧ 
    Q (sI s (r2 + 5) (ix v2)))
  ∧ ((v3).toInt = 4 → vp_in v2 12 ∧ 
    Q (sI s (r2 + 6) (ix v2))))))
 ∧ (r1 = 0 → Q (-1))))
set_option maxRecDepth 100000 in
set_option maxHeartbeats 40000000 in
theorem w_X11_functionOf {G : xG} (hG : yG G) {z : Nat} {s : yS} {v1 : Int32} {v2 : Int32} {v3 : Int32} {Q : Int32 → Prop} (H : W_X11_functionOf s v1 v2 v3 Q) : xC G mX11_functionOf [.ref (q_b G + 0), .int v1, .int v2, .int v3] (hS G s) z 0 0 (yPi G z s Q) := by
  have hW := hG.1
  have hcl := hG.2.1
  have hty := hG.2.2.1
  have hO : xO G mX11_functionOf tbX11_functionOf ptX11_functionOf := ⟨tkX11_functionOf, pkX11_functionOf hcl⟩
  unfold W_X11_functionOf at H
  refine xC.of hW (by decide) rfl (Nat.le_of_ble_eq_true rfl) ?_
  refine s_aload_n (nx := 1) hO rfl rfl rfl ?_
  refine s_iload_n (nx := 2) hO rfl rfl rfl ?_
  refine s_iload_n (nx := 3) hO rfl rfl rfl ?_
  refine s_callV [.int v1, .int v2] (ci := 11) (F := TX11) (N := 20) (nx := 6) hO rfl kX11_functionOf_268 (by rw [hcl]; rfl) (hs_o11 kc0) (w_X11_hasFunction hG H) rfl rfl (Nat.le_of_ble_eq_true rfl) (Nat.zero_le _) (Nat.zero_le _) rfl (k_Pi (fun r1 H => ?_))
  refine s_if_ne (nx := 9) hO rfl rfl (fun c6 => ?_) (fun c6 => ?_)
  · replace H := H.1 c6
    refine s_aload_n (nx := 12) hO rfl rfl rfl ?_
    refine s_iload_n (nx := 13) hO rfl rfl rfl ?_
    refine s_callV [.int v1] (ci := 11) (F := TX11) (N := 20) (nx := 16) hO rfl kX11_functionOf_160 (by rw [hcl]; rfl) (hs_o11 kc0) (w_X11_pick hG H) rfl rfl (Nat.le_of_ble_eq_true rfl) (Nat.zero_le _) (Nat.zero_le _) rfl (k_Pa (fun r2 H => ?_))
    obtain ⟨kr2, H⟩ := H
    refine s_astore (nx := 18) (l' := [(4, .ref (q_b G + r2)), (0, .ref (q_b G + 0)), (1, .int v1), (2, .int v2), (3, .int v3)]) hO rfl (by decide) rfl rfl ?_
    refine s_iload_n (nx := 19) hO rfl rfl rfl ?_
    refine s_switch hO rfl (fun c19 => ?_) (fun dc19 fc19 => ?_)
    · replace H := H.1 c19
      refine s_iconst (x := (-1)) (nx := 93) hO rfl (by decide) rfl ?_
      exact s_iret hO rfl rfl rfl ⟨rfl, _, rfl, rfl, H⟩
    · obtain c19 | c19 | c19 | c19 | c19 : (v3).toInt = 0 ∨ (v3).toInt = 1 ∨ (v3).toInt = 2 ∨ (v3).toInt = 3 ∨ (v3).toInt = 4 := by omega
      · replace H := H.2.1 c19
        refine ⟨52, by rw [c19]; rfl, ?_⟩
        refine s_aload (nx := 54) hO rfl rfl rfl ?_
        refine s_getf (v := .ref (q_b G + (r2 + 1))) (nx := 57) hO rfl rfl (hs_o5 kr2) rfl rfl ?_
        refine s_iload_n (nx := 58) hO rfl rfl rfl ?_
        obtain ⟨b3, H⟩ := H
        refine s_iald (nx := 59) hO rfl (hs_I (kf5_1 kr2)) b3 rfl ?_
        exact s_iret hO rfl rfl rfl ⟨rfl, _, rfl, rfl, H⟩
      · replace H := H.2.2.1 c19
        refine ⟨60, by rw [c19]; rfl, ?_⟩
        refine s_aload (nx := 62) hO rfl rfl rfl ?_
        refine s_getf (v := .ref (q_b G + (r2 + 2))) (nx := 65) hO rfl rfl (hs_o5 kr2) rfl rfl ?_
        refine s_iload_n (nx := 66) hO rfl rfl rfl ?_
        obtain ⟨b4, H⟩ := H
        refine s_iald (nx := 67) hO rfl (hs_I (kf5_2 kr2)) b4 rfl ?_
        exact s_iret hO rfl rfl rfl ⟨rfl, _, rfl, rfl, H⟩
      · replace H := H.2.2.2.1 c19
        refine ⟨68, by rw [c19]; rfl, ?_⟩
        refine s_aload (nx := 70) hO rfl rfl rfl ?_
        refine s_getf (v := .ref (q_b G + (r2 + 4))) (nx := 73) hO rfl rfl (hs_o5 kr2) rfl rfl ?_
        refine s_iload_n (nx := 74) hO rfl rfl rfl ?_
        obtain ⟨b5, H⟩ := H
        refine s_iald (nx := 75) hO rfl (hs_I (kf5_4 kr2)) b5 rfl ?_
        exact s_iret hO rfl rfl rfl ⟨rfl, _, rfl, rfl, H⟩
      · replace H := H.2.2.2.2.1 c19
        refine ⟨76, by rw [c19]; rfl, ?_⟩
        refine s_aload (nx := 78) hO rfl rfl rfl ?_
        refine s_getf (v := .ref (q_b G + (r2 + 5))) (nx := 81) hO rfl rfl (hs_o5 kr2) rfl rfl ?_
        refine s_iload_n (nx := 82) hO rfl rfl rfl ?_
        obtain ⟨b6, H⟩ := H
        refine s_iald (nx := 83) hO rfl (hs_I (kf5_5 kr2)) b6 rfl ?_
        exact s_iret hO rfl rfl rfl ⟨rfl, _, rfl, rfl, H⟩
      · replace H := H.2.2.2.2.2 c19
        refine ⟨84, by rw [c19]; rfl, ?_⟩
        refine s_aload (nx := 86) hO rfl rfl rfl ?_
        refine s_getf (v := .ref (q_b G + (r2 + 6))) (nx := 89) hO rfl rfl (hs_o5 kr2) rfl rfl ?_
        refine s_iload_n (nx := 90) hO rfl rfl rfl ?_
        obtain ⟨b7, H⟩ := H
        refine s_iald (nx := 91) hO rfl (hs_I (kf5_6 kr2)) b7 rfl ?_
        exact s_iret hO rfl rfl rfl ⟨rfl, _, rfl, rfl, H⟩
  · replace H := H.2 c6
    refine s_iconst (x := (-1)) (nx := 10) hO rfl (by decide) rfl ?_
    exact s_iret hO rfl rfl rfl ⟨rfl, _, rfl, rfl, H⟩
def W_X11_byteOf (s : yS) (v1 : Int32) (v2 : Int32) (Q : Int32 → Prop) : Prop :=
 ((v1 < 0 → Q (-1))
 ∧ (¬ v1 < 0 → ∀ P20 : Int32 → Prop, (∀ (y1 : Int32), (((v1 < y1 → ((v2 = 0 → vp_in v1 8192 ∧ 
     Q ((sI s 2 (ix v1)) &&& (nI 255)))
    ∧ (¬ v2 = 0 → vp_in v1 8192 ∧ 
     Q ((sI s 1 (ix v1)) &&& (nI 255)))))
   ∧ (¬ v1 < y1 → Q (-1)))) → P20 y1) → 
  ((v2 = 0 → P20 (sI s 0 3))
  ∧ (¬ v2 = 0 → P20 (sI s 0 2)))))
set_option maxRecDepth 100000 in
set_option maxHeartbeats 40000000 in
theorem w_X11_byteOf {G : xG} (hG : yG G) {z : Nat} {s : yS} {v1 : Int32} {v2 : Int32} {Q : Int32 → Prop} (H : W_X11_byteOf s v1 v2 Q) : xC G mX11_byteOf [.ref (q_b G + 0), .int v1, .int v2] (hS G s) z 0 0 (yPi G z s Q) := by
  have hW := hG.1
  have hcl := hG.2.1
  have hty := hG.2.2.1
  have hO : xO G mX11_byteOf tbX11_byteOf ptX11_byteOf := ⟨tkX11_byteOf, pkX11_byteOf hcl⟩
  unfold W_X11_byteOf at H
  refine xC.of hW (by decide) rfl (Nat.le_of_ble_eq_true rfl) ?_
  refine s_iload_n (nx := 1) hO rfl rfl rfl ?_
  refine s_if_lt (nx := 4) hO rfl rfl (fun c1 => ?_) (fun c1 => ?_)
  · replace H := H.1 c1
    refine s_iconst (x := (-1)) (nx := 24) hO rfl (by decide) rfl ?_
    exact s_iret hO rfl rfl rfl ⟨rfl, _, rfl, rfl, H⟩
  · replace H := H.2 c1
    refine s_iload_n (nx := 5) hO rfl rfl rfl ?_
    refine s_iload_n (nx := 6) hO rfl rfl rfl ?_
    refine goK (H (fun (y1 : Int32) => xEx G mX11_byteOf 20 [(0, .ref (q_b G + 0)), (1, .int v1), (2, .int v2)] [.int y1, .int v1] (hS G s) z 0 0 (yPi G z s Q)) (fun y1 H => ?_)) (fun H => ?_)
    · show xEx G mX11_byteOf 20 [(0, .ref (q_b G + 0)), (1, .int v1), (2, .int v2)] [.int y1, .int v1] (hS G s) z 0 0 (yPi G z s Q)
      refine s_icmp_lt (nx := 23) hO rfl rfl (fun c20 => ?_) (fun c20 => ?_)
      · replace H := H.1 c20
        refine s_iload_n (nx := 26) hO rfl rfl rfl ?_
        refine s_if_eq (nx := 29) hO rfl rfl (fun c26 => ?_) (fun c26 => ?_)
        · replace H := H.1 c26
          refine s_aload_n (nx := 39) hO rfl rfl rfl ?_
          refine s_getf (v := .ref (q_b G + 2)) (nx := 42) hO rfl rfl (hs_o11 kc0) rfl rfl ?_
          refine s_iload_n (nx := 43) hO rfl rfl rfl ?_
          obtain ⟨b2, H⟩ := H
          refine s_bald (nx := 44) hO rfl (hs_B kc2) b2 rfl ?_
          refine s_sipush (x := (nI 255)) (nx := 47) hO rfl (by decide) rfl ?_
          refine s_iand (nx := 48) hO rfl rfl ?_
          exact s_iret hO rfl rfl rfl ⟨rfl, _, rfl, rfl, H⟩
        · replace H := H.2 c26
          refine s_aload_n (nx := 30) hO rfl rfl rfl ?_
          refine s_getf (v := .ref (q_b G + 1)) (nx := 33) hO rfl rfl (hs_o11 kc0) rfl rfl ?_
          refine s_iload_n (nx := 34) hO rfl rfl rfl ?_
          obtain ⟨b3, H⟩ := H
          refine s_bald (nx := 35) hO rfl (hs_B kc1) b3 rfl ?_
          refine s_goto hO rfl ?_
          refine s_sipush (x := (nI 255)) (nx := 47) hO rfl (by decide) rfl ?_
          refine s_iand (nx := 48) hO rfl rfl ?_
          exact s_iret hO rfl rfl rfl ⟨rfl, _, rfl, rfl, H⟩
      · replace H := H.2 c20
        refine s_iconst (x := (-1)) (nx := 24) hO rfl (by decide) rfl ?_
        exact s_iret hO rfl rfl rfl ⟨rfl, _, rfl, rfl, H⟩
    refine s_if_eq (nx := 9) hO rfl rfl (fun c6 => ?_) (fun c6 => ?_)
    · replace H := H.1 c6
      refine s_aload_n (nx := 17) hO rfl rfl rfl ?_
      refine s_getf (v := .int (sI s 0 3)) (nx := 20) hO rfl rfl (hs_o11 kc0) rfl rfl ?_
      exact xEx.loc (x_sub1 (List.Mem.head _) (x_sub1 (List.Mem.tail _ (List.Mem.head _)) (x_sub1 (List.Mem.tail _ (List.Mem.tail _ (List.Mem.head _))) x_sub0))) H
    · replace H := H.2 c6
      refine s_aload_n (nx := 10) hO rfl rfl rfl ?_
      refine s_getf (v := .int (sI s 0 2)) (nx := 13) hO rfl rfl (hs_o11 kc0) rfl rfl ?_
      refine s_goto hO rfl ?_
      exact xEx.loc (x_sub1 (List.Mem.head _) (x_sub1 (List.Mem.tail _ (List.Mem.head _)) (x_sub1 (List.Mem.tail _ (List.Mem.tail _ (List.Mem.head _))) x_sub0))) H

def W_X7_numberStates (s : yS) (Q : yS → Prop) : Prop :=
 W_J7_fill_53178 s 111 63 (-1) 
 (fun s1 => vp_in 0 63 ∧ 
 vp_in (sI s1 108 (ix 0)) 63 ∧ ∀ s4 : yS, s4 = wI s1 111 (ix (sI s1 108 (ix 0))) 0 → 
 vp_in 0 63 ∧ ∀ s6 : yS, s6 = wI s4 112 (ix 0) 0 → 
 ∃ p7 : Nat, sR s6 103 0 = p7 + 1 ∧ kd p7 = some (7, 0) ∧ 
 ∀ s8 : yS, s8 = wI s6 p7 3 1 → 
 ∀ P37 : Int32 → yS → Prop, (∀ (x9 : Int32) (s10 : yS), (∃ p11 : Nat, sR s10 103 0 = p11 + 1 ∧ kd p11 = some (7, 0) ∧ 
  (((sI s10 p11 3) ≤ x9 → Q s10)
  ∧ (¬ (sI s10 p11 3) ≤ x9 → (((nI 63) ≤ x9 → Q s10)
   ∧ (¬ (nI 63) ≤ x9 → ∀ P56 : Int32 → yS → Prop, (∀ (x12 : Int32) (s13 : yS), ((((sI s13 103 1) ≤ x12 → ∀ x14 : Int32, x14 = (x9 + 1) → 
      P37 x14 s13)
     ∧ (¬ (sI s13 103 1) ≤ x12 → vp_in x9 63 ∧ 
      vp_in (((sI s13 112 (ix x9)) * (nI 512)) + x12) 32256 ∧ 
      ∀ x17 : Int32, x17 = (sI s13 107 (ix (((sI s13 112 (ix x9)) * (nI 512)) + x12))) → 
      ∃ p18 : Nat, sR s13 103 0 = p18 + 1 ∧ kd p18 = some (7, 0) ∧ 
      ∀ P110 : Int32 → yS → Prop, (∀ (y19 : Int32) (s20 : yS), (vp_in ((x9 * (nI 512)) + x12) 32256 ∧ ∀ s22 : yS, s22 = wI s20 (p18 + 14) (ix ((x9 * (nI 512)) + x12)) y19 → 
       ∀ x23 : Int32, x23 = (x12 + 1) → 
       P56 x23 s22) → P110 y19 s20) → 
      ((¬ x17 = (-1) → W_X7_stateOf s13 x17 
       (fun r24 s25 => P110 r24 s25))
      ∧ (x17 = (-1) → P110 (-1) s13))))) → P56 x12 s13) → 
    P56 0 s10))))) → P37 x9 s10) → 
 P37 0 s8)
set_option maxRecDepth 100000 in
set_option maxHeartbeats 40000000 in
theorem w_X7_numberStates {G : xG} (hG : yG G) {z : Nat} {s : yS} {Q : yS → Prop} (H : W_X7_numberStates s Q) : xC G mX7_numberStates [.ref (q_b G + 103)] (hS G s) z 0 0 (yQv G z Q) := by
  have hW := hG.1
  have hcl := hG.2.1
  have hty := hG.2.2.1
  have hO : xO G mX7_numberStates tbX7_numberStates ptX7_numberStates := ⟨tkX7_numberStates, pkX7_numberStates hcl⟩
  unfold W_X7_numberStates at H
  refine xC.of hW (by decide) rfl (Nat.le_of_ble_eq_true rfl) ?_
  refine s_aload_n (nx := 1) hO rfl rfl rfl ?_
  refine s_getf (v := .ref (q_b G + 111)) (nx := 4) hO rfl rfl (hs_o7 kc103) rfl rfl ?_
  refine s_iconst (x := (-1)) (nx := 5) hO rfl (by decide) rfl ?_
  refine s_callS [.ref (q_b G + 111), .int (-1)] (nx := 8) hO rfl kX7_numberStates_39 (w_J7_fill_53178 hG kc111 H) rfl rfl (Nat.le_of_ble_eq_true rfl) (Nat.zero_le _) (Nat.zero_le _) rfl (k_Qv (fun s1 H => ?_))
  refine s_aload_n (nx := 9) hO rfl rfl rfl ?_
  refine s_getf (v := .ref (q_b G + 111)) (nx := 12) hO rfl rfl (hs_o7 kc103) rfl rfl ?_
  refine s_aload_n (nx := 13) hO rfl rfl rfl ?_
  refine s_getf (v := .ref (q_b G + 108)) (nx := 16) hO rfl rfl (hs_o7 kc103) rfl rfl ?_
  refine s_iconst (x := 0) (nx := 17) hO rfl (by decide) rfl ?_
  obtain ⟨b2, H⟩ := H
  refine s_iald (nx := 18) hO rfl (hs_I kc108) b2 rfl ?_
  refine s_iconst (x := 0) (nx := 19) hO rfl (by decide) rfl ?_
  obtain ⟨b3, H⟩ := H
  refine goV (wI s1 111 (ix (sI s1 108 (ix 0))) 0) (fun s4 es4 => ?_)
  replace H := H s4 es4
  refine s_iast (nx := 20) hO rfl (hs_I kc111) b3 rfl ?_
  refine xEx.at (up_I kc111 es4) ?_
  refine s_aload_n (nx := 21) hO rfl rfl rfl ?_
  refine s_getf (v := .ref (q_b G + 112)) (nx := 24) hO rfl rfl (hs_o7 kc103) rfl rfl ?_
  refine s_iconst (x := 0) (nx := 25) hO rfl (by decide) rfl ?_
  refine s_iconst (x := 0) (nx := 26) hO rfl (by decide) rfl ?_
  obtain ⟨b5, H⟩ := H
  refine goV (wI s4 112 (ix 0) 0) (fun s6 es6 => ?_)
  replace H := H s6 es6
  refine s_iast (nx := 27) hO rfl (hs_I kc112) b5 rfl ?_
  refine xEx.at (up_I kc112 es6) ?_
  refine s_aload_n (nx := 28) hO rfl rfl rfl ?_
  obtain ⟨p7, ep7, kp7, H⟩ := H
  refine s_getf (v := .ref (q_b G + p7)) (nx := 31) hO rfl rfl (hs_o7 kc103) (congrArg some (rv_at ep7)) rfl ?_
  refine s_iconst (x := 1) (nx := 32) hO rfl (by decide) rfl ?_
  refine goV (wI s6 p7 3 1) (fun s8 es8 => ?_)
  replace H := H s8 es8
  refine s_putf (nx := 35) hO rfl rfl (hs_o3 kp7) (Nat.le_of_ble_eq_true rfl) (by rw [hty]; rfl) (by rw [hty]; rfl) pX3_3 rfl ?_
  refine xEx.at (up_oI3 kp7 es8) ?_
  refine s_iconst (x := 0) (nx := 36) hO rfl (by decide) rfl ?_
  refine goK (H (fun (x9 : Int32) (s10 : yS) => xEx G mX7_numberStates 37 [(0, .ref (q_b G + 103)), (1, .int x9)] [] (hS G s10) z 0 0 (yQv G z Q)) (fun x9 s10 H => ?_)) (fun H => ?_)
  · show xEx G mX7_numberStates 37 [(0, .ref (q_b G + 103)), (1, .int x9)] [] (hS G s10) z 0 0 (yQv G z Q)
    refine s_iload_n (nx := 38) hO rfl rfl rfl ?_
    refine s_aload_n (nx := 39) hO rfl rfl rfl ?_
    obtain ⟨p11, ep11, kp11, H⟩ := H
    refine s_getf (v := .ref (q_b G + p11)) (nx := 42) hO rfl rfl (hs_o7 kc103) (congrArg some (rv_at ep11)) rfl ?_
    refine s_getf (v := .int (sI s10 p11 3)) (nx := 45) hO rfl rfl (hs_o3 kp11) rfl rfl ?_
    refine s_icmp_ge (nx := 48) hO rfl rfl (fun c45 => ?_) (fun c45 => ?_)
    · replace H := H.1 c45
      exact s_vret hO rfl rfl ⟨rfl, _, rfl, rfl, H⟩
    · replace H := H.2 c45
      refine s_iload_n (nx := 49) hO rfl rfl rfl ?_
      refine s_bipush (x := (nI 63)) (nx := 51) hO rfl (by decide) rfl ?_
      refine s_icmp_ge (nx := 54) hO rfl rfl (fun c51 => ?_) (fun c51 => ?_)
      · replace H := H.1 c51
        exact s_vret hO rfl rfl ⟨rfl, _, rfl, rfl, H⟩
      · replace H := H.2 c51
        refine s_iconst (x := 0) (nx := 55) hO rfl (by decide) rfl ?_
        refine goK (H (fun (x12 : Int32) (s13 : yS) => xEx G mX7_numberStates 56 [(0, .ref (q_b G + 103)), (1, .int x9), (2, .int x12)] [] (hS G s13) z 0 0 (yQv G z Q)) (fun x12 s13 H => ?_)) (fun H => ?_)
        · show xEx G mX7_numberStates 56 [(0, .ref (q_b G + 103)), (1, .int x9), (2, .int x12)] [] (hS G s13) z 0 0 (yQv G z Q)
          refine s_iload_n (nx := 57) hO rfl rfl rfl ?_
          refine s_aload_n (nx := 58) hO rfl rfl rfl ?_
          refine s_getf (v := .int (sI s13 103 1)) (nx := 61) hO rfl rfl (hs_o7 kc103) rfl rfl ?_
          refine s_icmp_ge (nx := 64) hO rfl rfl (fun c61 => ?_) (fun c61 => ?_)
          · replace H := H.1 c61
            refine goV ((x9 + 1)) (fun x14 ex14 => ?_)
            replace H := H x14 ex14
            refine e_iinc (nx := 120) (l' := [(1, .int x14), (0, .ref (q_b G + 103)), (2, .int x12)]) ex14 hO rfl (by decide) rfl rfl rfl rfl ?_
            refine s_goto hO rfl ?_
            exact xEx.loc (x_sub1 (List.Mem.tail _ (List.Mem.head _)) (x_sub1 (List.Mem.head _) x_sub0)) H
          · replace H := H.2 c61
            refine s_aload_n (nx := 65) hO rfl rfl rfl ?_
            refine s_getf (v := .ref (q_b G + 107)) (nx := 68) hO rfl rfl (hs_o7 kc103) rfl rfl ?_
            refine s_aload_n (nx := 69) hO rfl rfl rfl ?_
            refine s_getf (v := .ref (q_b G + 112)) (nx := 72) hO rfl rfl (hs_o7 kc103) rfl rfl ?_
            refine s_iload_n (nx := 73) hO rfl rfl rfl ?_
            obtain ⟨b15, H⟩ := H
            refine s_iald (nx := 74) hO rfl (hs_I kc112) b15 rfl ?_
            refine s_sipush (x := (nI 512)) (nx := 77) hO rfl (by decide) rfl ?_
            refine s_imul (nx := 78) hO rfl rfl ?_
            refine s_iload_n (nx := 79) hO rfl rfl rfl ?_
            refine s_iadd (nx := 80) hO rfl rfl ?_
            obtain ⟨b16, H⟩ := H
            refine s_iald (nx := 81) hO rfl (hs_I kc107) b16 rfl ?_
            refine goV ((sI s13 107 (ix (((sI s13 112 (ix x9)) * (nI 512)) + x12)))) (fun x17 ex17 => ?_)
            replace H := H x17 ex17
            refine e_istore_n (nx := 82) (l' := [(3, .int x17), (0, .ref (q_b G + 103)), (1, .int x9), (2, .int x12)]) ex17 hO rfl (by decide) rfl rfl ?_
            refine s_aload_n (nx := 83) hO rfl rfl rfl ?_
            obtain ⟨p18, ep18, kp18, H⟩ := H
            refine s_getf (v := .ref (q_b G + p18)) (nx := 86) hO rfl rfl (hs_o7 kc103) (congrArg some (rv_at ep18)) rfl ?_
            refine s_getf (v := .ref (q_b G + (p18 + 14))) (nx := 89) hO rfl rfl (hs_o3 kp18) rfl rfl ?_
            refine s_iload_n (nx := 90) hO rfl rfl rfl ?_
            refine s_sipush (x := (nI 512)) (nx := 93) hO rfl (by decide) rfl ?_
            refine s_imul (nx := 94) hO rfl rfl ?_
            refine s_iload_n (nx := 95) hO rfl rfl rfl ?_
            refine s_iadd (nx := 96) hO rfl rfl ?_
            refine s_iload_n (nx := 97) hO rfl rfl rfl ?_
            refine s_iconst (x := (-1)) (nx := 98) hO rfl (by decide) rfl ?_
            refine goK (H (fun (y19 : Int32) (s20 : yS) => xEx G mX7_numberStates 110 [(0, .ref (q_b G + 103)), (1, .int x9), (2, .int x12)] [.int y19, .int ((x9 * (nI 512)) + x12), .ref (q_b G + (p18 + 14))] (hS G s20) z 0 0 (yQv G z Q)) (fun y19 s20 H => ?_)) (fun H => ?_)
            · show xEx G mX7_numberStates 110 [(0, .ref (q_b G + 103)), (1, .int x9), (2, .int x12)] [.int y19, .int ((x9 * (nI 512)) + x12), .ref (q_b G + (p18 + 14))] (hS G s20) z 0 0 (yQv G z Q)
              obtain ⟨b21, H⟩ := H
              refine goV (wI s20 (p18 + 14) (ix ((x9 * (nI 512)) + x12)) y19) (fun s22 es22 => ?_)
              replace H := H s22 es22
              refine s_iast (nx := 111) hO rfl (hs_I (kf3_17 kp18)) b21 rfl ?_
              refine xEx.at (up_I (kf3_17 kp18) es22) ?_
              refine goV ((x12 + 1)) (fun x23 ex23 => ?_)
              replace H := H x23 ex23
              refine e_iinc (nx := 114) (l' := [(2, .int x23), (0, .ref (q_b G + 103)), (1, .int x9)]) ex23 hO rfl (by decide) rfl rfl rfl rfl ?_
              refine s_goto hO rfl ?_
              exact xEx.loc (x_sub1 (List.Mem.tail _ (List.Mem.head _)) (x_sub1 (List.Mem.tail _ (List.Mem.tail _ (List.Mem.head _))) (x_sub1 (List.Mem.head _) x_sub0))) H
            refine s_icmp_ne (nx := 101) hO rfl rfl (fun c98 => ?_) (fun c98 => ?_)
            · replace H := H.1 c98
              refine s_aload_n (nx := 106) hO rfl rfl rfl ?_
              refine s_iload_n (nx := 107) hO rfl rfl rfl ?_
              refine s_callV [.int x17] (ci := 7) (F := TX7) (N := 12) (nx := 110) hO rfl kX7_numberStates_139 (by rw [hcl]; rfl) (hs_o7 kc103) (w_X7_stateOf hG H) rfl rfl (Nat.le_of_ble_eq_true rfl) (Nat.zero_le _) (Nat.zero_le _) rfl (k_Qi (fun r24 s25 H => ?_))
              exact xEx.loc (x_sub1 (List.Mem.tail _ (List.Mem.head _)) (x_sub1 (List.Mem.tail _ (List.Mem.tail _ (List.Mem.head _))) (x_sub1 (List.Mem.tail _ (List.Mem.tail _ (List.Mem.tail _ (List.Mem.head _)))) x_sub0))) H
            · replace H := H.2 c98
              refine s_iconst (x := (-1)) (nx := 102) hO rfl (by decide) rfl ?_
              refine s_goto hO rfl ?_
              exact xEx.loc (x_sub1 (List.Mem.tail _ (List.Mem.head _)) (x_sub1 (List.Mem.tail _ (List.Mem.tail _ (List.Mem.head _))) (x_sub1 (List.Mem.tail _ (List.Mem.tail _ (List.Mem.tail _ (List.Mem.head _)))) x_sub0))) H
        refine s_istore_n (nx := 56) (l' := [(2, .int 0), (0, .ref (q_b G + 103)), (1, .int x9)]) hO rfl (by decide) rfl rfl ?_
        exact xEx.loc (x_sub1 (List.Mem.tail _ (List.Mem.head _)) (x_sub1 (List.Mem.tail _ (List.Mem.tail _ (List.Mem.head _))) (x_sub1 (List.Mem.head _) x_sub0))) H
  refine s_istore_n (nx := 37) (l' := [(1, .int 0), (0, .ref (q_b G + 103))]) hO rfl (by decide) rfl rfl ?_
  exact xEx.loc (x_sub1 (List.Mem.tail _ (List.Mem.head _)) (x_sub1 (List.Mem.head _) x_sub0)) H
def W_X7_sumUp (s : yS) (v1 : Int32) (Q : yS → Prop) : Prop :=
 ∀ P5 : Int64 → Int32 → yS → Prop, (∀ (x1 : Int64) (x2 : Int32) (s3 : yS), (∃ p4 : Nat, sR s3 103 0 = p4 + 1 ∧ kd p4 = some (7, 0) ∧ 
  (((sI s3 p4 3) ≤ x2 → ∃ p5 : Nat, sR s3 103 0 = p5 + 1 ∧ kd p5 = some (7, 0) ∧ 
   vp_in v1 16 ∧ ∀ s7 : yS, s7 = wJ s3 (p5 + 16) (ix v1) x1 → 
   Q s7)
  ∧ (¬ (sI s3 p4 3) ≤ x2 → ∃ p8 : Nat, sR s3 103 0 = p8 + 1 ∧ kd p8 = some (7, 0) ∧ 
   W_X1_firstOf s3 (p8 + 10) v1 
   (fun r9 => ∀ P36 : Int64 → Int32 → Int32 → Prop, (∀ (x10 : Int64) (x11 : Int32) (x12 : Int32), (∃ p13 : Nat, sR s3 103 0 = p13 + 1 ∧ kd p13 = some (7, 0) ∧ 
    W_X1_firstOf s3 (p13 + 10) (v1 + 1) 
    (fun r14 => ((r14 ≤ x12 → ∃ p15 : Nat, sR s3 103 0 = p15 + 1 ∧ kd p15 = some (7, 0) ∧ 
     vp_in ((v1 * (nI 63)) + x2) 1008 ∧ ∀ s17 : yS, s17 = wJ s3 (p15 + 15) (ix ((v1 * (nI 63)) + x2)) x10 → 
     ∀ P148 : Int64 → Prop, (∀ (y18 : Int64), (∀ x19 : Int64, x19 = (x1 ||| y18) → 
      ∀ x20 : Int32, x20 = (x2 + 1) → 
      P5 x19 x20 s17) → P148 y18) → 
     ((x11 = 0 → P148 0)
     ∧ (¬ x11 = 0 → P148 (1 <<< ((x2).toInt64 &&& 63)))))
    ∧ (¬ r14 ≤ x12 → ∃ p21 : Nat, sR s3 103 0 = p21 + 1 ∧ kd p21 = some (7, 0) ∧ 
     vp_in ((x2 * (nI 512)) + x12) 32256 ∧ 
     ∀ x23 : Int32, x23 = (sI s3 (p21 + 14) (ix ((x2 * (nI 512)) + x12))) → 
     ∀ P89 : Int64 → Prop, (∀ (y24 : Int64), (∀ x25 : Int64, x25 = (x10 ||| y24) → 
      ∀ P109 : Int32 → Prop, (∀ (y26 : Int32), (∀ x27 : Int32, x27 = (x12 + 1) → 
       P36 x25 y26 x27) → P109 y26) → 
      ((x11 = 0 → P109 0)
      ∧ (¬ x11 = 0 → ((¬ x23 = x2 → P109 0)
       ∧ (x23 = x2 → P109 1))))) → P89 y24) → 
     ((¬ x23 = (-1) → P89 (1 <<< ((x23).toInt64 &&& 63)))
     ∧ (x23 = (-1) → P89 0)))))) → P36 x10 x11 x12) → 
   P36 0 1 r9)))) → P5 x1 x2 s3) → 
 P5 0 0 s
set_option maxRecDepth 100000 in
set_option maxHeartbeats 40000000 in
theorem w_X7_sumUp {G : xG} (hG : yG G) {z : Nat} {s : yS} {v1 : Int32} {Q : yS → Prop} (H : W_X7_sumUp s v1 Q) : xC G mX7_sumUp [.ref (q_b G + 103), .int v1] (hS G s) z 0 0 (yQv G z Q) := by
  have hW := hG.1
  have hcl := hG.2.1
  have hty := hG.2.2.1
  have hO : xO G mX7_sumUp tbX7_sumUp ptX7_sumUp := ⟨tkX7_sumUp, pkX7_sumUp hcl⟩
  unfold W_X7_sumUp at H
  refine xC.of hW (by decide) rfl (Nat.le_of_ble_eq_true rfl) ?_
  refine s_lconst (x := 0) (nx := 1) hO rfl (by decide) rfl ?_
  refine s_lstore_n (nx := 2) (l' := [(2, .long 0), (0, .ref (q_b G + 103)), (1, .int v1)]) hO rfl (by decide) rfl rfl ?_
  refine s_iconst (x := 0) (nx := 3) hO rfl (by decide) rfl ?_
  refine goK (H (fun (x1 : Int64) (x2 : Int32) (s3 : yS) => xEx G mX7_sumUp 5 [(0, .ref (q_b G + 103)), (1, .int v1), (2, .long x1), (4, .int x2)] [] (hS G s3) z 0 0 (yQv G z Q)) (fun x1 x2 s3 H => ?_)) (fun H => ?_)
  · show xEx G mX7_sumUp 5 [(0, .ref (q_b G + 103)), (1, .int v1), (2, .long x1), (4, .int x2)] [] (hS G s3) z 0 0 (yQv G z Q)
    refine s_iload (nx := 7) hO rfl rfl rfl ?_
    refine s_aload_n (nx := 8) hO rfl rfl rfl ?_
    obtain ⟨p4, ep4, kp4, H⟩ := H
    refine s_getf (v := .ref (q_b G + p4)) (nx := 11) hO rfl rfl (hs_o7 kc103) (congrArg some (rv_at ep4)) rfl ?_
    refine s_getf (v := .int (sI s3 p4 3)) (nx := 14) hO rfl rfl (hs_o3 kp4) rfl rfl ?_
    refine s_icmp_ge (nx := 17) hO rfl rfl (fun c14 => ?_) (fun c14 => ?_)
    · replace H := H.1 c14
      refine s_aload_n (nx := 157) hO rfl rfl rfl ?_
      obtain ⟨p5, ep5, kp5, H⟩ := H
      refine s_getf (v := .ref (q_b G + p5)) (nx := 160) hO rfl rfl (hs_o7 kc103) (congrArg some (rv_at ep5)) rfl ?_
      refine s_getf (v := .ref (q_b G + (p5 + 16))) (nx := 163) hO rfl rfl (hs_o3 kp5) rfl rfl ?_
      refine s_iload_n (nx := 164) hO rfl rfl rfl ?_
      refine s_lload_n (nx := 165) hO rfl rfl rfl ?_
      obtain ⟨b6, H⟩ := H
      refine goV (wJ s3 (p5 + 16) (ix v1) x1) (fun s7 es7 => ?_)
      replace H := H s7 es7
      refine s_last (nx := 166) hO rfl (hs_J (kf3_19 kp5)) b6 rfl ?_
      refine xEx.at (up_J (kf3_19 kp5) es7) ?_
      exact s_vret hO rfl rfl ⟨rfl, _, rfl, rfl, H⟩
    · replace H := H.2 c14
      refine s_lconst (x := 0) (nx := 18) hO rfl (by decide) rfl ?_
      refine s_lstore (nx := 20) (l' := [(5, .long 0), (0, .ref (q_b G + 103)), (1, .int v1), (2, .long x1), (4, .int x2)]) hO rfl (by decide) rfl rfl ?_
      refine s_iconst (x := 1) (nx := 21) hO rfl (by decide) rfl ?_
      refine s_istore (nx := 23) (l' := [(7, .int 1), (5, .long 0), (0, .ref (q_b G + 103)), (1, .int v1), (2, .long x1), (4, .int x2)]) hO rfl (by decide) rfl rfl ?_
      refine s_aload_n (nx := 24) hO rfl rfl rfl ?_
      obtain ⟨p8, ep8, kp8, H⟩ := H
      refine s_getf (v := .ref (q_b G + p8)) (nx := 27) hO rfl rfl (hs_o7 kc103) (congrArg some (rv_at ep8)) rfl ?_
      refine s_getf (v := .ref (q_b G + (p8 + 10))) (nx := 30) hO rfl rfl (hs_o3 kp8) rfl rfl ?_
      refine s_iload_n (nx := 31) hO rfl rfl rfl ?_
      refine s_callV [.int v1] (ci := 1) (F := TX1) (N := 3) (nx := 34) hO rfl kX7_sumUp_142 (by rw [hcl]; rfl) (hs_o1 (kf3_16 kp8)) (w_X1_firstOf hG (kf3_16 kp8) H) rfl rfl (Nat.le_of_ble_eq_true rfl) (Nat.zero_le _) (Nat.zero_le _) rfl (k_Pi (fun r9 H => ?_))
      refine goK (H (fun (x10 : Int64) (x11 : Int32) (x12 : Int32) => xEx G mX7_sumUp 36 [(0, .ref (q_b G + 103)), (1, .int v1), (2, .long x1), (4, .int x2), (5, .long x10), (7, .int x11), (8, .int x12)] [] (hS G s3) z 0 0 (yQv G z Q)) (fun x10 x11 x12 H => ?_)) (fun H => ?_)
      · show xEx G mX7_sumUp 36 [(0, .ref (q_b G + 103)), (1, .int v1), (2, .long x1), (4, .int x2), (5, .long x10), (7, .int x11), (8, .int x12)] [] (hS G s3) z 0 0 (yQv G z Q)
        refine s_iload (nx := 38) hO rfl rfl rfl ?_
        refine s_aload_n (nx := 39) hO rfl rfl rfl ?_
        obtain ⟨p13, ep13, kp13, H⟩ := H
        refine s_getf (v := .ref (q_b G + p13)) (nx := 42) hO rfl rfl (hs_o7 kc103) (congrArg some (rv_at ep13)) rfl ?_
        refine s_getf (v := .ref (q_b G + (p13 + 10))) (nx := 45) hO rfl rfl (hs_o3 kp13) rfl rfl ?_
        refine s_iload_n (nx := 46) hO rfl rfl rfl ?_
        refine s_iconst (x := 1) (nx := 47) hO rfl (by decide) rfl ?_
        refine s_iadd (nx := 48) hO rfl rfl ?_
        refine s_callV [.int (v1 + 1)] (ci := 1) (F := TX1) (N := 3) (nx := 51) hO rfl kX7_sumUp_142 (by rw [hcl]; rfl) (hs_o1 (kf3_16 kp13)) (w_X1_firstOf hG (kf3_16 kp13) H) rfl rfl (Nat.le_of_ble_eq_true rfl) (Nat.zero_le _) (Nat.zero_le _) rfl (k_Pi (fun r14 H => ?_))
        refine s_icmp_ge (nx := 54) hO rfl rfl (fun c51 => ?_) (fun c51 => ?_)
        · replace H := H.1 c51
          refine s_aload_n (nx := 118) hO rfl rfl rfl ?_
          obtain ⟨p15, ep15, kp15, H⟩ := H
          refine s_getf (v := .ref (q_b G + p15)) (nx := 121) hO rfl rfl (hs_o7 kc103) (congrArg some (rv_at ep15)) rfl ?_
          refine s_getf (v := .ref (q_b G + (p15 + 15))) (nx := 124) hO rfl rfl (hs_o3 kp15) rfl rfl ?_
          refine s_iload_n (nx := 125) hO rfl rfl rfl ?_
          refine s_bipush (x := (nI 63)) (nx := 127) hO rfl (by decide) rfl ?_
          refine s_imul (nx := 128) hO rfl rfl ?_
          refine s_iload (nx := 130) hO rfl rfl rfl ?_
          refine s_iadd (nx := 131) hO rfl rfl ?_
          refine s_lload (nx := 133) hO rfl rfl rfl ?_
          obtain ⟨b16, H⟩ := H
          refine goV (wJ s3 (p15 + 15) (ix ((v1 * (nI 63)) + x2)) x10) (fun s17 es17 => ?_)
          replace H := H s17 es17
          refine s_last (nx := 134) hO rfl (hs_J (kf3_18 kp15)) b16 rfl ?_
          refine xEx.at (up_J (kf3_18 kp15) es17) ?_
          refine s_lload_n (nx := 135) hO rfl rfl rfl ?_
          refine s_iload (nx := 137) hO rfl rfl rfl ?_
          refine goK (H (fun (y18 : Int64) => xEx G mX7_sumUp 148 [(0, .ref (q_b G + 103)), (1, .int v1), (4, .int x2)] [.long y18, .long x1] (hS G s17) z 0 0 (yQv G z Q)) (fun y18 H => ?_)) (fun H => ?_)
          · show xEx G mX7_sumUp 148 [(0, .ref (q_b G + 103)), (1, .int v1), (4, .int x2)] [.long y18, .long x1] (hS G s17) z 0 0 (yQv G z Q)
            refine s_lor (nx := 149) hO rfl rfl ?_
            refine goV ((x1 ||| y18)) (fun x19 ex19 => ?_)
            replace H := H x19 ex19
            refine e_lstore_n (nx := 150) (l' := [(2, .long x19), (0, .ref (q_b G + 103)), (1, .int v1), (4, .int x2)]) ex19 hO rfl (by decide) rfl rfl ?_
            refine goV ((x2 + 1)) (fun x20 ex20 => ?_)
            replace H := H x20 ex20
            refine e_iinc (nx := 153) (l' := [(4, .int x20), (2, .long x19), (0, .ref (q_b G + 103)), (1, .int v1)]) ex20 hO rfl (by decide) rfl rfl rfl rfl ?_
            refine s_goto hO rfl ?_
            exact xEx.loc (x_sub1 (List.Mem.tail _ (List.Mem.tail _ (List.Mem.head _))) (x_sub1 (List.Mem.tail _ (List.Mem.tail _ (List.Mem.tail _ (List.Mem.head _)))) (x_sub1 (List.Mem.tail _ (List.Mem.head _)) (x_sub1 (List.Mem.head _) x_sub0)))) H
          refine s_if_eq (nx := 140) hO rfl rfl (fun c137 => ?_) (fun c137 => ?_)
          · replace H := H.1 c137
            refine s_lconst (x := 0) (nx := 148) hO rfl (by decide) rfl ?_
            exact xEx.loc (x_sub1 (List.Mem.head _) (x_sub1 (List.Mem.tail _ (List.Mem.head _)) (x_sub1 (List.Mem.tail _ (List.Mem.tail _ (List.Mem.tail _ (List.Mem.head _)))) x_sub0))) H
          · replace H := H.2 c137
            refine s_lconst (x := 1) (nx := 141) hO rfl (by decide) rfl ?_
            refine s_iload (nx := 143) hO rfl rfl rfl ?_
            refine s_lshl (nx := 144) hO rfl rfl ?_
            refine s_goto hO rfl ?_
            exact xEx.loc (x_sub1 (List.Mem.head _) (x_sub1 (List.Mem.tail _ (List.Mem.head _)) (x_sub1 (List.Mem.tail _ (List.Mem.tail _ (List.Mem.tail _ (List.Mem.head _)))) x_sub0))) H
        · replace H := H.2 c51
          refine s_aload_n (nx := 55) hO rfl rfl rfl ?_
          obtain ⟨p21, ep21, kp21, H⟩ := H
          refine s_getf (v := .ref (q_b G + p21)) (nx := 58) hO rfl rfl (hs_o7 kc103) (congrArg some (rv_at ep21)) rfl ?_
          refine s_getf (v := .ref (q_b G + (p21 + 14))) (nx := 61) hO rfl rfl (hs_o3 kp21) rfl rfl ?_
          refine s_iload (nx := 63) hO rfl rfl rfl ?_
          refine s_sipush (x := (nI 512)) (nx := 66) hO rfl (by decide) rfl ?_
          refine s_imul (nx := 67) hO rfl rfl ?_
          refine s_iload (nx := 69) hO rfl rfl rfl ?_
          refine s_iadd (nx := 70) hO rfl rfl ?_
          obtain ⟨b22, H⟩ := H
          refine s_iald (nx := 71) hO rfl (hs_I (kf3_17 kp21)) b22 rfl ?_
          refine goV ((sI s3 (p21 + 14) (ix ((x2 * (nI 512)) + x12)))) (fun x23 ex23 => ?_)
          replace H := H x23 ex23
          refine e_istore (nx := 73) (l' := [(9, .int x23), (0, .ref (q_b G + 103)), (1, .int v1), (2, .long x1), (4, .int x2), (5, .long x10), (7, .int x11), (8, .int x12)]) ex23 hO rfl (by decide) rfl rfl ?_
          refine s_lload (nx := 75) hO rfl rfl rfl ?_
          refine s_iload (nx := 77) hO rfl rfl rfl ?_
          refine s_iconst (x := (-1)) (nx := 78) hO rfl (by decide) rfl ?_
          refine goK (H (fun (y24 : Int64) => xEx G mX7_sumUp 89 [(0, .ref (q_b G + 103)), (1, .int v1), (2, .long x1), (4, .int x2), (7, .int x11), (8, .int x12), (9, .int x23)] [.long y24, .long x10] (hS G s3) z 0 0 (yQv G z Q)) (fun y24 H => ?_)) (fun H => ?_)
          · show xEx G mX7_sumUp 89 [(0, .ref (q_b G + 103)), (1, .int v1), (2, .long x1), (4, .int x2), (7, .int x11), (8, .int x12), (9, .int x23)] [.long y24, .long x10] (hS G s3) z 0 0 (yQv G z Q)
            refine s_lor (nx := 90) hO rfl rfl ?_
            refine goV ((x10 ||| y24)) (fun x25 ex25 => ?_)
            replace H := H x25 ex25
            refine e_lstore (nx := 92) (l' := [(5, .long x25), (0, .ref (q_b G + 103)), (1, .int v1), (2, .long x1), (4, .int x2), (7, .int x11), (8, .int x12), (9, .int x23)]) ex25 hO rfl (by decide) rfl rfl ?_
            refine s_iload (nx := 94) hO rfl rfl rfl ?_
            refine goK (H (fun (y26 : Int32) => xEx G mX7_sumUp 109 [(0, .ref (q_b G + 103)), (1, .int v1), (2, .long x1), (4, .int x2), (5, .long x25), (8, .int x12)] [.int y26] (hS G s3) z 0 0 (yQv G z Q)) (fun y26 H => ?_)) (fun H => ?_)
            · show xEx G mX7_sumUp 109 [(0, .ref (q_b G + 103)), (1, .int v1), (2, .long x1), (4, .int x2), (5, .long x25), (8, .int x12)] [.int y26] (hS G s3) z 0 0 (yQv G z Q)
              refine s_istore (nx := 111) (l' := [(7, .int y26), (0, .ref (q_b G + 103)), (1, .int v1), (2, .long x1), (4, .int x2), (5, .long x25), (8, .int x12)]) hO rfl (by decide) rfl rfl ?_
              refine goV ((x12 + 1)) (fun x27 ex27 => ?_)
              replace H := H x27 ex27
              refine e_iinc (nx := 114) (l' := [(8, .int x27), (7, .int y26), (0, .ref (q_b G + 103)), (1, .int v1), (2, .long x1), (4, .int x2), (5, .long x25)]) ex27 hO rfl (by decide) rfl rfl rfl rfl ?_
              refine s_goto hO rfl ?_
              exact xEx.loc (x_sub1 (List.Mem.tail _ (List.Mem.tail _ (List.Mem.head _))) (x_sub1 (List.Mem.tail _ (List.Mem.tail _ (List.Mem.tail _ (List.Mem.head _)))) (x_sub1 (List.Mem.tail _ (List.Mem.tail _ (List.Mem.tail _ (List.Mem.tail _ (List.Mem.head _))))) (x_sub1 (List.Mem.tail _ (List.Mem.tail _ (List.Mem.tail _ (List.Mem.tail _ (List.Mem.tail _ (List.Mem.head _)))))) (x_sub1 (List.Mem.tail _ (List.Mem.tail _ (List.Mem.tail _ (List.Mem.tail _ (List.Mem.tail _ (List.Mem.tail _ (List.Mem.head _))))))) (x_sub1 (List.Mem.tail _ (List.Mem.head _)) (x_sub1 (List.Mem.head _) x_sub0))))))) H
            refine s_if_eq (nx := 97) hO rfl rfl (fun c94 => ?_) (fun c94 => ?_)
            · replace H := H.1 c94
              refine s_iconst (x := 0) (nx := 109) hO rfl (by decide) rfl ?_
              exact xEx.loc (x_sub1 (List.Mem.tail _ (List.Mem.head _)) (x_sub1 (List.Mem.tail _ (List.Mem.tail _ (List.Mem.head _))) (x_sub1 (List.Mem.tail _ (List.Mem.tail _ (List.Mem.tail _ (List.Mem.head _)))) (x_sub1 (List.Mem.tail _ (List.Mem.tail _ (List.Mem.tail _ (List.Mem.tail _ (List.Mem.head _))))) (x_sub1 (List.Mem.head _) (x_sub1 (List.Mem.tail _ (List.Mem.tail _ (List.Mem.tail _ (List.Mem.tail _ (List.Mem.tail _ (List.Mem.tail _ (List.Mem.head _))))))) x_sub0)))))) H
            · replace H := H.2 c94
              refine s_iload (nx := 99) hO rfl rfl rfl ?_
              refine s_iload (nx := 101) hO rfl rfl rfl ?_
              refine s_icmp_ne (nx := 104) hO rfl rfl (fun c101 => ?_) (fun c101 => ?_)
              · replace H := H.1 c101
                refine s_iconst (x := 0) (nx := 109) hO rfl (by decide) rfl ?_
                exact xEx.loc (x_sub1 (List.Mem.tail _ (List.Mem.head _)) (x_sub1 (List.Mem.tail _ (List.Mem.tail _ (List.Mem.head _))) (x_sub1 (List.Mem.tail _ (List.Mem.tail _ (List.Mem.tail _ (List.Mem.head _)))) (x_sub1 (List.Mem.tail _ (List.Mem.tail _ (List.Mem.tail _ (List.Mem.tail _ (List.Mem.head _))))) (x_sub1 (List.Mem.head _) (x_sub1 (List.Mem.tail _ (List.Mem.tail _ (List.Mem.tail _ (List.Mem.tail _ (List.Mem.tail _ (List.Mem.tail _ (List.Mem.head _))))))) x_sub0)))))) H
              · replace H := H.2 c101
                refine s_iconst (x := 1) (nx := 105) hO rfl (by decide) rfl ?_
                refine s_goto hO rfl ?_
                exact xEx.loc (x_sub1 (List.Mem.tail _ (List.Mem.head _)) (x_sub1 (List.Mem.tail _ (List.Mem.tail _ (List.Mem.head _))) (x_sub1 (List.Mem.tail _ (List.Mem.tail _ (List.Mem.tail _ (List.Mem.head _)))) (x_sub1 (List.Mem.tail _ (List.Mem.tail _ (List.Mem.tail _ (List.Mem.tail _ (List.Mem.head _))))) (x_sub1 (List.Mem.head _) (x_sub1 (List.Mem.tail _ (List.Mem.tail _ (List.Mem.tail _ (List.Mem.tail _ (List.Mem.tail _ (List.Mem.tail _ (List.Mem.head _))))))) x_sub0)))))) H
          refine s_icmp_ne (nx := 81) hO rfl rfl (fun c78 => ?_) (fun c78 => ?_)
          · replace H := H.1 c78
            refine s_lconst (x := 1) (nx := 86) hO rfl (by decide) rfl ?_
            refine s_iload (nx := 88) hO rfl rfl rfl ?_
            refine s_lshl (nx := 89) hO rfl rfl ?_
            exact xEx.loc (x_sub1 (List.Mem.tail _ (List.Mem.head _)) (x_sub1 (List.Mem.tail _ (List.Mem.tail _ (List.Mem.head _))) (x_sub1 (List.Mem.tail _ (List.Mem.tail _ (List.Mem.tail _ (List.Mem.head _)))) (x_sub1 (List.Mem.tail _ (List.Mem.tail _ (List.Mem.tail _ (List.Mem.tail _ (List.Mem.head _))))) (x_sub1 (List.Mem.tail _ (List.Mem.tail _ (List.Mem.tail _ (List.Mem.tail _ (List.Mem.tail _ (List.Mem.tail _ (List.Mem.head _))))))) (x_sub1 (List.Mem.tail _ (List.Mem.tail _ (List.Mem.tail _ (List.Mem.tail _ (List.Mem.tail _ (List.Mem.tail _ (List.Mem.tail _ (List.Mem.head _)))))))) (x_sub1 (List.Mem.head _) x_sub0))))))) H
          · replace H := H.2 c78
            refine s_lconst (x := 0) (nx := 82) hO rfl (by decide) rfl ?_
            refine s_goto hO rfl ?_
            exact xEx.loc (x_sub1 (List.Mem.tail _ (List.Mem.head _)) (x_sub1 (List.Mem.tail _ (List.Mem.tail _ (List.Mem.head _))) (x_sub1 (List.Mem.tail _ (List.Mem.tail _ (List.Mem.tail _ (List.Mem.head _)))) (x_sub1 (List.Mem.tail _ (List.Mem.tail _ (List.Mem.tail _ (List.Mem.tail _ (List.Mem.head _))))) (x_sub1 (List.Mem.tail _ (List.Mem.tail _ (List.Mem.tail _ (List.Mem.tail _ (List.Mem.tail _ (List.Mem.tail _ (List.Mem.head _))))))) (x_sub1 (List.Mem.tail _ (List.Mem.tail _ (List.Mem.tail _ (List.Mem.tail _ (List.Mem.tail _ (List.Mem.tail _ (List.Mem.tail _ (List.Mem.head _)))))))) (x_sub1 (List.Mem.head _) x_sub0))))))) H
      refine s_istore (nx := 36) (l' := [(8, .int r9), (7, .int 1), (5, .long 0), (0, .ref (q_b G + 103)), (1, .int v1), (2, .long x1), (4, .int x2)]) hO rfl (by decide) rfl rfl ?_
      exact xEx.loc (x_sub1 (List.Mem.tail _ (List.Mem.tail _ (List.Mem.tail _ (List.Mem.head _)))) (x_sub1 (List.Mem.tail _ (List.Mem.tail _ (List.Mem.tail _ (List.Mem.tail _ (List.Mem.head _))))) (x_sub1 (List.Mem.tail _ (List.Mem.tail _ (List.Mem.tail _ (List.Mem.tail _ (List.Mem.tail _ (List.Mem.head _)))))) (x_sub1 (List.Mem.tail _ (List.Mem.tail _ (List.Mem.tail _ (List.Mem.tail _ (List.Mem.tail _ (List.Mem.tail _ (List.Mem.head _))))))) (x_sub1 (List.Mem.tail _ (List.Mem.tail _ (List.Mem.head _))) (x_sub1 (List.Mem.tail _ (List.Mem.head _)) (x_sub1 (List.Mem.head _) x_sub0))))))) H
  refine s_istore (nx := 5) (l' := [(4, .int 0), (2, .long 0), (0, .ref (q_b G + 103)), (1, .int v1)]) hO rfl (by decide) rfl rfl ?_
  exact xEx.loc (x_sub1 (List.Mem.tail _ (List.Mem.tail _ (List.Mem.head _))) (x_sub1 (List.Mem.tail _ (List.Mem.tail _ (List.Mem.tail _ (List.Mem.head _)))) (x_sub1 (List.Mem.tail _ (List.Mem.head _)) (x_sub1 (List.Mem.head _) x_sub0)))) H
def W_X7_make (s : yS) (o1 : Nat) (Q : Int32 → yS → Prop) : Prop :=
 ∀ s1 : yS, s1 = wR s 103 0 (o1 + 1) → 
 W_X1_count s1 (o1 + 10) 
 (fun r2 => ∀ s3 : yS, s3 = wI s1 103 1 r2 → 
 W_X7_leadNodes s3 
 (fun s4 => W_X7_makeSets s4 
 (fun r5 s6 => ((¬ r5 = 0 → W_X7_divideGroups s6 
  (fun s7 => W_X7_numberStates s7 
  (fun s8 => ∀ P39 : Int32 → yS → Prop, (∀ (x9 : Int32) (s10 : yS), ((((nI 16) ≤ x9 → Q 1 s10)
   ∧ (¬ (nI 16) ≤ x9 → W_X7_sumUp s10 x9 
    (fun s11 => ∀ x12 : Int32, x12 = (x9 + 1) → 
    P39 x12 s11)))) → P39 x9 s10) → 
  P39 0 s8)))
 ∧ (r5 = 0 → Q 0 s6)))))
set_option maxRecDepth 100000 in
set_option maxHeartbeats 40000000 in
theorem w_X7_make {G : xG} (hG : yG G) {z : Nat} {s : yS} {o1 : Nat} {Q : Int32 → yS → Prop} (ho1 : kd o1 = some (7, 0)) (H : W_X7_make s o1 Q) : xC G mX7_make [.ref (q_b G + 103), .ref (q_b G + o1)] (hS G s) z 0 0 (yQi G z Q) := by
  have hW := hG.1
  have hcl := hG.2.1
  have hty := hG.2.2.1
  have hO : xO G mX7_make tbX7_make ptX7_make := ⟨tkX7_make, pkX7_make hcl⟩
  unfold W_X7_make at H
  refine xC.of hW (by decide) rfl (Nat.le_of_ble_eq_true rfl) ?_
  refine s_aload_n (nx := 1) hO rfl rfl rfl ?_
  refine s_aload_n (nx := 2) hO rfl rfl rfl ?_
  refine goV (wR s 103 0 (o1 + 1)) (fun s1 es1 => ?_)
  replace H := H s1 es1
  refine s_putf (nx := 5) hO rfl rfl (hs_o7 kc103) (Nat.le_of_ble_eq_true rfl) (by rw [hty]; rfl) (by rw [hty]; rfl) pX7_0 rfl ?_
  refine xEx.at (up_oR7 kc103 es1) ?_
  refine s_aload_n (nx := 6) hO rfl rfl rfl ?_
  refine s_aload_n (nx := 7) hO rfl rfl rfl ?_
  refine s_getf (v := .ref (q_b G + (o1 + 10))) (nx := 10) hO rfl rfl (hs_o3 ho1) rfl rfl ?_
  refine s_callV [] (ci := 1) (F := TX1) (N := 3) (nx := 13) hO rfl kX7_make_55 (by rw [hcl]; rfl) (hs_o1 (kf3_16 ho1)) (w_X1_count hG (kf3_16 ho1) H) rfl rfl (Nat.le_of_ble_eq_true rfl) (Nat.zero_le _) (Nat.zero_le _) rfl (k_Pi (fun r2 H => ?_))
  refine goV (wI s1 103 1 r2) (fun s3 es3 => ?_)
  replace H := H s3 es3
  refine s_putf (nx := 16) hO rfl rfl (hs_o7 kc103) (Nat.le_of_ble_eq_true rfl) (by rw [hty]; rfl) (by rw [hty]; rfl) pX7_1 rfl ?_
  refine xEx.at (up_oI7 kc103 es3) ?_
  refine s_aload_n (nx := 17) hO rfl rfl rfl ?_
  refine s_callV [] (ci := 7) (F := TX7) (N := 12) (nx := 20) hO rfl kX7_make_64 (by rw [hcl]; rfl) (hs_o7 kc103) (w_X7_leadNodes hG H) rfl rfl (Nat.le_of_ble_eq_true rfl) (Nat.zero_le _) (Nat.zero_le _) rfl (k_Qv (fun s4 H => ?_))
  refine s_aload_n (nx := 21) hO rfl rfl rfl ?_
  refine s_callV [] (ci := 7) (F := TX7) (N := 12) (nx := 24) hO rfl kX7_make_67 (by rw [hcl]; rfl) (hs_o7 kc103) (w_X7_makeSets hG H) rfl rfl (Nat.le_of_ble_eq_true rfl) (Nat.zero_le _) (Nat.zero_le _) rfl (k_Qi (fun r5 s6 H => ?_))
  refine s_if_ne (nx := 27) hO rfl rfl (fun c24 => ?_) (fun c24 => ?_)
  · replace H := H.1 c24
    refine s_aload_n (nx := 30) hO rfl rfl rfl ?_
    refine s_callV [] (ci := 7) (F := TX7) (N := 12) (nx := 33) hO rfl kX7_make_71 (by rw [hcl]; rfl) (hs_o7 kc103) (w_X7_divideGroups hG H) rfl rfl (Nat.le_of_ble_eq_true rfl) (Nat.zero_le _) (Nat.zero_le _) rfl (k_Qv (fun s7 H => ?_))
    refine s_aload_n (nx := 34) hO rfl rfl rfl ?_
    refine s_callV [] (ci := 7) (F := TX7) (N := 12) (nx := 37) hO rfl kX7_make_74 (by rw [hcl]; rfl) (hs_o7 kc103) (w_X7_numberStates hG H) rfl rfl (Nat.le_of_ble_eq_true rfl) (Nat.zero_le _) (Nat.zero_le _) rfl (k_Qv (fun s8 H => ?_))
    refine s_iconst (x := 0) (nx := 38) hO rfl (by decide) rfl ?_
    refine goK (H (fun (x9 : Int32) (s10 : yS) => xEx G mX7_make 39 [(0, .ref (q_b G + 103)), (2, .int x9)] [] (hS G s10) z 0 0 (yQi G z Q)) (fun x9 s10 H => ?_)) (fun H => ?_)
    · show xEx G mX7_make 39 [(0, .ref (q_b G + 103)), (2, .int x9)] [] (hS G s10) z 0 0 (yQi G z Q)
      refine s_iload_n (nx := 40) hO rfl rfl rfl ?_
      refine s_bipush (x := (nI 16)) (nx := 42) hO rfl (by decide) rfl ?_
      refine s_icmp_ge (nx := 45) hO rfl rfl (fun c42 => ?_) (fun c42 => ?_)
      · replace H := H.1 c42
        refine s_iconst (x := 1) (nx := 57) hO rfl (by decide) rfl ?_
        exact s_iret hO rfl rfl rfl ⟨rfl, _, _, rfl, rfl, H⟩
      · replace H := H.2 c42
        refine s_aload_n (nx := 46) hO rfl rfl rfl ?_
        refine s_iload_n (nx := 47) hO rfl rfl rfl ?_
        refine s_callV [.int x9] (ci := 7) (F := TX7) (N := 12) (nx := 50) hO rfl kX7_make_77 (by rw [hcl]; rfl) (hs_o7 kc103) (w_X7_sumUp hG H) rfl rfl (Nat.le_of_ble_eq_true rfl) (Nat.zero_le _) (Nat.zero_le _) rfl (k_Qv (fun s11 H => ?_))
        refine goV ((x9 + 1)) (fun x12 ex12 => ?_)
        replace H := H x12 ex12
        refine e_iinc (nx := 53) (l' := [(2, .int x12), (0, .ref (q_b G + 103))]) ex12 hO rfl (by decide) rfl rfl rfl rfl ?_
        refine s_goto hO rfl ?_
        exact xEx.loc (x_sub1 (List.Mem.tail _ (List.Mem.head _)) (x_sub1 (List.Mem.head _) x_sub0)) H
    refine s_istore_n (nx := 39) (l' := [(2, .int 0), (0, .ref (q_b G + 103)), (1, .ref (q_b G + o1))]) hO rfl (by decide) rfl rfl ?_
    exact xEx.loc (x_sub1 (List.Mem.tail _ (List.Mem.head _)) (x_sub1 (List.Mem.head _) x_sub0)) H
  · replace H := H.2 c24
    refine s_iconst (x := 0) (nx := 28) hO rfl (by decide) rfl ?_
    exact s_iret hO rfl rfl rfl ⟨rfl, _, _, rfl, rfl, H⟩
def W_X9_refuse (s : yS) (v1 : Int32) (v2 : Int32) (Q : Int32 → yS → Prop) : Prop :=
 ∀ s1 : yS, s1 = wI s 114 1 v1 → 
 ∀ s2 : yS, s2 = wI s1 114 0 (((nI 512) * (sI s1 114 3)) + v2) → 
 Q 0 s2
set_option maxRecDepth 100000 in
set_option maxHeartbeats 40000000 in
theorem w_X9_refuse {G : xG} (hG : yG G) {z : Nat} {s : yS} {v1 : Int32} {v2 : Int32} {Q : Int32 → yS → Prop} (H : W_X9_refuse s v1 v2 Q) : xC G mX9_refuse [.ref (q_b G + 114), .int v1, .int v2] (hS G s) z 0 0 (yQi G z Q) := by
  have hW := hG.1
  have hcl := hG.2.1
  have hty := hG.2.2.1
  have hO : xO G mX9_refuse tbX9_refuse ptX9_refuse := ⟨tkX9_refuse, pkX9_refuse hcl⟩
  unfold W_X9_refuse at H
  refine xC.of hW (by decide) rfl (Nat.le_of_ble_eq_true rfl) ?_
  refine s_aload_n (nx := 1) hO rfl rfl rfl ?_
  refine s_iload_n (nx := 2) hO rfl rfl rfl ?_
  refine goV (wI s 114 1 v1) (fun s1 es1 => ?_)
  replace H := H s1 es1
  refine s_putf (nx := 5) hO rfl rfl (hs_o9 kc114) (Nat.le_of_ble_eq_true rfl) (by rw [hty]; rfl) (by rw [hty]; rfl) pX9_1 rfl ?_
  refine xEx.at (up_oI9 kc114 es1) ?_
  refine s_aload_n (nx := 6) hO rfl rfl rfl ?_
  refine s_sipush (x := (nI 512)) (nx := 9) hO rfl (by decide) rfl ?_
  refine s_aload_n (nx := 10) hO rfl rfl rfl ?_
  refine s_getf (v := .int (sI s1 114 3)) (nx := 13) hO rfl rfl (hs_o9 kc114) rfl rfl ?_
  refine s_imul (nx := 14) hO rfl rfl ?_
  refine s_iload_n (nx := 15) hO rfl rfl rfl ?_
  refine s_iadd (nx := 16) hO rfl rfl ?_
  refine goV (wI s1 114 0 (((nI 512) * (sI s1 114 3)) + v2)) (fun s2 es2 => ?_)
  replace H := H s2 es2
  refine s_putf (nx := 19) hO rfl rfl (hs_o9 kc114) (Nat.le_of_ble_eq_true rfl) (by rw [hty]; rfl) (by rw [hty]; rfl) pX9_0 rfl ?_
  refine xEx.at (up_oI9 kc114 es2) ?_
  refine s_iconst (x := 0) (nx := 20) hO rfl (by decide) rfl ?_
  exact s_iret hO rfl rfl rfl ⟨rfl, _, _, rfl, rfl, H⟩
def W_X9_comeTo (s : yS) (v1 : Int32) (v2 : Int32) (v3 : Int32) (Q : Int32 → yS → Prop) : Prop :=
 ∀ x1 : Int32, x1 = (((sI s 114 3) * (nI 400)) + v1) → 
 ∃ p2 : Nat, sR s 114 2 = p2 + 1 ∧ kd p2 = some (9, 0) ∧ 
 vp_in x1 4800 ∧ 
 ((¬ (sI s (p2 + 9) (ix x1)) = (-1) → ∃ p4 : Nat, sR s 114 2 = p4 + 1 ∧ kd p4 = some (9, 0) ∧ 
  vp_in x1 4800 ∧ 
  ∀ P97 : Prop, ((W_X9_refuse s (nI 7) v1 
   (fun r6 s7 => ((r6 = 0 → Q 0 s7)
   ∧ (¬ r6 = 0 → Q 1 s7)))) → P97) → 
  ((¬ (sI s (p4 + 9) (ix x1)) = v2 → P97)
  ∧ ((sI s (p4 + 9) (ix x1)) = v2 → ∃ p8 : Nat, sR s 114 2 = p8 + 1 ∧ kd p8 = some (9, 0) ∧ 
   vp_in x1 4800 ∧ 
   (((sI s (p8 + 10) (ix x1)) = v3 → Q 1 s)
   ∧ (¬ (sI s (p8 + 10) (ix x1)) = v3 → P97)))))
 ∧ ((sI s (p2 + 9) (ix x1)) = (-1) → ∃ p10 : Nat, sR s 114 2 = p10 + 1 ∧ kd p10 = some (9, 0) ∧ 
  vp_in x1 4800 ∧ ∀ s12 : yS, s12 = wI s (p10 + 9) (ix x1) v2 → 
  ∃ p13 : Nat, sR s12 114 2 = p13 + 1 ∧ kd p13 = some (9, 0) ∧ 
  vp_in x1 4800 ∧ ∀ s15 : yS, s15 = wI s12 (p13 + 10) (ix x1) v3 → 
  vp_in v1 400 ∧ ∀ s17 : yS, s17 = wI s15 115 (ix v1) (vp_nar .boolean 1) → 
  ∀ s18 : yS, s18 = wI s17 114 6 (if v1 < (sI s17 114 6) then v1 else (sI s17 114 6)) → 
  Q 1 s18))
set_option maxRecDepth 100000 in
set_option maxHeartbeats 40000000 in
theorem w_X9_comeTo {G : xG} (hG : yG G) {z : Nat} {s : yS} {v1 : Int32} {v2 : Int32} {v3 : Int32} {Q : Int32 → yS → Prop} (H : W_X9_comeTo s v1 v2 v3 Q) : xC G mX9_comeTo [.ref (q_b G + 114), .int v1, .int v2, .int v3] (hS G s) z 0 0 (yQi G z Q) := by
  have hW := hG.1
  have hcl := hG.2.1
  have hty := hG.2.2.1
  have hO : xO G mX9_comeTo tbX9_comeTo ptX9_comeTo := ⟨tkX9_comeTo, pkX9_comeTo hcl⟩
  unfold W_X9_comeTo at H
  refine xC.of hW (by decide) rfl (Nat.le_of_ble_eq_true rfl) ?_
  refine s_aload_n (nx := 1) hO rfl rfl rfl ?_
  refine s_getf (v := .int (sI s 114 3)) (nx := 4) hO rfl rfl (hs_o9 kc114) rfl rfl ?_
  refine s_sipush (x := (nI 400)) (nx := 7) hO rfl (by decide) rfl ?_
  refine s_imul (nx := 8) hO rfl rfl ?_
  refine s_iload_n (nx := 9) hO rfl rfl rfl ?_
  refine s_iadd (nx := 10) hO rfl rfl ?_
  refine goV ((((sI s 114 3) * (nI 400)) + v1)) (fun x1 ex1 => ?_)
  replace H := H x1 ex1
  refine e_istore (nx := 12) (l' := [(4, .int x1), (0, .ref (q_b G + 114)), (1, .int v1), (2, .int v2), (3, .int v3)]) ex1 hO rfl (by decide) rfl rfl ?_
  refine s_aload_n (nx := 13) hO rfl rfl rfl ?_
  obtain ⟨p2, ep2, kp2, H⟩ := H
  refine s_getf (v := .ref (q_b G + p2)) (nx := 16) hO rfl rfl (hs_o9 kc114) (congrArg some (rv_at ep2)) rfl ?_
  refine s_getf (v := .ref (q_b G + (p2 + 9))) (nx := 19) hO rfl rfl (hs_o5 kp2) rfl rfl ?_
  refine s_iload (nx := 21) hO rfl rfl rfl ?_
  obtain ⟨b3, H⟩ := H
  refine s_iald (nx := 22) hO rfl (hs_I (kf5_9 kp2)) b3 rfl ?_
  refine s_iconst (x := (-1)) (nx := 23) hO rfl (by decide) rfl ?_
  refine s_icmp_ne (nx := 26) hO rfl rfl (fun c23 => ?_) (fun c23 => ?_)
  · replace H := H.1 c23
    refine s_aload_n (nx := 70) hO rfl rfl rfl ?_
    obtain ⟨p4, ep4, kp4, H⟩ := H
    refine s_getf (v := .ref (q_b G + p4)) (nx := 73) hO rfl rfl (hs_o9 kc114) (congrArg some (rv_at ep4)) rfl ?_
    refine s_getf (v := .ref (q_b G + (p4 + 9))) (nx := 76) hO rfl rfl (hs_o5 kp4) rfl rfl ?_
    refine s_iload (nx := 78) hO rfl rfl rfl ?_
    obtain ⟨b5, H⟩ := H
    refine s_iald (nx := 79) hO rfl (hs_I (kf5_9 kp4)) b5 rfl ?_
    refine s_iload_n (nx := 80) hO rfl rfl rfl ?_
    refine goK (H (xEx G mX9_comeTo 97 [(0, .ref (q_b G + 114)), (1, .int v1)] [] (hS G s) z 0 0 (yQi G z Q)) (fun H => ?_)) (fun H => ?_)
    · show xEx G mX9_comeTo 97 [(0, .ref (q_b G + 114)), (1, .int v1)] [] (hS G s) z 0 0 (yQi G z Q)
      refine s_aload_n (nx := 98) hO rfl rfl rfl ?_
      refine s_bipush (x := (nI 7)) (nx := 100) hO rfl (by decide) rfl ?_
      refine s_iload_n (nx := 101) hO rfl rfl rfl ?_
      refine s_callV [.int (nI 7), .int v1] (ci := 9) (F := TX9) (N := 8) (nx := 104) hO rfl kX9_comeTo_70 (by rw [hcl]; rfl) (hs_o9 kc114) (w_X9_refuse hG H) rfl rfl (Nat.le_of_ble_eq_true rfl) (Nat.zero_le _) (Nat.zero_le _) rfl (k_Qi (fun r6 s7 H => ?_))
      refine s_if_eq (nx := 107) hO rfl rfl (fun c104 => ?_) (fun c104 => ?_)
      · replace H := H.1 c104
        refine s_iconst (x := 0) (nx := 112) hO rfl (by decide) rfl ?_
        exact s_iret hO rfl rfl rfl ⟨rfl, _, _, rfl, rfl, H⟩
      · replace H := H.2 c104
        refine s_iconst (x := 1) (nx := 108) hO rfl (by decide) rfl ?_
        refine s_goto hO rfl ?_
        exact s_iret hO rfl rfl rfl ⟨rfl, _, _, rfl, rfl, H⟩
    refine s_icmp_ne (nx := 83) hO rfl rfl (fun c80 => ?_) (fun c80 => ?_)
    · replace H := H.1 c80
      exact xEx.loc (x_sub1 (List.Mem.tail _ (List.Mem.head _)) (x_sub1 (List.Mem.tail _ (List.Mem.tail _ (List.Mem.head _))) x_sub0)) H
    · replace H := H.2 c80
      refine s_aload_n (nx := 84) hO rfl rfl rfl ?_
      obtain ⟨p8, ep8, kp8, H⟩ := H
      refine s_getf (v := .ref (q_b G + p8)) (nx := 87) hO rfl rfl (hs_o9 kc114) (congrArg some (rv_at ep8)) rfl ?_
      refine s_getf (v := .ref (q_b G + (p8 + 10))) (nx := 90) hO rfl rfl (hs_o5 kp8) rfl rfl ?_
      refine s_iload (nx := 92) hO rfl rfl rfl ?_
      obtain ⟨b9, H⟩ := H
      refine s_iald (nx := 93) hO rfl (hs_I (kf5_10 kp8)) b9 rfl ?_
      refine s_iload_n (nx := 94) hO rfl rfl rfl ?_
      refine s_icmp_eq (nx := 97) hO rfl rfl (fun c94 => ?_) (fun c94 => ?_)
      · replace H := H.1 c94
        refine s_iconst (x := 1) (nx := 108) hO rfl (by decide) rfl ?_
        refine s_goto hO rfl ?_
        exact s_iret hO rfl rfl rfl ⟨rfl, _, _, rfl, rfl, H⟩
      · replace H := H.2 c94
        exact xEx.loc (x_sub1 (List.Mem.tail _ (List.Mem.head _)) (x_sub1 (List.Mem.tail _ (List.Mem.tail _ (List.Mem.head _))) x_sub0)) H
  · replace H := H.2 c23
    refine s_aload_n (nx := 27) hO rfl rfl rfl ?_
    obtain ⟨p10, ep10, kp10, H⟩ := H
    refine s_getf (v := .ref (q_b G + p10)) (nx := 30) hO rfl rfl (hs_o9 kc114) (congrArg some (rv_at ep10)) rfl ?_
    refine s_getf (v := .ref (q_b G + (p10 + 9))) (nx := 33) hO rfl rfl (hs_o5 kp10) rfl rfl ?_
    refine s_iload (nx := 35) hO rfl rfl rfl ?_
    refine s_iload_n (nx := 36) hO rfl rfl rfl ?_
    obtain ⟨b11, H⟩ := H
    refine goV (wI s (p10 + 9) (ix x1) v2) (fun s12 es12 => ?_)
    replace H := H s12 es12
    refine s_iast (nx := 37) hO rfl (hs_I (kf5_9 kp10)) b11 rfl ?_
    refine xEx.at (up_I (kf5_9 kp10) es12) ?_
    refine s_aload_n (nx := 38) hO rfl rfl rfl ?_
    obtain ⟨p13, ep13, kp13, H⟩ := H
    refine s_getf (v := .ref (q_b G + p13)) (nx := 41) hO rfl rfl (hs_o9 kc114) (congrArg some (rv_at ep13)) rfl ?_
    refine s_getf (v := .ref (q_b G + (p13 + 10))) (nx := 44) hO rfl rfl (hs_o5 kp13) rfl rfl ?_
    refine s_iload (nx := 46) hO rfl rfl rfl ?_
    refine s_iload_n (nx := 47) hO rfl rfl rfl ?_
    obtain ⟨b14, H⟩ := H
    refine goV (wI s12 (p13 + 10) (ix x1) v3) (fun s15 es15 => ?_)
    replace H := H s15 es15
    refine s_iast (nx := 48) hO rfl (hs_I (kf5_10 kp13)) b14 rfl ?_
    refine xEx.at (up_I (kf5_10 kp13) es15) ?_
    refine s_aload_n (nx := 49) hO rfl rfl rfl ?_
    refine s_getf (v := .ref (q_b G + 115)) (nx := 52) hO rfl rfl (hs_o9 kc114) rfl rfl ?_
    refine s_iload_n (nx := 53) hO rfl rfl rfl ?_
    refine s_iconst (x := 1) (nx := 54) hO rfl (by decide) rfl ?_
    obtain ⟨b16, H⟩ := H
    refine goV (wI s15 115 (ix v1) (vp_nar .boolean 1)) (fun s17 es17 => ?_)
    replace H := H s17 es17
    refine s_zast (nx := 55) hO rfl (hs_Z kc115) b16 rfl ?_
    refine xEx.at (up_Z kc115 es17) ?_
    refine s_aload_n (nx := 56) hO rfl rfl rfl ?_
    refine s_aload_n (nx := 57) hO rfl rfl rfl ?_
    refine s_getf (v := .int (sI s17 114 6)) (nx := 60) hO rfl rfl (hs_o9 kc114) rfl rfl ?_
    refine s_iload_n (nx := 61) hO rfl rfl rfl ?_
    refine s_min (nx := 64) hO rfl (List.mem_cons_of_mem _ (ir40 _ (List.mem_of_getElem? (i := 23) rfl))) (List.mem_cons_of_mem _ (ir41 _ (List.mem_of_getElem? (i := 0) rfl))) (List.mem_cons_of_mem _ (ir25 _ (List.mem_of_getElem? (i := 9) rfl))) (List.mem_cons_of_mem _ (ir41 _ (List.mem_of_getElem? (i := 1) rfl))) (by decide) (Nat.le_of_ble_eq_true rfl) rfl ?_
    refine goV (wI s17 114 6 (if v1 < (sI s17 114 6) then v1 else (sI s17 114 6))) (fun s18 es18 => ?_)
    replace H := H s18 es18
    refine s_putf (nx := 67) hO rfl rfl (hs_o9 kc114) (Nat.le_of_ble_eq_true rfl) (by rw [hty]; rfl) (by rw [hty]; rfl) pX9_6 rfl ?_
    refine xEx.at (up_oI9 kc114 es18) ?_
    refine s_iconst (x := 1) (nx := 68) hO rfl (by decide) rfl ?_
    exact s_iret hO rfl rfl rfl ⟨rfl, _, _, rfl, rfl, H⟩
def W_X9_put (s : yS) (v1 : Int32) (Q : Int32 → yS → Prop) : Prop :=
 ∀ s1 : yS, s1 = wI s 114 5 ((sI s 114 5) ||| (v1 <<< ((sI s 114 4) &&& 31))) → 
 ∀ s2 : yS, s2 = wI s1 114 4 ((sI s1 114 4) + 1) → 
 Q 1 s2
set_option maxRecDepth 100000 in
set_option maxHeartbeats 40000000 in
theorem w_X9_put {G : xG} (hG : yG G) {z : Nat} {s : yS} {v1 : Int32} {Q : Int32 → yS → Prop} (H : W_X9_put s v1 Q) : xC G mX9_put [.ref (q_b G + 114), .int v1] (hS G s) z 0 0 (yQi G z Q) := by
  have hW := hG.1
  have hcl := hG.2.1
  have hty := hG.2.2.1
  have hO : xO G mX9_put tbX9_put ptX9_put := ⟨tkX9_put, pkX9_put hcl⟩
  unfold W_X9_put at H
  refine xC.of hW (by decide) rfl (Nat.le_of_ble_eq_true rfl) ?_
  refine s_aload_n (nx := 1) hO rfl rfl rfl ?_
  refine s_dup (nx := 2) hO rfl rfl rfl ?_
  refine s_getf (v := .int (sI s 114 5)) (nx := 5) hO rfl rfl (hs_o9 kc114) rfl rfl ?_
  refine s_iload_n (nx := 6) hO rfl rfl rfl ?_
  refine s_aload_n (nx := 7) hO rfl rfl rfl ?_
  refine s_getf (v := .int (sI s 114 4)) (nx := 10) hO rfl rfl (hs_o9 kc114) rfl rfl ?_
  refine s_ishl (nx := 11) hO rfl rfl ?_
  refine s_ior (nx := 12) hO rfl rfl ?_
  refine goV (wI s 114 5 ((sI s 114 5) ||| (v1 <<< ((sI s 114 4) &&& 31)))) (fun s1 es1 => ?_)
  replace H := H s1 es1
  refine s_putf (nx := 15) hO rfl rfl (hs_o9 kc114) (Nat.le_of_ble_eq_true rfl) (by rw [hty]; rfl) (by rw [hty]; rfl) pX9_5 rfl ?_
  refine xEx.at (up_oI9 kc114 es1) ?_
  refine s_aload_n (nx := 16) hO rfl rfl rfl ?_
  refine s_dup (nx := 17) hO rfl rfl rfl ?_
  refine s_getf (v := .int (sI s1 114 4)) (nx := 20) hO rfl rfl (hs_o9 kc114) rfl rfl ?_
  refine s_iconst (x := 1) (nx := 21) hO rfl (by decide) rfl ?_
  refine s_iadd (nx := 22) hO rfl rfl ?_
  refine goV (wI s1 114 4 ((sI s1 114 4) + 1)) (fun s2 es2 => ?_)
  replace H := H s2 es2
  refine s_putf (nx := 25) hO rfl rfl (hs_o9 kc114) (Nat.le_of_ble_eq_true rfl) (by rw [hty]; rfl) (by rw [hty]; rfl) pX9_4 rfl ?_
  refine xEx.at (up_oI9 kc114 es2) ?_
  refine s_iconst (x := 1) (nx := 26) hO rfl (by decide) rfl ?_
  exact s_iret hO rfl rfl rfl ⟨rfl, _, _, rfl, rfl, H⟩
def W_X9_type (s : yS) (v1 : Int32) (Q : Int32 → Prop) : Prop :=
 Q (((sI s 114 5) >>> (((sI s 114 4) - v1) &&& 31)) &&& 1)
set_option maxRecDepth 100000 in
set_option maxHeartbeats 40000000 in
theorem w_X9_type {G : xG} (hG : yG G) {z : Nat} {s : yS} {v1 : Int32} {Q : Int32 → Prop} (H : W_X9_type s v1 Q) : xC G mX9_type [.ref (q_b G + 114), .int v1] (hS G s) z 0 0 (yPi G z s Q) := by
  have hW := hG.1
  have hcl := hG.2.1
  have hty := hG.2.2.1
  have hO : xO G mX9_type tbX9_type ptX9_type := ⟨tkX9_type, pkX9_type hcl⟩
  unfold W_X9_type at H
  refine xC.of hW (by decide) rfl (Nat.le_of_ble_eq_true rfl) ?_
  refine s_aload_n (nx := 1) hO rfl rfl rfl ?_
  refine s_getf (v := .int (sI s 114 5)) (nx := 4) hO rfl rfl (hs_o9 kc114) rfl rfl ?_
  refine s_aload_n (nx := 5) hO rfl rfl rfl ?_
  refine s_getf (v := .int (sI s 114 4)) (nx := 8) hO rfl rfl (hs_o9 kc114) rfl rfl ?_
  refine s_iload_n (nx := 9) hO rfl rfl rfl ?_
  refine s_isub (nx := 10) hO rfl rfl ?_
  refine s_ishr (nx := 11) hO rfl rfl ?_
  refine s_iconst (x := 1) (nx := 12) hO rfl (by decide) rfl ?_
  refine s_iand (nx := 13) hO rfl rfl ?_
  exact s_iret hO rfl rfl rfl ⟨rfl, _, rfl, rfl, H⟩
def W_X9_take (s : yS) (v1 : Int32) (Q : Int32 → yS → Prop) : Prop :=
 (((sI s 114 4) = 0 → Q 0 s)
 ∧ (¬ (sI s 114 4) = 0 → W_X9_type s 1 
  (fun r1 => ((r1 = v1 → ∀ s2 : yS, s2 = wI s 114 4 ((sI s 114 4) - 1) → 
   ∀ s3 : yS, s3 = wI s2 114 5 ((sI s2 114 5) &&& ((1 <<< ((sI s2 114 4) &&& 31)) - 1)) → 
   Q 1 s3)
  ∧ (¬ r1 = v1 → Q 0 s)))))
set_option maxRecDepth 100000 in
set_option maxHeartbeats 40000000 in
theorem w_X9_take {G : xG} (hG : yG G) {z : Nat} {s : yS} {v1 : Int32} {Q : Int32 → yS → Prop} (H : W_X9_take s v1 Q) : xC G mX9_take [.ref (q_b G + 114), .int v1] (hS G s) z 0 0 (yQi G z Q) := by
  have hW := hG.1
  have hcl := hG.2.1
  have hty := hG.2.2.1
  have hO : xO G mX9_take tbX9_take ptX9_take := ⟨tkX9_take, pkX9_take hcl⟩
  unfold W_X9_take at H
  refine xC.of hW (by decide) rfl (Nat.le_of_ble_eq_true rfl) ?_
  refine s_aload_n (nx := 1) hO rfl rfl rfl ?_
  refine s_getf (v := .int (sI s 114 4)) (nx := 4) hO rfl rfl (hs_o9 kc114) rfl rfl ?_
  refine s_if_eq (nx := 7) hO rfl rfl (fun c4 => ?_) (fun c4 => ?_)
  · replace H := H.1 c4
    refine s_iconst (x := 0) (nx := 17) hO rfl (by decide) rfl ?_
    exact s_iret hO rfl rfl rfl ⟨rfl, _, _, rfl, rfl, H⟩
  · replace H := H.2 c4
    refine s_aload_n (nx := 8) hO rfl rfl rfl ?_
    refine s_iconst (x := 1) (nx := 9) hO rfl (by decide) rfl ?_
    refine s_callV [.int 1] (ci := 9) (F := TX9) (N := 8) (nx := 12) hO rfl kX9_take_105 (by rw [hcl]; rfl) (hs_o9 kc114) (w_X9_type hG H) rfl rfl (Nat.le_of_ble_eq_true rfl) (Nat.zero_le _) (Nat.zero_le _) rfl (k_Pi (fun r1 H => ?_))
    refine s_iload_n (nx := 13) hO rfl rfl rfl ?_
    refine s_icmp_eq (nx := 16) hO rfl rfl (fun c13 => ?_) (fun c13 => ?_)
    · replace H := H.1 c13
      refine s_aload_n (nx := 19) hO rfl rfl rfl ?_
      refine s_dup (nx := 20) hO rfl rfl rfl ?_
      refine s_getf (v := .int (sI s 114 4)) (nx := 23) hO rfl rfl (hs_o9 kc114) rfl rfl ?_
      refine s_iconst (x := 1) (nx := 24) hO rfl (by decide) rfl ?_
      refine s_isub (nx := 25) hO rfl rfl ?_
      refine goV (wI s 114 4 ((sI s 114 4) - 1)) (fun s2 es2 => ?_)
      replace H := H s2 es2
      refine s_putf (nx := 28) hO rfl rfl (hs_o9 kc114) (Nat.le_of_ble_eq_true rfl) (by rw [hty]; rfl) (by rw [hty]; rfl) pX9_4 rfl ?_
      refine xEx.at (up_oI9 kc114 es2) ?_
      refine s_aload_n (nx := 29) hO rfl rfl rfl ?_
      refine s_dup (nx := 30) hO rfl rfl rfl ?_
      refine s_getf (v := .int (sI s2 114 5)) (nx := 33) hO rfl rfl (hs_o9 kc114) rfl rfl ?_
      refine s_iconst (x := 1) (nx := 34) hO rfl (by decide) rfl ?_
      refine s_aload_n (nx := 35) hO rfl rfl rfl ?_
      refine s_getf (v := .int (sI s2 114 4)) (nx := 38) hO rfl rfl (hs_o9 kc114) rfl rfl ?_
      refine s_ishl (nx := 39) hO rfl rfl ?_
      refine s_iconst (x := 1) (nx := 40) hO rfl (by decide) rfl ?_
      refine s_isub (nx := 41) hO rfl rfl ?_
      refine s_iand (nx := 42) hO rfl rfl ?_
      refine goV (wI s2 114 5 ((sI s2 114 5) &&& ((1 <<< ((sI s2 114 4) &&& 31)) - 1))) (fun s3 es3 => ?_)
      replace H := H s3 es3
      refine s_putf (nx := 45) hO rfl rfl (hs_o9 kc114) (Nat.le_of_ble_eq_true rfl) (by rw [hty]; rfl) (by rw [hty]; rfl) pX9_5 rfl ?_
      refine xEx.at (up_oI9 kc114 es3) ?_
      refine s_iconst (x := 1) (nx := 46) hO rfl (by decide) rfl ?_
      exact s_iret hO rfl rfl rfl ⟨rfl, _, _, rfl, rfl, H⟩
    · replace H := H.2 c13
      refine s_iconst (x := 0) (nx := 17) hO rfl (by decide) rfl ?_
      exact s_iret hO rfl rfl rfl ⟨rfl, _, _, rfl, rfl, H⟩
def W_X9_swap (s : yS) (Q : Int32 → yS → Prop) : Prop :=
 (((nI 2) ≤ (sI s 114 4) → W_X9_type s 1 
  (fun r1 => W_X9_type s (nI 2) 
  (fun r2 => W_X9_take s r1 
  (fun r3 s4 => ((r3 = 0 → Q 0 s4)
  ∧ (¬ r3 = 0 → W_X9_take s4 r2 
   (fun r5 s6 => ((r5 = 0 → Q 0 s6)
   ∧ (¬ r5 = 0 → W_X9_put s6 r1 
    (fun r7 s8 => ((r7 = 0 → Q 0 s8)
    ∧ (¬ r7 = 0 → W_X9_put s8 r2 
     (fun r9 s10 => ((r9 = 0 → Q 0 s10)
     ∧ (¬ r9 = 0 → Q 1 s10)))))))))))))))
 ∧ (¬ (nI 2) ≤ (sI s 114 4) → Q 0 s))
set_option maxRecDepth 100000 in
set_option maxHeartbeats 40000000 in
theorem w_X9_swap {G : xG} (hG : yG G) {z : Nat} {s : yS} {Q : Int32 → yS → Prop} (H : W_X9_swap s Q) : xC G mX9_swap [.ref (q_b G + 114)] (hS G s) z 0 0 (yQi G z Q) := by
  have hW := hG.1
  have hcl := hG.2.1
  have hty := hG.2.2.1
  have hO : xO G mX9_swap tbX9_swap ptX9_swap := ⟨tkX9_swap, pkX9_swap hcl⟩
  unfold W_X9_swap at H
  refine xC.of hW (by decide) rfl (Nat.le_of_ble_eq_true rfl) ?_
  refine s_aload_n (nx := 1) hO rfl rfl rfl ?_
  refine s_getf (v := .int (sI s 114 4)) (nx := 4) hO rfl rfl (hs_o9 kc114) rfl rfl ?_
  refine s_iconst (x := (nI 2)) (nx := 5) hO rfl (by decide) rfl ?_
  refine s_icmp_ge (nx := 8) hO rfl rfl (fun c5 => ?_) (fun c5 => ?_)
  · replace H := H.1 c5
    refine s_aload_n (nx := 11) hO rfl rfl rfl ?_
    refine s_iconst (x := 1) (nx := 12) hO rfl (by decide) rfl ?_
    refine s_callV [.int 1] (ci := 9) (F := TX9) (N := 8) (nx := 15) hO rfl kX9_swap_105 (by rw [hcl]; rfl) (hs_o9 kc114) (w_X9_type hG H) rfl rfl (Nat.le_of_ble_eq_true rfl) (Nat.zero_le _) (Nat.zero_le _) rfl (k_Pi (fun r1 H => ?_))
    refine s_istore_n (nx := 16) (l' := [(1, .int r1), (0, .ref (q_b G + 114))]) hO rfl (by decide) rfl rfl ?_
    refine s_aload_n (nx := 17) hO rfl rfl rfl ?_
    refine s_iconst (x := (nI 2)) (nx := 18) hO rfl (by decide) rfl ?_
    refine s_callV [.int (nI 2)] (ci := 9) (F := TX9) (N := 8) (nx := 21) hO rfl kX9_swap_105 (by rw [hcl]; rfl) (hs_o9 kc114) (w_X9_type hG H) rfl rfl (Nat.le_of_ble_eq_true rfl) (Nat.zero_le _) (Nat.zero_le _) rfl (k_Pi (fun r2 H => ?_))
    refine s_istore_n (nx := 22) (l' := [(2, .int r2), (1, .int r1), (0, .ref (q_b G + 114))]) hO rfl (by decide) rfl rfl ?_
    refine s_aload_n (nx := 23) hO rfl rfl rfl ?_
    refine s_iload_n (nx := 24) hO rfl rfl rfl ?_
    refine s_callV [.int r1] (ci := 9) (F := TX9) (N := 8) (nx := 27) hO rfl kX9_swap_109 (by rw [hcl]; rfl) (hs_o9 kc114) (w_X9_take hG H) rfl rfl (Nat.le_of_ble_eq_true rfl) (Nat.zero_le _) (Nat.zero_le _) rfl (k_Qi (fun r3 s4 H => ?_))
    refine s_if_eq (nx := 30) hO rfl rfl (fun c27 => ?_) (fun c27 => ?_)
    · replace H := H.1 c27
      refine s_iconst (x := 0) (nx := 59) hO rfl (by decide) rfl ?_
      exact s_iret hO rfl rfl rfl ⟨rfl, _, _, rfl, rfl, H⟩
    · replace H := H.2 c27
      refine s_aload_n (nx := 31) hO rfl rfl rfl ?_
      refine s_iload_n (nx := 32) hO rfl rfl rfl ?_
      refine s_callV [.int r2] (ci := 9) (F := TX9) (N := 8) (nx := 35) hO rfl kX9_swap_109 (by rw [hcl]; rfl) (hs_o9 kc114) (w_X9_take hG H) rfl rfl (Nat.le_of_ble_eq_true rfl) (Nat.zero_le _) (Nat.zero_le _) rfl (k_Qi (fun r5 s6 H => ?_))
      refine s_if_eq (nx := 38) hO rfl rfl (fun c35 => ?_) (fun c35 => ?_)
      · replace H := H.1 c35
        refine s_iconst (x := 0) (nx := 59) hO rfl (by decide) rfl ?_
        exact s_iret hO rfl rfl rfl ⟨rfl, _, _, rfl, rfl, H⟩
      · replace H := H.2 c35
        refine s_aload_n (nx := 39) hO rfl rfl rfl ?_
        refine s_iload_n (nx := 40) hO rfl rfl rfl ?_
        refine s_callV [.int r1] (ci := 9) (F := TX9) (N := 8) (nx := 43) hO rfl kX9_swap_102 (by rw [hcl]; rfl) (hs_o9 kc114) (w_X9_put hG H) rfl rfl (Nat.le_of_ble_eq_true rfl) (Nat.zero_le _) (Nat.zero_le _) rfl (k_Qi (fun r7 s8 H => ?_))
        refine s_if_eq (nx := 46) hO rfl rfl (fun c43 => ?_) (fun c43 => ?_)
        · replace H := H.1 c43
          refine s_iconst (x := 0) (nx := 59) hO rfl (by decide) rfl ?_
          exact s_iret hO rfl rfl rfl ⟨rfl, _, _, rfl, rfl, H⟩
        · replace H := H.2 c43
          refine s_aload_n (nx := 47) hO rfl rfl rfl ?_
          refine s_iload_n (nx := 48) hO rfl rfl rfl ?_
          refine s_callV [.int r2] (ci := 9) (F := TX9) (N := 8) (nx := 51) hO rfl kX9_swap_102 (by rw [hcl]; rfl) (hs_o9 kc114) (w_X9_put hG H) rfl rfl (Nat.le_of_ble_eq_true rfl) (Nat.zero_le _) (Nat.zero_le _) rfl (k_Qi (fun r9 s10 H => ?_))
          refine s_if_eq (nx := 54) hO rfl rfl (fun c51 => ?_) (fun c51 => ?_)
          · replace H := H.1 c51
            refine s_iconst (x := 0) (nx := 59) hO rfl (by decide) rfl ?_
            exact s_iret hO rfl rfl rfl ⟨rfl, _, _, rfl, rfl, H⟩
          · replace H := H.2 c51
            refine s_iconst (x := 1) (nx := 55) hO rfl (by decide) rfl ?_
            refine s_goto hO rfl ?_
            exact s_iret hO rfl rfl rfl ⟨rfl, _, _, rfl, rfl, H⟩
  · replace H := H.2 c5
    refine s_iconst (x := 0) (nx := 9) hO rfl (by decide) rfl ?_
    exact s_iret hO rfl rfl rfl ⟨rfl, _, _, rfl, rfl, H⟩
def W_X9_call (s : yS) (v1 : Int32) (Q : Int32 → yS → Prop) : Prop :=
 ∃ p1 : Nat, sR s 114 2 = p1 + 1 ∧ kd p1 = some (9, 0) ∧ 
 vp_in v1 12 ∧ 
 ∀ P12 : Int32 → yS → Prop, (∀ (x3 : Int32) (s4 : yS), (((x3 < 0 → ∃ p5 : Nat, sR s4 114 2 = p5 + 1 ∧ kd p5 = some (9, 0) ∧ 
   vp_in v1 12 ∧ 
   (((sI s4 (p5 + 4) (ix v1)) = 0 → Q 1 s4)
   ∧ (¬ (sI s4 (p5 + 4) (ix v1)) = 0 → ∃ p7 : Nat, sR s4 114 2 = p7 + 1 ∧ kd p7 = some (9, 0) ∧ 
    vp_in v1 12 ∧ 
    W_X9_put s4 ((sI s4 (p7 + 4) (ix v1)) - 1) 
    (fun r9 s10 => ((r9 = 0 → Q 0 s10)
    ∧ (¬ r9 = 0 → Q 1 s10))))))
  ∧ (¬ x3 < 0 → ∃ p11 : Nat, sR s4 114 2 = p11 + 1 ∧ kd p11 = some (9, 0) ∧ 
   vp_in v1 12 ∧ 
   W_X9_take s4 (((sI s4 (p11 + 3) (ix v1)) >>> (x3 &&& 31)) &&& 1) 
   (fun r13 s14 => ((¬ r13 = 0 → ∀ x15 : Int32, x15 = (x3 + (-1)) → 
    P12 x15 s14)
   ∧ (r13 = 0 → Q 0 s14)))))) → P12 x3 s4) → 
 ∀ x16 : Int32, x16 = ((sI s (p1 + 1) (ix v1)) - 1) → 
 P12 x16 s
set_option maxRecDepth 100000 in
set_option maxHeartbeats 40000000 in
theorem w_X9_call {G : xG} (hG : yG G) {z : Nat} {s : yS} {v1 : Int32} {Q : Int32 → yS → Prop} (H : W_X9_call s v1 Q) : xC G mX9_call [.ref (q_b G + 114), .int v1] (hS G s) z 0 0 (yQi G z Q) := by
  have hW := hG.1
  have hcl := hG.2.1
  have hty := hG.2.2.1
  have hO : xO G mX9_call tbX9_call ptX9_call := ⟨tkX9_call, pkX9_call hcl⟩
  unfold W_X9_call at H
  refine xC.of hW (by decide) rfl (Nat.le_of_ble_eq_true rfl) ?_
  refine s_aload_n (nx := 1) hO rfl rfl rfl ?_
  obtain ⟨p1, ep1, kp1, H⟩ := H
  refine s_getf (v := .ref (q_b G + p1)) (nx := 4) hO rfl rfl (hs_o9 kc114) (congrArg some (rv_at ep1)) rfl ?_
  refine s_getf (v := .ref (q_b G + (p1 + 1))) (nx := 7) hO rfl rfl (hs_o5 kp1) rfl rfl ?_
  refine s_iload_n (nx := 8) hO rfl rfl rfl ?_
  obtain ⟨b2, H⟩ := H
  refine s_iald (nx := 9) hO rfl (hs_I (kf5_1 kp1)) b2 rfl ?_
  refine s_iconst (x := 1) (nx := 10) hO rfl (by decide) rfl ?_
  refine s_isub (nx := 11) hO rfl rfl ?_
  refine goK (H (fun (x3 : Int32) (s4 : yS) => xEx G mX9_call 12 [(0, .ref (q_b G + 114)), (1, .int v1), (2, .int x3)] [] (hS G s4) z 0 0 (yQi G z Q)) (fun x3 s4 H => ?_)) (fun H => ?_)
  · show xEx G mX9_call 12 [(0, .ref (q_b G + 114)), (1, .int v1), (2, .int x3)] [] (hS G s4) z 0 0 (yQi G z Q)
    refine s_iload_n (nx := 13) hO rfl rfl rfl ?_
    refine s_if_lt (nx := 16) hO rfl rfl (fun c13 => ?_) (fun c13 => ?_)
    · replace H := H.1 c13
      refine s_aload_n (nx := 45) hO rfl rfl rfl ?_
      obtain ⟨p5, ep5, kp5, H⟩ := H
      refine s_getf (v := .ref (q_b G + p5)) (nx := 48) hO rfl rfl (hs_o9 kc114) (congrArg some (rv_at ep5)) rfl ?_
      refine s_getf (v := .ref (q_b G + (p5 + 4))) (nx := 51) hO rfl rfl (hs_o5 kp5) rfl rfl ?_
      refine s_iload_n (nx := 52) hO rfl rfl rfl ?_
      obtain ⟨b6, H⟩ := H
      refine s_iald (nx := 53) hO rfl (hs_I (kf5_4 kp5)) b6 rfl ?_
      refine s_if_eq (nx := 56) hO rfl rfl (fun c53 => ?_) (fun c53 => ?_)
      · replace H := H.1 c53
        refine s_iconst (x := 1) (nx := 75) hO rfl (by decide) rfl ?_
        refine s_goto hO rfl ?_
        exact s_iret hO rfl rfl rfl ⟨rfl, _, _, rfl, rfl, H⟩
      · replace H := H.2 c53
        refine s_aload_n (nx := 57) hO rfl rfl rfl ?_
        refine s_aload_n (nx := 58) hO rfl rfl rfl ?_
        obtain ⟨p7, ep7, kp7, H⟩ := H
        refine s_getf (v := .ref (q_b G + p7)) (nx := 61) hO rfl rfl (hs_o9 kc114) (congrArg some (rv_at ep7)) rfl ?_
        refine s_getf (v := .ref (q_b G + (p7 + 4))) (nx := 64) hO rfl rfl (hs_o5 kp7) rfl rfl ?_
        refine s_iload_n (nx := 65) hO rfl rfl rfl ?_
        obtain ⟨b8, H⟩ := H
        refine s_iald (nx := 66) hO rfl (hs_I (kf5_4 kp7)) b8 rfl ?_
        refine s_iconst (x := 1) (nx := 67) hO rfl (by decide) rfl ?_
        refine s_isub (nx := 68) hO rfl rfl ?_
        refine s_callV [.int ((sI s4 (p7 + 4) (ix v1)) - 1)] (ci := 9) (F := TX9) (N := 8) (nx := 71) hO rfl kX9_call_102 (by rw [hcl]; rfl) (hs_o9 kc114) (w_X9_put hG H) rfl rfl (Nat.le_of_ble_eq_true rfl) (Nat.zero_le _) (Nat.zero_le _) rfl (k_Qi (fun r9 s10 H => ?_))
        refine s_if_eq (nx := 74) hO rfl rfl (fun c71 => ?_) (fun c71 => ?_)
        · replace H := H.1 c71
          refine s_iconst (x := 0) (nx := 79) hO rfl (by decide) rfl ?_
          exact s_iret hO rfl rfl rfl ⟨rfl, _, _, rfl, rfl, H⟩
        · replace H := H.2 c71
          refine s_iconst (x := 1) (nx := 75) hO rfl (by decide) rfl ?_
          refine s_goto hO rfl ?_
          exact s_iret hO rfl rfl rfl ⟨rfl, _, _, rfl, rfl, H⟩
    · replace H := H.2 c13
      refine s_aload_n (nx := 17) hO rfl rfl rfl ?_
      refine s_aload_n (nx := 18) hO rfl rfl rfl ?_
      obtain ⟨p11, ep11, kp11, H⟩ := H
      refine s_getf (v := .ref (q_b G + p11)) (nx := 21) hO rfl rfl (hs_o9 kc114) (congrArg some (rv_at ep11)) rfl ?_
      refine s_getf (v := .ref (q_b G + (p11 + 3))) (nx := 24) hO rfl rfl (hs_o5 kp11) rfl rfl ?_
      refine s_iload_n (nx := 25) hO rfl rfl rfl ?_
      obtain ⟨b12, H⟩ := H
      refine s_iald (nx := 26) hO rfl (hs_I (kf5_3 kp11)) b12 rfl ?_
      refine s_iload_n (nx := 27) hO rfl rfl rfl ?_
      refine s_ishr (nx := 28) hO rfl rfl ?_
      refine s_iconst (x := 1) (nx := 29) hO rfl (by decide) rfl ?_
      refine s_iand (nx := 30) hO rfl rfl ?_
      refine s_callV [.int (((sI s4 (p11 + 3) (ix v1)) >>> (x3 &&& 31)) &&& 1)] (ci := 9) (F := TX9) (N := 8) (nx := 33) hO rfl kX9_call_109 (by rw [hcl]; rfl) (hs_o9 kc114) (w_X9_take hG H) rfl rfl (Nat.le_of_ble_eq_true rfl) (Nat.zero_le _) (Nat.zero_le _) rfl (k_Qi (fun r13 s14 H => ?_))
      refine s_if_ne (nx := 36) hO rfl rfl (fun c33 => ?_) (fun c33 => ?_)
      · replace H := H.1 c33
        refine goV ((x3 + (-1))) (fun x15 ex15 => ?_)
        replace H := H x15 ex15
        refine e_iinc (nx := 41) (l' := [(2, .int x15), (0, .ref (q_b G + 114)), (1, .int v1)]) ex15 hO rfl (by decide) rfl rfl rfl rfl ?_
        refine s_goto hO rfl ?_
        exact xEx.loc (x_sub1 (List.Mem.tail _ (List.Mem.head _)) (x_sub1 (List.Mem.tail _ (List.Mem.tail _ (List.Mem.head _))) (x_sub1 (List.Mem.head _) x_sub0))) H
      · replace H := H.2 c33
        refine s_iconst (x := 0) (nx := 37) hO rfl (by decide) rfl ?_
        exact s_iret hO rfl rfl rfl ⟨rfl, _, _, rfl, rfl, H⟩
  refine goV (((sI s (p1 + 1) (ix v1)) - 1)) (fun x16 ex16 => ?_)
  replace H := H x16 ex16
  refine e_istore_n (nx := 12) (l' := [(2, .int x16), (0, .ref (q_b G + 114)), (1, .int v1)]) ex16 hO rfl (by decide) rfl rfl ?_
  exact xEx.loc (x_sub1 (List.Mem.tail _ (List.Mem.head _)) (x_sub1 (List.Mem.tail _ (List.Mem.tail _ (List.Mem.head _))) (x_sub1 (List.Mem.head _) x_sub0))) H
def W_X9_hasInts (s : yS) (v1 : Int32) (Q : Int32 → Prop) : Prop :=
 (((sI s 114 4) < v1 → Q 0)
 ∧ (¬ (sI s 114 4) < v1 → ((¬ ((sI s 114 5) >>> (((sI s 114 4) - v1) &&& 31)) = 0 → Q 0)
  ∧ (((sI s 114 5) >>> (((sI s 114 4) - v1) &&& 31)) = 0 → Q 1))))
set_option maxRecDepth 100000 in
set_option maxHeartbeats 40000000 in
theorem w_X9_hasInts {G : xG} (hG : yG G) {z : Nat} {s : yS} {v1 : Int32} {Q : Int32 → Prop} (H : W_X9_hasInts s v1 Q) : xC G mX9_hasInts [.ref (q_b G + 114), .int v1] (hS G s) z 0 0 (yPi G z s Q) := by
  have hW := hG.1
  have hcl := hG.2.1
  have hty := hG.2.2.1
  have hO : xO G mX9_hasInts tbX9_hasInts ptX9_hasInts := ⟨tkX9_hasInts, pkX9_hasInts hcl⟩
  unfold W_X9_hasInts at H
  refine xC.of hW (by decide) rfl (Nat.le_of_ble_eq_true rfl) ?_
  refine s_aload_n (nx := 1) hO rfl rfl rfl ?_
  refine s_getf (v := .int (sI s 114 4)) (nx := 4) hO rfl rfl (hs_o9 kc114) rfl rfl ?_
  refine s_iload_n (nx := 5) hO rfl rfl rfl ?_
  refine s_icmp_lt (nx := 8) hO rfl rfl (fun c5 => ?_) (fun c5 => ?_)
  · replace H := H.1 c5
    refine s_iconst (x := 0) (nx := 27) hO rfl (by decide) rfl ?_
    exact s_iret hO rfl rfl rfl ⟨rfl, _, rfl, rfl, H⟩
  · replace H := H.2 c5
    refine s_aload_n (nx := 9) hO rfl rfl rfl ?_
    refine s_getf (v := .int (sI s 114 5)) (nx := 12) hO rfl rfl (hs_o9 kc114) rfl rfl ?_
    refine s_aload_n (nx := 13) hO rfl rfl rfl ?_
    refine s_getf (v := .int (sI s 114 4)) (nx := 16) hO rfl rfl (hs_o9 kc114) rfl rfl ?_
    refine s_iload_n (nx := 17) hO rfl rfl rfl ?_
    refine s_isub (nx := 18) hO rfl rfl ?_
    refine s_ishr (nx := 19) hO rfl rfl ?_
    refine s_if_ne (nx := 22) hO rfl rfl (fun c19 => ?_) (fun c19 => ?_)
    · replace H := H.1 c19
      refine s_iconst (x := 0) (nx := 27) hO rfl (by decide) rfl ?_
      exact s_iret hO rfl rfl rfl ⟨rfl, _, rfl, rfl, H⟩
    · replace H := H.2 c19
      refine s_iconst (x := 1) (nx := 23) hO rfl (by decide) rfl ?_
      refine s_goto hO rfl ?_
      exact s_iret hO rfl rfl rfl ⟨rfl, _, rfl, rfl, H⟩
def W_X9_takeInts (s : yS) (v1 : Int32) (Q : Int32 → yS → Prop) : Prop :=
 ∀ s1 : yS, s1 = wI s 114 4 ((sI s 114 4) - v1) → 
 Q 1 s1
set_option maxRecDepth 100000 in
set_option maxHeartbeats 40000000 in
theorem w_X9_takeInts {G : xG} (hG : yG G) {z : Nat} {s : yS} {v1 : Int32} {Q : Int32 → yS → Prop} (H : W_X9_takeInts s v1 Q) : xC G mX9_takeInts [.ref (q_b G + 114), .int v1] (hS G s) z 0 0 (yQi G z Q) := by
  have hW := hG.1
  have hcl := hG.2.1
  have hty := hG.2.2.1
  have hO : xO G mX9_takeInts tbX9_takeInts ptX9_takeInts := ⟨tkX9_takeInts, pkX9_takeInts hcl⟩
  unfold W_X9_takeInts at H
  refine xC.of hW (by decide) rfl (Nat.le_of_ble_eq_true rfl) ?_
  refine s_aload_n (nx := 1) hO rfl rfl rfl ?_
  refine s_dup (nx := 2) hO rfl rfl rfl ?_
  refine s_getf (v := .int (sI s 114 4)) (nx := 5) hO rfl rfl (hs_o9 kc114) rfl rfl ?_
  refine s_iload_n (nx := 6) hO rfl rfl rfl ?_
  refine s_isub (nx := 7) hO rfl rfl ?_
  refine goV (wI s 114 4 ((sI s 114 4) - v1)) (fun s1 es1 => ?_)
  replace H := H s1 es1
  refine s_putf (nx := 10) hO rfl rfl (hs_o9 kc114) (Nat.le_of_ble_eq_true rfl) (by rw [hty]; rfl) (by rw [hty]; rfl) pX9_4 rfl ?_
  refine xEx.at (up_oI9 kc114 es1) ?_
  refine s_iconst (x := 1) (nx := 11) hO rfl (by decide) rfl ?_
  exact s_iret hO rfl rfl rfl ⟨rfl, _, _, rfl, rfl, H⟩
def W_X9_change (s : yS) (v1 : Int32) (v2 : Int32) (Q : Int32 → yS → Prop) : Prop :=
 ((((v1).toInt < 0 ∨ 29 < (v1).toInt) → W_X9_take s 0 
  (fun r1 s2 => ((r1 = 0 → Q 0 s2)
  ∧ (¬ r1 = 0 → W_X9_take s2 0 
   (fun r3 s4 => ((r3 = 0 → Q 0 s4)
   ∧ (¬ r3 = 0 → W_X9_put s4 0 
    (fun r5 s6 => ((r5 = 0 → Q 0 s6)
    ∧ (¬ r5 = 0 → Q 1 s6))))))))))
 ∧ ((v1).toInt = 0 → W_X9_put s 0 
   (fun r7 s8 => zb r7 ∧ Q r7 s8))
 ∧ ((v1).toInt = 1 → (((sI s 114 4) ≤ 0 → Q 0 s)
   ∧ (¬ (sI s 114 4) ≤ 0 → W_X9_type s 1 
    (fun r10 => W_X9_take s r10 
    (fun r11 s12 => ((r11 = 0 → Q 0 s12)
    ∧ (¬ r11 = 0 → Q 1 s12)))))))
 ∧ ((v1).toInt = 2 → (((sI s 114 4) ≤ 0 → Q 0 s)
   ∧ (¬ (sI s 114 4) ≤ 0 → W_X9_type s 1 
    (fun r13 => W_X9_put s r13 
    (fun r14 s15 => ((r14 = 0 → Q 0 s15)
    ∧ (¬ r14 = 0 → Q 1 s15)))))))
 ∧ ((v1).toInt = 3 → W_X9_swap s 
   (fun r16 s17 => zb r16 ∧ Q r16 s17))
 ∧ ((v1).toInt = 4 → ∃ p19 : Nat, sR s 114 2 = p19 + 1 ∧ kd p19 = some (9, 0) ∧ 
   vp_in (sI s 114 3) 12 ∧ 
   W_X9_put s (((sI s (p19 + 3) (ix (sI s 114 3))) >>> (v2 &&& 31)) &&& 1) 
   (fun r21 s22 => zb r21 ∧ Q r21 s22))
 ∧ ((v1).toInt = 5 → ∃ p24 : Nat, sR s 114 2 = p24 + 1 ∧ kd p24 = some (9, 0) ∧ 
   vp_in (sI s 114 3) 12 ∧ 
   W_X9_take s (((sI s (p24 + 3) (ix (sI s 114 3))) >>> (v2 &&& 31)) &&& 1) 
   (fun r26 s27 => zb r26 ∧ Q r26 s27))
 ∧ ((v1).toInt = 6 → W_X9_take s 0 
   (fun r29 s30 => ((r29 = 0 → Q 0 s30)
   ∧ (¬ r29 = 0 → W_X9_take s30 0 
    (fun r31 s32 => ((r31 = 0 → Q 0 s32)
    ∧ (¬ r31 = 0 → W_X9_put s32 0 
     (fun r33 s34 => ((r33 = 0 → Q 0 s34)
     ∧ (¬ r33 = 0 → Q 1 s34))))))))))
 ∧ ((v1).toInt = 7 → W_X9_take s 0 
   (fun r35 s36 => ((r35 = 0 → Q 0 s36)
   ∧ (¬ r35 = 0 → W_X9_take s36 0 
    (fun r37 s38 => ((r37 = 0 → Q 0 s38)
    ∧ (¬ r37 = 0 → W_X9_put s38 0 
     (fun r39 s40 => ((r39 = 0 → Q 0 s40)
     ∧ (¬ r39 = 0 → Q 1 s40))))))))))
 ∧ ((v1).toInt = 8 → W_X9_take s 0 
   (fun r41 s42 => ((r41 = 0 → Q 0 s42)
   ∧ (¬ r41 = 0 → W_X9_take s42 0 
    (fun r43 s44 => ((r43 = 0 → Q 0 s44)
    ∧ (¬ r43 = 0 → W_X9_put s44 0 
     (fun r45 s46 => ((r45 = 0 → Q 0 s46)
     ∧ (¬ r45 = 0 → Q 1 s46))))))))))
 ∧ ((v1).toInt = 9 → W_X9_take s 0 
   (fun r47 s48 => ((r47 = 0 → Q 0 s48)
   ∧ (¬ r47 = 0 → W_X9_take s48 0 
    (fun r49 s50 => ((r49 = 0 → Q 0 s50)
    ∧ (¬ r49 = 0 → W_X9_put s50 0 
     (fun r51 s52 => ((r51 = 0 → Q 0 s52)
     ∧ (¬ r51 = 0 → Q 1 s52))))))))))
 ∧ ((v1).toInt = 10 → W_X9_take s 0 
   (fun r53 s54 => ((r53 = 0 → Q 0 s54)
   ∧ (¬ r53 = 0 → W_X9_take s54 0 
    (fun r55 s56 => ((r55 = 0 → Q 0 s56)
    ∧ (¬ r55 = 0 → W_X9_put s56 0 
     (fun r57 s58 => ((r57 = 0 → Q 0 s58)
     ∧ (¬ r57 = 0 → Q 1 s58))))))))))
 ∧ ((v1).toInt = 11 → W_X9_take s 0 
   (fun r59 s60 => ((r59 = 0 → Q 0 s60)
   ∧ (¬ r59 = 0 → W_X9_take s60 0 
    (fun r61 s62 => ((r61 = 0 → Q 0 s62)
    ∧ (¬ r61 = 0 → W_X9_put s62 0 
     (fun r63 s64 => ((r63 = 0 → Q 0 s64)
     ∧ (¬ r63 = 0 → Q 1 s64))))))))))
 ∧ ((v1).toInt = 12 → W_X9_take s 0 
   (fun r65 s66 => ((r65 = 0 → Q 0 s66)
   ∧ (¬ r65 = 0 → W_X9_take s66 0 
    (fun r67 s68 => ((r67 = 0 → Q 0 s68)
    ∧ (¬ r67 = 0 → W_X9_put s68 0 
     (fun r69 s70 => ((r69 = 0 → Q 0 s70)
     ∧ (¬ r69 = 0 → Q 1 s70))))))))))
 ∧ ((v1).toInt = 13 → W_X9_take s 0 
   (fun r71 s72 => ((r71 = 0 → Q 0 s72)
   ∧ (¬ r71 = 0 → W_X9_take s72 0 
    (fun r73 s74 => ((r73 = 0 → Q 0 s74)
    ∧ (¬ r73 = 0 → W_X9_put s74 0 
     (fun r75 s76 => ((r75 = 0 → Q 0 s76)
     ∧ (¬ r75 = 0 → Q 1 s76))))))))))
 ∧ ((v1).toInt = 14 → W_X9_take s 0 
   (fun r77 s78 => ((r77 = 0 → Q 0 s78)
   ∧ (¬ r77 = 0 → W_X9_take s78 0 
    (fun r79 s80 => ((r79 = 0 → Q 0 s80)
    ∧ (¬ r79 = 0 → W_X9_put s80 0 
     (fun r81 s82 => ((r81 = 0 → Q 0 s82)
     ∧ (¬ r81 = 0 → Q 1 s82))))))))))
 ∧ ((v1).toInt = 15 → W_X9_take s 0 
   (fun r83 s84 => ((r83 = 0 → Q 0 s84)
   ∧ (¬ r83 = 0 → W_X9_take s84 0 
    (fun r85 s86 => ((r85 = 0 → Q 0 s86)
    ∧ (¬ r85 = 0 → W_X9_put s86 0 
     (fun r87 s88 => ((r87 = 0 → Q 0 s88)
     ∧ (¬ r87 = 0 → Q 1 s88))))))))))
 ∧ ((v1).toInt = 16 → W_X9_take s 0 
   (fun r89 s90 => ((r89 = 0 → Q 0 s90)
   ∧ (¬ r89 = 0 → W_X9_take s90 0 
    (fun r91 s92 => ((r91 = 0 → Q 0 s92)
    ∧ (¬ r91 = 0 → W_X9_put s92 0 
     (fun r93 s94 => ((r93 = 0 → Q 0 s94)
     ∧ (¬ r93 = 0 → Q 1 s94))))))))))
 ∧ ((v1).toInt = 17 → W_X9_take s 0 
   (fun r95 s96 => ((r95 = 0 → Q 0 s96)
   ∧ (¬ r95 = 0 → W_X9_take s96 0 
    (fun r97 s98 => ((r97 = 0 → Q 0 s98)
    ∧ (¬ r97 = 0 → W_X9_put s98 0 
     (fun r99 s100 => ((r99 = 0 → Q 0 s100)
     ∧ (¬ r99 = 0 → Q 1 s100))))))))))
 ∧ ((v1).toInt = 18 → Q 1 s)
 ∧ ((v1).toInt = 19 → W_X9_take s 0 
   (fun r101 s102 => zb r101 ∧ Q r101 s102))
 ∧ ((v1).toInt = 20 → W_X9_take s 0 
   (fun r104 s105 => zb r104 ∧ Q r104 s105))
 ∧ ((v1).toInt = 21 → W_X9_take s 0 
   (fun r107 s108 => ((r107 = 0 → Q 0 s108)
   ∧ (¬ r107 = 0 → W_X9_put s108 1 
    (fun r109 s110 => ((r109 = 0 → Q 0 s110)
    ∧ (¬ r109 = 0 → Q 1 s110)))))))
 ∧ ((v1).toInt = 22 → W_X9_take s 0 
   (fun r111 s112 => ((r111 = 0 → Q 0 s112)
   ∧ (¬ r111 = 0 → W_X9_take s112 1 
    (fun r113 s114 => ((r113 = 0 → Q 0 s114)
    ∧ (¬ r113 = 0 → W_X9_put s114 0 
     (fun r115 s116 => ((r115 = 0 → Q 0 s116)
     ∧ (¬ r115 = 0 → Q 1 s116))))))))))
 ∧ ((v1).toInt = 23 → W_X9_take s 0 
   (fun r117 s118 => ((r117 = 0 → Q 0 s118)
   ∧ (¬ r117 = 0 → W_X9_take s118 0 
    (fun r119 s120 => ((r119 = 0 → Q 0 s120)
    ∧ (¬ r119 = 0 → W_X9_take s120 1 
     (fun r121 s122 => ((r121 = 0 → Q 0 s122)
     ∧ (¬ r121 = 0 → Q 1 s122))))))))))
 ∧ ((v1).toInt = 24 → W_X9_take s 1 
   (fun r123 s124 => ((r123 = 0 → Q 0 s124)
   ∧ (¬ r123 = 0 → W_X9_put s124 0 
    (fun r125 s126 => ((r125 = 0 → Q 0 s126)
    ∧ (¬ r125 = 0 → Q 1 s126)))))))
 ∧ ((v1).toInt = 25 → W_X9_call s v2 
   (fun r127 s128 => zb r127 ∧ Q r127 s128))
 ∧ ((v1).toInt = 26 → W_X9_hasInts s (v2 - v2 / (nI 4) * (nI 4)) 
   (fun r130 => ((r130 = 0 → Q 0 s)
   ∧ (¬ r130 = 0 → W_X9_takeInts s (v2 - v2 / (nI 4) * (nI 4)) 
    (fun r131 s132 => ((r131 = 0 → Q 0 s132)
    ∧ (¬ r131 = 0 → W_X9_put s132 0 
     (fun r133 s134 => ((r133 = 0 → Q 0 s134)
     ∧ (¬ r133 = 0 → Q 1 s134))))))))))
 ∧ ((v1).toInt = 27 → ∃ p135 : Nat, sR s 114 2 = p135 + 1 ∧ kd p135 = some (9, 0) ∧ 
   vp_in (sI s 114 3) 12 ∧ 
   (((sI s (p135 + 4) (ix (sI s 114 3))) = 0 → Q 1 s)
   ∧ (¬ (sI s (p135 + 4) (ix (sI s 114 3))) = 0 → ∃ p137 : Nat, sR s 114 2 = p137 + 1 ∧ kd p137 = some (9, 0) ∧ 
    vp_in (sI s 114 3) 12 ∧ 
    W_X9_take s ((sI s (p137 + 4) (ix (sI s 114 3))) - 1) 
    (fun r139 s140 => ((r139 = 0 → Q 0 s140)
    ∧ (¬ r139 = 0 → Q 1 s140))))))
 ∧ ((v1).toInt = 28 → W_X9_take s 0 
   (fun r141 s142 => zb r141 ∧ Q r141 s142))
 ∧ ((v1).toInt = 29 → W_X9_hasInts s (v2 - v2 / (nI 4) * (nI 4)) 
   (fun r144 => zb r144 ∧ Q r144 s)))
set_option maxRecDepth 100000 in
set_option maxHeartbeats 40000000 in
theorem w_X9_change {G : xG} (hG : yG G) {z : Nat} {s : yS} {v1 : Int32} {v2 : Int32} {Q : Int32 → yS → Prop} (H : W_X9_change s v1 v2 Q) : xC G mX9_change [.ref (q_b G + 114), .int v1, .int v2] (hS G s) z 0 0 (yQi G z Q) := by
  have hW := hG.1
  have hcl := hG.2.1
  have hty := hG.2.2.1
  have hO : xO G mX9_change tbX9_change ptX9_change := ⟨tkX9_change, pkX9_change hcl⟩
  unfold W_X9_change at H
  refine xC.of hW (by decide) rfl (Nat.le_of_ble_eq_true rfl) ?_
  refine s_iload_n (nx := 1) hO rfl rfl rfl ?_
  refine s_switch hO rfl (fun c1 => ?_) (fun dc1 fc1 => ?_)
  · replace H := H.1 c1
    refine s_aload_n (nx := 442) hO rfl rfl rfl ?_
    refine s_iconst (x := 0) (nx := 443) hO rfl (by decide) rfl ?_
    refine s_callV [.int 0] (ci := 9) (F := TX9) (N := 8) (nx := 446) hO rfl kX9_change_109 (by rw [hcl]; rfl) (hs_o9 kc114) (w_X9_take hG H) rfl rfl (Nat.le_of_ble_eq_true rfl) (Nat.zero_le _) (Nat.zero_le _) rfl (k_Qi (fun r1 s2 H => ?_))
    refine s_if_eq (nx := 449) hO rfl rfl (fun c446 => ?_) (fun c446 => ?_)
    · replace H := H.1 c446
      refine s_iconst (x := 0) (nx := 470) hO rfl (by decide) rfl ?_
      exact s_iret hO rfl rfl rfl ⟨rfl, _, _, rfl, rfl, H⟩
    · replace H := H.2 c446
      refine s_aload_n (nx := 450) hO rfl rfl rfl ?_
      refine s_iconst (x := 0) (nx := 451) hO rfl (by decide) rfl ?_
      refine s_callV [.int 0] (ci := 9) (F := TX9) (N := 8) (nx := 454) hO rfl kX9_change_109 (by rw [hcl]; rfl) (hs_o9 kc114) (w_X9_take hG H) rfl rfl (Nat.le_of_ble_eq_true rfl) (Nat.zero_le _) (Nat.zero_le _) rfl (k_Qi (fun r3 s4 H => ?_))
      refine s_if_eq (nx := 457) hO rfl rfl (fun c454 => ?_) (fun c454 => ?_)
      · replace H := H.1 c454
        refine s_iconst (x := 0) (nx := 470) hO rfl (by decide) rfl ?_
        exact s_iret hO rfl rfl rfl ⟨rfl, _, _, rfl, rfl, H⟩
      · replace H := H.2 c454
        refine s_aload_n (nx := 458) hO rfl rfl rfl ?_
        refine s_iconst (x := 0) (nx := 459) hO rfl (by decide) rfl ?_
        refine s_callV [.int 0] (ci := 9) (F := TX9) (N := 8) (nx := 462) hO rfl kX9_change_102 (by rw [hcl]; rfl) (hs_o9 kc114) (w_X9_put hG H) rfl rfl (Nat.le_of_ble_eq_true rfl) (Nat.zero_le _) (Nat.zero_le _) rfl (k_Qi (fun r5 s6 H => ?_))
        refine s_if_eq (nx := 465) hO rfl rfl (fun c462 => ?_) (fun c462 => ?_)
        · replace H := H.1 c462
          refine s_iconst (x := 0) (nx := 470) hO rfl (by decide) rfl ?_
          exact s_iret hO rfl rfl rfl ⟨rfl, _, _, rfl, rfl, H⟩
        · replace H := H.2 c462
          refine s_iconst (x := 1) (nx := 466) hO rfl (by decide) rfl ?_
          refine s_goto hO rfl ?_
          exact s_iret hO rfl rfl rfl ⟨rfl, _, _, rfl, rfl, H⟩
  · obtain c1 | c1 | c1 | c1 | c1 | c1 | c1 | c1 | c1 | c1 | c1 | c1 | c1 | c1 | c1 | c1 | c1 | c1 | c1 | c1 | c1 | c1 | c1 | c1 | c1 | c1 | c1 | c1 | c1 | c1 : (v1).toInt = 0 ∨ (v1).toInt = 1 ∨ (v1).toInt = 2 ∨ (v1).toInt = 3 ∨ (v1).toInt = 4 ∨ (v1).toInt = 5 ∨ (v1).toInt = 6 ∨ (v1).toInt = 7 ∨ (v1).toInt = 8 ∨ (v1).toInt = 9 ∨ (v1).toInt = 10 ∨ (v1).toInt = 11 ∨ (v1).toInt = 12 ∨ (v1).toInt = 13 ∨ (v1).toInt = 14 ∨ (v1).toInt = 15 ∨ (v1).toInt = 16 ∨ (v1).toInt = 17 ∨ (v1).toInt = 18 ∨ (v1).toInt = 19 ∨ (v1).toInt = 20 ∨ (v1).toInt = 21 ∨ (v1).toInt = 22 ∨ (v1).toInt = 23 ∨ (v1).toInt = 24 ∨ (v1).toInt = 25 ∨ (v1).toInt = 26 ∨ (v1).toInt = 27 ∨ (v1).toInt = 28 ∨ (v1).toInt = 29 := by omega
    · replace H := H.2.1 c1
      refine ⟨136, by rw [c1]; rfl, ?_⟩
      refine s_aload_n (nx := 137) hO rfl rfl rfl ?_
      refine s_iconst (x := 0) (nx := 138) hO rfl (by decide) rfl ?_
      refine s_callV [.int 0] (ci := 9) (F := TX9) (N := 8) (nx := 141) hO rfl kX9_change_102 (by rw [hcl]; rfl) (hs_o9 kc114) (w_X9_put hG H) rfl rfl (Nat.le_of_ble_eq_true rfl) (Nat.zero_le _) (Nat.zero_le _) rfl (k_Qi (fun r7 s8 H => ?_))
      obtain ⟨b9, H⟩ := H
      exact s_iret hO rfl rfl (zb_n b9) ⟨rfl, _, _, rfl, rfl, H⟩
    · replace H := H.2.2.1 c1
      refine ⟨142, by rw [c1]; rfl, ?_⟩
      refine s_aload_n (nx := 143) hO rfl rfl rfl ?_
      refine s_getf (v := .int (sI s 114 4)) (nx := 146) hO rfl rfl (hs_o9 kc114) rfl rfl ?_
      refine s_if_le (nx := 149) hO rfl rfl (fun c146 => ?_) (fun c146 => ?_)
      · replace H := H.1 c146
        refine s_iconst (x := 0) (nx := 166) hO rfl (by decide) rfl ?_
        exact s_iret hO rfl rfl rfl ⟨rfl, _, _, rfl, rfl, H⟩
      · replace H := H.2 c146
        refine s_aload_n (nx := 150) hO rfl rfl rfl ?_
        refine s_aload_n (nx := 151) hO rfl rfl rfl ?_
        refine s_iconst (x := 1) (nx := 152) hO rfl (by decide) rfl ?_
        refine s_callV [.int 1] (ci := 9) (F := TX9) (N := 8) (nx := 155) hO rfl kX9_change_105 (by rw [hcl]; rfl) (hs_o9 kc114) (w_X9_type hG H) rfl rfl (Nat.le_of_ble_eq_true rfl) (Nat.zero_le _) (Nat.zero_le _) rfl (k_Pi (fun r10 H => ?_))
        refine s_callV [.int r10] (ci := 9) (F := TX9) (N := 8) (nx := 158) hO rfl kX9_change_109 (by rw [hcl]; rfl) (hs_o9 kc114) (w_X9_take hG H) rfl rfl (Nat.le_of_ble_eq_true rfl) (Nat.zero_le _) (Nat.zero_le _) rfl (k_Qi (fun r11 s12 H => ?_))
        refine s_if_eq (nx := 161) hO rfl rfl (fun c158 => ?_) (fun c158 => ?_)
        · replace H := H.1 c158
          refine s_iconst (x := 0) (nx := 166) hO rfl (by decide) rfl ?_
          exact s_iret hO rfl rfl rfl ⟨rfl, _, _, rfl, rfl, H⟩
        · replace H := H.2 c158
          refine s_iconst (x := 1) (nx := 162) hO rfl (by decide) rfl ?_
          refine s_goto hO rfl ?_
          exact s_iret hO rfl rfl rfl ⟨rfl, _, _, rfl, rfl, H⟩
    · replace H := H.2.2.2.1 c1
      refine ⟨167, by rw [c1]; rfl, ?_⟩
      refine s_aload_n (nx := 168) hO rfl rfl rfl ?_
      refine s_getf (v := .int (sI s 114 4)) (nx := 171) hO rfl rfl (hs_o9 kc114) rfl rfl ?_
      refine s_if_le (nx := 174) hO rfl rfl (fun c171 => ?_) (fun c171 => ?_)
      · replace H := H.1 c171
        refine s_iconst (x := 0) (nx := 191) hO rfl (by decide) rfl ?_
        exact s_iret hO rfl rfl rfl ⟨rfl, _, _, rfl, rfl, H⟩
      · replace H := H.2 c171
        refine s_aload_n (nx := 175) hO rfl rfl rfl ?_
        refine s_aload_n (nx := 176) hO rfl rfl rfl ?_
        refine s_iconst (x := 1) (nx := 177) hO rfl (by decide) rfl ?_
        refine s_callV [.int 1] (ci := 9) (F := TX9) (N := 8) (nx := 180) hO rfl kX9_change_105 (by rw [hcl]; rfl) (hs_o9 kc114) (w_X9_type hG H) rfl rfl (Nat.le_of_ble_eq_true rfl) (Nat.zero_le _) (Nat.zero_le _) rfl (k_Pi (fun r13 H => ?_))
        refine s_callV [.int r13] (ci := 9) (F := TX9) (N := 8) (nx := 183) hO rfl kX9_change_102 (by rw [hcl]; rfl) (hs_o9 kc114) (w_X9_put hG H) rfl rfl (Nat.le_of_ble_eq_true rfl) (Nat.zero_le _) (Nat.zero_le _) rfl (k_Qi (fun r14 s15 H => ?_))
        refine s_if_eq (nx := 186) hO rfl rfl (fun c183 => ?_) (fun c183 => ?_)
        · replace H := H.1 c183
          refine s_iconst (x := 0) (nx := 191) hO rfl (by decide) rfl ?_
          exact s_iret hO rfl rfl rfl ⟨rfl, _, _, rfl, rfl, H⟩
        · replace H := H.2 c183
          refine s_iconst (x := 1) (nx := 187) hO rfl (by decide) rfl ?_
          refine s_goto hO rfl ?_
          exact s_iret hO rfl rfl rfl ⟨rfl, _, _, rfl, rfl, H⟩
    · replace H := H.2.2.2.2.1 c1
      refine ⟨192, by rw [c1]; rfl, ?_⟩
      refine s_aload_n (nx := 193) hO rfl rfl rfl ?_
      refine s_callV [] (ci := 9) (F := TX9) (N := 8) (nx := 196) hO rfl kX9_change_112 (by rw [hcl]; rfl) (hs_o9 kc114) (w_X9_swap hG H) rfl rfl (Nat.le_of_ble_eq_true rfl) (Nat.zero_le _) (Nat.zero_le _) rfl (k_Qi (fun r16 s17 H => ?_))
      obtain ⟨b18, H⟩ := H
      exact s_iret hO rfl rfl (zb_n b18) ⟨rfl, _, _, rfl, rfl, H⟩
    · replace H := H.2.2.2.2.2.1 c1
      refine ⟨197, by rw [c1]; rfl, ?_⟩
      refine s_aload_n (nx := 198) hO rfl rfl rfl ?_
      refine s_aload_n (nx := 199) hO rfl rfl rfl ?_
      obtain ⟨p19, ep19, kp19, H⟩ := H
      refine s_getf (v := .ref (q_b G + p19)) (nx := 202) hO rfl rfl (hs_o9 kc114) (congrArg some (rv_at ep19)) rfl ?_
      refine s_getf (v := .ref (q_b G + (p19 + 3))) (nx := 205) hO rfl rfl (hs_o5 kp19) rfl rfl ?_
      refine s_aload_n (nx := 206) hO rfl rfl rfl ?_
      refine s_getf (v := .int (sI s 114 3)) (nx := 209) hO rfl rfl (hs_o9 kc114) rfl rfl ?_
      obtain ⟨b20, H⟩ := H
      refine s_iald (nx := 210) hO rfl (hs_I (kf5_3 kp19)) b20 rfl ?_
      refine s_iload_n (nx := 211) hO rfl rfl rfl ?_
      refine s_ishr (nx := 212) hO rfl rfl ?_
      refine s_iconst (x := 1) (nx := 213) hO rfl (by decide) rfl ?_
      refine s_iand (nx := 214) hO rfl rfl ?_
      refine s_callV [.int (((sI s (p19 + 3) (ix (sI s 114 3))) >>> (v2 &&& 31)) &&& 1)] (ci := 9) (F := TX9) (N := 8) (nx := 217) hO rfl kX9_change_102 (by rw [hcl]; rfl) (hs_o9 kc114) (w_X9_put hG H) rfl rfl (Nat.le_of_ble_eq_true rfl) (Nat.zero_le _) (Nat.zero_le _) rfl (k_Qi (fun r21 s22 H => ?_))
      obtain ⟨b23, H⟩ := H
      exact s_iret hO rfl rfl (zb_n b23) ⟨rfl, _, _, rfl, rfl, H⟩
    · replace H := H.2.2.2.2.2.2.1 c1
      refine ⟨218, by rw [c1]; rfl, ?_⟩
      refine s_aload_n (nx := 219) hO rfl rfl rfl ?_
      refine s_aload_n (nx := 220) hO rfl rfl rfl ?_
      obtain ⟨p24, ep24, kp24, H⟩ := H
      refine s_getf (v := .ref (q_b G + p24)) (nx := 223) hO rfl rfl (hs_o9 kc114) (congrArg some (rv_at ep24)) rfl ?_
      refine s_getf (v := .ref (q_b G + (p24 + 3))) (nx := 226) hO rfl rfl (hs_o5 kp24) rfl rfl ?_
      refine s_aload_n (nx := 227) hO rfl rfl rfl ?_
      refine s_getf (v := .int (sI s 114 3)) (nx := 230) hO rfl rfl (hs_o9 kc114) rfl rfl ?_
      obtain ⟨b25, H⟩ := H
      refine s_iald (nx := 231) hO rfl (hs_I (kf5_3 kp24)) b25 rfl ?_
      refine s_iload_n (nx := 232) hO rfl rfl rfl ?_
      refine s_ishr (nx := 233) hO rfl rfl ?_
      refine s_iconst (x := 1) (nx := 234) hO rfl (by decide) rfl ?_
      refine s_iand (nx := 235) hO rfl rfl ?_
      refine s_callV [.int (((sI s (p24 + 3) (ix (sI s 114 3))) >>> (v2 &&& 31)) &&& 1)] (ci := 9) (F := TX9) (N := 8) (nx := 238) hO rfl kX9_change_109 (by rw [hcl]; rfl) (hs_o9 kc114) (w_X9_take hG H) rfl rfl (Nat.le_of_ble_eq_true rfl) (Nat.zero_le _) (Nat.zero_le _) rfl (k_Qi (fun r26 s27 H => ?_))
      obtain ⟨b28, H⟩ := H
      exact s_iret hO rfl rfl (zb_n b28) ⟨rfl, _, _, rfl, rfl, H⟩
    · replace H := H.2.2.2.2.2.2.2.1 c1
      refine ⟨441, by rw [c1]; rfl, ?_⟩
      refine s_aload_n (nx := 442) hO rfl rfl rfl ?_
      refine s_iconst (x := 0) (nx := 443) hO rfl (by decide) rfl ?_
      refine s_callV [.int 0] (ci := 9) (F := TX9) (N := 8) (nx := 446) hO rfl kX9_change_109 (by rw [hcl]; rfl) (hs_o9 kc114) (w_X9_take hG H) rfl rfl (Nat.le_of_ble_eq_true rfl) (Nat.zero_le _) (Nat.zero_le _) rfl (k_Qi (fun r29 s30 H => ?_))
      refine s_if_eq (nx := 449) hO rfl rfl (fun c446 => ?_) (fun c446 => ?_)
      · replace H := H.1 c446
        refine s_iconst (x := 0) (nx := 470) hO rfl (by decide) rfl ?_
        exact s_iret hO rfl rfl rfl ⟨rfl, _, _, rfl, rfl, H⟩
      · replace H := H.2 c446
        refine s_aload_n (nx := 450) hO rfl rfl rfl ?_
        refine s_iconst (x := 0) (nx := 451) hO rfl (by decide) rfl ?_
        refine s_callV [.int 0] (ci := 9) (F := TX9) (N := 8) (nx := 454) hO rfl kX9_change_109 (by rw [hcl]; rfl) (hs_o9 kc114) (w_X9_take hG H) rfl rfl (Nat.le_of_ble_eq_true rfl) (Nat.zero_le _) (Nat.zero_le _) rfl (k_Qi (fun r31 s32 H => ?_))
        refine s_if_eq (nx := 457) hO rfl rfl (fun c454 => ?_) (fun c454 => ?_)
        · replace H := H.1 c454
          refine s_iconst (x := 0) (nx := 470) hO rfl (by decide) rfl ?_
          exact s_iret hO rfl rfl rfl ⟨rfl, _, _, rfl, rfl, H⟩
        · replace H := H.2 c454
          refine s_aload_n (nx := 458) hO rfl rfl rfl ?_
          refine s_iconst (x := 0) (nx := 459) hO rfl (by decide) rfl ?_
          refine s_callV [.int 0] (ci := 9) (F := TX9) (N := 8) (nx := 462) hO rfl kX9_change_102 (by rw [hcl]; rfl) (hs_o9 kc114) (w_X9_put hG H) rfl rfl (Nat.le_of_ble_eq_true rfl) (Nat.zero_le _) (Nat.zero_le _) rfl (k_Qi (fun r33 s34 H => ?_))
          refine s_if_eq (nx := 465) hO rfl rfl (fun c462 => ?_) (fun c462 => ?_)
          · replace H := H.1 c462
            refine s_iconst (x := 0) (nx := 470) hO rfl (by decide) rfl ?_
            exact s_iret hO rfl rfl rfl ⟨rfl, _, _, rfl, rfl, H⟩
          · replace H := H.2 c462
            refine s_iconst (x := 1) (nx := 466) hO rfl (by decide) rfl ?_
            refine s_goto hO rfl ?_
            exact s_iret hO rfl rfl rfl ⟨rfl, _, _, rfl, rfl, H⟩
    · replace H := H.2.2.2.2.2.2.2.2.1 c1
      refine ⟨441, by rw [c1]; rfl, ?_⟩
      refine s_aload_n (nx := 442) hO rfl rfl rfl ?_
      refine s_iconst (x := 0) (nx := 443) hO rfl (by decide) rfl ?_
      refine s_callV [.int 0] (ci := 9) (F := TX9) (N := 8) (nx := 446) hO rfl kX9_change_109 (by rw [hcl]; rfl) (hs_o9 kc114) (w_X9_take hG H) rfl rfl (Nat.le_of_ble_eq_true rfl) (Nat.zero_le _) (Nat.zero_le _) rfl (k_Qi (fun r35 s36 H => ?_))
      refine s_if_eq (nx := 449) hO rfl rfl (fun c446 => ?_) (fun c446 => ?_)
      · replace H := H.1 c446
        refine s_iconst (x := 0) (nx := 470) hO rfl (by decide) rfl ?_
        exact s_iret hO rfl rfl rfl ⟨rfl, _, _, rfl, rfl, H⟩
      · replace H := H.2 c446
        refine s_aload_n (nx := 450) hO rfl rfl rfl ?_
        refine s_iconst (x := 0) (nx := 451) hO rfl (by decide) rfl ?_
        refine s_callV [.int 0] (ci := 9) (F := TX9) (N := 8) (nx := 454) hO rfl kX9_change_109 (by rw [hcl]; rfl) (hs_o9 kc114) (w_X9_take hG H) rfl rfl (Nat.le_of_ble_eq_true rfl) (Nat.zero_le _) (Nat.zero_le _) rfl (k_Qi (fun r37 s38 H => ?_))
        refine s_if_eq (nx := 457) hO rfl rfl (fun c454 => ?_) (fun c454 => ?_)
        · replace H := H.1 c454
          refine s_iconst (x := 0) (nx := 470) hO rfl (by decide) rfl ?_
          exact s_iret hO rfl rfl rfl ⟨rfl, _, _, rfl, rfl, H⟩
        · replace H := H.2 c454
          refine s_aload_n (nx := 458) hO rfl rfl rfl ?_
          refine s_iconst (x := 0) (nx := 459) hO rfl (by decide) rfl ?_
          refine s_callV [.int 0] (ci := 9) (F := TX9) (N := 8) (nx := 462) hO rfl kX9_change_102 (by rw [hcl]; rfl) (hs_o9 kc114) (w_X9_put hG H) rfl rfl (Nat.le_of_ble_eq_true rfl) (Nat.zero_le _) (Nat.zero_le _) rfl (k_Qi (fun r39 s40 H => ?_))
          refine s_if_eq (nx := 465) hO rfl rfl (fun c462 => ?_) (fun c462 => ?_)
          · replace H := H.1 c462
            refine s_iconst (x := 0) (nx := 470) hO rfl (by decide) rfl ?_
            exact s_iret hO rfl rfl rfl ⟨rfl, _, _, rfl, rfl, H⟩
          · replace H := H.2 c462
            refine s_iconst (x := 1) (nx := 466) hO rfl (by decide) rfl ?_
            refine s_goto hO rfl ?_
            exact s_iret hO rfl rfl rfl ⟨rfl, _, _, rfl, rfl, H⟩
    · replace H := H.2.2.2.2.2.2.2.2.2.1 c1
      refine ⟨441, by rw [c1]; rfl, ?_⟩
      refine s_aload_n (nx := 442) hO rfl rfl rfl ?_
      refine s_iconst (x := 0) (nx := 443) hO rfl (by decide) rfl ?_
      refine s_callV [.int 0] (ci := 9) (F := TX9) (N := 8) (nx := 446) hO rfl kX9_change_109 (by rw [hcl]; rfl) (hs_o9 kc114) (w_X9_take hG H) rfl rfl (Nat.le_of_ble_eq_true rfl) (Nat.zero_le _) (Nat.zero_le _) rfl (k_Qi (fun r41 s42 H => ?_))
      refine s_if_eq (nx := 449) hO rfl rfl (fun c446 => ?_) (fun c446 => ?_)
      · replace H := H.1 c446
        refine s_iconst (x := 0) (nx := 470) hO rfl (by decide) rfl ?_
        exact s_iret hO rfl rfl rfl ⟨rfl, _, _, rfl, rfl, H⟩
      · replace H := H.2 c446
        refine s_aload_n (nx := 450) hO rfl rfl rfl ?_
        refine s_iconst (x := 0) (nx := 451) hO rfl (by decide) rfl ?_
        refine s_callV [.int 0] (ci := 9) (F := TX9) (N := 8) (nx := 454) hO rfl kX9_change_109 (by rw [hcl]; rfl) (hs_o9 kc114) (w_X9_take hG H) rfl rfl (Nat.le_of_ble_eq_true rfl) (Nat.zero_le _) (Nat.zero_le _) rfl (k_Qi (fun r43 s44 H => ?_))
        refine s_if_eq (nx := 457) hO rfl rfl (fun c454 => ?_) (fun c454 => ?_)
        · replace H := H.1 c454
          refine s_iconst (x := 0) (nx := 470) hO rfl (by decide) rfl ?_
          exact s_iret hO rfl rfl rfl ⟨rfl, _, _, rfl, rfl, H⟩
        · replace H := H.2 c454
          refine s_aload_n (nx := 458) hO rfl rfl rfl ?_
          refine s_iconst (x := 0) (nx := 459) hO rfl (by decide) rfl ?_
          refine s_callV [.int 0] (ci := 9) (F := TX9) (N := 8) (nx := 462) hO rfl kX9_change_102 (by rw [hcl]; rfl) (hs_o9 kc114) (w_X9_put hG H) rfl rfl (Nat.le_of_ble_eq_true rfl) (Nat.zero_le _) (Nat.zero_le _) rfl (k_Qi (fun r45 s46 H => ?_))
          refine s_if_eq (nx := 465) hO rfl rfl (fun c462 => ?_) (fun c462 => ?_)
          · replace H := H.1 c462
            refine s_iconst (x := 0) (nx := 470) hO rfl (by decide) rfl ?_
            exact s_iret hO rfl rfl rfl ⟨rfl, _, _, rfl, rfl, H⟩
          · replace H := H.2 c462
            refine s_iconst (x := 1) (nx := 466) hO rfl (by decide) rfl ?_
            refine s_goto hO rfl ?_
            exact s_iret hO rfl rfl rfl ⟨rfl, _, _, rfl, rfl, H⟩
    · replace H := H.2.2.2.2.2.2.2.2.2.2.1 c1
      refine ⟨441, by rw [c1]; rfl, ?_⟩
      refine s_aload_n (nx := 442) hO rfl rfl rfl ?_
      refine s_iconst (x := 0) (nx := 443) hO rfl (by decide) rfl ?_
      refine s_callV [.int 0] (ci := 9) (F := TX9) (N := 8) (nx := 446) hO rfl kX9_change_109 (by rw [hcl]; rfl) (hs_o9 kc114) (w_X9_take hG H) rfl rfl (Nat.le_of_ble_eq_true rfl) (Nat.zero_le _) (Nat.zero_le _) rfl (k_Qi (fun r47 s48 H => ?_))
      refine s_if_eq (nx := 449) hO rfl rfl (fun c446 => ?_) (fun c446 => ?_)
      · replace H := H.1 c446
        refine s_iconst (x := 0) (nx := 470) hO rfl (by decide) rfl ?_
        exact s_iret hO rfl rfl rfl ⟨rfl, _, _, rfl, rfl, H⟩
      · replace H := H.2 c446
        refine s_aload_n (nx := 450) hO rfl rfl rfl ?_
        refine s_iconst (x := 0) (nx := 451) hO rfl (by decide) rfl ?_
        refine s_callV [.int 0] (ci := 9) (F := TX9) (N := 8) (nx := 454) hO rfl kX9_change_109 (by rw [hcl]; rfl) (hs_o9 kc114) (w_X9_take hG H) rfl rfl (Nat.le_of_ble_eq_true rfl) (Nat.zero_le _) (Nat.zero_le _) rfl (k_Qi (fun r49 s50 H => ?_))
        refine s_if_eq (nx := 457) hO rfl rfl (fun c454 => ?_) (fun c454 => ?_)
        · replace H := H.1 c454
          refine s_iconst (x := 0) (nx := 470) hO rfl (by decide) rfl ?_
          exact s_iret hO rfl rfl rfl ⟨rfl, _, _, rfl, rfl, H⟩
        · replace H := H.2 c454
          refine s_aload_n (nx := 458) hO rfl rfl rfl ?_
          refine s_iconst (x := 0) (nx := 459) hO rfl (by decide) rfl ?_
          refine s_callV [.int 0] (ci := 9) (F := TX9) (N := 8) (nx := 462) hO rfl kX9_change_102 (by rw [hcl]; rfl) (hs_o9 kc114) (w_X9_put hG H) rfl rfl (Nat.le_of_ble_eq_true rfl) (Nat.zero_le _) (Nat.zero_le _) rfl (k_Qi (fun r51 s52 H => ?_))
          refine s_if_eq (nx := 465) hO rfl rfl (fun c462 => ?_) (fun c462 => ?_)
          · replace H := H.1 c462
            refine s_iconst (x := 0) (nx := 470) hO rfl (by decide) rfl ?_
            exact s_iret hO rfl rfl rfl ⟨rfl, _, _, rfl, rfl, H⟩
          · replace H := H.2 c462
            refine s_iconst (x := 1) (nx := 466) hO rfl (by decide) rfl ?_
            refine s_goto hO rfl ?_
            exact s_iret hO rfl rfl rfl ⟨rfl, _, _, rfl, rfl, H⟩
    · replace H := H.2.2.2.2.2.2.2.2.2.2.2.1 c1
      refine ⟨441, by rw [c1]; rfl, ?_⟩
      refine s_aload_n (nx := 442) hO rfl rfl rfl ?_
      refine s_iconst (x := 0) (nx := 443) hO rfl (by decide) rfl ?_
      refine s_callV [.int 0] (ci := 9) (F := TX9) (N := 8) (nx := 446) hO rfl kX9_change_109 (by rw [hcl]; rfl) (hs_o9 kc114) (w_X9_take hG H) rfl rfl (Nat.le_of_ble_eq_true rfl) (Nat.zero_le _) (Nat.zero_le _) rfl (k_Qi (fun r53 s54 H => ?_))
      refine s_if_eq (nx := 449) hO rfl rfl (fun c446 => ?_) (fun c446 => ?_)
      · replace H := H.1 c446
        refine s_iconst (x := 0) (nx := 470) hO rfl (by decide) rfl ?_
        exact s_iret hO rfl rfl rfl ⟨rfl, _, _, rfl, rfl, H⟩
      · replace H := H.2 c446
        refine s_aload_n (nx := 450) hO rfl rfl rfl ?_
        refine s_iconst (x := 0) (nx := 451) hO rfl (by decide) rfl ?_
        refine s_callV [.int 0] (ci := 9) (F := TX9) (N := 8) (nx := 454) hO rfl kX9_change_109 (by rw [hcl]; rfl) (hs_o9 kc114) (w_X9_take hG H) rfl rfl (Nat.le_of_ble_eq_true rfl) (Nat.zero_le _) (Nat.zero_le _) rfl (k_Qi (fun r55 s56 H => ?_))
        refine s_if_eq (nx := 457) hO rfl rfl (fun c454 => ?_) (fun c454 => ?_)
        · replace H := H.1 c454
          refine s_iconst (x := 0) (nx := 470) hO rfl (by decide) rfl ?_
          exact s_iret hO rfl rfl rfl ⟨rfl, _, _, rfl, rfl, H⟩
        · replace H := H.2 c454
          refine s_aload_n (nx := 458) hO rfl rfl rfl ?_
          refine s_iconst (x := 0) (nx := 459) hO rfl (by decide) rfl ?_
          refine s_callV [.int 0] (ci := 9) (F := TX9) (N := 8) (nx := 462) hO rfl kX9_change_102 (by rw [hcl]; rfl) (hs_o9 kc114) (w_X9_put hG H) rfl rfl (Nat.le_of_ble_eq_true rfl) (Nat.zero_le _) (Nat.zero_le _) rfl (k_Qi (fun r57 s58 H => ?_))
          refine s_if_eq (nx := 465) hO rfl rfl (fun c462 => ?_) (fun c462 => ?_)
          · replace H := H.1 c462
            refine s_iconst (x := 0) (nx := 470) hO rfl (by decide) rfl ?_
            exact s_iret hO rfl rfl rfl ⟨rfl, _, _, rfl, rfl, H⟩
          · replace H := H.2 c462
            refine s_iconst (x := 1) (nx := 466) hO rfl (by decide) rfl ?_
            refine s_goto hO rfl ?_
            exact s_iret hO rfl rfl rfl ⟨rfl, _, _, rfl, rfl, H⟩
    · replace H := H.2.2.2.2.2.2.2.2.2.2.2.2.1 c1
      refine ⟨441, by rw [c1]; rfl, ?_⟩
      refine s_aload_n (nx := 442) hO rfl rfl rfl ?_
      refine s_iconst (x := 0) (nx := 443) hO rfl (by decide) rfl ?_
      refine s_callV [.int 0] (ci := 9) (F := TX9) (N := 8) (nx := 446) hO rfl kX9_change_109 (by rw [hcl]; rfl) (hs_o9 kc114) (w_X9_take hG H) rfl rfl (Nat.le_of_ble_eq_true rfl) (Nat.zero_le _) (Nat.zero_le _) rfl (k_Qi (fun r59 s60 H => ?_))
      refine s_if_eq (nx := 449) hO rfl rfl (fun c446 => ?_) (fun c446 => ?_)
      · replace H := H.1 c446
        refine s_iconst (x := 0) (nx := 470) hO rfl (by decide) rfl ?_
        exact s_iret hO rfl rfl rfl ⟨rfl, _, _, rfl, rfl, H⟩
      · replace H := H.2 c446
        refine s_aload_n (nx := 450) hO rfl rfl rfl ?_
        refine s_iconst (x := 0) (nx := 451) hO rfl (by decide) rfl ?_
        refine s_callV [.int 0] (ci := 9) (F := TX9) (N := 8) (nx := 454) hO rfl kX9_change_109 (by rw [hcl]; rfl) (hs_o9 kc114) (w_X9_take hG H) rfl rfl (Nat.le_of_ble_eq_true rfl) (Nat.zero_le _) (Nat.zero_le _) rfl (k_Qi (fun r61 s62 H => ?_))
        refine s_if_eq (nx := 457) hO rfl rfl (fun c454 => ?_) (fun c454 => ?_)
        · replace H := H.1 c454
          refine s_iconst (x := 0) (nx := 470) hO rfl (by decide) rfl ?_
          exact s_iret hO rfl rfl rfl ⟨rfl, _, _, rfl, rfl, H⟩
        · replace H := H.2 c454
          refine s_aload_n (nx := 458) hO rfl rfl rfl ?_
          refine s_iconst (x := 0) (nx := 459) hO rfl (by decide) rfl ?_
          refine s_callV [.int 0] (ci := 9) (F := TX9) (N := 8) (nx := 462) hO rfl kX9_change_102 (by rw [hcl]; rfl) (hs_o9 kc114) (w_X9_put hG H) rfl rfl (Nat.le_of_ble_eq_true rfl) (Nat.zero_le _) (Nat.zero_le _) rfl (k_Qi (fun r63 s64 H => ?_))
          refine s_if_eq (nx := 465) hO rfl rfl (fun c462 => ?_) (fun c462 => ?_)
          · replace H := H.1 c462
            refine s_iconst (x := 0) (nx := 470) hO rfl (by decide) rfl ?_
            exact s_iret hO rfl rfl rfl ⟨rfl, _, _, rfl, rfl, H⟩
          · replace H := H.2 c462
            refine s_iconst (x := 1) (nx := 466) hO rfl (by decide) rfl ?_
            refine s_goto hO rfl ?_
            exact s_iret hO rfl rfl rfl ⟨rfl, _, _, rfl, rfl, H⟩
    · replace H := H.2.2.2.2.2.2.2.2.2.2.2.2.2.1 c1
      refine ⟨441, by rw [c1]; rfl, ?_⟩
      refine s_aload_n (nx := 442) hO rfl rfl rfl ?_
      refine s_iconst (x := 0) (nx := 443) hO rfl (by decide) rfl ?_
      refine s_callV [.int 0] (ci := 9) (F := TX9) (N := 8) (nx := 446) hO rfl kX9_change_109 (by rw [hcl]; rfl) (hs_o9 kc114) (w_X9_take hG H) rfl rfl (Nat.le_of_ble_eq_true rfl) (Nat.zero_le _) (Nat.zero_le _) rfl (k_Qi (fun r65 s66 H => ?_))
      refine s_if_eq (nx := 449) hO rfl rfl (fun c446 => ?_) (fun c446 => ?_)
      · replace H := H.1 c446
        refine s_iconst (x := 0) (nx := 470) hO rfl (by decide) rfl ?_
        exact s_iret hO rfl rfl rfl ⟨rfl, _, _, rfl, rfl, H⟩
      · replace H := H.2 c446
        refine s_aload_n (nx := 450) hO rfl rfl rfl ?_
        refine s_iconst (x := 0) (nx := 451) hO rfl (by decide) rfl ?_
        refine s_callV [.int 0] (ci := 9) (F := TX9) (N := 8) (nx := 454) hO rfl kX9_change_109 (by rw [hcl]; rfl) (hs_o9 kc114) (w_X9_take hG H) rfl rfl (Nat.le_of_ble_eq_true rfl) (Nat.zero_le _) (Nat.zero_le _) rfl (k_Qi (fun r67 s68 H => ?_))
        refine s_if_eq (nx := 457) hO rfl rfl (fun c454 => ?_) (fun c454 => ?_)
        · replace H := H.1 c454
          refine s_iconst (x := 0) (nx := 470) hO rfl (by decide) rfl ?_
          exact s_iret hO rfl rfl rfl ⟨rfl, _, _, rfl, rfl, H⟩
        · replace H := H.2 c454
          refine s_aload_n (nx := 458) hO rfl rfl rfl ?_
          refine s_iconst (x := 0) (nx := 459) hO rfl (by decide) rfl ?_
          refine s_callV [.int 0] (ci := 9) (F := TX9) (N := 8) (nx := 462) hO rfl kX9_change_102 (by rw [hcl]; rfl) (hs_o9 kc114) (w_X9_put hG H) rfl rfl (Nat.le_of_ble_eq_true rfl) (Nat.zero_le _) (Nat.zero_le _) rfl (k_Qi (fun r69 s70 H => ?_))
          refine s_if_eq (nx := 465) hO rfl rfl (fun c462 => ?_) (fun c462 => ?_)
          · replace H := H.1 c462
            refine s_iconst (x := 0) (nx := 470) hO rfl (by decide) rfl ?_
            exact s_iret hO rfl rfl rfl ⟨rfl, _, _, rfl, rfl, H⟩
          · replace H := H.2 c462
            refine s_iconst (x := 1) (nx := 466) hO rfl (by decide) rfl ?_
            refine s_goto hO rfl ?_
            exact s_iret hO rfl rfl rfl ⟨rfl, _, _, rfl, rfl, H⟩
    · replace H := H.2.2.2.2.2.2.2.2.2.2.2.2.2.2.1 c1
      refine ⟨441, by rw [c1]; rfl, ?_⟩
      refine s_aload_n (nx := 442) hO rfl rfl rfl ?_
      refine s_iconst (x := 0) (nx := 443) hO rfl (by decide) rfl ?_
      refine s_callV [.int 0] (ci := 9) (F := TX9) (N := 8) (nx := 446) hO rfl kX9_change_109 (by rw [hcl]; rfl) (hs_o9 kc114) (w_X9_take hG H) rfl rfl (Nat.le_of_ble_eq_true rfl) (Nat.zero_le _) (Nat.zero_le _) rfl (k_Qi (fun r71 s72 H => ?_))
      refine s_if_eq (nx := 449) hO rfl rfl (fun c446 => ?_) (fun c446 => ?_)
      · replace H := H.1 c446
        refine s_iconst (x := 0) (nx := 470) hO rfl (by decide) rfl ?_
        exact s_iret hO rfl rfl rfl ⟨rfl, _, _, rfl, rfl, H⟩
      · replace H := H.2 c446
        refine s_aload_n (nx := 450) hO rfl rfl rfl ?_
        refine s_iconst (x := 0) (nx := 451) hO rfl (by decide) rfl ?_
        refine s_callV [.int 0] (ci := 9) (F := TX9) (N := 8) (nx := 454) hO rfl kX9_change_109 (by rw [hcl]; rfl) (hs_o9 kc114) (w_X9_take hG H) rfl rfl (Nat.le_of_ble_eq_true rfl) (Nat.zero_le _) (Nat.zero_le _) rfl (k_Qi (fun r73 s74 H => ?_))
        refine s_if_eq (nx := 457) hO rfl rfl (fun c454 => ?_) (fun c454 => ?_)
        · replace H := H.1 c454
          refine s_iconst (x := 0) (nx := 470) hO rfl (by decide) rfl ?_
          exact s_iret hO rfl rfl rfl ⟨rfl, _, _, rfl, rfl, H⟩
        · replace H := H.2 c454
          refine s_aload_n (nx := 458) hO rfl rfl rfl ?_
          refine s_iconst (x := 0) (nx := 459) hO rfl (by decide) rfl ?_
          refine s_callV [.int 0] (ci := 9) (F := TX9) (N := 8) (nx := 462) hO rfl kX9_change_102 (by rw [hcl]; rfl) (hs_o9 kc114) (w_X9_put hG H) rfl rfl (Nat.le_of_ble_eq_true rfl) (Nat.zero_le _) (Nat.zero_le _) rfl (k_Qi (fun r75 s76 H => ?_))
          refine s_if_eq (nx := 465) hO rfl rfl (fun c462 => ?_) (fun c462 => ?_)
          · replace H := H.1 c462
            refine s_iconst (x := 0) (nx := 470) hO rfl (by decide) rfl ?_
            exact s_iret hO rfl rfl rfl ⟨rfl, _, _, rfl, rfl, H⟩
          · replace H := H.2 c462
            refine s_iconst (x := 1) (nx := 466) hO rfl (by decide) rfl ?_
            refine s_goto hO rfl ?_
            exact s_iret hO rfl rfl rfl ⟨rfl, _, _, rfl, rfl, H⟩
    · replace H := H.2.2.2.2.2.2.2.2.2.2.2.2.2.2.2.1 c1
      refine ⟨441, by rw [c1]; rfl, ?_⟩
      refine s_aload_n (nx := 442) hO rfl rfl rfl ?_
      refine s_iconst (x := 0) (nx := 443) hO rfl (by decide) rfl ?_
      refine s_callV [.int 0] (ci := 9) (F := TX9) (N := 8) (nx := 446) hO rfl kX9_change_109 (by rw [hcl]; rfl) (hs_o9 kc114) (w_X9_take hG H) rfl rfl (Nat.le_of_ble_eq_true rfl) (Nat.zero_le _) (Nat.zero_le _) rfl (k_Qi (fun r77 s78 H => ?_))
      refine s_if_eq (nx := 449) hO rfl rfl (fun c446 => ?_) (fun c446 => ?_)
      · replace H := H.1 c446
        refine s_iconst (x := 0) (nx := 470) hO rfl (by decide) rfl ?_
        exact s_iret hO rfl rfl rfl ⟨rfl, _, _, rfl, rfl, H⟩
      · replace H := H.2 c446
        refine s_aload_n (nx := 450) hO rfl rfl rfl ?_
        refine s_iconst (x := 0) (nx := 451) hO rfl (by decide) rfl ?_
        refine s_callV [.int 0] (ci := 9) (F := TX9) (N := 8) (nx := 454) hO rfl kX9_change_109 (by rw [hcl]; rfl) (hs_o9 kc114) (w_X9_take hG H) rfl rfl (Nat.le_of_ble_eq_true rfl) (Nat.zero_le _) (Nat.zero_le _) rfl (k_Qi (fun r79 s80 H => ?_))
        refine s_if_eq (nx := 457) hO rfl rfl (fun c454 => ?_) (fun c454 => ?_)
        · replace H := H.1 c454
          refine s_iconst (x := 0) (nx := 470) hO rfl (by decide) rfl ?_
          exact s_iret hO rfl rfl rfl ⟨rfl, _, _, rfl, rfl, H⟩
        · replace H := H.2 c454
          refine s_aload_n (nx := 458) hO rfl rfl rfl ?_
          refine s_iconst (x := 0) (nx := 459) hO rfl (by decide) rfl ?_
          refine s_callV [.int 0] (ci := 9) (F := TX9) (N := 8) (nx := 462) hO rfl kX9_change_102 (by rw [hcl]; rfl) (hs_o9 kc114) (w_X9_put hG H) rfl rfl (Nat.le_of_ble_eq_true rfl) (Nat.zero_le _) (Nat.zero_le _) rfl (k_Qi (fun r81 s82 H => ?_))
          refine s_if_eq (nx := 465) hO rfl rfl (fun c462 => ?_) (fun c462 => ?_)
          · replace H := H.1 c462
            refine s_iconst (x := 0) (nx := 470) hO rfl (by decide) rfl ?_
            exact s_iret hO rfl rfl rfl ⟨rfl, _, _, rfl, rfl, H⟩
          · replace H := H.2 c462
            refine s_iconst (x := 1) (nx := 466) hO rfl (by decide) rfl ?_
            refine s_goto hO rfl ?_
            exact s_iret hO rfl rfl rfl ⟨rfl, _, _, rfl, rfl, H⟩
    · replace H := H.2.2.2.2.2.2.2.2.2.2.2.2.2.2.2.2.1 c1
      refine ⟨441, by rw [c1]; rfl, ?_⟩
      refine s_aload_n (nx := 442) hO rfl rfl rfl ?_
      refine s_iconst (x := 0) (nx := 443) hO rfl (by decide) rfl ?_
      refine s_callV [.int 0] (ci := 9) (F := TX9) (N := 8) (nx := 446) hO rfl kX9_change_109 (by rw [hcl]; rfl) (hs_o9 kc114) (w_X9_take hG H) rfl rfl (Nat.le_of_ble_eq_true rfl) (Nat.zero_le _) (Nat.zero_le _) rfl (k_Qi (fun r83 s84 H => ?_))
      refine s_if_eq (nx := 449) hO rfl rfl (fun c446 => ?_) (fun c446 => ?_)
      · replace H := H.1 c446
        refine s_iconst (x := 0) (nx := 470) hO rfl (by decide) rfl ?_
        exact s_iret hO rfl rfl rfl ⟨rfl, _, _, rfl, rfl, H⟩
      · replace H := H.2 c446
        refine s_aload_n (nx := 450) hO rfl rfl rfl ?_
        refine s_iconst (x := 0) (nx := 451) hO rfl (by decide) rfl ?_
        refine s_callV [.int 0] (ci := 9) (F := TX9) (N := 8) (nx := 454) hO rfl kX9_change_109 (by rw [hcl]; rfl) (hs_o9 kc114) (w_X9_take hG H) rfl rfl (Nat.le_of_ble_eq_true rfl) (Nat.zero_le _) (Nat.zero_le _) rfl (k_Qi (fun r85 s86 H => ?_))
        refine s_if_eq (nx := 457) hO rfl rfl (fun c454 => ?_) (fun c454 => ?_)
        · replace H := H.1 c454
          refine s_iconst (x := 0) (nx := 470) hO rfl (by decide) rfl ?_
          exact s_iret hO rfl rfl rfl ⟨rfl, _, _, rfl, rfl, H⟩
        · replace H := H.2 c454
          refine s_aload_n (nx := 458) hO rfl rfl rfl ?_
          refine s_iconst (x := 0) (nx := 459) hO rfl (by decide) rfl ?_
          refine s_callV [.int 0] (ci := 9) (F := TX9) (N := 8) (nx := 462) hO rfl kX9_change_102 (by rw [hcl]; rfl) (hs_o9 kc114) (w_X9_put hG H) rfl rfl (Nat.le_of_ble_eq_true rfl) (Nat.zero_le _) (Nat.zero_le _) rfl (k_Qi (fun r87 s88 H => ?_))
          refine s_if_eq (nx := 465) hO rfl rfl (fun c462 => ?_) (fun c462 => ?_)
          · replace H := H.1 c462
            refine s_iconst (x := 0) (nx := 470) hO rfl (by decide) rfl ?_
            exact s_iret hO rfl rfl rfl ⟨rfl, _, _, rfl, rfl, H⟩
          · replace H := H.2 c462
            refine s_iconst (x := 1) (nx := 466) hO rfl (by decide) rfl ?_
            refine s_goto hO rfl ?_
            exact s_iret hO rfl rfl rfl ⟨rfl, _, _, rfl, rfl, H⟩
    · replace H := H.2.2.2.2.2.2.2.2.2.2.2.2.2.2.2.2.2.1 c1
      refine ⟨441, by rw [c1]; rfl, ?_⟩
      refine s_aload_n (nx := 442) hO rfl rfl rfl ?_
      refine s_iconst (x := 0) (nx := 443) hO rfl (by decide) rfl ?_
      refine s_callV [.int 0] (ci := 9) (F := TX9) (N := 8) (nx := 446) hO rfl kX9_change_109 (by rw [hcl]; rfl) (hs_o9 kc114) (w_X9_take hG H) rfl rfl (Nat.le_of_ble_eq_true rfl) (Nat.zero_le _) (Nat.zero_le _) rfl (k_Qi (fun r89 s90 H => ?_))
      refine s_if_eq (nx := 449) hO rfl rfl (fun c446 => ?_) (fun c446 => ?_)
      · replace H := H.1 c446
        refine s_iconst (x := 0) (nx := 470) hO rfl (by decide) rfl ?_
        exact s_iret hO rfl rfl rfl ⟨rfl, _, _, rfl, rfl, H⟩
      · replace H := H.2 c446
        refine s_aload_n (nx := 450) hO rfl rfl rfl ?_
        refine s_iconst (x := 0) (nx := 451) hO rfl (by decide) rfl ?_
        refine s_callV [.int 0] (ci := 9) (F := TX9) (N := 8) (nx := 454) hO rfl kX9_change_109 (by rw [hcl]; rfl) (hs_o9 kc114) (w_X9_take hG H) rfl rfl (Nat.le_of_ble_eq_true rfl) (Nat.zero_le _) (Nat.zero_le _) rfl (k_Qi (fun r91 s92 H => ?_))
        refine s_if_eq (nx := 457) hO rfl rfl (fun c454 => ?_) (fun c454 => ?_)
        · replace H := H.1 c454
          refine s_iconst (x := 0) (nx := 470) hO rfl (by decide) rfl ?_
          exact s_iret hO rfl rfl rfl ⟨rfl, _, _, rfl, rfl, H⟩
        · replace H := H.2 c454
          refine s_aload_n (nx := 458) hO rfl rfl rfl ?_
          refine s_iconst (x := 0) (nx := 459) hO rfl (by decide) rfl ?_
          refine s_callV [.int 0] (ci := 9) (F := TX9) (N := 8) (nx := 462) hO rfl kX9_change_102 (by rw [hcl]; rfl) (hs_o9 kc114) (w_X9_put hG H) rfl rfl (Nat.le_of_ble_eq_true rfl) (Nat.zero_le _) (Nat.zero_le _) rfl (k_Qi (fun r93 s94 H => ?_))
          refine s_if_eq (nx := 465) hO rfl rfl (fun c462 => ?_) (fun c462 => ?_)
          · replace H := H.1 c462
            refine s_iconst (x := 0) (nx := 470) hO rfl (by decide) rfl ?_
            exact s_iret hO rfl rfl rfl ⟨rfl, _, _, rfl, rfl, H⟩
          · replace H := H.2 c462
            refine s_iconst (x := 1) (nx := 466) hO rfl (by decide) rfl ?_
            refine s_goto hO rfl ?_
            exact s_iret hO rfl rfl rfl ⟨rfl, _, _, rfl, rfl, H⟩
    · replace H := H.2.2.2.2.2.2.2.2.2.2.2.2.2.2.2.2.2.2.1 c1
      refine ⟨441, by rw [c1]; rfl, ?_⟩
      refine s_aload_n (nx := 442) hO rfl rfl rfl ?_
      refine s_iconst (x := 0) (nx := 443) hO rfl (by decide) rfl ?_
      refine s_callV [.int 0] (ci := 9) (F := TX9) (N := 8) (nx := 446) hO rfl kX9_change_109 (by rw [hcl]; rfl) (hs_o9 kc114) (w_X9_take hG H) rfl rfl (Nat.le_of_ble_eq_true rfl) (Nat.zero_le _) (Nat.zero_le _) rfl (k_Qi (fun r95 s96 H => ?_))
      refine s_if_eq (nx := 449) hO rfl rfl (fun c446 => ?_) (fun c446 => ?_)
      · replace H := H.1 c446
        refine s_iconst (x := 0) (nx := 470) hO rfl (by decide) rfl ?_
        exact s_iret hO rfl rfl rfl ⟨rfl, _, _, rfl, rfl, H⟩
      · replace H := H.2 c446
        refine s_aload_n (nx := 450) hO rfl rfl rfl ?_
        refine s_iconst (x := 0) (nx := 451) hO rfl (by decide) rfl ?_
        refine s_callV [.int 0] (ci := 9) (F := TX9) (N := 8) (nx := 454) hO rfl kX9_change_109 (by rw [hcl]; rfl) (hs_o9 kc114) (w_X9_take hG H) rfl rfl (Nat.le_of_ble_eq_true rfl) (Nat.zero_le _) (Nat.zero_le _) rfl (k_Qi (fun r97 s98 H => ?_))
        refine s_if_eq (nx := 457) hO rfl rfl (fun c454 => ?_) (fun c454 => ?_)
        · replace H := H.1 c454
          refine s_iconst (x := 0) (nx := 470) hO rfl (by decide) rfl ?_
          exact s_iret hO rfl rfl rfl ⟨rfl, _, _, rfl, rfl, H⟩
        · replace H := H.2 c454
          refine s_aload_n (nx := 458) hO rfl rfl rfl ?_
          refine s_iconst (x := 0) (nx := 459) hO rfl (by decide) rfl ?_
          refine s_callV [.int 0] (ci := 9) (F := TX9) (N := 8) (nx := 462) hO rfl kX9_change_102 (by rw [hcl]; rfl) (hs_o9 kc114) (w_X9_put hG H) rfl rfl (Nat.le_of_ble_eq_true rfl) (Nat.zero_le _) (Nat.zero_le _) rfl (k_Qi (fun r99 s100 H => ?_))
          refine s_if_eq (nx := 465) hO rfl rfl (fun c462 => ?_) (fun c462 => ?_)
          · replace H := H.1 c462
            refine s_iconst (x := 0) (nx := 470) hO rfl (by decide) rfl ?_
            exact s_iret hO rfl rfl rfl ⟨rfl, _, _, rfl, rfl, H⟩
          · replace H := H.2 c462
            refine s_iconst (x := 1) (nx := 466) hO rfl (by decide) rfl ?_
            refine s_goto hO rfl ?_
            exact s_iret hO rfl rfl rfl ⟨rfl, _, _, rfl, rfl, H⟩
    · replace H := H.2.2.2.2.2.2.2.2.2.2.2.2.2.2.2.2.2.2.2.1 c1
      refine ⟨239, by rw [c1]; rfl, ?_⟩
      refine s_iconst (x := 1) (nx := 240) hO rfl (by decide) rfl ?_
      exact s_iret hO rfl rfl rfl ⟨rfl, _, _, rfl, rfl, H⟩
    · replace H := H.2.2.2.2.2.2.2.2.2.2.2.2.2.2.2.2.2.2.2.2.1 c1
      refine ⟨241, by rw [c1]; rfl, ?_⟩
      refine s_aload_n (nx := 242) hO rfl rfl rfl ?_
      refine s_iconst (x := 0) (nx := 243) hO rfl (by decide) rfl ?_
      refine s_callV [.int 0] (ci := 9) (F := TX9) (N := 8) (nx := 246) hO rfl kX9_change_109 (by rw [hcl]; rfl) (hs_o9 kc114) (w_X9_take hG H) rfl rfl (Nat.le_of_ble_eq_true rfl) (Nat.zero_le _) (Nat.zero_le _) rfl (k_Qi (fun r101 s102 H => ?_))
      obtain ⟨b103, H⟩ := H
      exact s_iret hO rfl rfl (zb_n b103) ⟨rfl, _, _, rfl, rfl, H⟩
    · replace H := H.2.2.2.2.2.2.2.2.2.2.2.2.2.2.2.2.2.2.2.2.2.1 c1
      refine ⟨241, by rw [c1]; rfl, ?_⟩
      refine s_aload_n (nx := 242) hO rfl rfl rfl ?_
      refine s_iconst (x := 0) (nx := 243) hO rfl (by decide) rfl ?_
      refine s_callV [.int 0] (ci := 9) (F := TX9) (N := 8) (nx := 246) hO rfl kX9_change_109 (by rw [hcl]; rfl) (hs_o9 kc114) (w_X9_take hG H) rfl rfl (Nat.le_of_ble_eq_true rfl) (Nat.zero_le _) (Nat.zero_le _) rfl (k_Qi (fun r104 s105 H => ?_))
      obtain ⟨b106, H⟩ := H
      exact s_iret hO rfl rfl (zb_n b106) ⟨rfl, _, _, rfl, rfl, H⟩
    · replace H := H.2.2.2.2.2.2.2.2.2.2.2.2.2.2.2.2.2.2.2.2.2.2.1 c1
      refine ⟨247, by rw [c1]; rfl, ?_⟩
      refine s_aload_n (nx := 248) hO rfl rfl rfl ?_
      refine s_iconst (x := 0) (nx := 249) hO rfl (by decide) rfl ?_
      refine s_callV [.int 0] (ci := 9) (F := TX9) (N := 8) (nx := 252) hO rfl kX9_change_109 (by rw [hcl]; rfl) (hs_o9 kc114) (w_X9_take hG H) rfl rfl (Nat.le_of_ble_eq_true rfl) (Nat.zero_le _) (Nat.zero_le _) rfl (k_Qi (fun r107 s108 H => ?_))
      refine s_if_eq (nx := 255) hO rfl rfl (fun c252 => ?_) (fun c252 => ?_)
      · replace H := H.1 c252
        refine s_iconst (x := 0) (nx := 268) hO rfl (by decide) rfl ?_
        exact s_iret hO rfl rfl rfl ⟨rfl, _, _, rfl, rfl, H⟩
      · replace H := H.2 c252
        refine s_aload_n (nx := 256) hO rfl rfl rfl ?_
        refine s_iconst (x := 1) (nx := 257) hO rfl (by decide) rfl ?_
        refine s_callV [.int 1] (ci := 9) (F := TX9) (N := 8) (nx := 260) hO rfl kX9_change_102 (by rw [hcl]; rfl) (hs_o9 kc114) (w_X9_put hG H) rfl rfl (Nat.le_of_ble_eq_true rfl) (Nat.zero_le _) (Nat.zero_le _) rfl (k_Qi (fun r109 s110 H => ?_))
        refine s_if_eq (nx := 263) hO rfl rfl (fun c260 => ?_) (fun c260 => ?_)
        · replace H := H.1 c260
          refine s_iconst (x := 0) (nx := 268) hO rfl (by decide) rfl ?_
          exact s_iret hO rfl rfl rfl ⟨rfl, _, _, rfl, rfl, H⟩
        · replace H := H.2 c260
          refine s_iconst (x := 1) (nx := 264) hO rfl (by decide) rfl ?_
          refine s_goto hO rfl ?_
          exact s_iret hO rfl rfl rfl ⟨rfl, _, _, rfl, rfl, H⟩
    · replace H := H.2.2.2.2.2.2.2.2.2.2.2.2.2.2.2.2.2.2.2.2.2.2.2.1 c1
      refine ⟨269, by rw [c1]; rfl, ?_⟩
      refine s_aload_n (nx := 270) hO rfl rfl rfl ?_
      refine s_iconst (x := 0) (nx := 271) hO rfl (by decide) rfl ?_
      refine s_callV [.int 0] (ci := 9) (F := TX9) (N := 8) (nx := 274) hO rfl kX9_change_109 (by rw [hcl]; rfl) (hs_o9 kc114) (w_X9_take hG H) rfl rfl (Nat.le_of_ble_eq_true rfl) (Nat.zero_le _) (Nat.zero_le _) rfl (k_Qi (fun r111 s112 H => ?_))
      refine s_if_eq (nx := 277) hO rfl rfl (fun c274 => ?_) (fun c274 => ?_)
      · replace H := H.1 c274
        refine s_iconst (x := 0) (nx := 298) hO rfl (by decide) rfl ?_
        exact s_iret hO rfl rfl rfl ⟨rfl, _, _, rfl, rfl, H⟩
      · replace H := H.2 c274
        refine s_aload_n (nx := 278) hO rfl rfl rfl ?_
        refine s_iconst (x := 1) (nx := 279) hO rfl (by decide) rfl ?_
        refine s_callV [.int 1] (ci := 9) (F := TX9) (N := 8) (nx := 282) hO rfl kX9_change_109 (by rw [hcl]; rfl) (hs_o9 kc114) (w_X9_take hG H) rfl rfl (Nat.le_of_ble_eq_true rfl) (Nat.zero_le _) (Nat.zero_le _) rfl (k_Qi (fun r113 s114 H => ?_))
        refine s_if_eq (nx := 285) hO rfl rfl (fun c282 => ?_) (fun c282 => ?_)
        · replace H := H.1 c282
          refine s_iconst (x := 0) (nx := 298) hO rfl (by decide) rfl ?_
          exact s_iret hO rfl rfl rfl ⟨rfl, _, _, rfl, rfl, H⟩
        · replace H := H.2 c282
          refine s_aload_n (nx := 286) hO rfl rfl rfl ?_
          refine s_iconst (x := 0) (nx := 287) hO rfl (by decide) rfl ?_
          refine s_callV [.int 0] (ci := 9) (F := TX9) (N := 8) (nx := 290) hO rfl kX9_change_102 (by rw [hcl]; rfl) (hs_o9 kc114) (w_X9_put hG H) rfl rfl (Nat.le_of_ble_eq_true rfl) (Nat.zero_le _) (Nat.zero_le _) rfl (k_Qi (fun r115 s116 H => ?_))
          refine s_if_eq (nx := 293) hO rfl rfl (fun c290 => ?_) (fun c290 => ?_)
          · replace H := H.1 c290
            refine s_iconst (x := 0) (nx := 298) hO rfl (by decide) rfl ?_
            exact s_iret hO rfl rfl rfl ⟨rfl, _, _, rfl, rfl, H⟩
          · replace H := H.2 c290
            refine s_iconst (x := 1) (nx := 294) hO rfl (by decide) rfl ?_
            refine s_goto hO rfl ?_
            exact s_iret hO rfl rfl rfl ⟨rfl, _, _, rfl, rfl, H⟩
    · replace H := H.2.2.2.2.2.2.2.2.2.2.2.2.2.2.2.2.2.2.2.2.2.2.2.2.1 c1
      refine ⟨299, by rw [c1]; rfl, ?_⟩
      refine s_aload_n (nx := 300) hO rfl rfl rfl ?_
      refine s_iconst (x := 0) (nx := 301) hO rfl (by decide) rfl ?_
      refine s_callV [.int 0] (ci := 9) (F := TX9) (N := 8) (nx := 304) hO rfl kX9_change_109 (by rw [hcl]; rfl) (hs_o9 kc114) (w_X9_take hG H) rfl rfl (Nat.le_of_ble_eq_true rfl) (Nat.zero_le _) (Nat.zero_le _) rfl (k_Qi (fun r117 s118 H => ?_))
      refine s_if_eq (nx := 307) hO rfl rfl (fun c304 => ?_) (fun c304 => ?_)
      · replace H := H.1 c304
        refine s_iconst (x := 0) (nx := 328) hO rfl (by decide) rfl ?_
        exact s_iret hO rfl rfl rfl ⟨rfl, _, _, rfl, rfl, H⟩
      · replace H := H.2 c304
        refine s_aload_n (nx := 308) hO rfl rfl rfl ?_
        refine s_iconst (x := 0) (nx := 309) hO rfl (by decide) rfl ?_
        refine s_callV [.int 0] (ci := 9) (F := TX9) (N := 8) (nx := 312) hO rfl kX9_change_109 (by rw [hcl]; rfl) (hs_o9 kc114) (w_X9_take hG H) rfl rfl (Nat.le_of_ble_eq_true rfl) (Nat.zero_le _) (Nat.zero_le _) rfl (k_Qi (fun r119 s120 H => ?_))
        refine s_if_eq (nx := 315) hO rfl rfl (fun c312 => ?_) (fun c312 => ?_)
        · replace H := H.1 c312
          refine s_iconst (x := 0) (nx := 328) hO rfl (by decide) rfl ?_
          exact s_iret hO rfl rfl rfl ⟨rfl, _, _, rfl, rfl, H⟩
        · replace H := H.2 c312
          refine s_aload_n (nx := 316) hO rfl rfl rfl ?_
          refine s_iconst (x := 1) (nx := 317) hO rfl (by decide) rfl ?_
          refine s_callV [.int 1] (ci := 9) (F := TX9) (N := 8) (nx := 320) hO rfl kX9_change_109 (by rw [hcl]; rfl) (hs_o9 kc114) (w_X9_take hG H) rfl rfl (Nat.le_of_ble_eq_true rfl) (Nat.zero_le _) (Nat.zero_le _) rfl (k_Qi (fun r121 s122 H => ?_))
          refine s_if_eq (nx := 323) hO rfl rfl (fun c320 => ?_) (fun c320 => ?_)
          · replace H := H.1 c320
            refine s_iconst (x := 0) (nx := 328) hO rfl (by decide) rfl ?_
            exact s_iret hO rfl rfl rfl ⟨rfl, _, _, rfl, rfl, H⟩
          · replace H := H.2 c320
            refine s_iconst (x := 1) (nx := 324) hO rfl (by decide) rfl ?_
            refine s_goto hO rfl ?_
            exact s_iret hO rfl rfl rfl ⟨rfl, _, _, rfl, rfl, H⟩
    · replace H := H.2.2.2.2.2.2.2.2.2.2.2.2.2.2.2.2.2.2.2.2.2.2.2.2.2.1 c1
      refine ⟨329, by rw [c1]; rfl, ?_⟩
      refine s_aload_n (nx := 330) hO rfl rfl rfl ?_
      refine s_iconst (x := 1) (nx := 331) hO rfl (by decide) rfl ?_
      refine s_callV [.int 1] (ci := 9) (F := TX9) (N := 8) (nx := 334) hO rfl kX9_change_109 (by rw [hcl]; rfl) (hs_o9 kc114) (w_X9_take hG H) rfl rfl (Nat.le_of_ble_eq_true rfl) (Nat.zero_le _) (Nat.zero_le _) rfl (k_Qi (fun r123 s124 H => ?_))
      refine s_if_eq (nx := 337) hO rfl rfl (fun c334 => ?_) (fun c334 => ?_)
      · replace H := H.1 c334
        refine s_iconst (x := 0) (nx := 350) hO rfl (by decide) rfl ?_
        exact s_iret hO rfl rfl rfl ⟨rfl, _, _, rfl, rfl, H⟩
      · replace H := H.2 c334
        refine s_aload_n (nx := 338) hO rfl rfl rfl ?_
        refine s_iconst (x := 0) (nx := 339) hO rfl (by decide) rfl ?_
        refine s_callV [.int 0] (ci := 9) (F := TX9) (N := 8) (nx := 342) hO rfl kX9_change_102 (by rw [hcl]; rfl) (hs_o9 kc114) (w_X9_put hG H) rfl rfl (Nat.le_of_ble_eq_true rfl) (Nat.zero_le _) (Nat.zero_le _) rfl (k_Qi (fun r125 s126 H => ?_))
        refine s_if_eq (nx := 345) hO rfl rfl (fun c342 => ?_) (fun c342 => ?_)
        · replace H := H.1 c342
          refine s_iconst (x := 0) (nx := 350) hO rfl (by decide) rfl ?_
          exact s_iret hO rfl rfl rfl ⟨rfl, _, _, rfl, rfl, H⟩
        · replace H := H.2 c342
          refine s_iconst (x := 1) (nx := 346) hO rfl (by decide) rfl ?_
          refine s_goto hO rfl ?_
          exact s_iret hO rfl rfl rfl ⟨rfl, _, _, rfl, rfl, H⟩
    · replace H := H.2.2.2.2.2.2.2.2.2.2.2.2.2.2.2.2.2.2.2.2.2.2.2.2.2.2.1 c1
      refine ⟨351, by rw [c1]; rfl, ?_⟩
      refine s_aload_n (nx := 352) hO rfl rfl rfl ?_
      refine s_iload_n (nx := 353) hO rfl rfl rfl ?_
      refine s_callV [.int v2] (ci := 9) (F := TX9) (N := 8) (nx := 356) hO rfl kX9_change_119 (by rw [hcl]; rfl) (hs_o9 kc114) (w_X9_call hG H) rfl rfl (Nat.le_of_ble_eq_true rfl) (Nat.zero_le _) (Nat.zero_le _) rfl (k_Qi (fun r127 s128 H => ?_))
      obtain ⟨b129, H⟩ := H
      exact s_iret hO rfl rfl (zb_n b129) ⟨rfl, _, _, rfl, rfl, H⟩
    · replace H := H.2.2.2.2.2.2.2.2.2.2.2.2.2.2.2.2.2.2.2.2.2.2.2.2.2.2.2.1 c1
      refine ⟨357, by rw [c1]; rfl, ?_⟩
      refine s_aload_n (nx := 358) hO rfl rfl rfl ?_
      refine s_iload_n (nx := 359) hO rfl rfl rfl ?_
      refine s_iconst (x := (nI 4)) (nx := 360) hO rfl (by decide) rfl ?_
      refine s_irem (nx := 361) hO rfl (by decide) rfl ?_
      refine s_callV [.int (v2 - v2 / (nI 4) * (nI 4))] (ci := 9) (F := TX9) (N := 8) (nx := 364) hO rfl kX9_change_122 (by rw [hcl]; rfl) (hs_o9 kc114) (w_X9_hasInts hG H) rfl rfl (Nat.le_of_ble_eq_true rfl) (Nat.zero_le _) (Nat.zero_le _) rfl (k_Pi (fun r130 H => ?_))
      refine s_if_eq (nx := 367) hO rfl rfl (fun c364 => ?_) (fun c364 => ?_)
      · replace H := H.1 c364
        refine s_iconst (x := 0) (nx := 390) hO rfl (by decide) rfl ?_
        exact s_iret hO rfl rfl rfl ⟨rfl, _, _, rfl, rfl, H⟩
      · replace H := H.2 c364
        refine s_aload_n (nx := 368) hO rfl rfl rfl ?_
        refine s_iload_n (nx := 369) hO rfl rfl rfl ?_
        refine s_iconst (x := (nI 4)) (nx := 370) hO rfl (by decide) rfl ?_
        refine s_irem (nx := 371) hO rfl (by decide) rfl ?_
        refine s_callV [.int (v2 - v2 / (nI 4) * (nI 4))] (ci := 9) (F := TX9) (N := 8) (nx := 374) hO rfl kX9_change_125 (by rw [hcl]; rfl) (hs_o9 kc114) (w_X9_takeInts hG H) rfl rfl (Nat.le_of_ble_eq_true rfl) (Nat.zero_le _) (Nat.zero_le _) rfl (k_Qi (fun r131 s132 H => ?_))
        refine s_if_eq (nx := 377) hO rfl rfl (fun c374 => ?_) (fun c374 => ?_)
        · replace H := H.1 c374
          refine s_iconst (x := 0) (nx := 390) hO rfl (by decide) rfl ?_
          exact s_iret hO rfl rfl rfl ⟨rfl, _, _, rfl, rfl, H⟩
        · replace H := H.2 c374
          refine s_aload_n (nx := 378) hO rfl rfl rfl ?_
          refine s_iconst (x := 0) (nx := 379) hO rfl (by decide) rfl ?_
          refine s_callV [.int 0] (ci := 9) (F := TX9) (N := 8) (nx := 382) hO rfl kX9_change_102 (by rw [hcl]; rfl) (hs_o9 kc114) (w_X9_put hG H) rfl rfl (Nat.le_of_ble_eq_true rfl) (Nat.zero_le _) (Nat.zero_le _) rfl (k_Qi (fun r133 s134 H => ?_))
          refine s_if_eq (nx := 385) hO rfl rfl (fun c382 => ?_) (fun c382 => ?_)
          · replace H := H.1 c382
            refine s_iconst (x := 0) (nx := 390) hO rfl (by decide) rfl ?_
            exact s_iret hO rfl rfl rfl ⟨rfl, _, _, rfl, rfl, H⟩
          · replace H := H.2 c382
            refine s_iconst (x := 1) (nx := 386) hO rfl (by decide) rfl ?_
            refine s_goto hO rfl ?_
            exact s_iret hO rfl rfl rfl ⟨rfl, _, _, rfl, rfl, H⟩
    · replace H := H.2.2.2.2.2.2.2.2.2.2.2.2.2.2.2.2.2.2.2.2.2.2.2.2.2.2.2.2.1 c1
      refine ⟨391, by rw [c1]; rfl, ?_⟩
      refine s_aload_n (nx := 392) hO rfl rfl rfl ?_
      obtain ⟨p135, ep135, kp135, H⟩ := H
      refine s_getf (v := .ref (q_b G + p135)) (nx := 395) hO rfl rfl (hs_o9 kc114) (congrArg some (rv_at ep135)) rfl ?_
      refine s_getf (v := .ref (q_b G + (p135 + 4))) (nx := 398) hO rfl rfl (hs_o5 kp135) rfl rfl ?_
      refine s_aload_n (nx := 399) hO rfl rfl rfl ?_
      refine s_getf (v := .int (sI s 114 3)) (nx := 402) hO rfl rfl (hs_o9 kc114) rfl rfl ?_
      obtain ⟨b136, H⟩ := H
      refine s_iald (nx := 403) hO rfl (hs_I (kf5_4 kp135)) b136 rfl ?_
      refine s_if_eq (nx := 406) hO rfl rfl (fun c403 => ?_) (fun c403 => ?_)
      · replace H := H.1 c403
        refine s_iconst (x := 1) (nx := 428) hO rfl (by decide) rfl ?_
        refine s_goto hO rfl ?_
        exact s_iret hO rfl rfl rfl ⟨rfl, _, _, rfl, rfl, H⟩
      · replace H := H.2 c403
        refine s_aload_n (nx := 407) hO rfl rfl rfl ?_
        refine s_aload_n (nx := 408) hO rfl rfl rfl ?_
        obtain ⟨p137, ep137, kp137, H⟩ := H
        refine s_getf (v := .ref (q_b G + p137)) (nx := 411) hO rfl rfl (hs_o9 kc114) (congrArg some (rv_at ep137)) rfl ?_
        refine s_getf (v := .ref (q_b G + (p137 + 4))) (nx := 414) hO rfl rfl (hs_o5 kp137) rfl rfl ?_
        refine s_aload_n (nx := 415) hO rfl rfl rfl ?_
        refine s_getf (v := .int (sI s 114 3)) (nx := 418) hO rfl rfl (hs_o9 kc114) rfl rfl ?_
        obtain ⟨b138, H⟩ := H
        refine s_iald (nx := 419) hO rfl (hs_I (kf5_4 kp137)) b138 rfl ?_
        refine s_iconst (x := 1) (nx := 420) hO rfl (by decide) rfl ?_
        refine s_isub (nx := 421) hO rfl rfl ?_
        refine s_callV [.int ((sI s (p137 + 4) (ix (sI s 114 3))) - 1)] (ci := 9) (F := TX9) (N := 8) (nx := 424) hO rfl kX9_change_109 (by rw [hcl]; rfl) (hs_o9 kc114) (w_X9_take hG H) rfl rfl (Nat.le_of_ble_eq_true rfl) (Nat.zero_le _) (Nat.zero_le _) rfl (k_Qi (fun r139 s140 H => ?_))
        refine s_if_eq (nx := 427) hO rfl rfl (fun c424 => ?_) (fun c424 => ?_)
        · replace H := H.1 c424
          refine s_iconst (x := 0) (nx := 432) hO rfl (by decide) rfl ?_
          exact s_iret hO rfl rfl rfl ⟨rfl, _, _, rfl, rfl, H⟩
        · replace H := H.2 c424
          refine s_iconst (x := 1) (nx := 428) hO rfl (by decide) rfl ?_
          refine s_goto hO rfl ?_
          exact s_iret hO rfl rfl rfl ⟨rfl, _, _, rfl, rfl, H⟩
    · replace H := H.2.2.2.2.2.2.2.2.2.2.2.2.2.2.2.2.2.2.2.2.2.2.2.2.2.2.2.2.2.1 c1
      refine ⟨241, by rw [c1]; rfl, ?_⟩
      refine s_aload_n (nx := 242) hO rfl rfl rfl ?_
      refine s_iconst (x := 0) (nx := 243) hO rfl (by decide) rfl ?_
      refine s_callV [.int 0] (ci := 9) (F := TX9) (N := 8) (nx := 246) hO rfl kX9_change_109 (by rw [hcl]; rfl) (hs_o9 kc114) (w_X9_take hG H) rfl rfl (Nat.le_of_ble_eq_true rfl) (Nat.zero_le _) (Nat.zero_le _) rfl (k_Qi (fun r141 s142 H => ?_))
      obtain ⟨b143, H⟩ := H
      exact s_iret hO rfl rfl (zb_n b143) ⟨rfl, _, _, rfl, rfl, H⟩
    · replace H := H.2.2.2.2.2.2.2.2.2.2.2.2.2.2.2.2.2.2.2.2.2.2.2.2.2.2.2.2.2.2 c1
      refine ⟨433, by rw [c1]; rfl, ?_⟩
      refine s_aload_n (nx := 434) hO rfl rfl rfl ?_
      refine s_iload_n (nx := 435) hO rfl rfl rfl ?_
      refine s_iconst (x := (nI 4)) (nx := 436) hO rfl (by decide) rfl ?_
      refine s_irem (nx := 437) hO rfl (by decide) rfl ?_
      refine s_callV [.int (v2 - v2 / (nI 4) * (nI 4))] (ci := 9) (F := TX9) (N := 8) (nx := 440) hO rfl kX9_change_122 (by rw [hcl]; rfl) (hs_o9 kc114) (w_X9_hasInts hG H) rfl rfl (Nat.le_of_ble_eq_true rfl) (Nat.zero_le _) (Nat.zero_le _) rfl (k_Pi (fun r144 H => ?_))
      obtain ⟨b145, H⟩ := H
      exact s_iret hO rfl rfl (zb_n b145) ⟨rfl, _, _, rfl, rfl, H⟩
def W_X9_look (s : yS) (v1 : Int32) (Q : Int32 → yS → Prop) : Prop :=
 ∀ x1 : Int32, x1 = (((sI s 114 3) * (nI 400)) + v1) → 
 ∃ p2 : Nat, sR s 114 2 = p2 + 1 ∧ kd p2 = some (9, 0) ∧ 
 vp_in x1 4800 ∧ 
 ∀ x4 : Int32, x4 = (sI s (p2 + 7) (ix x1)) → 
 ∃ p5 : Nat, sR s 114 2 = p5 + 1 ∧ kd p5 = some (9, 0) ∧ 
 vp_in x1 4800 ∧ 
 ∀ s7 : yS, s7 = wI s 114 4 (sI s (p5 + 9) (ix x1)) → 
 ∃ p8 : Nat, sR s7 114 2 = p8 + 1 ∧ kd p8 = some (9, 0) ∧ 
 vp_in x1 4800 ∧ 
 ∀ s10 : yS, s10 = wI s7 114 5 (sI s7 (p8 + 10) (ix x1)) → 
 ∃ p11 : Nat, sR s10 114 2 = p11 + 1 ∧ kd p11 = some (9, 0) ∧ 
 vp_in x1 4800 ∧ 
 W_X9_change s10 x4 (sI s10 (p11 + 8) (ix x1)) 
 (fun r13 s14 => ((¬ r13 = 0 → (((sI s14 114 4) ≤ (nI 16) → ∀ P91 : Int32 → yS → Prop, (∀ (x15 : Int32) (s16 : yS), (∃ p17 : Nat, sR s16 114 2 = p17 + 1 ∧ kd p17 = some (9, 0) ∧ 
    vp_in (sI s16 114 3) 12 ∧ 
    (((sI s16 (p17 + 6) (ix (sI s16 114 3))) ≤ x15 → W_X5_isJump s16 x4 
     (fun r19 => ∀ P193 : yS → Prop, (∀ (s20 : yS), (W_X5_goesOnBehind s20 x4 
      (fun r21 => ((¬ r21 = 0 → ∃ p22 : Nat, sR s20 114 2 = p22 + 1 ∧ kd p22 = some (9, 0) ∧ 
       vp_in (sI s20 114 3) 12 ∧ 
       (((sI s20 (p22 + 5) (ix (sI s20 114 3))) ≤ (v1 + 1) → W_X9_refuse s20 (nI 8) v1 
        (fun r24 s25 => zb r24 ∧ Q r24 s25))
       ∧ (¬ (sI s20 (p22 + 5) (ix (sI s20 114 3))) ≤ (v1 + 1) → W_X9_comeTo s20 (v1 + 1) (sI s20 114 4) (sI s20 114 5) 
        (fun r27 s28 => zb r27 ∧ Q r27 s28))))
      ∧ (r21 = 0 → Q 1 s20)))) → P193 s20) → 
     ((r19 = 0 → P193 s16)
     ∧ (¬ r19 = 0 → ∃ p30 : Nat, sR s16 114 2 = p30 + 1 ∧ kd p30 = some (9, 0) ∧ 
      vp_in x1 4800 ∧ 
      W_X9_comeTo s16 (sI s16 (p30 + 8) (ix x1)) (sI s16 114 4) (sI s16 114 5) 
      (fun r32 s33 => ((¬ r32 = 0 → P193 s33)
      ∧ (r32 = 0 → Q 0 s33)))))))
    ∧ (¬ (sI s16 (p17 + 6) (ix (sI s16 114 3))) ≤ x15 → ∀ x34 : Int32, x34 = (((sI s16 114 3) * (nI 6)) + x15) → 
     ∃ p35 : Nat, sR s16 114 2 = p35 + 1 ∧ kd p35 = some (9, 0) ∧ 
     W_X5_isInRange s16 p35 x34 v1 
     (fun r36 => ∀ P154 : yS → Prop, (∀ (s37 : yS), (∀ x38 : Int32, x38 = (x15 + 1) → 
      P91 x38 s37) → P154 s37) → 
     ((r36 = 0 → P154 s16)
     ∧ (¬ r36 = 0 → ∃ p39 : Nat, sR s16 114 2 = p39 + 1 ∧ kd p39 = some (9, 0) ∧ 
      vp_in x34 72 ∧ 
      W_X9_comeTo s16 (sI s16 (p39 + 15) (ix x34)) 1 0 
      (fun r41 s42 => ((¬ r41 = 0 → P154 s42)
      ∧ (r41 = 0 → Q 0 s42))))))))) → P91 x15 s16) → 
   P91 0 s14)
  ∧ (¬ (sI s14 114 4) ≤ (nI 16) → W_X9_refuse s14 (nI 6) v1 
   (fun r43 s44 => zb r43 ∧ Q r43 s44))))
 ∧ (r13 = 0 → W_X9_refuse s14 (nI 5) v1 
  (fun r46 s47 => zb r46 ∧ Q r46 s47))))
set_option maxRecDepth 100000 in
set_option maxHeartbeats 40000000 in
theorem w_X9_look {G : xG} (hG : yG G) {z : Nat} {s : yS} {v1 : Int32} {Q : Int32 → yS → Prop} (H : W_X9_look s v1 Q) : xC G mX9_look [.ref (q_b G + 114), .int v1] (hS G s) z 0 0 (yQi G z Q) := by
  have hW := hG.1
  have hcl := hG.2.1
  have hty := hG.2.2.1
  have hO : xO G mX9_look tbX9_look ptX9_look := ⟨tkX9_look, pkX9_look hcl⟩
  unfold W_X9_look at H
  refine xC.of hW (by decide) rfl (Nat.le_of_ble_eq_true rfl) ?_
  refine s_aload_n (nx := 1) hO rfl rfl rfl ?_
  refine s_getf (v := .int (sI s 114 3)) (nx := 4) hO rfl rfl (hs_o9 kc114) rfl rfl ?_
  refine s_sipush (x := (nI 400)) (nx := 7) hO rfl (by decide) rfl ?_
  refine s_imul (nx := 8) hO rfl rfl ?_
  refine s_iload_n (nx := 9) hO rfl rfl rfl ?_
  refine s_iadd (nx := 10) hO rfl rfl ?_
  refine goV ((((sI s 114 3) * (nI 400)) + v1)) (fun x1 ex1 => ?_)
  replace H := H x1 ex1
  refine e_istore_n (nx := 11) (l' := [(2, .int x1), (0, .ref (q_b G + 114)), (1, .int v1)]) ex1 hO rfl (by decide) rfl rfl ?_
  refine s_aload_n (nx := 12) hO rfl rfl rfl ?_
  obtain ⟨p2, ep2, kp2, H⟩ := H
  refine s_getf (v := .ref (q_b G + p2)) (nx := 15) hO rfl rfl (hs_o9 kc114) (congrArg some (rv_at ep2)) rfl ?_
  refine s_getf (v := .ref (q_b G + (p2 + 7))) (nx := 18) hO rfl rfl (hs_o5 kp2) rfl rfl ?_
  refine s_iload_n (nx := 19) hO rfl rfl rfl ?_
  obtain ⟨b3, H⟩ := H
  refine s_iald (nx := 20) hO rfl (hs_I (kf5_7 kp2)) b3 rfl ?_
  refine goV ((sI s (p2 + 7) (ix x1))) (fun x4 ex4 => ?_)
  replace H := H x4 ex4
  refine e_istore_n (nx := 21) (l' := [(3, .int x4), (2, .int x1), (0, .ref (q_b G + 114)), (1, .int v1)]) ex4 hO rfl (by decide) rfl rfl ?_
  refine s_aload_n (nx := 22) hO rfl rfl rfl ?_
  refine s_aload_n (nx := 23) hO rfl rfl rfl ?_
  obtain ⟨p5, ep5, kp5, H⟩ := H
  refine s_getf (v := .ref (q_b G + p5)) (nx := 26) hO rfl rfl (hs_o9 kc114) (congrArg some (rv_at ep5)) rfl ?_
  refine s_getf (v := .ref (q_b G + (p5 + 9))) (nx := 29) hO rfl rfl (hs_o5 kp5) rfl rfl ?_
  refine s_iload_n (nx := 30) hO rfl rfl rfl ?_
  obtain ⟨b6, H⟩ := H
  refine s_iald (nx := 31) hO rfl (hs_I (kf5_9 kp5)) b6 rfl ?_
  refine goV (wI s 114 4 (sI s (p5 + 9) (ix x1))) (fun s7 es7 => ?_)
  replace H := H s7 es7
  refine s_putf (nx := 34) hO rfl rfl (hs_o9 kc114) (Nat.le_of_ble_eq_true rfl) (by rw [hty]; rfl) (by rw [hty]; rfl) pX9_4 rfl ?_
  refine xEx.at (up_oI9 kc114 es7) ?_
  refine s_aload_n (nx := 35) hO rfl rfl rfl ?_
  refine s_aload_n (nx := 36) hO rfl rfl rfl ?_
  obtain ⟨p8, ep8, kp8, H⟩ := H
  refine s_getf (v := .ref (q_b G + p8)) (nx := 39) hO rfl rfl (hs_o9 kc114) (congrArg some (rv_at ep8)) rfl ?_
  refine s_getf (v := .ref (q_b G + (p8 + 10))) (nx := 42) hO rfl rfl (hs_o5 kp8) rfl rfl ?_
  refine s_iload_n (nx := 43) hO rfl rfl rfl ?_
  obtain ⟨b9, H⟩ := H
  refine s_iald (nx := 44) hO rfl (hs_I (kf5_10 kp8)) b9 rfl ?_
  refine goV (wI s7 114 5 (sI s7 (p8 + 10) (ix x1))) (fun s10 es10 => ?_)
  replace H := H s10 es10
  refine s_putf (nx := 47) hO rfl rfl (hs_o9 kc114) (Nat.le_of_ble_eq_true rfl) (by rw [hty]; rfl) (by rw [hty]; rfl) pX9_5 rfl ?_
  refine xEx.at (up_oI9 kc114 es10) ?_
  refine s_aload_n (nx := 48) hO rfl rfl rfl ?_
  refine s_iload_n (nx := 49) hO rfl rfl rfl ?_
  refine s_aload_n (nx := 50) hO rfl rfl rfl ?_
  obtain ⟨p11, ep11, kp11, H⟩ := H
  refine s_getf (v := .ref (q_b G + p11)) (nx := 53) hO rfl rfl (hs_o9 kc114) (congrArg some (rv_at ep11)) rfl ?_
  refine s_getf (v := .ref (q_b G + (p11 + 8))) (nx := 56) hO rfl rfl (hs_o5 kp11) rfl rfl ?_
  refine s_iload_n (nx := 57) hO rfl rfl rfl ?_
  obtain ⟨b12, H⟩ := H
  refine s_iald (nx := 58) hO rfl (hs_I (kf5_8 kp11)) b12 rfl ?_
  refine s_callV [.int x4, .int (sI s10 (p11 + 8) (ix x1))] (ci := 9) (F := TX9) (N := 8) (nx := 61) hO rfl kX9_look_84 (by rw [hcl]; rfl) (hs_o9 kc114) (w_X9_change hG H) rfl rfl (Nat.le_of_ble_eq_true rfl) (Nat.zero_le _) (Nat.zero_le _) rfl (k_Qi (fun r13 s14 H => ?_))
  refine s_if_ne (nx := 64) hO rfl rfl (fun c61 => ?_) (fun c61 => ?_)
  · replace H := H.1 c61
    refine s_aload_n (nx := 72) hO rfl rfl rfl ?_
    refine s_getf (v := .int (sI s14 114 4)) (nx := 75) hO rfl rfl (hs_o9 kc114) rfl rfl ?_
    refine s_bipush (x := (nI 16)) (nx := 77) hO rfl (by decide) rfl ?_
    refine s_icmp_le (nx := 80) hO rfl rfl (fun c77 => ?_) (fun c77 => ?_)
    · replace H := H.1 c77
      refine s_iconst (x := 0) (nx := 89) hO rfl (by decide) rfl ?_
      refine goK (H (fun (x15 : Int32) (s16 : yS) => xEx G mX9_look 91 [(0, .ref (q_b G + 114)), (1, .int v1), (2, .int x1), (3, .int x4), (4, .int x15)] [] (hS G s16) z 0 0 (yQi G z Q)) (fun x15 s16 H => ?_)) (fun H => ?_)
      · show xEx G mX9_look 91 [(0, .ref (q_b G + 114)), (1, .int v1), (2, .int x1), (3, .int x4), (4, .int x15)] [] (hS G s16) z 0 0 (yQi G z Q)
        refine s_iload (nx := 93) hO rfl rfl rfl ?_
        refine s_aload_n (nx := 94) hO rfl rfl rfl ?_
        obtain ⟨p17, ep17, kp17, H⟩ := H
        refine s_getf (v := .ref (q_b G + p17)) (nx := 97) hO rfl rfl (hs_o9 kc114) (congrArg some (rv_at ep17)) rfl ?_
        refine s_getf (v := .ref (q_b G + (p17 + 6))) (nx := 100) hO rfl rfl (hs_o5 kp17) rfl rfl ?_
        refine s_aload_n (nx := 101) hO rfl rfl rfl ?_
        refine s_getf (v := .int (sI s16 114 3)) (nx := 104) hO rfl rfl (hs_o9 kc114) rfl rfl ?_
        obtain ⟨b18, H⟩ := H
        refine s_iald (nx := 105) hO rfl (hs_I (kf5_6 kp17)) b18 rfl ?_
        refine s_icmp_ge (nx := 108) hO rfl rfl (fun c105 => ?_) (fun c105 => ?_)
        · replace H := H.1 c105
          refine s_iload_n (nx := 161) hO rfl rfl rfl ?_
          refine s_callS [.int x4] (nx := 164) hO rfl kX9_look_96 (w_X5_isJump hG H) rfl rfl (Nat.le_of_ble_eq_true rfl) (Nat.zero_le _) (Nat.zero_le _) rfl (k_Pi (fun r19 H => ?_))
          refine goK (H (fun (s20 : yS) => xEx G mX9_look 193 [(0, .ref (q_b G + 114)), (1, .int v1), (3, .int x4)] [] (hS G s20) z 0 0 (yQi G z Q)) (fun s20 H => ?_)) (fun H => ?_)
          · show xEx G mX9_look 193 [(0, .ref (q_b G + 114)), (1, .int v1), (3, .int x4)] [] (hS G s20) z 0 0 (yQi G z Q)
            refine s_iload_n (nx := 194) hO rfl rfl rfl ?_
            refine s_callS [.int x4] (nx := 197) hO rfl kX9_look_99 (w_X5_goesOnBehind hG H) rfl rfl (Nat.le_of_ble_eq_true rfl) (Nat.zero_le _) (Nat.zero_le _) rfl (k_Pi (fun r21 H => ?_))
            refine s_if_ne (nx := 200) hO rfl rfl (fun c197 => ?_) (fun c197 => ?_)
            · replace H := H.1 c197
              refine s_iload_n (nx := 203) hO rfl rfl rfl ?_
              refine s_iconst (x := 1) (nx := 204) hO rfl (by decide) rfl ?_
              refine s_iadd (nx := 205) hO rfl rfl ?_
              refine s_aload_n (nx := 206) hO rfl rfl rfl ?_
              obtain ⟨p22, ep22, kp22, H⟩ := H
              refine s_getf (v := .ref (q_b G + p22)) (nx := 209) hO rfl rfl (hs_o9 kc114) (congrArg some (rv_at ep22)) rfl ?_
              refine s_getf (v := .ref (q_b G + (p22 + 5))) (nx := 212) hO rfl rfl (hs_o5 kp22) rfl rfl ?_
              refine s_aload_n (nx := 213) hO rfl rfl rfl ?_
              refine s_getf (v := .int (sI s20 114 3)) (nx := 216) hO rfl rfl (hs_o9 kc114) rfl rfl ?_
              obtain ⟨b23, H⟩ := H
              refine s_iald (nx := 217) hO rfl (hs_I (kf5_5 kp22)) b23 rfl ?_
              refine s_icmp_ge (nx := 220) hO rfl rfl (fun c217 => ?_) (fun c217 => ?_)
              · replace H := H.1 c217
                refine s_aload_n (nx := 239) hO rfl rfl rfl ?_
                refine s_bipush (x := (nI 8)) (nx := 241) hO rfl (by decide) rfl ?_
                refine s_iload_n (nx := 242) hO rfl rfl rfl ?_
                refine s_callV [.int (nI 8), .int v1] (ci := 9) (F := TX9) (N := 8) (nx := 245) hO rfl kX9_look_70 (by rw [hcl]; rfl) (hs_o9 kc114) (w_X9_refuse hG H) rfl rfl (Nat.le_of_ble_eq_true rfl) (Nat.zero_le _) (Nat.zero_le _) rfl (k_Qi (fun r24 s25 H => ?_))
                obtain ⟨b26, H⟩ := H
                exact s_iret hO rfl rfl (zb_n b26) ⟨rfl, _, _, rfl, rfl, H⟩
              · replace H := H.2 c217
                refine s_aload_n (nx := 221) hO rfl rfl rfl ?_
                refine s_iload_n (nx := 222) hO rfl rfl rfl ?_
                refine s_iconst (x := 1) (nx := 223) hO rfl (by decide) rfl ?_
                refine s_iadd (nx := 224) hO rfl rfl ?_
                refine s_aload_n (nx := 225) hO rfl rfl rfl ?_
                refine s_getf (v := .int (sI s20 114 4)) (nx := 228) hO rfl rfl (hs_o9 kc114) rfl rfl ?_
                refine s_aload_n (nx := 229) hO rfl rfl rfl ?_
                refine s_getf (v := .int (sI s20 114 5)) (nx := 232) hO rfl rfl (hs_o9 kc114) rfl rfl ?_
                refine s_callV [.int (v1 + 1), .int (sI s20 114 4), .int (sI s20 114 5)] (ci := 9) (F := TX9) (N := 8) (nx := 235) hO rfl kX9_look_56 (by rw [hcl]; rfl) (hs_o9 kc114) (w_X9_comeTo hG H) rfl rfl (Nat.le_of_ble_eq_true rfl) (Nat.zero_le _) (Nat.zero_le _) rfl (k_Qi (fun r27 s28 H => ?_))
                refine s_goto hO rfl ?_
                obtain ⟨b29, H⟩ := H
                exact s_iret hO rfl rfl (zb_n b29) ⟨rfl, _, _, rfl, rfl, H⟩
            · replace H := H.2 c197
              refine s_iconst (x := 1) (nx := 201) hO rfl (by decide) rfl ?_
              exact s_iret hO rfl rfl rfl ⟨rfl, _, _, rfl, rfl, H⟩
          refine s_if_eq (nx := 167) hO rfl rfl (fun c164 => ?_) (fun c164 => ?_)
          · replace H := H.1 c164
            exact xEx.loc (x_sub1 (List.Mem.head _) (x_sub1 (List.Mem.tail _ (List.Mem.head _)) (x_sub1 (List.Mem.tail _ (List.Mem.tail _ (List.Mem.tail _ (List.Mem.head _)))) x_sub0))) H
          · replace H := H.2 c164
            refine s_aload_n (nx := 168) hO rfl rfl rfl ?_
            refine s_aload_n (nx := 169) hO rfl rfl rfl ?_
            obtain ⟨p30, ep30, kp30, H⟩ := H
            refine s_getf (v := .ref (q_b G + p30)) (nx := 172) hO rfl rfl (hs_o9 kc114) (congrArg some (rv_at ep30)) rfl ?_
            refine s_getf (v := .ref (q_b G + (p30 + 8))) (nx := 175) hO rfl rfl (hs_o5 kp30) rfl rfl ?_
            refine s_iload_n (nx := 176) hO rfl rfl rfl ?_
            obtain ⟨b31, H⟩ := H
            refine s_iald (nx := 177) hO rfl (hs_I (kf5_8 kp30)) b31 rfl ?_
            refine s_aload_n (nx := 178) hO rfl rfl rfl ?_
            refine s_getf (v := .int (sI s16 114 4)) (nx := 181) hO rfl rfl (hs_o9 kc114) rfl rfl ?_
            refine s_aload_n (nx := 182) hO rfl rfl rfl ?_
            refine s_getf (v := .int (sI s16 114 5)) (nx := 185) hO rfl rfl (hs_o9 kc114) rfl rfl ?_
            refine s_callV [.int (sI s16 (p30 + 8) (ix x1)), .int (sI s16 114 4), .int (sI s16 114 5)] (ci := 9) (F := TX9) (N := 8) (nx := 188) hO rfl kX9_look_56 (by rw [hcl]; rfl) (hs_o9 kc114) (w_X9_comeTo hG H) rfl rfl (Nat.le_of_ble_eq_true rfl) (Nat.zero_le _) (Nat.zero_le _) rfl (k_Qi (fun r32 s33 H => ?_))
            refine s_if_ne (nx := 191) hO rfl rfl (fun c188 => ?_) (fun c188 => ?_)
            · replace H := H.1 c188
              exact xEx.loc (x_sub1 (List.Mem.head _) (x_sub1 (List.Mem.tail _ (List.Mem.head _)) (x_sub1 (List.Mem.tail _ (List.Mem.tail _ (List.Mem.tail _ (List.Mem.head _)))) x_sub0))) H
            · replace H := H.2 c188
              refine s_iconst (x := 0) (nx := 192) hO rfl (by decide) rfl ?_
              exact s_iret hO rfl rfl rfl ⟨rfl, _, _, rfl, rfl, H⟩
        · replace H := H.2 c105
          refine s_aload_n (nx := 109) hO rfl rfl rfl ?_
          refine s_getf (v := .int (sI s16 114 3)) (nx := 112) hO rfl rfl (hs_o9 kc114) rfl rfl ?_
          refine s_bipush (x := (nI 6)) (nx := 114) hO rfl (by decide) rfl ?_
          refine s_imul (nx := 115) hO rfl rfl ?_
          refine s_iload (nx := 117) hO rfl rfl rfl ?_
          refine s_iadd (nx := 118) hO rfl rfl ?_
          refine goV ((((sI s16 114 3) * (nI 6)) + x15)) (fun x34 ex34 => ?_)
          replace H := H x34 ex34
          refine e_istore (nx := 120) (l' := [(5, .int x34), (0, .ref (q_b G + 114)), (1, .int v1), (2, .int x1), (3, .int x4), (4, .int x15)]) ex34 hO rfl (by decide) rfl rfl ?_
          refine s_aload_n (nx := 121) hO rfl rfl rfl ?_
          obtain ⟨p35, ep35, kp35, H⟩ := H
          refine s_getf (v := .ref (q_b G + p35)) (nx := 124) hO rfl rfl (hs_o9 kc114) (congrArg some (rv_at ep35)) rfl ?_
          refine s_iload (nx := 126) hO rfl rfl rfl ?_
          refine s_iload_n (nx := 127) hO rfl rfl rfl ?_
          refine s_callV [.int x34, .int v1] (ci := 5) (F := TX5) (N := 19) (nx := 130) hO rfl kX9_look_90 (by rw [hcl]; rfl) (hs_o5 kp35) (w_X5_isInRange hG kp35 H) rfl rfl (Nat.le_of_ble_eq_true rfl) (Nat.zero_le _) (Nat.zero_le _) rfl (k_Pi (fun r36 H => ?_))
          refine goK (H (fun (s37 : yS) => xEx G mX9_look 154 [(0, .ref (q_b G + 114)), (1, .int v1), (2, .int x1), (3, .int x4), (4, .int x15)] [] (hS G s37) z 0 0 (yQi G z Q)) (fun s37 H => ?_)) (fun H => ?_)
          · show xEx G mX9_look 154 [(0, .ref (q_b G + 114)), (1, .int v1), (2, .int x1), (3, .int x4), (4, .int x15)] [] (hS G s37) z 0 0 (yQi G z Q)
            refine goV ((x15 + 1)) (fun x38 ex38 => ?_)
            replace H := H x38 ex38
            refine e_iinc (nx := 157) (l' := [(4, .int x38), (0, .ref (q_b G + 114)), (1, .int v1), (2, .int x1), (3, .int x4)]) ex38 hO rfl (by decide) rfl rfl rfl rfl ?_
            refine s_goto hO rfl ?_
            exact xEx.loc (x_sub1 (List.Mem.tail _ (List.Mem.head _)) (x_sub1 (List.Mem.tail _ (List.Mem.tail _ (List.Mem.head _))) (x_sub1 (List.Mem.tail _ (List.Mem.tail _ (List.Mem.tail _ (List.Mem.head _)))) (x_sub1 (List.Mem.tail _ (List.Mem.tail _ (List.Mem.tail _ (List.Mem.tail _ (List.Mem.head _))))) (x_sub1 (List.Mem.head _) x_sub0))))) H
          refine s_if_eq (nx := 133) hO rfl rfl (fun c130 => ?_) (fun c130 => ?_)
          · replace H := H.1 c130
            exact xEx.loc (x_sub1 (List.Mem.tail _ (List.Mem.head _)) (x_sub1 (List.Mem.tail _ (List.Mem.tail _ (List.Mem.head _))) (x_sub1 (List.Mem.tail _ (List.Mem.tail _ (List.Mem.tail _ (List.Mem.head _)))) (x_sub1 (List.Mem.tail _ (List.Mem.tail _ (List.Mem.tail _ (List.Mem.tail _ (List.Mem.head _))))) (x_sub1 (List.Mem.tail _ (List.Mem.tail _ (List.Mem.tail _ (List.Mem.tail _ (List.Mem.tail _ (List.Mem.head _)))))) x_sub0))))) H
          · replace H := H.2 c130
            refine s_aload_n (nx := 134) hO rfl rfl rfl ?_
            refine s_aload_n (nx := 135) hO rfl rfl rfl ?_
            obtain ⟨p39, ep39, kp39, H⟩ := H
            refine s_getf (v := .ref (q_b G + p39)) (nx := 138) hO rfl rfl (hs_o9 kc114) (congrArg some (rv_at ep39)) rfl ?_
            refine s_getf (v := .ref (q_b G + (p39 + 15))) (nx := 141) hO rfl rfl (hs_o5 kp39) rfl rfl ?_
            refine s_iload (nx := 143) hO rfl rfl rfl ?_
            obtain ⟨b40, H⟩ := H
            refine s_iald (nx := 144) hO rfl (hs_I (kf5_16 kp39)) b40 rfl ?_
            refine s_iconst (x := 1) (nx := 145) hO rfl (by decide) rfl ?_
            refine s_iconst (x := 0) (nx := 146) hO rfl (by decide) rfl ?_
            refine s_callV [.int (sI s16 (p39 + 15) (ix x34)), .int 1, .int 0] (ci := 9) (F := TX9) (N := 8) (nx := 149) hO rfl kX9_look_56 (by rw [hcl]; rfl) (hs_o9 kc114) (w_X9_comeTo hG H) rfl rfl (Nat.le_of_ble_eq_true rfl) (Nat.zero_le _) (Nat.zero_le _) rfl (k_Qi (fun r41 s42 H => ?_))
            refine s_if_ne (nx := 152) hO rfl rfl (fun c149 => ?_) (fun c149 => ?_)
            · replace H := H.1 c149
              exact xEx.loc (x_sub1 (List.Mem.tail _ (List.Mem.head _)) (x_sub1 (List.Mem.tail _ (List.Mem.tail _ (List.Mem.head _))) (x_sub1 (List.Mem.tail _ (List.Mem.tail _ (List.Mem.tail _ (List.Mem.head _)))) (x_sub1 (List.Mem.tail _ (List.Mem.tail _ (List.Mem.tail _ (List.Mem.tail _ (List.Mem.head _))))) (x_sub1 (List.Mem.tail _ (List.Mem.tail _ (List.Mem.tail _ (List.Mem.tail _ (List.Mem.tail _ (List.Mem.head _)))))) x_sub0))))) H
            · replace H := H.2 c149
              refine s_iconst (x := 0) (nx := 153) hO rfl (by decide) rfl ?_
              exact s_iret hO rfl rfl rfl ⟨rfl, _, _, rfl, rfl, H⟩
      refine s_istore (nx := 91) (l' := [(4, .int 0), (3, .int x4), (2, .int x1), (0, .ref (q_b G + 114)), (1, .int v1)]) hO rfl (by decide) rfl rfl ?_
      exact xEx.loc (x_sub1 (List.Mem.tail _ (List.Mem.tail _ (List.Mem.tail _ (List.Mem.head _)))) (x_sub1 (List.Mem.tail _ (List.Mem.tail _ (List.Mem.tail _ (List.Mem.tail _ (List.Mem.head _))))) (x_sub1 (List.Mem.tail _ (List.Mem.tail _ (List.Mem.head _))) (x_sub1 (List.Mem.tail _ (List.Mem.head _)) (x_sub1 (List.Mem.head _) x_sub0))))) H
    · replace H := H.2 c77
      refine s_aload_n (nx := 81) hO rfl rfl rfl ?_
      refine s_bipush (x := (nI 6)) (nx := 83) hO rfl (by decide) rfl ?_
      refine s_iload_n (nx := 84) hO rfl rfl rfl ?_
      refine s_callV [.int (nI 6), .int v1] (ci := 9) (F := TX9) (N := 8) (nx := 87) hO rfl kX9_look_70 (by rw [hcl]; rfl) (hs_o9 kc114) (w_X9_refuse hG H) rfl rfl (Nat.le_of_ble_eq_true rfl) (Nat.zero_le _) (Nat.zero_le _) rfl (k_Qi (fun r43 s44 H => ?_))
      obtain ⟨b45, H⟩ := H
      exact s_iret hO rfl rfl (zb_n b45) ⟨rfl, _, _, rfl, rfl, H⟩
  · replace H := H.2 c61
    refine s_aload_n (nx := 65) hO rfl rfl rfl ?_
    refine s_iconst (x := (nI 5)) (nx := 66) hO rfl (by decide) rfl ?_
    refine s_iload_n (nx := 67) hO rfl rfl rfl ?_
    refine s_callV [.int (nI 5), .int v1] (ci := 9) (F := TX9) (N := 8) (nx := 70) hO rfl kX9_look_70 (by rw [hcl]; rfl) (hs_o9 kc114) (w_X9_refuse hG H) rfl rfl (Nat.le_of_ble_eq_true rfl) (Nat.zero_le _) (Nat.zero_le _) rfl (k_Qi (fun r46 s47 H => ?_))
    obtain ⟨b48, H⟩ := H
    exact s_iret hO rfl rfl (zb_n b48) ⟨rfl, _, _, rfl, rfl, H⟩

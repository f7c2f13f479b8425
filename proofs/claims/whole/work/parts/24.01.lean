def W_X0_copyHandlers (s : yS) (o1 : Nat) (o2 : Nat) (v3 : Int32) (Q : yS → Prop) : Prop :=
 ∀ P6 : Int32 → yS → Prop, (∀ (x1 : Int32) (s2 : yS), (vp_in v3 12 ∧ 
  ((((v3 * (nI 6)) + (sI s2 (o1 + 6) (ix v3))) ≤ x1 → Q s2)
  ∧ (¬ ((v3 * (nI 6)) + (sI s2 (o1 + 6) (ix v3))) ≤ x1 → vp_in x1 72 ∧ 
   vp_in (sI s2 (o1 + 13) (ix x1)) 401 ∧ 
   vp_in x1 72 ∧ ∀ s7 : yS, s7 = wI s2 (o2 + 13) (ix x1) (sI s2 122 (ix (sI s2 (o1 + 13) (ix x1)))) → 
   vp_in x1 72 ∧ 
   vp_in (sI s7 (o1 + 14) (ix x1)) 401 ∧ 
   vp_in x1 72 ∧ ∀ s11 : yS, s11 = wI s7 (o2 + 14) (ix x1) (sI s7 122 (ix (sI s7 (o1 + 14) (ix x1)))) → 
   vp_in x1 72 ∧ 
   vp_in (sI s11 (o1 + 15) (ix x1)) 401 ∧ 
   vp_in x1 72 ∧ ∀ s15 : yS, s15 = wI s11 (o2 + 15) (ix x1) (sI s11 122 (ix (sI s11 (o1 + 15) (ix x1)))) → 
   vp_in x1 72 ∧ 
   vp_in x1 72 ∧ ∀ s18 : yS, s18 = wI s15 (o2 + 16) (ix x1) (vp_nar .boolean (sI s15 (o1 + 16) (ix x1))) → 
   vp_in x1 72 ∧ 
   vp_in x1 72 ∧ ∀ s21 : yS, s21 = wI s18 (o2 + 17) (ix x1) (sI s18 (o1 + 17) (ix x1)) → 
   vp_in x1 72 ∧ 
   vp_in ((v3 * (nI 400)) + (sI s21 (o2 + 15) (ix x1))) 4800 ∧ ∀ s24 : yS, s24 = wI s21 (o2 + 11) (ix ((v3 * (nI 400)) + (sI s21 (o2 + 15) (ix x1)))) (vp_nar .boolean 1) → 
   ∀ x25 : Int32, x25 = (x1 + 1) → 
   P6 x25 s24))) → P6 x1 s2) → 
 ∀ x26 : Int32, x26 = (v3 * (nI 6)) → 
 P6 x26 s
set_option maxRecDepth 100000 in
set_option maxHeartbeats 40000000 in
theorem w_X0_copyHandlers {G : xG} (hG : yG G) {z : Nat} {s : yS} {o1 : Nat} {o2 : Nat} {v3 : Int32} {Q : yS → Prop} (ho1 : kd o1 = some (9, 0)) (ho2 : kd o2 = some (9, 0)) (H : W_X0_copyHandlers s o1 o2 v3 Q) : xC G mX0_copyHandlers [.ref (q_b G + 116), .ref (q_b G + o1), .ref (q_b G + o2), .int v3] (hS G s) z 0 0 (yQv G z Q) := by
  have hW := hG.1
  have hcl := hG.2.1
  have hty := hG.2.2.1
  have hO : xO G mX0_copyHandlers tbX0_copyHandlers ptX0_copyHandlers := ⟨tkX0_copyHandlers, pkX0_copyHandlers hcl⟩
  unfold W_X0_copyHandlers at H
  refine xC.of hW (by decide) rfl (Nat.le_of_ble_eq_true rfl) ?_
  refine s_iload_n (nx := 1) hO rfl rfl rfl ?_
  refine s_bipush (x := (nI 6)) (nx := 3) hO rfl (by decide) rfl ?_
  refine s_imul (nx := 4) hO rfl rfl ?_
  refine goK (H (fun (x1 : Int32) (s2 : yS) => xEx G mX0_copyHandlers 6 [(0, .ref (q_b G + 116)), (1, .ref (q_b G + o1)), (2, .ref (q_b G + o2)), (3, .int v3), (4, .int x1)] [] (hS G s2) z 0 0 (yQv G z Q)) (fun x1 s2 H => ?_)) (fun H => ?_)
  · show xEx G mX0_copyHandlers 6 [(0, .ref (q_b G + 116)), (1, .ref (q_b G + o1)), (2, .ref (q_b G + o2)), (3, .int v3), (4, .int x1)] [] (hS G s2) z 0 0 (yQv G z Q)
    refine s_iload (nx := 8) hO rfl rfl rfl ?_
    refine s_iload_n (nx := 9) hO rfl rfl rfl ?_
    refine s_bipush (x := (nI 6)) (nx := 11) hO rfl (by decide) rfl ?_
    refine s_imul (nx := 12) hO rfl rfl ?_
    refine s_aload_n (nx := 13) hO rfl rfl rfl ?_
    refine s_getf (v := .ref (q_b G + (o1 + 6))) (nx := 16) hO rfl rfl (hs_o5 ho1) rfl rfl ?_
    refine s_iload_n (nx := 17) hO rfl rfl rfl ?_
    obtain ⟨b3, H⟩ := H
    refine s_iald (nx := 18) hO rfl (hs_I (kf5_6 ho1)) b3 rfl ?_
    refine s_iadd (nx := 19) hO rfl rfl ?_
    refine s_icmp_ge (nx := 22) hO rfl rfl (fun c19 => ?_) (fun c19 => ?_)
    · replace H := H.1 c19
      exact s_vret hO rfl rfl ⟨rfl, _, rfl, rfl, H⟩
    · replace H := H.2 c19
      refine s_aload_n (nx := 23) hO rfl rfl rfl ?_
      refine s_getf (v := .ref (q_b G + (o2 + 13))) (nx := 26) hO rfl rfl (hs_o5 ho2) rfl rfl ?_
      refine s_iload (nx := 28) hO rfl rfl rfl ?_
      refine s_aload_n (nx := 29) hO rfl rfl rfl ?_
      refine s_getf (v := .ref (q_b G + 122)) (nx := 32) hO rfl rfl (hs_o0 kc116) rfl rfl ?_
      refine s_aload_n (nx := 33) hO rfl rfl rfl ?_
      refine s_getf (v := .ref (q_b G + (o1 + 13))) (nx := 36) hO rfl rfl (hs_o5 ho1) rfl rfl ?_
      refine s_iload (nx := 38) hO rfl rfl rfl ?_
      obtain ⟨b4, H⟩ := H
      refine s_iald (nx := 39) hO rfl (hs_I (kf5_14 ho1)) b4 rfl ?_
      obtain ⟨b5, H⟩ := H
      refine s_iald (nx := 40) hO rfl (hs_I kc122) b5 rfl ?_
      obtain ⟨b6, H⟩ := H
      refine goV (wI s2 (o2 + 13) (ix x1) (sI s2 122 (ix (sI s2 (o1 + 13) (ix x1))))) (fun s7 es7 => ?_)
      replace H := H s7 es7
      refine s_iast (nx := 41) hO rfl (hs_I (kf5_14 ho2)) b6 rfl ?_
      refine xEx.at (up_I (kf5_14 ho2) es7) ?_
      refine s_aload_n (nx := 42) hO rfl rfl rfl ?_
      refine s_getf (v := .ref (q_b G + (o2 + 14))) (nx := 45) hO rfl rfl (hs_o5 ho2) rfl rfl ?_
      refine s_iload (nx := 47) hO rfl rfl rfl ?_
      refine s_aload_n (nx := 48) hO rfl rfl rfl ?_
      refine s_getf (v := .ref (q_b G + 122)) (nx := 51) hO rfl rfl (hs_o0 kc116) rfl rfl ?_
      refine s_aload_n (nx := 52) hO rfl rfl rfl ?_
      refine s_getf (v := .ref (q_b G + (o1 + 14))) (nx := 55) hO rfl rfl (hs_o5 ho1) rfl rfl ?_
      refine s_iload (nx := 57) hO rfl rfl rfl ?_
      obtain ⟨b8, H⟩ := H
      refine s_iald (nx := 58) hO rfl (hs_I (kf5_15 ho1)) b8 rfl ?_
      obtain ⟨b9, H⟩ := H
      refine s_iald (nx := 59) hO rfl (hs_I kc122) b9 rfl ?_
      obtain ⟨b10, H⟩ := H
      refine goV (wI s7 (o2 + 14) (ix x1) (sI s7 122 (ix (sI s7 (o1 + 14) (ix x1))))) (fun s11 es11 => ?_)
      replace H := H s11 es11
      refine s_iast (nx := 60) hO rfl (hs_I (kf5_15 ho2)) b10 rfl ?_
      refine xEx.at (up_I (kf5_15 ho2) es11) ?_
      refine s_aload_n (nx := 61) hO rfl rfl rfl ?_
      refine s_getf (v := .ref (q_b G + (o2 + 15))) (nx := 64) hO rfl rfl (hs_o5 ho2) rfl rfl ?_
      refine s_iload (nx := 66) hO rfl rfl rfl ?_
      refine s_aload_n (nx := 67) hO rfl rfl rfl ?_
      refine s_getf (v := .ref (q_b G + 122)) (nx := 70) hO rfl rfl (hs_o0 kc116) rfl rfl ?_
      refine s_aload_n (nx := 71) hO rfl rfl rfl ?_
      refine s_getf (v := .ref (q_b G + (o1 + 15))) (nx := 74) hO rfl rfl (hs_o5 ho1) rfl rfl ?_
      refine s_iload (nx := 76) hO rfl rfl rfl ?_
      obtain ⟨b12, H⟩ := H
      refine s_iald (nx := 77) hO rfl (hs_I (kf5_16 ho1)) b12 rfl ?_
      obtain ⟨b13, H⟩ := H
      refine s_iald (nx := 78) hO rfl (hs_I kc122) b13 rfl ?_
      obtain ⟨b14, H⟩ := H
      refine goV (wI s11 (o2 + 15) (ix x1) (sI s11 122 (ix (sI s11 (o1 + 15) (ix x1))))) (fun s15 es15 => ?_)
      replace H := H s15 es15
      refine s_iast (nx := 79) hO rfl (hs_I (kf5_16 ho2)) b14 rfl ?_
      refine xEx.at (up_I (kf5_16 ho2) es15) ?_
      refine s_aload_n (nx := 80) hO rfl rfl rfl ?_
      refine s_getf (v := .ref (q_b G + (o2 + 16))) (nx := 83) hO rfl rfl (hs_o5 ho2) rfl rfl ?_
      refine s_iload (nx := 85) hO rfl rfl rfl ?_
      refine s_aload_n (nx := 86) hO rfl rfl rfl ?_
      refine s_getf (v := .ref (q_b G + (o1 + 16))) (nx := 89) hO rfl rfl (hs_o5 ho1) rfl rfl ?_
      refine s_iload (nx := 91) hO rfl rfl rfl ?_
      obtain ⟨b16, H⟩ := H
      refine s_zald (nx := 92) hO rfl (hs_Z (kf5_17 ho1)) b16 rfl ?_
      obtain ⟨b17, H⟩ := H
      refine goV (wI s15 (o2 + 16) (ix x1) (vp_nar .boolean (sI s15 (o1 + 16) (ix x1)))) (fun s18 es18 => ?_)
      replace H := H s18 es18
      refine s_zast (nx := 93) hO rfl (hs_Z (kf5_17 ho2)) b17 rfl ?_
      refine xEx.at (up_Z (kf5_17 ho2) es18) ?_
      refine s_aload_n (nx := 94) hO rfl rfl rfl ?_
      refine s_getf (v := .ref (q_b G + (o2 + 17))) (nx := 97) hO rfl rfl (hs_o5 ho2) rfl rfl ?_
      refine s_iload (nx := 99) hO rfl rfl rfl ?_
      refine s_aload_n (nx := 100) hO rfl rfl rfl ?_
      refine s_getf (v := .ref (q_b G + (o1 + 17))) (nx := 103) hO rfl rfl (hs_o5 ho1) rfl rfl ?_
      refine s_iload (nx := 105) hO rfl rfl rfl ?_
      obtain ⟨b19, H⟩ := H
      refine s_iald (nx := 106) hO rfl (hs_I (kf5_18 ho1)) b19 rfl ?_
      obtain ⟨b20, H⟩ := H
      refine goV (wI s18 (o2 + 17) (ix x1) (sI s18 (o1 + 17) (ix x1))) (fun s21 es21 => ?_)
      replace H := H s21 es21
      refine s_iast (nx := 107) hO rfl (hs_I (kf5_18 ho2)) b20 rfl ?_
      refine xEx.at (up_I (kf5_18 ho2) es21) ?_
      refine s_aload_n (nx := 108) hO rfl rfl rfl ?_
      refine s_getf (v := .ref (q_b G + (o2 + 11))) (nx := 111) hO rfl rfl (hs_o5 ho2) rfl rfl ?_
      refine s_iload_n (nx := 112) hO rfl rfl rfl ?_
      refine s_sipush (x := (nI 400)) (nx := 115) hO rfl (by decide) rfl ?_
      refine s_imul (nx := 116) hO rfl rfl ?_
      refine s_aload_n (nx := 117) hO rfl rfl rfl ?_
      refine s_getf (v := .ref (q_b G + (o2 + 15))) (nx := 120) hO rfl rfl (hs_o5 ho2) rfl rfl ?_
      refine s_iload (nx := 122) hO rfl rfl rfl ?_
      obtain ⟨b22, H⟩ := H
      refine s_iald (nx := 123) hO rfl (hs_I (kf5_16 ho2)) b22 rfl ?_
      refine s_iadd (nx := 124) hO rfl rfl ?_
      refine s_iconst (x := 1) (nx := 125) hO rfl (by decide) rfl ?_
      obtain ⟨b23, H⟩ := H
      refine goV (wI s21 (o2 + 11) (ix ((v3 * (nI 400)) + (sI s21 (o2 + 15) (ix x1)))) (vp_nar .boolean 1)) (fun s24 es24 => ?_)
      replace H := H s24 es24
      refine s_zast (nx := 126) hO rfl (hs_Z (kf5_11 ho2)) b23 rfl ?_
      refine xEx.at (up_Z (kf5_11 ho2) es24) ?_
      refine goV ((x1 + 1)) (fun x25 ex25 => ?_)
      replace H := H x25 ex25
      refine e_iinc (nx := 129) (l' := [(4, .int x25), (0, .ref (q_b G + 116)), (1, .ref (q_b G + o1)), (2, .ref (q_b G + o2)), (3, .int v3)]) ex25 hO rfl (by decide) rfl rfl rfl rfl ?_
      refine s_goto hO rfl ?_
      exact xEx.loc (x_sub1 (List.Mem.tail _ (List.Mem.head _)) (x_sub1 (List.Mem.tail _ (List.Mem.tail _ (List.Mem.head _))) (x_sub1 (List.Mem.tail _ (List.Mem.tail _ (List.Mem.tail _ (List.Mem.head _)))) (x_sub1 (List.Mem.tail _ (List.Mem.tail _ (List.Mem.tail _ (List.Mem.tail _ (List.Mem.head _))))) (x_sub1 (List.Mem.head _) x_sub0))))) H
  refine goV ((v3 * (nI 6))) (fun x26 ex26 => ?_)
  replace H := H x26 ex26
  refine e_istore (nx := 6) (l' := [(4, .int x26), (0, .ref (q_b G + 116)), (1, .ref (q_b G + o1)), (2, .ref (q_b G + o2)), (3, .int v3)]) ex26 hO rfl (by decide) rfl rfl ?_
  exact xEx.loc (x_sub1 (List.Mem.tail _ (List.Mem.head _)) (x_sub1 (List.Mem.tail _ (List.Mem.tail _ (List.Mem.head _))) (x_sub1 (List.Mem.tail _ (List.Mem.tail _ (List.Mem.tail _ (List.Mem.head _)))) (x_sub1 (List.Mem.tail _ (List.Mem.tail _ (List.Mem.tail _ (List.Mem.tail _ (List.Mem.head _))))) (x_sub1 (List.Mem.head _) x_sub0))))) H
def W_X5_byteLength (s : yS) (g : Nat) (Q : Int32 → Prop) : Prop :=
 ∀ P4 : Int32 → Int32 → Prop, (∀ (x1 : Int32) (x2 : Int32), ((((sI s g 0) ≤ x2 → Q x1)
  ∧ (¬ (sI s g 0) ≤ x2 → ∀ x3 : Int32, x3 = (x1 + (nI 8)) → 
   ∀ P17 : Int32 → Int32 → Prop, (∀ (x4 : Int32) (x5 : Int32), (vp_in x2 12 ∧ 
    (((sI s (g + 5) (ix x2)) ≤ x5 → ∀ P59 : Int32 → Int32 → Prop, (∀ (x7 : Int32) (x8 : Int32), (vp_in x2 12 ∧ 
      ((((x2 * (nI 6)) + (sI s (g + 6) (ix x2))) ≤ x8 → ∀ x10 : Int32, x10 = (x2 + 1) → 
       P4 x7 x10)
      ∧ (¬ ((x2 * (nI 6)) + (sI s (g + 6) (ix x2))) ≤ x8 → vp_in x8 72 ∧ 
       ∀ P91 : Int32 → Prop, (∀ (y12 : Int32), (∀ x13 : Int32, x13 = (x7 + y12) → 
        ∀ x14 : Int32, x14 = (x8 + 1) → 
        P59 x13 x14) → P91 y12) → 
       (((sI s (g + 16) (ix x8)) = 0 → P91 (nI 11))
       ∧ (¬ (sI s (g + 16) (ix x8)) = 0 → P91 (nI 7)))))) → P59 x7 x8) → 
     ∀ x15 : Int32, x15 = (x2 * (nI 6)) → 
     P59 x4 x15)
    ∧ (¬ (sI s (g + 5) (ix x2)) ≤ x5 → vp_in ((x2 * (nI 400)) + x5) 4800 ∧ 
     vp_in (sI s (g + 7) (ix ((x2 * (nI 400)) + x5))) 30 ∧ 
     ∀ x18 : Int32, x18 = (x4 + (1 + (g_wid.getD (ix (sI s (g + 7) (ix ((x2 * (nI 400)) + x5)))) 0))) → 
     ∀ x19 : Int32, x19 = (x5 + 1) → 
     P17 x18 x19))) → P17 x4 x5) → 
   P17 x3 0))) → P4 x1 x2) → 
 P4 (nI 4) 0
set_option maxRecDepth 100000 in
set_option maxHeartbeats 40000000 in
theorem w_X5_byteLength {G : xG} (hG : yG G) {z : Nat} {s : yS} {g : Nat} {Q : Int32 → Prop} (hg : kd g = some (9, 0)) (H : W_X5_byteLength s g Q) : xC G mX5_byteLength [.ref (q_b G + g)] (hS G s) z 0 0 (yPi G z s Q) := by
  have hW := hG.1
  have hcl := hG.2.1
  have hty := hG.2.2.1
  obtain ⟨t0, t1, hf0, hf1, hr1, hr2⟩ := hG.2.2.2.1
  have hO : xO G mX5_byteLength tbX5_byteLength ptX5_byteLength := ⟨tkX5_byteLength, pkX5_byteLength hcl hf0⟩
  unfold W_X5_byteLength at H
  refine xC.of hW (by decide) rfl (Nat.le_of_ble_eq_true rfl) ?_
  refine s_iconst (x := (nI 4)) (nx := 1) hO rfl (by decide) rfl ?_
  refine s_istore_n (nx := 2) (l' := [(1, .int (nI 4)), (0, .ref (q_b G + g))]) hO rfl (by decide) rfl rfl ?_
  refine s_iconst (x := 0) (nx := 3) hO rfl (by decide) rfl ?_
  refine goK (H (fun (x1 : Int32) (x2 : Int32) => xEx G mX5_byteLength 4 [(0, .ref (q_b G + g)), (1, .int x1), (2, .int x2)] [] (hS G s) z 0 0 (yPi G z s Q)) (fun x1 x2 H => ?_)) (fun H => ?_)
  · show xEx G mX5_byteLength 4 [(0, .ref (q_b G + g)), (1, .int x1), (2, .int x2)] [] (hS G s) z 0 0 (yPi G z s Q)
    refine s_iload_n (nx := 5) hO rfl rfl rfl ?_
    refine s_aload_n (nx := 6) hO rfl rfl rfl ?_
    refine s_getf (v := .int (sI s g 0)) (nx := 9) hO rfl rfl (hs_o5 hg) rfl rfl ?_
    refine s_icmp_ge (nx := 12) hO rfl rfl (fun c9 => ?_) (fun c9 => ?_)
    · replace H := H.1 c9
      refine s_iload_n (nx := 106) hO rfl rfl rfl ?_
      exact s_iret hO rfl rfl rfl ⟨rfl, _, rfl, rfl, H⟩
    · replace H := H.2 c9
      refine goV ((x1 + (nI 8))) (fun x3 ex3 => ?_)
      replace H := H x3 ex3
      refine e_iinc (nx := 15) (l' := [(1, .int x3), (0, .ref (q_b G + g)), (2, .int x2)]) ex3 hO rfl (by decide) rfl rfl rfl rfl ?_
      refine s_iconst (x := 0) (nx := 16) hO rfl (by decide) rfl ?_
      refine goK (H (fun (x4 : Int32) (x5 : Int32) => xEx G mX5_byteLength 17 [(0, .ref (q_b G + g)), (1, .int x4), (2, .int x2), (3, .int x5)] [] (hS G s) z 0 0 (yPi G z s Q)) (fun x4 x5 H => ?_)) (fun H => ?_)
      · show xEx G mX5_byteLength 17 [(0, .ref (q_b G + g)), (1, .int x4), (2, .int x2), (3, .int x5)] [] (hS G s) z 0 0 (yPi G z s Q)
        refine s_iload_n (nx := 18) hO rfl rfl rfl ?_
        refine s_aload_n (nx := 19) hO rfl rfl rfl ?_
        refine s_getf (v := .ref (q_b G + (g + 5))) (nx := 22) hO rfl rfl (hs_o5 hg) rfl rfl ?_
        refine s_iload_n (nx := 23) hO rfl rfl rfl ?_
        obtain ⟨b6, H⟩ := H
        refine s_iald (nx := 24) hO rfl (hs_I (kf5_5 hg)) b6 rfl ?_
        refine s_icmp_ge (nx := 27) hO rfl rfl (fun c24 => ?_) (fun c24 => ?_)
        · replace H := H.1 c24
          refine s_iload_n (nx := 55) hO rfl rfl rfl ?_
          refine s_bipush (x := (nI 6)) (nx := 57) hO rfl (by decide) rfl ?_
          refine s_imul (nx := 58) hO rfl rfl ?_
          refine goK (H (fun (x7 : Int32) (x8 : Int32) => xEx G mX5_byteLength 59 [(0, .ref (q_b G + g)), (1, .int x7), (2, .int x2), (3, .int x8)] [] (hS G s) z 0 0 (yPi G z s Q)) (fun x7 x8 H => ?_)) (fun H => ?_)
          · show xEx G mX5_byteLength 59 [(0, .ref (q_b G + g)), (1, .int x7), (2, .int x2), (3, .int x8)] [] (hS G s) z 0 0 (yPi G z s Q)
            refine s_iload_n (nx := 60) hO rfl rfl rfl ?_
            refine s_iload_n (nx := 61) hO rfl rfl rfl ?_
            refine s_bipush (x := (nI 6)) (nx := 63) hO rfl (by decide) rfl ?_
            refine s_imul (nx := 64) hO rfl rfl ?_
            refine s_aload_n (nx := 65) hO rfl rfl rfl ?_
            refine s_getf (v := .ref (q_b G + (g + 6))) (nx := 68) hO rfl rfl (hs_o5 hg) rfl rfl ?_
            refine s_iload_n (nx := 69) hO rfl rfl rfl ?_
            obtain ⟨b9, H⟩ := H
            refine s_iald (nx := 70) hO rfl (hs_I (kf5_6 hg)) b9 rfl ?_
            refine s_iadd (nx := 71) hO rfl rfl ?_
            refine s_icmp_ge (nx := 74) hO rfl rfl (fun c71 => ?_) (fun c71 => ?_)
            · replace H := H.1 c71
              refine goV ((x2 + 1)) (fun x10 ex10 => ?_)
              replace H := H x10 ex10
              refine e_iinc (nx := 102) (l' := [(2, .int x10), (0, .ref (q_b G + g)), (1, .int x7), (3, .int x8)]) ex10 hO rfl (by decide) rfl rfl rfl rfl ?_
              refine s_goto hO rfl ?_
              exact xEx.loc (x_sub1 (List.Mem.tail _ (List.Mem.head _)) (x_sub1 (List.Mem.tail _ (List.Mem.tail _ (List.Mem.head _))) (x_sub1 (List.Mem.head _) x_sub0))) H
            · replace H := H.2 c71
              refine s_iload_n (nx := 75) hO rfl rfl rfl ?_
              refine s_aload_n (nx := 76) hO rfl rfl rfl ?_
              refine s_getf (v := .ref (q_b G + (g + 16))) (nx := 79) hO rfl rfl (hs_o5 hg) rfl rfl ?_
              refine s_iload_n (nx := 80) hO rfl rfl rfl ?_
              obtain ⟨b11, H⟩ := H
              refine s_zald (nx := 81) hO rfl (hs_Z (kf5_17 hg)) b11 rfl ?_
              refine goK (H (fun (y12 : Int32) => xEx G mX5_byteLength 91 [(0, .ref (q_b G + g)), (2, .int x2), (3, .int x8)] [.int y12, .int x7] (hS G s) z 0 0 (yPi G z s Q)) (fun y12 H => ?_)) (fun H => ?_)
              · show xEx G mX5_byteLength 91 [(0, .ref (q_b G + g)), (2, .int x2), (3, .int x8)] [.int y12, .int x7] (hS G s) z 0 0 (yPi G z s Q)
                refine s_iadd (nx := 92) hO rfl rfl ?_
                refine goV ((x7 + y12)) (fun x13 ex13 => ?_)
                replace H := H x13 ex13
                refine e_istore_n (nx := 93) (l' := [(1, .int x13), (0, .ref (q_b G + g)), (2, .int x2), (3, .int x8)]) ex13 hO rfl (by decide) rfl rfl ?_
                refine goV ((x8 + 1)) (fun x14 ex14 => ?_)
                replace H := H x14 ex14
                refine e_iinc (nx := 96) (l' := [(3, .int x14), (1, .int x13), (0, .ref (q_b G + g)), (2, .int x2)]) ex14 hO rfl (by decide) rfl rfl rfl rfl ?_
                refine s_goto hO rfl ?_
                exact xEx.loc (x_sub1 (List.Mem.tail _ (List.Mem.tail _ (List.Mem.head _))) (x_sub1 (List.Mem.tail _ (List.Mem.head _)) (x_sub1 (List.Mem.tail _ (List.Mem.tail _ (List.Mem.tail _ (List.Mem.head _)))) (x_sub1 (List.Mem.head _) x_sub0)))) H
              refine s_if_eq (nx := 84) hO rfl rfl (fun c81 => ?_) (fun c81 => ?_)
              · replace H := H.1 c81
                refine s_bipush (x := (nI 11)) (nx := 91) hO rfl (by decide) rfl ?_
                exact xEx.loc (x_sub1 (List.Mem.head _) (x_sub1 (List.Mem.tail _ (List.Mem.tail _ (List.Mem.head _))) (x_sub1 (List.Mem.tail _ (List.Mem.tail _ (List.Mem.tail _ (List.Mem.head _)))) x_sub0))) H
              · replace H := H.2 c81
                refine s_bipush (x := (nI 7)) (nx := 86) hO rfl (by decide) rfl ?_
                refine s_goto hO rfl ?_
                exact xEx.loc (x_sub1 (List.Mem.head _) (x_sub1 (List.Mem.tail _ (List.Mem.tail _ (List.Mem.head _))) (x_sub1 (List.Mem.tail _ (List.Mem.tail _ (List.Mem.tail _ (List.Mem.head _)))) x_sub0))) H
          refine goV ((x2 * (nI 6))) (fun x15 ex15 => ?_)
          replace H := H x15 ex15
          refine e_istore_n (nx := 59) (l' := [(3, .int x15), (0, .ref (q_b G + g)), (1, .int x4), (2, .int x2)]) ex15 hO rfl (by decide) rfl rfl ?_
          exact xEx.loc (x_sub1 (List.Mem.tail _ (List.Mem.head _)) (x_sub1 (List.Mem.tail _ (List.Mem.tail _ (List.Mem.head _))) (x_sub1 (List.Mem.tail _ (List.Mem.tail _ (List.Mem.tail _ (List.Mem.head _)))) (x_sub1 (List.Mem.head _) x_sub0)))) H
        · replace H := H.2 c24
          refine s_iload_n (nx := 28) hO rfl rfl rfl ?_
          refine s_iconst (x := 1) (nx := 29) hO rfl (by decide) rfl ?_
          refine s_gets (nx := 32) hO rfl rfl hf0 rfl ?_
          refine s_aload_n (nx := 33) hO rfl rfl rfl ?_
          refine s_getf (v := .ref (q_b G + (g + 7))) (nx := 36) hO rfl rfl (hs_o5 hg) rfl rfl ?_
          refine s_iload_n (nx := 37) hO rfl rfl rfl ?_
          refine s_sipush (x := (nI 400)) (nx := 40) hO rfl (by decide) rfl ?_
          refine s_imul (nx := 41) hO rfl rfl ?_
          refine s_iload_n (nx := 42) hO rfl rfl rfl ?_
          refine s_iadd (nx := 43) hO rfl rfl ?_
          obtain ⟨b16, H⟩ := H
          refine s_iald (nx := 44) hO rfl (hs_I (kf5_7 hg)) b16 rfl ?_
          obtain ⟨b17, H⟩ := H
          refine s_roI (v := .int (g_wid.getD (ix (sI s (g + 7) (ix ((x2 * (nI 400)) + x5)))) 0)) (nx := 45) hO rfl hr1 b17 rfl rfl ?_
          refine s_iadd (nx := 46) hO rfl rfl ?_
          refine s_iadd (nx := 47) hO rfl rfl ?_
          refine goV ((x4 + (1 + (g_wid.getD (ix (sI s (g + 7) (ix ((x2 * (nI 400)) + x5)))) 0)))) (fun x18 ex18 => ?_)
          replace H := H x18 ex18
          refine e_istore_n (nx := 48) (l' := [(1, .int x18), (0, .ref (q_b G + g)), (2, .int x2), (3, .int x5)]) ex18 hO rfl (by decide) rfl rfl ?_
          refine goV ((x5 + 1)) (fun x19 ex19 => ?_)
          replace H := H x19 ex19
          refine e_iinc (nx := 51) (l' := [(3, .int x19), (1, .int x18), (0, .ref (q_b G + g)), (2, .int x2)]) ex19 hO rfl (by decide) rfl rfl rfl rfl ?_
          refine s_goto hO rfl ?_
          exact xEx.loc (x_sub1 (List.Mem.tail _ (List.Mem.tail _ (List.Mem.head _))) (x_sub1 (List.Mem.tail _ (List.Mem.head _)) (x_sub1 (List.Mem.tail _ (List.Mem.tail _ (List.Mem.tail _ (List.Mem.head _)))) (x_sub1 (List.Mem.head _) x_sub0)))) H
      refine s_istore_n (nx := 17) (l' := [(3, .int 0), (1, .int x3), (0, .ref (q_b G + g)), (2, .int x2)]) hO rfl (by decide) rfl rfl ?_
      exact xEx.loc (x_sub1 (List.Mem.tail _ (List.Mem.tail _ (List.Mem.head _))) (x_sub1 (List.Mem.tail _ (List.Mem.head _)) (x_sub1 (List.Mem.tail _ (List.Mem.tail _ (List.Mem.tail _ (List.Mem.head _)))) (x_sub1 (List.Mem.head _) x_sub0)))) H
  refine s_istore_n (nx := 4) (l' := [(2, .int 0), (1, .int (nI 4)), (0, .ref (q_b G + g))]) hO rfl (by decide) rfl rfl ?_
  exact xEx.loc (x_sub1 (List.Mem.tail _ (List.Mem.tail _ (List.Mem.head _))) (x_sub1 (List.Mem.tail _ (List.Mem.head _)) (x_sub1 (List.Mem.head _) x_sub0))) H
def W_X0_forge (s : yS) (o1 : Nat) (o2 : Nat) (o3 : Nat) (Q : Int32 → yS → Prop) : Prop :=
 W_X5_empty s o3 
 (fun s1 => ∀ s2 : yS, s2 = wI s1 o3 0 (sI s1 o1 0) → 
 ∀ P18 : Int32 → Int32 → yS → Prop, (∀ (x3 : Int32) (x4 : Int32) (s5 : yS), ((((sI s5 o1 0) ≤ x4 → W_X5_byteLength s5 o3 
   (fun r6 => ((r6 ≤ (nI 8192) → Q x3 s5)
   ∧ (¬ r6 ≤ (nI 8192) → Q (-2) s5))))
  ∧ (¬ (sI s5 o1 0) ≤ x4 → W_X0_move s5 o1 o2 x4 
   (fun r7 s8 => ∀ x9 : Int32, x9 = (x3 + r7) → 
   vp_in x4 12 ∧ 
   ((((sI s8 (o1 + 5) (ix x4)) + r7) ≤ (nI 400) → W_X0_copyHead s8 o1 o3 x4 
    (fun s11 => W_X0_copyCode s11 o1 o3 x4 
    (fun s12 => W_X0_copyHandlers s12 o1 o3 x4 
    (fun s13 => ∀ x14 : Int32, x14 = (x4 + 1) → 
    P18 x9 x14 s13))))
   ∧ (¬ ((sI s8 (o1 + 5) (ix x4)) + r7) ≤ (nI 400) → Q (-2) s8)))))) → P18 x3 x4 s5) → 
 P18 0 0 s2)
set_option maxRecDepth 100000 in
set_option maxHeartbeats 40000000 in
theorem w_X0_forge {G : xG} (hG : yG G) {z : Nat} {s : yS} {o1 : Nat} {o2 : Nat} {o3 : Nat} {Q : Int32 → yS → Prop} (ho1 : kd o1 = some (9, 0)) (ho2 : kd o2 = some (7, 0)) (ho3 : kd o3 = some (9, 0)) (H : W_X0_forge s o1 o2 o3 Q) : xC G mX0_forge [.ref (q_b G + 116), .ref (q_b G + o1), .ref (q_b G + o2), .ref (q_b G + o3)] (hS G s) z 0 0 (yQi G z Q) := by
  have hW := hG.1
  have hcl := hG.2.1
  have hty := hG.2.2.1
  have hO : xO G mX0_forge tbX0_forge ptX0_forge := ⟨tkX0_forge, pkX0_forge hcl⟩
  unfold W_X0_forge at H
  refine xC.of hW (by decide) rfl (Nat.le_of_ble_eq_true rfl) ?_
  refine s_aload_n (nx := 1) hO rfl rfl rfl ?_
  refine s_callV [] (ci := 5) (F := TX5) (N := 19) (nx := 4) hO rfl kX0_forge_153 (by rw [hcl]; rfl) (hs_o5 ho3) (w_X5_empty hG ho3 H) rfl rfl (Nat.le_of_ble_eq_true rfl) (Nat.zero_le _) (Nat.zero_le _) rfl (k_Qv (fun s1 H => ?_))
  refine s_aload_n (nx := 5) hO rfl rfl rfl ?_
  refine s_aload_n (nx := 6) hO rfl rfl rfl ?_
  refine s_getf (v := .int (sI s1 o1 0)) (nx := 9) hO rfl rfl (hs_o5 ho1) rfl rfl ?_
  refine goV (wI s1 o3 0 (sI s1 o1 0)) (fun s2 es2 => ?_)
  replace H := H s2 es2
  refine s_putf (nx := 12) hO rfl rfl (hs_o5 ho3) (Nat.le_of_ble_eq_true rfl) (by rw [hty]; rfl) (by rw [hty]; rfl) pX5_0 rfl ?_
  refine xEx.at (up_oI5 ho3 es2) ?_
  refine s_iconst (x := 0) (nx := 13) hO rfl (by decide) rfl ?_
  refine s_istore (nx := 15) (l' := [(4, .int 0), (0, .ref (q_b G + 116)), (1, .ref (q_b G + o1)), (2, .ref (q_b G + o2)), (3, .ref (q_b G + o3))]) hO rfl (by decide) rfl rfl ?_
  refine s_iconst (x := 0) (nx := 16) hO rfl (by decide) rfl ?_
  refine goK (H (fun (x3 : Int32) (x4 : Int32) (s5 : yS) => xEx G mX0_forge 18 [(0, .ref (q_b G + 116)), (1, .ref (q_b G + o1)), (2, .ref (q_b G + o2)), (3, .ref (q_b G + o3)), (4, .int x3), (5, .int x4)] [] (hS G s5) z 0 0 (yQi G z Q)) (fun x3 x4 s5 H => ?_)) (fun H => ?_)
  · show xEx G mX0_forge 18 [(0, .ref (q_b G + 116)), (1, .ref (q_b G + o1)), (2, .ref (q_b G + o2)), (3, .ref (q_b G + o3)), (4, .int x3), (5, .int x4)] [] (hS G s5) z 0 0 (yQi G z Q)
    refine s_iload (nx := 20) hO rfl rfl rfl ?_
    refine s_aload_n (nx := 21) hO rfl rfl rfl ?_
    refine s_getf (v := .int (sI s5 o1 0)) (nx := 24) hO rfl rfl (hs_o5 ho1) rfl rfl ?_
    refine s_icmp_ge (nx := 27) hO rfl rfl (fun c24 => ?_) (fun c24 => ?_)
    · replace H := H.1 c24
      refine s_aload_n (nx := 94) hO rfl rfl rfl ?_
      refine s_callV [] (ci := 5) (F := TX5) (N := 19) (nx := 97) hO rfl kX0_forge_170 (by rw [hcl]; rfl) (hs_o5 ho3) (w_X5_byteLength hG ho3 H) rfl rfl (Nat.le_of_ble_eq_true rfl) (Nat.zero_le _) (Nat.zero_le _) rfl (k_Pi (fun r6 H => ?_))
      refine s_sipush (x := (nI 8192)) (nx := 100) hO rfl (by decide) rfl ?_
      refine s_icmp_le (nx := 103) hO rfl rfl (fun c100 => ?_) (fun c100 => ?_)
      · replace H := H.1 c100
        refine s_iload (nx := 110) hO rfl rfl rfl ?_
        exact s_iret hO rfl rfl rfl ⟨rfl, _, _, rfl, rfl, H⟩
      · replace H := H.2 c100
        refine s_bipush (x := (-2)) (nx := 105) hO rfl (by decide) rfl ?_
        refine s_goto hO rfl ?_
        exact s_iret hO rfl rfl rfl ⟨rfl, _, _, rfl, rfl, H⟩
    · replace H := H.2 c24
      refine s_aload_n (nx := 28) hO rfl rfl rfl ?_
      refine s_aload_n (nx := 29) hO rfl rfl rfl ?_
      refine s_aload_n (nx := 30) hO rfl rfl rfl ?_
      refine s_iload (nx := 32) hO rfl rfl rfl ?_
      refine s_callV [.ref (q_b G + o1), .ref (q_b G + o2), .int x4] (ci := 0) (F := TX0) (N := 11) (nx := 35) hO rfl kX0_forge_156 (by rw [hcl]; rfl) (hs_o0 kc116) (w_X0_move hG ho1 ho2 H) rfl rfl (Nat.le_of_ble_eq_true rfl) (Nat.zero_le _) (Nat.zero_le _) rfl (k_Qi (fun r7 s8 H => ?_))
      refine s_istore (nx := 37) (l' := [(6, .int r7), (0, .ref (q_b G + 116)), (1, .ref (q_b G + o1)), (2, .ref (q_b G + o2)), (3, .ref (q_b G + o3)), (4, .int x3), (5, .int x4)]) hO rfl (by decide) rfl rfl ?_
      refine s_iload (nx := 39) hO rfl rfl rfl ?_
      refine s_iload (nx := 41) hO rfl rfl rfl ?_
      refine s_iadd (nx := 42) hO rfl rfl ?_
      refine goV ((x3 + r7)) (fun x9 ex9 => ?_)
      replace H := H x9 ex9
      refine e_istore (nx := 44) (l' := [(4, .int x9), (6, .int r7), (0, .ref (q_b G + 116)), (1, .ref (q_b G + o1)), (2, .ref (q_b G + o2)), (3, .ref (q_b G + o3)), (5, .int x4)]) ex9 hO rfl (by decide) rfl rfl ?_
      refine s_aload_n (nx := 45) hO rfl rfl rfl ?_
      refine s_getf (v := .ref (q_b G + (o1 + 5))) (nx := 48) hO rfl rfl (hs_o5 ho1) rfl rfl ?_
      refine s_iload (nx := 50) hO rfl rfl rfl ?_
      obtain ⟨b10, H⟩ := H
      refine s_iald (nx := 51) hO rfl (hs_I (kf5_5 ho1)) b10 rfl ?_
      refine s_iload (nx := 53) hO rfl rfl rfl ?_
      refine s_iadd (nx := 54) hO rfl rfl ?_
      refine s_sipush (x := (nI 400)) (nx := 57) hO rfl (by decide) rfl ?_
      refine s_icmp_le (nx := 60) hO rfl rfl (fun c57 => ?_) (fun c57 => ?_)
      · replace H := H.1 c57
        refine s_aload_n (nx := 64) hO rfl rfl rfl ?_
        refine s_aload_n (nx := 65) hO rfl rfl rfl ?_
        refine s_aload_n (nx := 66) hO rfl rfl rfl ?_
        refine s_iload (nx := 68) hO rfl rfl rfl ?_
        refine s_callV [.ref (q_b G + o1), .ref (q_b G + o3), .int x4] (ci := 0) (F := TX0) (N := 11) (nx := 71) hO rfl kX0_forge_160 (by rw [hcl]; rfl) (hs_o0 kc116) (w_X0_copyHead hG ho1 ho3 H) rfl rfl (Nat.le_of_ble_eq_true rfl) (Nat.zero_le _) (Nat.zero_le _) rfl (k_Qv (fun s11 H => ?_))
        refine s_aload_n (nx := 72) hO rfl rfl rfl ?_
        refine s_aload_n (nx := 73) hO rfl rfl rfl ?_
        refine s_aload_n (nx := 74) hO rfl rfl rfl ?_
        refine s_iload (nx := 76) hO rfl rfl rfl ?_
        refine s_callV [.ref (q_b G + o1), .ref (q_b G + o3), .int x4] (ci := 0) (F := TX0) (N := 11) (nx := 79) hO rfl kX0_forge_164 (by rw [hcl]; rfl) (hs_o0 kc116) (w_X0_copyCode hG ho1 ho3 H) rfl rfl (Nat.le_of_ble_eq_true rfl) (Nat.zero_le _) (Nat.zero_le _) rfl (k_Qv (fun s12 H => ?_))
        refine s_aload_n (nx := 80) hO rfl rfl rfl ?_
        refine s_aload_n (nx := 81) hO rfl rfl rfl ?_
        refine s_aload_n (nx := 82) hO rfl rfl rfl ?_
        refine s_iload (nx := 84) hO rfl rfl rfl ?_
        refine s_callV [.ref (q_b G + o1), .ref (q_b G + o3), .int x4] (ci := 0) (F := TX0) (N := 11) (nx := 87) hO rfl kX0_forge_167 (by rw [hcl]; rfl) (hs_o0 kc116) (w_X0_copyHandlers hG ho1 ho3 H) rfl rfl (Nat.le_of_ble_eq_true rfl) (Nat.zero_le _) (Nat.zero_le _) rfl (k_Qv (fun s13 H => ?_))
        refine goV ((x4 + 1)) (fun x14 ex14 => ?_)
        replace H := H x14 ex14
        refine e_iinc (nx := 90) (l' := [(5, .int x14), (4, .int x9), (6, .int r7), (0, .ref (q_b G + 116)), (1, .ref (q_b G + o1)), (2, .ref (q_b G + o2)), (3, .ref (q_b G + o3))]) ex14 hO rfl (by decide) rfl rfl rfl rfl ?_
        refine s_goto hO rfl ?_
        exact xEx.loc (x_sub1 (List.Mem.tail _ (List.Mem.tail _ (List.Mem.tail _ (List.Mem.head _)))) (x_sub1 (List.Mem.tail _ (List.Mem.tail _ (List.Mem.tail _ (List.Mem.tail _ (List.Mem.head _))))) (x_sub1 (List.Mem.tail _ (List.Mem.tail _ (List.Mem.tail _ (List.Mem.tail _ (List.Mem.tail _ (List.Mem.head _)))))) (x_sub1 (List.Mem.tail _ (List.Mem.tail _ (List.Mem.tail _ (List.Mem.tail _ (List.Mem.tail _ (List.Mem.tail _ (List.Mem.head _))))))) (x_sub1 (List.Mem.tail _ (List.Mem.head _)) (x_sub1 (List.Mem.head _) x_sub0)))))) H
      · replace H := H.2 c57
        refine s_bipush (x := (-2)) (nx := 62) hO rfl (by decide) rfl ?_
        exact s_iret hO rfl rfl rfl ⟨rfl, _, _, rfl, rfl, H⟩
  refine s_istore (nx := 18) (l' := [(5, .int 0), (4, .int 0), (0, .ref (q_b G + 116)), (1, .ref (q_b G + o1)), (2, .ref (q_b G + o2)), (3, .ref (q_b G + o3))]) hO rfl (by decide) rfl rfl ?_
  exact xEx.loc (x_sub1 (List.Mem.tail _ (List.Mem.tail _ (List.Mem.head _))) (x_sub1 (List.Mem.tail _ (List.Mem.tail _ (List.Mem.tail _ (List.Mem.head _)))) (x_sub1 (List.Mem.tail _ (List.Mem.tail _ (List.Mem.tail _ (List.Mem.tail _ (List.Mem.head _))))) (x_sub1 (List.Mem.tail _ (List.Mem.tail _ (List.Mem.tail _ (List.Mem.tail _ (List.Mem.tail _ (List.Mem.head _)))))) (x_sub1 (List.Mem.tail _ (List.Mem.head _)) (x_sub1 (List.Mem.head _) x_sub0)))))) H
def W_X1_count (s : yS) (g : Nat) (Q : Int32 → Prop) : Prop :=
 vp_in (nI 16) 17 ∧ 
 Q (sI s (g + 3) (ix (nI 16)))
set_option maxRecDepth 100000 in
set_option maxHeartbeats 40000000 in
theorem w_X1_count {G : xG} (hG : yG G) {z : Nat} {s : yS} {g : Nat} {Q : Int32 → Prop} (hg : kd g = some (5, 0)) (H : W_X1_count s g Q) : xC G mX1_count [.ref (q_b G + g)] (hS G s) z 0 0 (yPi G z s Q) := by
  have hW := hG.1
  have hcl := hG.2.1
  have hty := hG.2.2.1
  have hO : xO G mX1_count tbX1_count ptX1_count := ⟨tkX1_count, pkX1_count hcl⟩
  unfold W_X1_count at H
  refine xC.of hW (by decide) rfl (Nat.le_of_ble_eq_true rfl) ?_
  refine s_aload_n (nx := 1) hO rfl rfl rfl ?_
  refine s_getf (v := .ref (q_b G + (g + 3))) (nx := 4) hO rfl rfl (hs_o1 hg) rfl rfl ?_
  refine s_bipush (x := (nI 16)) (nx := 6) hO rfl (by decide) rfl ?_
  obtain ⟨b1, H⟩ := H
  refine s_iald (nx := 7) hO rfl (hs_I (kf1_2 hg)) b1 rfl ?_
  exact s_iret hO rfl rfl rfl ⟨rfl, _, rfl, rfl, H⟩
def W_X1_firstOf (s : yS) (g : Nat) (v1 : Int32) (Q : Int32 → Prop) : Prop :=
 vp_in v1 17 ∧ 
 Q (sI s (g + 3) (ix v1))
set_option maxRecDepth 100000 in
set_option maxHeartbeats 40000000 in
theorem w_X1_firstOf {G : xG} (hG : yG G) {z : Nat} {s : yS} {g : Nat} {v1 : Int32} {Q : Int32 → Prop} (hg : kd g = some (5, 0)) (H : W_X1_firstOf s g v1 Q) : xC G mX1_firstOf [.ref (q_b G + g), .int v1] (hS G s) z 0 0 (yPi G z s Q) := by
  have hW := hG.1
  have hcl := hG.2.1
  have hty := hG.2.2.1
  have hO : xO G mX1_firstOf tbX1_firstOf ptX1_firstOf := ⟨tkX1_firstOf, pkX1_firstOf hcl⟩
  unfold W_X1_firstOf at H
  refine xC.of hW (by decide) rfl (Nat.le_of_ble_eq_true rfl) ?_
  refine s_aload_n (nx := 1) hO rfl rfl rfl ?_
  refine s_getf (v := .ref (q_b G + (g + 3))) (nx := 4) hO rfl rfl (hs_o1 hg) rfl rfl ?_
  refine s_iload_n (nx := 5) hO rfl rfl rfl ?_
  obtain ⟨b1, H⟩ := H
  refine s_iald (nx := 6) hO rfl (hs_I (kf1_2 hg)) b1 rfl ?_
  exact s_iret hO rfl rfl rfl ⟨rfl, _, rfl, rfl, H⟩
def W_X3_firstWay (s : yS) (g : Nat) (Q : Int32 → Prop) : Prop :=
 vp_in (sI s g 0) 31 ∧ 
 Q (sI s (g + 2) (ix (sI s g 0)))
set_option maxRecDepth 100000 in
set_option maxHeartbeats 40000000 in
theorem w_X3_firstWay {G : xG} (hG : yG G) {z : Nat} {s : yS} {g : Nat} {Q : Int32 → Prop} (hg : kd g = some (7, 0)) (H : W_X3_firstWay s g Q) : xC G mX3_firstWay [.ref (q_b G + g)] (hS G s) z 0 0 (yPi G z s Q) := by
  have hW := hG.1
  have hcl := hG.2.1
  have hty := hG.2.2.1
  have hO : xO G mX3_firstWay tbX3_firstWay ptX3_firstWay := ⟨tkX3_firstWay, pkX3_firstWay hcl⟩
  unfold W_X3_firstWay at H
  refine xC.of hW (by decide) rfl (Nat.le_of_ble_eq_true rfl) ?_
  refine s_aload_n (nx := 1) hO rfl rfl rfl ?_
  refine s_getf (v := .ref (q_b G + (g + 2))) (nx := 4) hO rfl rfl (hs_o3 hg) rfl rfl ?_
  refine s_aload_n (nx := 5) hO rfl rfl rfl ?_
  refine s_getf (v := .int (sI s g 0)) (nx := 8) hO rfl rfl (hs_o3 hg) rfl rfl ?_
  obtain ⟨b1, H⟩ := H
  refine s_iald (nx := 9) hO rfl (hs_I (kf3_8 hg)) b1 rfl ?_
  exact s_iret hO rfl rfl rfl ⟨rfl, _, rfl, rfl, H⟩
def W_X3_isFor (s : yS) (g : Nat) (v1 : Int32) (v2 : Int32) (Q : Int32 → Prop) : Prop :=
 vp_in v1 216 ∧ 
 (((sI s (g + 3) (ix v1)) = v2 → Q 1)
 ∧ (¬ (sI s (g + 3) (ix v1)) = v2 → vp_in v1 216 ∧ 
  ((¬ (sI s (g + 3) (ix v1)) = (nI 16) → Q 0)
  ∧ ((sI s (g + 3) (ix v1)) = (nI 16) → Q 1))))
set_option maxRecDepth 100000 in
set_option maxHeartbeats 40000000 in
theorem w_X3_isFor {G : xG} (hG : yG G) {z : Nat} {s : yS} {g : Nat} {v1 : Int32} {v2 : Int32} {Q : Int32 → Prop} (hg : kd g = some (7, 0)) (H : W_X3_isFor s g v1 v2 Q) : xC G mX3_isFor [.ref (q_b G + g), .int v1, .int v2] (hS G s) z 0 0 (yPi G z s Q) := by
  have hW := hG.1
  have hcl := hG.2.1
  have hty := hG.2.2.1
  have hO : xO G mX3_isFor tbX3_isFor ptX3_isFor := ⟨tkX3_isFor, pkX3_isFor hcl⟩
  unfold W_X3_isFor at H
  refine xC.of hW (by decide) rfl (Nat.le_of_ble_eq_true rfl) ?_
  refine s_aload_n (nx := 1) hO rfl rfl rfl ?_
  refine s_getf (v := .ref (q_b G + (g + 3))) (nx := 4) hO rfl rfl (hs_o3 hg) rfl rfl ?_
  refine s_iload_n (nx := 5) hO rfl rfl rfl ?_
  obtain ⟨b1, H⟩ := H
  refine s_iald (nx := 6) hO rfl (hs_I (kf3_9 hg)) b1 rfl ?_
  refine s_iload_n (nx := 7) hO rfl rfl rfl ?_
  refine s_icmp_eq (nx := 10) hO rfl rfl (fun c7 => ?_) (fun c7 => ?_)
  · replace H := H.1 c7
    refine s_iconst (x := 1) (nx := 22) hO rfl (by decide) rfl ?_
    refine s_goto hO rfl ?_
    exact s_iret hO rfl rfl rfl ⟨rfl, _, rfl, rfl, H⟩
  · replace H := H.2 c7
    refine s_aload_n (nx := 11) hO rfl rfl rfl ?_
    refine s_getf (v := .ref (q_b G + (g + 3))) (nx := 14) hO rfl rfl (hs_o3 hg) rfl rfl ?_
    refine s_iload_n (nx := 15) hO rfl rfl rfl ?_
    obtain ⟨b2, H⟩ := H
    refine s_iald (nx := 16) hO rfl (hs_I (kf3_9 hg)) b2 rfl ?_
    refine s_bipush (x := (nI 16)) (nx := 18) hO rfl (by decide) rfl ?_
    refine s_icmp_ne (nx := 21) hO rfl rfl (fun c18 => ?_) (fun c18 => ?_)
    · replace H := H.1 c18
      refine s_iconst (x := 0) (nx := 26) hO rfl (by decide) rfl ?_
      exact s_iret hO rfl rfl rfl ⟨rfl, _, rfl, rfl, H⟩
    · replace H := H.2 c18
      refine s_iconst (x := 1) (nx := 22) hO rfl (by decide) rfl ?_
      refine s_goto hO rfl ?_
      exact s_iret hO rfl rfl rfl ⟨rfl, _, rfl, rfl, H⟩
def W_X1_insert (s : yS) (g : Nat) (v1 : Int32) (v2 : Int32) (v3 : Int64) (Q : Int32 → yS → Prop) : Prop :=
 ∀ P3 : Int32 → Prop, (∀ (x1 : Int32), (∀ P30 : Prop, ((((x1 = v1 → Q v2 s)
   ∧ (¬ x1 = v1 → vp_in (x1 - 1) 1168 ∧ 
    ((¬ (lg_cmp ((sI s (g + 1) (ix (x1 - 1)))).toInt64 v3) = 0 → (¬ (x1 : Int32) < 0 ∧ ¬ ((x1 + 1) : Int32) < 0 ∧ ¬ ((v2 - x1) : Int32) < 0 ∧ ix x1 + ix (v2 - x1) ≤ 1168 ∧ ix (x1 + 1) + ix (v2 - x1) ≤ 1168) ∧ ∀ s3 : yS, s3 = wC s (g + 1) (va_cpy (sI s (g + 1)) (sI s (g + 1)) (ix x1) (ix (x1 + 1)) (ix (v2 - x1))) → 
     vp_in x1 1168 ∧ ∀ s6 : yS, s6 = wI s3 (g + 1) (ix x1) (v3).toInt32 → 
     Q (v2 + 1) s6)
    ∧ ((lg_cmp ((sI s (g + 1) (ix (x1 - 1)))).toInt64 v3) = 0 → Q v2 s))))) → P30) → 
  ((x1 ≤ v1 → P30)
  ∧ (¬ x1 ≤ v1 → vp_in (x1 - 1) 1168 ∧ 
   (((lg_cmp ((sI s (g + 1) (ix (x1 - 1)))).toInt64 v3) ≤ 0 → P30)
   ∧ (¬ (lg_cmp ((sI s (g + 1) (ix (x1 - 1)))).toInt64 v3) ≤ 0 → ∀ x8 : Int32, x8 = (x1 + (-1)) → 
    P3 x8))))) → P3 x1) → 
 P3 v2
set_option maxRecDepth 100000 in
set_option maxHeartbeats 40000000 in
theorem w_X1_insert {G : xG} (hG : yG G) {z : Nat} {s : yS} {g : Nat} {v1 : Int32} {v2 : Int32} {v3 : Int64} {Q : Int32 → yS → Prop} (hg : kd g = some (5, 0)) (H : W_X1_insert s g v1 v2 v3 Q) : xC G mX1_insert [.ref (q_b G + g), .int v1, .int v2, .long v3] (hS G s) z 0 0 (yQi G z Q) := by
  have hW := hG.1
  have hcl := hG.2.1
  have hty := hG.2.2.1
  have hO : xO G mX1_insert tbX1_insert ptX1_insert := ⟨tkX1_insert, pkX1_insert hcl⟩
  unfold W_X1_insert at H
  refine xC.of hW (by decide) rfl (Nat.le_of_ble_eq_true rfl) ?_
  refine s_iload_n (nx := 1) hO rfl rfl rfl ?_
  refine goK (H (fun (x1 : Int32) => xEx G mX1_insert 3 [(0, .ref (q_b G + g)), (1, .int v1), (2, .int v2), (3, .long v3), (5, .int x1)] [] (hS G s) z 0 0 (yQi G z Q)) (fun x1 H => ?_)) (fun H => ?_)
  · show xEx G mX1_insert 3 [(0, .ref (q_b G + g)), (1, .int v1), (2, .int v2), (3, .long v3), (5, .int x1)] [] (hS G s) z 0 0 (yQi G z Q)
    refine s_iload (nx := 5) hO rfl rfl rfl ?_
    refine s_iload_n (nx := 6) hO rfl rfl rfl ?_
    refine goK (H (xEx G mX1_insert 30 [(0, .ref (q_b G + g)), (1, .int v1), (2, .int v2), (3, .long v3), (5, .int x1)] [] (hS G s) z 0 0 (yQi G z Q)) (fun H => ?_)) (fun H => ?_)
    · show xEx G mX1_insert 30 [(0, .ref (q_b G + g)), (1, .int v1), (2, .int v2), (3, .long v3), (5, .int x1)] [] (hS G s) z 0 0 (yQi G z Q)
      refine s_iload (nx := 32) hO rfl rfl rfl ?_
      refine s_iload_n (nx := 33) hO rfl rfl rfl ?_
      refine s_icmp_eq (nx := 36) hO rfl rfl (fun c33 => ?_) (fun c33 => ?_)
      · replace H := H.1 c33
        refine s_iload_n (nx := 52) hO rfl rfl rfl ?_
        exact s_iret hO rfl rfl rfl ⟨rfl, _, _, rfl, rfl, H⟩
      · replace H := H.2 c33
        refine s_aload_n (nx := 37) hO rfl rfl rfl ?_
        refine s_getf (v := .ref (q_b G + (g + 1))) (nx := 40) hO rfl rfl (hs_o1 hg) rfl rfl ?_
        refine s_iload (nx := 42) hO rfl rfl rfl ?_
        refine s_iconst (x := 1) (nx := 43) hO rfl (by decide) rfl ?_
        refine s_isub (nx := 44) hO rfl rfl ?_
        obtain ⟨b2, H⟩ := H
        refine s_iald (nx := 45) hO rfl (hs_I (kf1_0 hg)) b2 rfl ?_
        refine s_i2l (nx := 46) hO rfl rfl ?_
        refine s_lload_n (nx := 47) hO rfl rfl rfl ?_
        refine s_lcmp (nx := 48) hO rfl rfl ?_
        refine s_if_ne (nx := 51) hO rfl rfl (fun c48 => ?_) (fun c48 => ?_)
        · replace H := H.1 c48
          refine s_aload_n (nx := 54) hO rfl rfl rfl ?_
          refine s_getf (v := .ref (q_b G + (g + 1))) (nx := 57) hO rfl rfl (hs_o1 hg) rfl rfl ?_
          refine s_iload (nx := 59) hO rfl rfl rfl ?_
          refine s_aload_n (nx := 60) hO rfl rfl rfl ?_
          refine s_getf (v := .ref (q_b G + (g + 1))) (nx := 63) hO rfl rfl (hs_o1 hg) rfl rfl ?_
          refine s_iload (nx := 65) hO rfl rfl rfl ?_
          refine s_iconst (x := 1) (nx := 66) hO rfl (by decide) rfl ?_
          refine s_iadd (nx := 67) hO rfl rfl ?_
          refine s_iload_n (nx := 68) hO rfl rfl rfl ?_
          refine s_iload (nx := 70) hO rfl rfl rfl ?_
          refine s_isub (nx := 71) hO rfl rfl ?_
          obtain ⟨b4, H⟩ := H
          refine goV (wC s (g + 1) (va_cpy (sI s (g + 1)) (sI s (g + 1)) (ix x1) (ix (x1 + 1)) (ix (v2 - x1)))) (fun s3 es3 => ?_)
          replace H := H s3 es3
          refine e_copy (nx := 74) hO rfl x_tyI rfl (hs_I (kf1_0 hg)) (hs_I (kf1_0 hg)) b4 (fun _ _ => rfl) (List.mem_cons_of_mem _ (ir32 _ (List.mem_of_getElem? (i := 5) rfl))) (List.mem_cons_of_mem _ (ir23 _ (List.mem_of_getElem? (i := 22) rfl))) (List.mem_cons_of_mem _ (ir23 _ (List.mem_of_getElem? (i := 23) rfl))) (List.mem_cons_of_mem _ (ir24 _ (List.mem_of_getElem? (i := 0) rfl))) (by decide) (Nat.le_of_ble_eq_true rfl) rfl (up_CI (kf1_0 hg) es3) ?_
          refine s_aload_n (nx := 75) hO rfl rfl rfl ?_
          refine s_getf (v := .ref (q_b G + (g + 1))) (nx := 78) hO rfl rfl (hs_o1 hg) rfl rfl ?_
          refine s_iload (nx := 80) hO rfl rfl rfl ?_
          refine s_lload_n (nx := 81) hO rfl rfl rfl ?_
          refine s_l2i (nx := 82) hO rfl rfl ?_
          obtain ⟨b5, H⟩ := H
          refine goV (wI s3 (g + 1) (ix x1) (v3).toInt32) (fun s6 es6 => ?_)
          replace H := H s6 es6
          refine s_iast (nx := 83) hO rfl (hs_I (kf1_0 hg)) b5 rfl ?_
          refine xEx.at (up_I (kf1_0 hg) es6) ?_
          refine s_iload_n (nx := 84) hO rfl rfl rfl ?_
          refine s_iconst (x := 1) (nx := 85) hO rfl (by decide) rfl ?_
          refine s_iadd (nx := 86) hO rfl rfl ?_
          exact s_iret hO rfl rfl rfl ⟨rfl, _, _, rfl, rfl, H⟩
        · replace H := H.2 c48
          refine s_iload_n (nx := 52) hO rfl rfl rfl ?_
          exact s_iret hO rfl rfl rfl ⟨rfl, _, _, rfl, rfl, H⟩
    refine s_icmp_le (nx := 9) hO rfl rfl (fun c6 => ?_) (fun c6 => ?_)
    · replace H := H.1 c6
      exact xEx.loc (x_sub1 (List.Mem.head _) (x_sub1 (List.Mem.tail _ (List.Mem.head _)) (x_sub1 (List.Mem.tail _ (List.Mem.tail _ (List.Mem.head _))) (x_sub1 (List.Mem.tail _ (List.Mem.tail _ (List.Mem.tail _ (List.Mem.head _)))) (x_sub1 (List.Mem.tail _ (List.Mem.tail _ (List.Mem.tail _ (List.Mem.tail _ (List.Mem.head _))))) x_sub0))))) H
    · replace H := H.2 c6
      refine s_aload_n (nx := 10) hO rfl rfl rfl ?_
      refine s_getf (v := .ref (q_b G + (g + 1))) (nx := 13) hO rfl rfl (hs_o1 hg) rfl rfl ?_
      refine s_iload (nx := 15) hO rfl rfl rfl ?_
      refine s_iconst (x := 1) (nx := 16) hO rfl (by decide) rfl ?_
      refine s_isub (nx := 17) hO rfl rfl ?_
      obtain ⟨b7, H⟩ := H
      refine s_iald (nx := 18) hO rfl (hs_I (kf1_0 hg)) b7 rfl ?_
      refine s_i2l (nx := 19) hO rfl rfl ?_
      refine s_lload_n (nx := 20) hO rfl rfl rfl ?_
      refine s_lcmp (nx := 21) hO rfl rfl ?_
      refine s_if_le (nx := 24) hO rfl rfl (fun c21 => ?_) (fun c21 => ?_)
      · replace H := H.1 c21
        exact xEx.loc (x_sub1 (List.Mem.head _) (x_sub1 (List.Mem.tail _ (List.Mem.head _)) (x_sub1 (List.Mem.tail _ (List.Mem.tail _ (List.Mem.head _))) (x_sub1 (List.Mem.tail _ (List.Mem.tail _ (List.Mem.tail _ (List.Mem.head _)))) (x_sub1 (List.Mem.tail _ (List.Mem.tail _ (List.Mem.tail _ (List.Mem.tail _ (List.Mem.head _))))) x_sub0))))) H
      · replace H := H.2 c21
        refine goV ((x1 + (-1))) (fun x8 ex8 => ?_)
        replace H := H x8 ex8
        refine e_iinc (nx := 27) (l' := [(5, .int x8), (0, .ref (q_b G + g)), (1, .int v1), (2, .int v2), (3, .long v3)]) ex8 hO rfl (by decide) rfl rfl rfl rfl ?_
        refine s_goto hO rfl ?_
        exact xEx.loc (x_sub1 (List.Mem.tail _ (List.Mem.head _)) (x_sub1 (List.Mem.tail _ (List.Mem.tail _ (List.Mem.head _))) (x_sub1 (List.Mem.tail _ (List.Mem.tail _ (List.Mem.tail _ (List.Mem.head _)))) (x_sub1 (List.Mem.tail _ (List.Mem.tail _ (List.Mem.tail _ (List.Mem.tail _ (List.Mem.head _))))) (x_sub1 (List.Mem.head _) x_sub0))))) H
  refine s_istore (nx := 3) (l' := [(5, .int v2), (0, .ref (q_b G + g)), (1, .int v1), (2, .int v2), (3, .long v3)]) hO rfl (by decide) rfl rfl ?_
  exact xEx.loc (x_sub1 (List.Mem.tail _ (List.Mem.head _)) (x_sub1 (List.Mem.tail _ (List.Mem.tail _ (List.Mem.head _))) (x_sub1 (List.Mem.tail _ (List.Mem.tail _ (List.Mem.tail _ (List.Mem.head _)))) (x_sub1 (List.Mem.tail _ (List.Mem.tail _ (List.Mem.tail _ (List.Mem.tail _ (List.Mem.head _))))) (x_sub1 (List.Mem.head _) x_sub0))))) H
def W_X1_divideRow (s : yS) (g : Nat) (o1 : Nat) (v2 : Int32) (v3 : Int32) (v4 : Int32) (Q : Int32 → yS → Prop) : Prop :=
 ∀ P10 : Int32 → Prop, (∀ (y1 : Int32), (∀ P47 : Int32 → Prop, (∀ (y2 : Int32), (∀ P71 : Int32 → Prop, (∀ (y3 : Int32), (vp_in v4 1168 ∧ ∀ s5 : yS, s5 = wI s (g + 1) (ix v4) y3 → 
    ∀ x6 : Int32, x6 = (v4 + 1) → 
    ((¬ y2 = 0 → ∀ P104 : Int32 → Prop, (∀ (y7 : Int32), (W_X3_firstWay s5 o1 
      (fun r8 => ∀ P112 : Int32 → Int32 → yS → Prop, (∀ (x9 : Int32) (x10 : Int32) (s11 : yS), ((((sI s11 o1 4) ≤ x10 → Q x9 s11)
       ∧ (¬ (sI s11 o1 4) ≤ x10 → vp_in x10 217 ∧ 
        ∀ P130 : Int32 → Int32 → yS → Prop, (∀ (x13 : Int32) (x14 : Int32) (s15 : yS), (vp_in (x10 + 1) 217 ∧ 
         (((sI s15 (o1 + 5) (ix (x10 + 1))) ≤ x14 → ∀ x17 : Int32, x17 = (x10 + 1) → 
          P112 x13 x17 s15)
         ∧ (¬ (sI s15 (o1 + 5) (ix (x10 + 1))) ≤ x14 → W_X3_isFor s15 o1 x10 v2 
          (fun r18 => ∀ P258 : Int32 → yS → Prop, (∀ (x19 : Int32) (s20 : yS), (∀ x21 : Int32, x21 = (x14 + 1) → 
           P130 x19 x21 s20) → P258 x19 s20) → 
          ((r18 = 0 → P258 x13 s15)
          ∧ (¬ r18 = 0 → vp_in x14 864 ∧ 
           (((sI s15 (o1 + 6) (ix x14)) = v3 → vp_in x14 864 ∧ 
            ∀ x24 : Int64, x24 = ((sI s15 (o1 + 8) (ix x14))).toInt64 → 
            vp_in x14 864 ∧ 
            ∀ P210 : Int32 → yS → Prop, (∀ (x26 : Int32) (s27 : yS), (vp_in x14 864 ∧ 
             ∀ P245 : Int32 → yS → Prop, (∀ (x29 : Int32) (s30 : yS), ((((x29 - v4) ≤ (nI 512) → P258 x29 s30)
              ∧ (¬ (x29 - v4) ≤ (nI 512) → Q (-1) s30))) → P245 x29 s30) → 
             (((sI s27 (o1 + 7) (ix x14)) = 0 → P245 x26 s27)
             ∧ (¬ (sI s27 (o1 + 7) (ix x14)) = 0 → ((0 < (lg_cmp (x24 + 1) (y7).toInt64) → P245 x26 s27)
              ∧ (¬ 0 < (lg_cmp (x24 + 1) (y7).toInt64) → W_X1_insert s27 g v4 x26 (x24 + 1) 
               (fun r31 s32 => P245 r31 s32)))))) → P210 x26 s27) → 
            (((sI s15 (o1 + 7) (ix x14)) = (nI 2) → P210 x13 s15)
            ∧ (¬ (sI s15 (o1 + 7) (ix x14)) = (nI 2) → ((0 < (lg_cmp x24 (y7).toInt64) → P210 x13 s15)
             ∧ (¬ 0 < (lg_cmp x24 (y7).toInt64) → W_X1_insert s15 g v4 x13 x24 
              (fun r33 s34 => P210 r33 s34))))))
           ∧ (¬ (sI s15 (o1 + 6) (ix x14)) = v3 → P258 x13 s15)))))))) → P130 x13 x14 s15) → 
        ∀ x35 : Int32, x35 = (sI s11 (o1 + 5) (ix x10)) → 
        P130 x9 x35 s11))) → P112 x9 x10 s11) → 
      P112 x6 r8 s5)) → P104 y7) → 
     ((y1 = 0 → vp_in (v3 - (nI 3)) 6 ∧ 
      P104 (sI s5 (o1 + 1) (ix (v3 - (nI 3)))))
     ∧ (¬ y1 = 0 → P104 ((2147483647)))))
    ∧ (y2 = 0 → Q x6 s5))) → P71 y3) → 
   ((y1 = 0 → P71 0)
   ∧ (¬ y1 = 0 → ((y2 = 0 → P71 0)
    ∧ (¬ y2 = 0 → P71 ((-2147483648))))))) → P47 y2) → 
  ((y1 = 0 → (((sI s o1 0) ≤ (v3 - (nI 3)) → P47 0)
   ∧ (¬ (sI s o1 0) ≤ (v3 - (nI 3)) → P47 1)))
  ∧ (¬ y1 = 0 → (((v2 - v2 / (nI 4) * (nI 4)) ≤ v3 → P47 0)
   ∧ (¬ (v2 - v2 / (nI 4) * (nI 4)) ≤ v3 → P47 1))))) → P10 y1) → 
 (((nI 3) ≤ v3 → P10 0)
 ∧ (¬ (nI 3) ≤ v3 → P10 1))
set_option maxRecDepth 100000 in
set_option maxHeartbeats 40000000 in
theorem w_X1_divideRow {G : xG} (hG : yG G) {z : Nat} {s : yS} {g : Nat} {o1 : Nat} {v2 : Int32} {v3 : Int32} {v4 : Int32} {Q : Int32 → yS → Prop} (hg : kd g = some (5, 0)) (ho1 : kd o1 = some (7, 0)) (H : W_X1_divideRow s g o1 v2 v3 v4 Q) : xC G mX1_divideRow [.ref (q_b G + g), .ref (q_b G + o1), .int v2, .int v3, .int v4] (hS G s) z 0 0 (yQi G z Q) := by
  have hW := hG.1
  have hcl := hG.2.1
  have hty := hG.2.2.1
  have hO : xO G mX1_divideRow tbX1_divideRow ptX1_divideRow := ⟨tkX1_divideRow, pkX1_divideRow hcl⟩
  unfold W_X1_divideRow at H
  refine xC.of hW (by decide) rfl (Nat.le_of_ble_eq_true rfl) ?_
  refine s_iload_n (nx := 1) hO rfl rfl rfl ?_
  refine s_iconst (x := (nI 3)) (nx := 2) hO rfl (by decide) rfl ?_
  refine goK (H (fun (y1 : Int32) => xEx G mX1_divideRow 10 [(0, .ref (q_b G + g)), (1, .ref (q_b G + o1)), (2, .int v2), (3, .int v3), (4, .int v4)] [.int y1] (hS G s) z 0 0 (yQi G z Q)) (fun y1 H => ?_)) (fun H => ?_)
  · show xEx G mX1_divideRow 10 [(0, .ref (q_b G + g)), (1, .ref (q_b G + o1)), (2, .int v2), (3, .int v3), (4, .int v4)] [.int y1] (hS G s) z 0 0 (yQi G z Q)
    refine s_istore (nx := 12) (l' := [(5, .int y1), (0, .ref (q_b G + g)), (1, .ref (q_b G + o1)), (2, .int v2), (3, .int v3), (4, .int v4)]) hO rfl (by decide) rfl rfl ?_
    refine s_iload (nx := 14) hO rfl rfl rfl ?_
    refine goK (H (fun (y2 : Int32) => xEx G mX1_divideRow 47 [(0, .ref (q_b G + g)), (1, .ref (q_b G + o1)), (2, .int v2), (3, .int v3), (4, .int v4), (5, .int y1)] [.int y2] (hS G s) z 0 0 (yQi G z Q)) (fun y2 H => ?_)) (fun H => ?_)
    · show xEx G mX1_divideRow 47 [(0, .ref (q_b G + g)), (1, .ref (q_b G + o1)), (2, .int v2), (3, .int v3), (4, .int v4), (5, .int y1)] [.int y2] (hS G s) z 0 0 (yQi G z Q)
      refine s_istore (nx := 49) (l' := [(6, .int y2), (0, .ref (q_b G + g)), (1, .ref (q_b G + o1)), (2, .int v2), (3, .int v3), (4, .int v4), (5, .int y1)]) hO rfl (by decide) rfl rfl ?_
      refine s_aload_n (nx := 50) hO rfl rfl rfl ?_
      refine s_getf (v := .ref (q_b G + (g + 1))) (nx := 53) hO rfl rfl (hs_o1 hg) rfl rfl ?_
      refine s_iload (nx := 55) hO rfl rfl rfl ?_
      refine s_iload (nx := 57) hO rfl rfl rfl ?_
      refine goK (H (fun (y3 : Int32) => xEx G mX1_divideRow 71 [(0, .ref (q_b G + g)), (1, .ref (q_b G + o1)), (2, .int v2), (3, .int v3), (4, .int v4), (5, .int y1), (6, .int y2)] [.int y3, .int v4, .ref (q_b G + (g + 1))] (hS G s) z 0 0 (yQi G z Q)) (fun y3 H => ?_)) (fun H => ?_)
      · show xEx G mX1_divideRow 71 [(0, .ref (q_b G + g)), (1, .ref (q_b G + o1)), (2, .int v2), (3, .int v3), (4, .int v4), (5, .int y1), (6, .int y2)] [.int y3, .int v4, .ref (q_b G + (g + 1))] (hS G s) z 0 0 (yQi G z Q)
        obtain ⟨b4, H⟩ := H
        refine goV (wI s (g + 1) (ix v4) y3) (fun s5 es5 => ?_)
        replace H := H s5 es5
        refine s_iast (nx := 72) hO rfl (hs_I (kf1_0 hg)) b4 rfl ?_
        refine xEx.at (up_I (kf1_0 hg) es5) ?_
        refine s_iload (nx := 74) hO rfl rfl rfl ?_
        refine s_iconst (x := 1) (nx := 75) hO rfl (by decide) rfl ?_
        refine s_iadd (nx := 76) hO rfl rfl ?_
        refine goV ((v4 + 1)) (fun x6 ex6 => ?_)
        replace H := H x6 ex6
        refine e_istore (nx := 78) (l' := [(7, .int x6), (0, .ref (q_b G + g)), (1, .ref (q_b G + o1)), (2, .int v2), (3, .int v3), (4, .int v4), (5, .int y1), (6, .int y2)]) ex6 hO rfl (by decide) rfl rfl ?_
        refine s_iload (nx := 80) hO rfl rfl rfl ?_
        refine s_if_ne (nx := 83) hO rfl rfl (fun c80 => ?_) (fun c80 => ?_)
        · replace H := H.1 c80
          refine s_iload (nx := 88) hO rfl rfl rfl ?_
          refine goK (H (fun (y7 : Int32) => xEx G mX1_divideRow 104 [(0, .ref (q_b G + g)), (1, .ref (q_b G + o1)), (2, .int v2), (3, .int v3), (4, .int v4), (7, .int x6)] [.int y7] (hS G s5) z 0 0 (yQi G z Q)) (fun y7 H => ?_)) (fun H => ?_)
          · show xEx G mX1_divideRow 104 [(0, .ref (q_b G + g)), (1, .ref (q_b G + o1)), (2, .int v2), (3, .int v3), (4, .int v4), (7, .int x6)] [.int y7] (hS G s5) z 0 0 (yQi G z Q)
            refine s_istore (nx := 106) (l' := [(8, .int y7), (0, .ref (q_b G + g)), (1, .ref (q_b G + o1)), (2, .int v2), (3, .int v3), (4, .int v4), (7, .int x6)]) hO rfl (by decide) rfl rfl ?_
            refine s_aload_n (nx := 107) hO rfl rfl rfl ?_
            refine s_callV [] (ci := 3) (F := TX3) (N := 20) (nx := 110) hO rfl kX1_divideRow_38 (by rw [hcl]; rfl) (hs_o3 ho1) (w_X3_firstWay hG ho1 H) rfl rfl (Nat.le_of_ble_eq_true rfl) (Nat.zero_le _) (Nat.zero_le _) rfl (k_Pi (fun r8 H => ?_))
            refine goK (H (fun (x9 : Int32) (x10 : Int32) (s11 : yS) => xEx G mX1_divideRow 112 [(0, .ref (q_b G + g)), (1, .ref (q_b G + o1)), (2, .int v2), (3, .int v3), (4, .int v4), (7, .int x9), (8, .int y7), (9, .int x10)] [] (hS G s11) z 0 0 (yQi G z Q)) (fun x9 x10 s11 H => ?_)) (fun H => ?_)
            · show xEx G mX1_divideRow 112 [(0, .ref (q_b G + g)), (1, .ref (q_b G + o1)), (2, .int v2), (3, .int v3), (4, .int v4), (7, .int x9), (8, .int y7), (9, .int x10)] [] (hS G s11) z 0 0 (yQi G z Q)
              refine s_iload (nx := 114) hO rfl rfl rfl ?_
              refine s_aload_n (nx := 115) hO rfl rfl rfl ?_
              refine s_getf (v := .int (sI s11 o1 4)) (nx := 118) hO rfl rfl (hs_o3 ho1) rfl rfl ?_
              refine s_icmp_ge (nx := 121) hO rfl rfl (fun c118 => ?_) (fun c118 => ?_)
              · replace H := H.1 c118
                refine s_iload (nx := 272) hO rfl rfl rfl ?_
                exact s_iret hO rfl rfl rfl ⟨rfl, _, _, rfl, rfl, H⟩
              · replace H := H.2 c118
                refine s_aload_n (nx := 122) hO rfl rfl rfl ?_
                refine s_getf (v := .ref (q_b G + (o1 + 5))) (nx := 125) hO rfl rfl (hs_o3 ho1) rfl rfl ?_
                refine s_iload (nx := 127) hO rfl rfl rfl ?_
                obtain ⟨b12, H⟩ := H
                refine s_iald (nx := 128) hO rfl (hs_I (kf3_11 ho1)) b12 rfl ?_
                refine goK (H (fun (x13 : Int32) (x14 : Int32) (s15 : yS) => xEx G mX1_divideRow 130 [(0, .ref (q_b G + g)), (1, .ref (q_b G + o1)), (2, .int v2), (3, .int v3), (4, .int v4), (7, .int x13), (8, .int y7), (9, .int x10), (10, .int x14)] [] (hS G s15) z 0 0 (yQi G z Q)) (fun x13 x14 s15 H => ?_)) (fun H => ?_)
                · show xEx G mX1_divideRow 130 [(0, .ref (q_b G + g)), (1, .ref (q_b G + o1)), (2, .int v2), (3, .int v3), (4, .int v4), (7, .int x13), (8, .int y7), (9, .int x10), (10, .int x14)] [] (hS G s15) z 0 0 (yQi G z Q)
                  refine s_iload (nx := 132) hO rfl rfl rfl ?_
                  refine s_aload_n (nx := 133) hO rfl rfl rfl ?_
                  refine s_getf (v := .ref (q_b G + (o1 + 5))) (nx := 136) hO rfl rfl (hs_o3 ho1) rfl rfl ?_
                  refine s_iload (nx := 138) hO rfl rfl rfl ?_
                  refine s_iconst (x := 1) (nx := 139) hO rfl (by decide) rfl ?_
                  refine s_iadd (nx := 140) hO rfl rfl ?_
                  obtain ⟨b16, H⟩ := H
                  refine s_iald (nx := 141) hO rfl (hs_I (kf3_11 ho1)) b16 rfl ?_
                  refine s_icmp_ge (nx := 144) hO rfl rfl (fun c141 => ?_) (fun c141 => ?_)
                  · replace H := H.1 c141
                    refine goV ((x10 + 1)) (fun x17 ex17 => ?_)
                    replace H := H x17 ex17
                    refine e_iinc (nx := 267) (l' := [(9, .int x17), (0, .ref (q_b G + g)), (1, .ref (q_b G + o1)), (2, .int v2), (3, .int v3), (4, .int v4), (7, .int x13), (8, .int y7), (10, .int x14)]) ex17 hO rfl (by decide) rfl rfl rfl rfl ?_
                    refine s_goto hO rfl ?_
                    exact xEx.loc (x_sub1 (List.Mem.tail _ (List.Mem.head _)) (x_sub1 (List.Mem.tail _ (List.Mem.tail _ (List.Mem.head _))) (x_sub1 (List.Mem.tail _ (List.Mem.tail _ (List.Mem.tail _ (List.Mem.head _)))) (x_sub1 (List.Mem.tail _ (List.Mem.tail _ (List.Mem.tail _ (List.Mem.tail _ (List.Mem.head _))))) (x_sub1 (List.Mem.tail _ (List.Mem.tail _ (List.Mem.tail _ (List.Mem.tail _ (List.Mem.tail _ (List.Mem.head _)))))) (x_sub1 (List.Mem.tail _ (List.Mem.tail _ (List.Mem.tail _ (List.Mem.tail _ (List.Mem.tail _ (List.Mem.tail _ (List.Mem.head _))))))) (x_sub1 (List.Mem.tail _ (List.Mem.tail _ (List.Mem.tail _ (List.Mem.tail _ (List.Mem.tail _ (List.Mem.tail _ (List.Mem.tail _ (List.Mem.head _)))))))) (x_sub1 (List.Mem.head _) x_sub0)))))))) H
                  · replace H := H.2 c141
                    refine s_aload_n (nx := 145) hO rfl rfl rfl ?_
                    refine s_iload (nx := 147) hO rfl rfl rfl ?_
                    refine s_iload_n (nx := 148) hO rfl rfl rfl ?_
                    refine s_callV [.int x10, .int v2] (ci := 3) (F := TX3) (N := 20) (nx := 151) hO rfl kX1_divideRow_48 (by rw [hcl]; rfl) (hs_o3 ho1) (w_X3_isFor hG ho1 H) rfl rfl (Nat.le_of_ble_eq_true rfl) (Nat.zero_le _) (Nat.zero_le _) rfl (k_Pi (fun r18 H => ?_))
                    refine goK (H (fun (x19 : Int32) (s20 : yS) => xEx G mX1_divideRow 258 [(0, .ref (q_b G + g)), (1, .ref (q_b G + o1)), (2, .int v2), (3, .int v3), (4, .int v4), (7, .int x19), (8, .int y7), (9, .int x10), (10, .int x14)] [] (hS G s20) z 0 0 (yQi G z Q)) (fun x19 s20 H => ?_)) (fun H => ?_)
                    · show xEx G mX1_divideRow 258 [(0, .ref (q_b G + g)), (1, .ref (q_b G + o1)), (2, .int v2), (3, .int v3), (4, .int v4), (7, .int x19), (8, .int y7), (9, .int x10), (10, .int x14)] [] (hS G s20) z 0 0 (yQi G z Q)
                      refine goV ((x14 + 1)) (fun x21 ex21 => ?_)
                      replace H := H x21 ex21
                      refine e_iinc (nx := 261) (l' := [(10, .int x21), (0, .ref (q_b G + g)), (1, .ref (q_b G + o1)), (2, .int v2), (3, .int v3), (4, .int v4), (7, .int x19), (8, .int y7), (9, .int x10)]) ex21 hO rfl (by decide) rfl rfl rfl rfl ?_
                      refine s_goto hO rfl ?_
                      exact xEx.loc (x_sub1 (List.Mem.tail _ (List.Mem.head _)) (x_sub1 (List.Mem.tail _ (List.Mem.tail _ (List.Mem.head _))) (x_sub1 (List.Mem.tail _ (List.Mem.tail _ (List.Mem.tail _ (List.Mem.head _)))) (x_sub1 (List.Mem.tail _ (List.Mem.tail _ (List.Mem.tail _ (List.Mem.tail _ (List.Mem.head _))))) (x_sub1 (List.Mem.tail _ (List.Mem.tail _ (List.Mem.tail _ (List.Mem.tail _ (List.Mem.tail _ (List.Mem.head _)))))) (x_sub1 (List.Mem.tail _ (List.Mem.tail _ (List.Mem.tail _ (List.Mem.tail _ (List.Mem.tail _ (List.Mem.tail _ (List.Mem.head _))))))) (x_sub1 (List.Mem.tail _ (List.Mem.tail _ (List.Mem.tail _ (List.Mem.tail _ (List.Mem.tail _ (List.Mem.tail _ (List.Mem.tail _ (List.Mem.head _)))))))) (x_sub1 (List.Mem.tail _ (List.Mem.tail _ (List.Mem.tail _ (List.Mem.tail _ (List.Mem.tail _ (List.Mem.tail _ (List.Mem.tail _ (List.Mem.tail _ (List.Mem.head _))))))))) (x_sub1 (List.Mem.head _) x_sub0))))))))) H
                    refine s_if_eq (nx := 154) hO rfl rfl (fun c151 => ?_) (fun c151 => ?_)
                    · replace H := H.1 c151
                      exact xEx.loc (x_sub1 (List.Mem.head _) (x_sub1 (List.Mem.tail _ (List.Mem.head _)) (x_sub1 (List.Mem.tail _ (List.Mem.tail _ (List.Mem.head _))) (x_sub1 (List.Mem.tail _ (List.Mem.tail _ (List.Mem.tail _ (List.Mem.head _)))) (x_sub1 (List.Mem.tail _ (List.Mem.tail _ (List.Mem.tail _ (List.Mem.tail _ (List.Mem.head _))))) (x_sub1 (List.Mem.tail _ (List.Mem.tail _ (List.Mem.tail _ (List.Mem.tail _ (List.Mem.tail _ (List.Mem.head _)))))) (x_sub1 (List.Mem.tail _ (List.Mem.tail _ (List.Mem.tail _ (List.Mem.tail _ (List.Mem.tail _ (List.Mem.tail _ (List.Mem.head _))))))) (x_sub1 (List.Mem.tail _ (List.Mem.tail _ (List.Mem.tail _ (List.Mem.tail _ (List.Mem.tail _ (List.Mem.tail _ (List.Mem.tail _ (List.Mem.head _)))))))) (x_sub1 (List.Mem.tail _ (List.Mem.tail _ (List.Mem.tail _ (List.Mem.tail _ (List.Mem.tail _ (List.Mem.tail _ (List.Mem.tail _ (List.Mem.tail _ (List.Mem.head _))))))))) x_sub0))))))))) H
                    · replace H := H.2 c151
                      refine s_aload_n (nx := 155) hO rfl rfl rfl ?_
                      refine s_getf (v := .ref (q_b G + (o1 + 6))) (nx := 158) hO rfl rfl (hs_o3 ho1) rfl rfl ?_
                      refine s_iload (nx := 160) hO rfl rfl rfl ?_
                      obtain ⟨b22, H⟩ := H
                      refine s_iald (nx := 161) hO rfl (hs_I (kf3_12 ho1)) b22 rfl ?_
                      refine s_iload_n (nx := 162) hO rfl rfl rfl ?_
                      refine s_icmp_eq (nx := 165) hO rfl rfl (fun c162 => ?_) (fun c162 => ?_)
                      · replace H := H.1 c162
                        refine s_aload_n (nx := 169) hO rfl rfl rfl ?_
                        refine s_getf (v := .ref (q_b G + (o1 + 8))) (nx := 172) hO rfl rfl (hs_o3 ho1) rfl rfl ?_
                        refine s_iload (nx := 174) hO rfl rfl rfl ?_
                        obtain ⟨b23, H⟩ := H
                        refine s_iald (nx := 175) hO rfl (hs_I (kf3_14 ho1)) b23 rfl ?_
                        refine s_i2l (nx := 176) hO rfl rfl ?_
                        refine goV (((sI s15 (o1 + 8) (ix x14))).toInt64) (fun x24 ex24 => ?_)
                        replace H := H x24 ex24
                        refine e_lstore (nx := 178) (l' := [(11, .long x24), (0, .ref (q_b G + g)), (1, .ref (q_b G + o1)), (2, .int v2), (3, .int v3), (4, .int v4), (7, .int x13), (8, .int y7), (9, .int x10), (10, .int x14)]) ex24 hO rfl (by decide) rfl rfl ?_
                        refine s_aload_n (nx := 179) hO rfl rfl rfl ?_
                        refine s_getf (v := .ref (q_b G + (o1 + 7))) (nx := 182) hO rfl rfl (hs_o3 ho1) rfl rfl ?_
                        refine s_iload (nx := 184) hO rfl rfl rfl ?_
                        obtain ⟨b25, H⟩ := H
                        refine s_iald (nx := 185) hO rfl (hs_I (kf3_13 ho1)) b25 rfl ?_
                        refine s_iconst (x := (nI 2)) (nx := 186) hO rfl (by decide) rfl ?_
                        refine goK (H (fun (x26 : Int32) (s27 : yS) => xEx G mX1_divideRow 210 [(0, .ref (q_b G + g)), (1, .ref (q_b G + o1)), (2, .int v2), (3, .int v3), (4, .int v4), (7, .int x26), (8, .int y7), (9, .int x10), (10, .int x14), (11, .long x24)] [] (hS G s27) z 0 0 (yQi G z Q)) (fun x26 s27 H => ?_)) (fun H => ?_)
                        · show xEx G mX1_divideRow 210 [(0, .ref (q_b G + g)), (1, .ref (q_b G + o1)), (2, .int v2), (3, .int v3), (4, .int v4), (7, .int x26), (8, .int y7), (9, .int x10), (10, .int x14), (11, .long x24)] [] (hS G s27) z 0 0 (yQi G z Q)
                          refine s_aload_n (nx := 211) hO rfl rfl rfl ?_
                          refine s_getf (v := .ref (q_b G + (o1 + 7))) (nx := 214) hO rfl rfl (hs_o3 ho1) rfl rfl ?_
                          refine s_iload (nx := 216) hO rfl rfl rfl ?_
                          obtain ⟨b28, H⟩ := H
                          refine s_iald (nx := 217) hO rfl (hs_I (kf3_13 ho1)) b28 rfl ?_
                          refine goK (H (fun (x29 : Int32) (s30 : yS) => xEx G mX1_divideRow 245 [(0, .ref (q_b G + g)), (1, .ref (q_b G + o1)), (2, .int v2), (3, .int v3), (4, .int v4), (7, .int x29), (8, .int y7), (9, .int x10), (10, .int x14)] [] (hS G s30) z 0 0 (yQi G z Q)) (fun x29 s30 H => ?_)) (fun H => ?_)
                          · show xEx G mX1_divideRow 245 [(0, .ref (q_b G + g)), (1, .ref (q_b G + o1)), (2, .int v2), (3, .int v3), (4, .int v4), (7, .int x29), (8, .int y7), (9, .int x10), (10, .int x14)] [] (hS G s30) z 0 0 (yQi G z Q)
                            refine s_iload (nx := 247) hO rfl rfl rfl ?_
                            refine s_iload (nx := 249) hO rfl rfl rfl ?_
                            refine s_isub (nx := 250) hO rfl rfl ?_
                            refine s_sipush (x := (nI 512)) (nx := 253) hO rfl (by decide) rfl ?_
                            refine s_icmp_le (nx := 256) hO rfl rfl (fun c253 => ?_) (fun c253 => ?_)
                            · replace H := H.1 c253
                              exact xEx.loc (x_sub1 (List.Mem.head _) (x_sub1 (List.Mem.tail _ (List.Mem.head _)) (x_sub1 (List.Mem.tail _ (List.Mem.tail _ (List.Mem.head _))) (x_sub1 (List.Mem.tail _ (List.Mem.tail _ (List.Mem.tail _ (List.Mem.head _)))) (x_sub1 (List.Mem.tail _ (List.Mem.tail _ (List.Mem.tail _ (List.Mem.tail _ (List.Mem.head _))))) (x_sub1 (List.Mem.tail _ (List.Mem.tail _ (List.Mem.tail _ (List.Mem.tail _ (List.Mem.tail _ (List.Mem.head _)))))) (x_sub1 (List.Mem.tail _ (List.Mem.tail _ (List.Mem.tail _ (List.Mem.tail _ (List.Mem.tail _ (List.Mem.tail _ (List.Mem.head _))))))) (x_sub1 (List.Mem.tail _ (List.Mem.tail _ (List.Mem.tail _ (List.Mem.tail _ (List.Mem.tail _ (List.Mem.tail _ (List.Mem.tail _ (List.Mem.head _)))))))) (x_sub1 (List.Mem.tail _ (List.Mem.tail _ (List.Mem.tail _ (List.Mem.tail _ (List.Mem.tail _ (List.Mem.tail _ (List.Mem.tail _ (List.Mem.tail _ (List.Mem.head _))))))))) x_sub0))))))))) H
                            · replace H := H.2 c253
                              refine s_iconst (x := (-1)) (nx := 257) hO rfl (by decide) rfl ?_
                              exact s_iret hO rfl rfl rfl ⟨rfl, _, _, rfl, rfl, H⟩
                          refine s_if_eq (nx := 220) hO rfl rfl (fun c217 => ?_) (fun c217 => ?_)
                          · replace H := H.1 c217
                            exact xEx.loc (x_sub1 (List.Mem.head _) (x_sub1 (List.Mem.tail _ (List.Mem.head _)) (x_sub1 (List.Mem.tail _ (List.Mem.tail _ (List.Mem.head _))) (x_sub1 (List.Mem.tail _ (List.Mem.tail _ (List.Mem.tail _ (List.Mem.head _)))) (x_sub1 (List.Mem.tail _ (List.Mem.tail _ (List.Mem.tail _ (List.Mem.tail _ (List.Mem.head _))))) (x_sub1 (List.Mem.tail _ (List.Mem.tail _ (List.Mem.tail _ (List.Mem.tail _ (List.Mem.tail _ (List.Mem.head _)))))) (x_sub1 (List.Mem.tail _ (List.Mem.tail _ (List.Mem.tail _ (List.Mem.tail _ (List.Mem.tail _ (List.Mem.tail _ (List.Mem.head _))))))) (x_sub1 (List.Mem.tail _ (List.Mem.tail _ (List.Mem.tail _ (List.Mem.tail _ (List.Mem.tail _ (List.Mem.tail _ (List.Mem.tail _ (List.Mem.head _)))))))) (x_sub1 (List.Mem.tail _ (List.Mem.tail _ (List.Mem.tail _ (List.Mem.tail _ (List.Mem.tail _ (List.Mem.tail _ (List.Mem.tail _ (List.Mem.tail _ (List.Mem.head _))))))))) x_sub0))))))))) H
                          · replace H := H.2 c217
                            refine s_lload (nx := 222) hO rfl rfl rfl ?_
                            refine s_lconst (x := 1) (nx := 223) hO rfl (by decide) rfl ?_
                            refine s_ladd (nx := 224) hO rfl rfl ?_
                            refine s_iload (nx := 226) hO rfl rfl rfl ?_
                            refine s_i2l (nx := 227) hO rfl rfl ?_
                            refine s_lcmp (nx := 228) hO rfl rfl ?_
                            refine s_if_gt (nx := 231) hO rfl rfl (fun c228 => ?_) (fun c228 => ?_)
                            · replace H := H.1 c228
                              exact xEx.loc (x_sub1 (List.Mem.head _) (x_sub1 (List.Mem.tail _ (List.Mem.head _)) (x_sub1 (List.Mem.tail _ (List.Mem.tail _ (List.Mem.head _))) (x_sub1 (List.Mem.tail _ (List.Mem.tail _ (List.Mem.tail _ (List.Mem.head _)))) (x_sub1 (List.Mem.tail _ (List.Mem.tail _ (List.Mem.tail _ (List.Mem.tail _ (List.Mem.head _))))) (x_sub1 (List.Mem.tail _ (List.Mem.tail _ (List.Mem.tail _ (List.Mem.tail _ (List.Mem.tail _ (List.Mem.head _)))))) (x_sub1 (List.Mem.tail _ (List.Mem.tail _ (List.Mem.tail _ (List.Mem.tail _ (List.Mem.tail _ (List.Mem.tail _ (List.Mem.head _))))))) (x_sub1 (List.Mem.tail _ (List.Mem.tail _ (List.Mem.tail _ (List.Mem.tail _ (List.Mem.tail _ (List.Mem.tail _ (List.Mem.tail _ (List.Mem.head _)))))))) (x_sub1 (List.Mem.tail _ (List.Mem.tail _ (List.Mem.tail _ (List.Mem.tail _ (List.Mem.tail _ (List.Mem.tail _ (List.Mem.tail _ (List.Mem.tail _ (List.Mem.head _))))))))) x_sub0))))))))) H
                            · replace H := H.2 c228
                              refine s_aload_n (nx := 232) hO rfl rfl rfl ?_
                              refine s_iload (nx := 234) hO rfl rfl rfl ?_
                              refine s_iload (nx := 236) hO rfl rfl rfl ?_
                              refine s_lload (nx := 238) hO rfl rfl rfl ?_
                              refine s_lconst (x := 1) (nx := 239) hO rfl (by decide) rfl ?_
                              refine s_ladd (nx := 240) hO rfl rfl ?_
                              refine s_callV [.int v4, .int x26, .long (x24 + 1)] (ci := 1) (F := TX1) (N := 3) (nx := 243) hO rfl kX1_divideRow_61 (by rw [hcl]; rfl) (hs_o1 hg) (w_X1_insert hG hg H) rfl rfl (Nat.le_of_ble_eq_true rfl) (Nat.zero_le _) (Nat.zero_le _) rfl (k_Qi (fun r31 s32 H => ?_))
                              refine s_istore (nx := 245) (l' := [(7, .int r31), (0, .ref (q_b G + g)), (1, .ref (q_b G + o1)), (2, .int v2), (3, .int v3), (4, .int v4), (8, .int y7), (9, .int x10), (10, .int x14), (11, .long x24)]) hO rfl (by decide) rfl rfl ?_
                              exact xEx.loc (x_sub1 (List.Mem.tail _ (List.Mem.head _)) (x_sub1 (List.Mem.tail _ (List.Mem.tail _ (List.Mem.head _))) (x_sub1 (List.Mem.tail _ (List.Mem.tail _ (List.Mem.tail _ (List.Mem.head _)))) (x_sub1 (List.Mem.tail _ (List.Mem.tail _ (List.Mem.tail _ (List.Mem.tail _ (List.Mem.head _))))) (x_sub1 (List.Mem.tail _ (List.Mem.tail _ (List.Mem.tail _ (List.Mem.tail _ (List.Mem.tail _ (List.Mem.head _)))))) (x_sub1 (List.Mem.head _) (x_sub1 (List.Mem.tail _ (List.Mem.tail _ (List.Mem.tail _ (List.Mem.tail _ (List.Mem.tail _ (List.Mem.tail _ (List.Mem.head _))))))) (x_sub1 (List.Mem.tail _ (List.Mem.tail _ (List.Mem.tail _ (List.Mem.tail _ (List.Mem.tail _ (List.Mem.tail _ (List.Mem.tail _ (List.Mem.head _)))))))) (x_sub1 (List.Mem.tail _ (List.Mem.tail _ (List.Mem.tail _ (List.Mem.tail _ (List.Mem.tail _ (List.Mem.tail _ (List.Mem.tail _ (List.Mem.tail _ (List.Mem.head _))))))))) x_sub0))))))))) H
                        refine s_icmp_eq (nx := 189) hO rfl rfl (fun c186 => ?_) (fun c186 => ?_)
                        · replace H := H.1 c186
                          exact xEx.loc (x_sub1 (List.Mem.tail _ (List.Mem.head _)) (x_sub1 (List.Mem.tail _ (List.Mem.tail _ (List.Mem.head _))) (x_sub1 (List.Mem.tail _ (List.Mem.tail _ (List.Mem.tail _ (List.Mem.head _)))) (x_sub1 (List.Mem.tail _ (List.Mem.tail _ (List.Mem.tail _ (List.Mem.tail _ (List.Mem.head _))))) (x_sub1 (List.Mem.tail _ (List.Mem.tail _ (List.Mem.tail _ (List.Mem.tail _ (List.Mem.tail _ (List.Mem.head _)))))) (x_sub1 (List.Mem.tail _ (List.Mem.tail _ (List.Mem.tail _ (List.Mem.tail _ (List.Mem.tail _ (List.Mem.tail _ (List.Mem.head _))))))) (x_sub1 (List.Mem.tail _ (List.Mem.tail _ (List.Mem.tail _ (List.Mem.tail _ (List.Mem.tail _ (List.Mem.tail _ (List.Mem.tail _ (List.Mem.head _)))))))) (x_sub1 (List.Mem.tail _ (List.Mem.tail _ (List.Mem.tail _ (List.Mem.tail _ (List.Mem.tail _ (List.Mem.tail _ (List.Mem.tail _ (List.Mem.tail _ (List.Mem.head _))))))))) (x_sub1 (List.Mem.tail _ (List.Mem.tail _ (List.Mem.tail _ (List.Mem.tail _ (List.Mem.tail _ (List.Mem.tail _ (List.Mem.tail _ (List.Mem.tail _ (List.Mem.tail _ (List.Mem.head _)))))))))) (x_sub1 (List.Mem.head _) x_sub0)))))))))) H
                        · replace H := H.2 c186
                          refine s_lload (nx := 191) hO rfl rfl rfl ?_
                          refine s_iload (nx := 193) hO rfl rfl rfl ?_
                          refine s_i2l (nx := 194) hO rfl rfl ?_
                          refine s_lcmp (nx := 195) hO rfl rfl ?_
                          refine s_if_gt (nx := 198) hO rfl rfl (fun c195 => ?_) (fun c195 => ?_)
                          · replace H := H.1 c195
                            exact xEx.loc (x_sub1 (List.Mem.tail _ (List.Mem.head _)) (x_sub1 (List.Mem.tail _ (List.Mem.tail _ (List.Mem.head _))) (x_sub1 (List.Mem.tail _ (List.Mem.tail _ (List.Mem.tail _ (List.Mem.head _)))) (x_sub1 (List.Mem.tail _ (List.Mem.tail _ (List.Mem.tail _ (List.Mem.tail _ (List.Mem.head _))))) (x_sub1 (List.Mem.tail _ (List.Mem.tail _ (List.Mem.tail _ (List.Mem.tail _ (List.Mem.tail _ (List.Mem.head _)))))) (x_sub1 (List.Mem.tail _ (List.Mem.tail _ (List.Mem.tail _ (List.Mem.tail _ (List.Mem.tail _ (List.Mem.tail _ (List.Mem.head _))))))) (x_sub1 (List.Mem.tail _ (List.Mem.tail _ (List.Mem.tail _ (List.Mem.tail _ (List.Mem.tail _ (List.Mem.tail _ (List.Mem.tail _ (List.Mem.head _)))))))) (x_sub1 (List.Mem.tail _ (List.Mem.tail _ (List.Mem.tail _ (List.Mem.tail _ (List.Mem.tail _ (List.Mem.tail _ (List.Mem.tail _ (List.Mem.tail _ (List.Mem.head _))))))))) (x_sub1 (List.Mem.tail _ (List.Mem.tail _ (List.Mem.tail _ (List.Mem.tail _ (List.Mem.tail _ (List.Mem.tail _ (List.Mem.tail _ (List.Mem.tail _ (List.Mem.tail _ (List.Mem.head _)))))))))) (x_sub1 (List.Mem.head _) x_sub0)))))))))) H
                          · replace H := H.2 c195
                            refine s_aload_n (nx := 199) hO rfl rfl rfl ?_
                            refine s_iload (nx := 201) hO rfl rfl rfl ?_
                            refine s_iload (nx := 203) hO rfl rfl rfl ?_
                            refine s_lload (nx := 205) hO rfl rfl rfl ?_
                            refine s_callV [.int v4, .int x13, .long x24] (ci := 1) (F := TX1) (N := 3) (nx := 208) hO rfl kX1_divideRow_61 (by rw [hcl]; rfl) (hs_o1 hg) (w_X1_insert hG hg H) rfl rfl (Nat.le_of_ble_eq_true rfl) (Nat.zero_le _) (Nat.zero_le _) rfl (k_Qi (fun r33 s34 H => ?_))
                            refine s_istore (nx := 210) (l' := [(7, .int r33), (11, .long x24), (0, .ref (q_b G + g)), (1, .ref (q_b G + o1)), (2, .int v2), (3, .int v3), (4, .int v4), (8, .int y7), (9, .int x10), (10, .int x14)]) hO rfl (by decide) rfl rfl ?_
                            exact xEx.loc (x_sub1 (List.Mem.tail _ (List.Mem.tail _ (List.Mem.head _))) (x_sub1 (List.Mem.tail _ (List.Mem.tail _ (List.Mem.tail _ (List.Mem.head _)))) (x_sub1 (List.Mem.tail _ (List.Mem.tail _ (List.Mem.tail _ (List.Mem.tail _ (List.Mem.head _))))) (x_sub1 (List.Mem.tail _ (List.Mem.tail _ (List.Mem.tail _ (List.Mem.tail _ (List.Mem.tail _ (List.Mem.head _)))))) (x_sub1 (List.Mem.tail _ (List.Mem.tail _ (List.Mem.tail _ (List.Mem.tail _ (List.Mem.tail _ (List.Mem.tail _ (List.Mem.head _))))))) (x_sub1 (List.Mem.head _) (x_sub1 (List.Mem.tail _ (List.Mem.tail _ (List.Mem.tail _ (List.Mem.tail _ (List.Mem.tail _ (List.Mem.tail _ (List.Mem.tail _ (List.Mem.head _)))))))) (x_sub1 (List.Mem.tail _ (List.Mem.tail _ (List.Mem.tail _ (List.Mem.tail _ (List.Mem.tail _ (List.Mem.tail _ (List.Mem.tail _ (List.Mem.tail _ (List.Mem.head _))))))))) (x_sub1 (List.Mem.tail _ (List.Mem.tail _ (List.Mem.tail _ (List.Mem.tail _ (List.Mem.tail _ (List.Mem.tail _ (List.Mem.tail _ (List.Mem.tail _ (List.Mem.tail _ (List.Mem.head _)))))))))) (x_sub1 (List.Mem.tail _ (List.Mem.head _)) x_sub0)))))))))) H
                      · replace H := H.2 c162
                        refine s_goto hO rfl ?_
                        exact xEx.loc (x_sub1 (List.Mem.head _) (x_sub1 (List.Mem.tail _ (List.Mem.head _)) (x_sub1 (List.Mem.tail _ (List.Mem.tail _ (List.Mem.head _))) (x_sub1 (List.Mem.tail _ (List.Mem.tail _ (List.Mem.tail _ (List.Mem.head _)))) (x_sub1 (List.Mem.tail _ (List.Mem.tail _ (List.Mem.tail _ (List.Mem.tail _ (List.Mem.head _))))) (x_sub1 (List.Mem.tail _ (List.Mem.tail _ (List.Mem.tail _ (List.Mem.tail _ (List.Mem.tail _ (List.Mem.head _)))))) (x_sub1 (List.Mem.tail _ (List.Mem.tail _ (List.Mem.tail _ (List.Mem.tail _ (List.Mem.tail _ (List.Mem.tail _ (List.Mem.head _))))))) (x_sub1 (List.Mem.tail _ (List.Mem.tail _ (List.Mem.tail _ (List.Mem.tail _ (List.Mem.tail _ (List.Mem.tail _ (List.Mem.tail _ (List.Mem.head _)))))))) (x_sub1 (List.Mem.tail _ (List.Mem.tail _ (List.Mem.tail _ (List.Mem.tail _ (List.Mem.tail _ (List.Mem.tail _ (List.Mem.tail _ (List.Mem.tail _ (List.Mem.head _))))))))) x_sub0))))))))) H
                refine goV ((sI s11 (o1 + 5) (ix x10))) (fun x35 ex35 => ?_)
                replace H := H x35 ex35
                refine e_istore (nx := 130) (l' := [(10, .int x35), (0, .ref (q_b G + g)), (1, .ref (q_b G + o1)), (2, .int v2), (3, .int v3), (4, .int v4), (7, .int x9), (8, .int y7), (9, .int x10)]) ex35 hO rfl (by decide) rfl rfl ?_
                exact xEx.loc (x_sub1 (List.Mem.tail _ (List.Mem.head _)) (x_sub1 (List.Mem.tail _ (List.Mem.tail _ (List.Mem.head _))) (x_sub1 (List.Mem.tail _ (List.Mem.tail _ (List.Mem.tail _ (List.Mem.head _)))) (x_sub1 (List.Mem.tail _ (List.Mem.tail _ (List.Mem.tail _ (List.Mem.tail _ (List.Mem.head _))))) (x_sub1 (List.Mem.tail _ (List.Mem.tail _ (List.Mem.tail _ (List.Mem.tail _ (List.Mem.tail _ (List.Mem.head _)))))) (x_sub1 (List.Mem.tail _ (List.Mem.tail _ (List.Mem.tail _ (List.Mem.tail _ (List.Mem.tail _ (List.Mem.tail _ (List.Mem.head _))))))) (x_sub1 (List.Mem.tail _ (List.Mem.tail _ (List.Mem.tail _ (List.Mem.tail _ (List.Mem.tail _ (List.Mem.tail _ (List.Mem.tail _ (List.Mem.head _)))))))) (x_sub1 (List.Mem.tail _ (List.Mem.tail _ (List.Mem.tail _ (List.Mem.tail _ (List.Mem.tail _ (List.Mem.tail _ (List.Mem.tail _ (List.Mem.tail _ (List.Mem.head _))))))))) (x_sub1 (List.Mem.head _) x_sub0))))))))) H
            refine s_istore (nx := 112) (l' := [(9, .int r8), (8, .int y7), (0, .ref (q_b G + g)), (1, .ref (q_b G + o1)), (2, .int v2), (3, .int v3), (4, .int v4), (7, .int x6)]) hO rfl (by decide) rfl rfl ?_
            exact xEx.loc (x_sub1 (List.Mem.tail _ (List.Mem.tail _ (List.Mem.head _))) (x_sub1 (List.Mem.tail _ (List.Mem.tail _ (List.Mem.tail _ (List.Mem.head _)))) (x_sub1 (List.Mem.tail _ (List.Mem.tail _ (List.Mem.tail _ (List.Mem.tail _ (List.Mem.head _))))) (x_sub1 (List.Mem.tail _ (List.Mem.tail _ (List.Mem.tail _ (List.Mem.tail _ (List.Mem.tail _ (List.Mem.head _)))))) (x_sub1 (List.Mem.tail _ (List.Mem.tail _ (List.Mem.tail _ (List.Mem.tail _ (List.Mem.tail _ (List.Mem.tail _ (List.Mem.head _))))))) (x_sub1 (List.Mem.tail _ (List.Mem.tail _ (List.Mem.tail _ (List.Mem.tail _ (List.Mem.tail _ (List.Mem.tail _ (List.Mem.tail _ (List.Mem.head _)))))))) (x_sub1 (List.Mem.tail _ (List.Mem.head _)) (x_sub1 (List.Mem.head _) x_sub0)))))))) H
          refine s_if_eq (nx := 91) hO rfl rfl (fun c88 => ?_) (fun c88 => ?_)
          · replace H := H.1 c88
            refine s_aload_n (nx := 97) hO rfl rfl rfl ?_
            refine s_getf (v := .ref (q_b G + (o1 + 1))) (nx := 100) hO rfl rfl (hs_o3 ho1) rfl rfl ?_
            refine s_iload_n (nx := 101) hO rfl rfl rfl ?_
            refine s_iconst (x := (nI 3)) (nx := 102) hO rfl (by decide) rfl ?_
            refine s_isub (nx := 103) hO rfl rfl ?_
            obtain ⟨b36, H⟩ := H
            refine s_iald (nx := 104) hO rfl (hs_I (kf3_7 ho1)) b36 rfl ?_
            exact xEx.loc (x_sub1 (List.Mem.tail _ (List.Mem.head _)) (x_sub1 (List.Mem.tail _ (List.Mem.tail _ (List.Mem.head _))) (x_sub1 (List.Mem.tail _ (List.Mem.tail _ (List.Mem.tail _ (List.Mem.head _)))) (x_sub1 (List.Mem.tail _ (List.Mem.tail _ (List.Mem.tail _ (List.Mem.tail _ (List.Mem.head _))))) (x_sub1 (List.Mem.tail _ (List.Mem.tail _ (List.Mem.tail _ (List.Mem.tail _ (List.Mem.tail _ (List.Mem.head _)))))) (x_sub1 (List.Mem.head _) x_sub0)))))) H
          · replace H := H.2 c88
            refine s_ldc (x := ((2147483647))) (nx := 93) hO rfl rfl rfl ?_
            refine s_goto hO rfl ?_
            exact xEx.loc (x_sub1 (List.Mem.tail _ (List.Mem.head _)) (x_sub1 (List.Mem.tail _ (List.Mem.tail _ (List.Mem.head _))) (x_sub1 (List.Mem.tail _ (List.Mem.tail _ (List.Mem.tail _ (List.Mem.head _)))) (x_sub1 (List.Mem.tail _ (List.Mem.tail _ (List.Mem.tail _ (List.Mem.tail _ (List.Mem.head _))))) (x_sub1 (List.Mem.tail _ (List.Mem.tail _ (List.Mem.tail _ (List.Mem.tail _ (List.Mem.tail _ (List.Mem.head _)))))) (x_sub1 (List.Mem.head _) x_sub0)))))) H
        · replace H := H.2 c80
          refine s_iload (nx := 85) hO rfl rfl rfl ?_
          exact s_iret hO rfl rfl rfl ⟨rfl, _, _, rfl, rfl, H⟩
      refine s_if_eq (nx := 60) hO rfl rfl (fun c57 => ?_) (fun c57 => ?_)
      · replace H := H.1 c57
        refine s_iconst (x := 0) (nx := 71) hO rfl (by decide) rfl ?_
        exact xEx.loc (x_sub1 (List.Mem.tail _ (List.Mem.head _)) (x_sub1 (List.Mem.tail _ (List.Mem.tail _ (List.Mem.head _))) (x_sub1 (List.Mem.tail _ (List.Mem.tail _ (List.Mem.tail _ (List.Mem.head _)))) (x_sub1 (List.Mem.tail _ (List.Mem.tail _ (List.Mem.tail _ (List.Mem.tail _ (List.Mem.head _))))) (x_sub1 (List.Mem.tail _ (List.Mem.tail _ (List.Mem.tail _ (List.Mem.tail _ (List.Mem.tail _ (List.Mem.head _)))))) (x_sub1 (List.Mem.tail _ (List.Mem.tail _ (List.Mem.tail _ (List.Mem.tail _ (List.Mem.tail _ (List.Mem.tail _ (List.Mem.head _))))))) (x_sub1 (List.Mem.head _) x_sub0))))))) H
      · replace H := H.2 c57
        refine s_iload (nx := 62) hO rfl rfl rfl ?_
        refine s_if_eq (nx := 65) hO rfl rfl (fun c62 => ?_) (fun c62 => ?_)
        · replace H := H.1 c62
          refine s_iconst (x := 0) (nx := 71) hO rfl (by decide) rfl ?_
          exact xEx.loc (x_sub1 (List.Mem.tail _ (List.Mem.head _)) (x_sub1 (List.Mem.tail _ (List.Mem.tail _ (List.Mem.head _))) (x_sub1 (List.Mem.tail _ (List.Mem.tail _ (List.Mem.tail _ (List.Mem.head _)))) (x_sub1 (List.Mem.tail _ (List.Mem.tail _ (List.Mem.tail _ (List.Mem.tail _ (List.Mem.head _))))) (x_sub1 (List.Mem.tail _ (List.Mem.tail _ (List.Mem.tail _ (List.Mem.tail _ (List.Mem.tail _ (List.Mem.head _)))))) (x_sub1 (List.Mem.tail _ (List.Mem.tail _ (List.Mem.tail _ (List.Mem.tail _ (List.Mem.tail _ (List.Mem.tail _ (List.Mem.head _))))))) (x_sub1 (List.Mem.head _) x_sub0))))))) H
        · replace H := H.2 c62
          refine s_ldc (x := ((-2147483648))) (nx := 67) hO rfl rfl rfl ?_
          refine s_goto hO rfl ?_
          exact xEx.loc (x_sub1 (List.Mem.tail _ (List.Mem.head _)) (x_sub1 (List.Mem.tail _ (List.Mem.tail _ (List.Mem.head _))) (x_sub1 (List.Mem.tail _ (List.Mem.tail _ (List.Mem.tail _ (List.Mem.head _)))) (x_sub1 (List.Mem.tail _ (List.Mem.tail _ (List.Mem.tail _ (List.Mem.tail _ (List.Mem.head _))))) (x_sub1 (List.Mem.tail _ (List.Mem.tail _ (List.Mem.tail _ (List.Mem.tail _ (List.Mem.tail _ (List.Mem.head _)))))) (x_sub1 (List.Mem.tail _ (List.Mem.tail _ (List.Mem.tail _ (List.Mem.tail _ (List.Mem.tail _ (List.Mem.tail _ (List.Mem.head _))))))) (x_sub1 (List.Mem.head _) x_sub0))))))) H
    refine s_if_eq (nx := 17) hO rfl rfl (fun c14 => ?_) (fun c14 => ?_)
    · replace H := H.1 c14
      refine s_iload_n (nx := 33) hO rfl rfl rfl ?_
      refine s_iconst (x := (nI 3)) (nx := 34) hO rfl (by decide) rfl ?_
      refine s_isub (nx := 35) hO rfl rfl ?_
      refine s_aload_n (nx := 36) hO rfl rfl rfl ?_
      refine s_getf (v := .int (sI s o1 0)) (nx := 39) hO rfl rfl (hs_o3 ho1) rfl rfl ?_
      refine s_icmp_ge (nx := 42) hO rfl rfl (fun c39 => ?_) (fun c39 => ?_)
      · replace H := H.1 c39
        refine s_iconst (x := 0) (nx := 47) hO rfl (by decide) rfl ?_
        exact xEx.loc (x_sub1 (List.Mem.tail _ (List.Mem.head _)) (x_sub1 (List.Mem.tail _ (List.Mem.tail _ (List.Mem.head _))) (x_sub1 (List.Mem.tail _ (List.Mem.tail _ (List.Mem.tail _ (List.Mem.head _)))) (x_sub1 (List.Mem.tail _ (List.Mem.tail _ (List.Mem.tail _ (List.Mem.tail _ (List.Mem.head _))))) (x_sub1 (List.Mem.tail _ (List.Mem.tail _ (List.Mem.tail _ (List.Mem.tail _ (List.Mem.tail _ (List.Mem.head _)))))) (x_sub1 (List.Mem.head _) x_sub0)))))) H
      · replace H := H.2 c39
        refine s_iconst (x := 1) (nx := 43) hO rfl (by decide) rfl ?_
        refine s_goto hO rfl ?_
        exact xEx.loc (x_sub1 (List.Mem.tail _ (List.Mem.head _)) (x_sub1 (List.Mem.tail _ (List.Mem.tail _ (List.Mem.head _))) (x_sub1 (List.Mem.tail _ (List.Mem.tail _ (List.Mem.tail _ (List.Mem.head _)))) (x_sub1 (List.Mem.tail _ (List.Mem.tail _ (List.Mem.tail _ (List.Mem.tail _ (List.Mem.head _))))) (x_sub1 (List.Mem.tail _ (List.Mem.tail _ (List.Mem.tail _ (List.Mem.tail _ (List.Mem.tail _ (List.Mem.head _)))))) (x_sub1 (List.Mem.head _) x_sub0)))))) H
    · replace H := H.2 c14
      refine s_iload_n (nx := 18) hO rfl rfl rfl ?_
      refine s_iload_n (nx := 19) hO rfl rfl rfl ?_
      refine s_iconst (x := (nI 4)) (nx := 20) hO rfl (by decide) rfl ?_
      refine s_irem (nx := 21) hO rfl (by decide) rfl ?_
      refine s_icmp_ge (nx := 24) hO rfl rfl (fun c21 => ?_) (fun c21 => ?_)
      · replace H := H.1 c21
        refine s_iconst (x := 0) (nx := 29) hO rfl (by decide) rfl ?_
        refine s_goto hO rfl ?_
        exact xEx.loc (x_sub1 (List.Mem.tail _ (List.Mem.head _)) (x_sub1 (List.Mem.tail _ (List.Mem.tail _ (List.Mem.head _))) (x_sub1 (List.Mem.tail _ (List.Mem.tail _ (List.Mem.tail _ (List.Mem.head _)))) (x_sub1 (List.Mem.tail _ (List.Mem.tail _ (List.Mem.tail _ (List.Mem.tail _ (List.Mem.head _))))) (x_sub1 (List.Mem.tail _ (List.Mem.tail _ (List.Mem.tail _ (List.Mem.tail _ (List.Mem.tail _ (List.Mem.head _)))))) (x_sub1 (List.Mem.head _) x_sub0)))))) H
      · replace H := H.2 c21
        refine s_iconst (x := 1) (nx := 25) hO rfl (by decide) rfl ?_
        refine s_goto hO rfl ?_
        exact xEx.loc (x_sub1 (List.Mem.tail _ (List.Mem.head _)) (x_sub1 (List.Mem.tail _ (List.Mem.tail _ (List.Mem.head _))) (x_sub1 (List.Mem.tail _ (List.Mem.tail _ (List.Mem.tail _ (List.Mem.head _)))) (x_sub1 (List.Mem.tail _ (List.Mem.tail _ (List.Mem.tail _ (List.Mem.tail _ (List.Mem.head _))))) (x_sub1 (List.Mem.tail _ (List.Mem.tail _ (List.Mem.tail _ (List.Mem.tail _ (List.Mem.tail _ (List.Mem.head _)))))) (x_sub1 (List.Mem.head _) x_sub0)))))) H
  refine s_icmp_ge (nx := 5) hO rfl rfl (fun c2 => ?_) (fun c2 => ?_)
  · replace H := H.1 c2
    refine s_iconst (x := 0) (nx := 10) hO rfl (by decide) rfl ?_
    exact xEx.loc (x_sub1 (List.Mem.head _) (x_sub1 (List.Mem.tail _ (List.Mem.head _)) (x_sub1 (List.Mem.tail _ (List.Mem.tail _ (List.Mem.head _))) (x_sub1 (List.Mem.tail _ (List.Mem.tail _ (List.Mem.tail _ (List.Mem.head _)))) (x_sub1 (List.Mem.tail _ (List.Mem.tail _ (List.Mem.tail _ (List.Mem.tail _ (List.Mem.head _))))) x_sub0))))) H
  · replace H := H.2 c2
    refine s_iconst (x := 1) (nx := 6) hO rfl (by decide) rfl ?_
    refine s_goto hO rfl ?_
    exact xEx.loc (x_sub1 (List.Mem.head _) (x_sub1 (List.Mem.tail _ (List.Mem.head _)) (x_sub1 (List.Mem.tail _ (List.Mem.tail _ (List.Mem.head _))) (x_sub1 (List.Mem.tail _ (List.Mem.tail _ (List.Mem.tail _ (List.Mem.head _)))) (x_sub1 (List.Mem.tail _ (List.Mem.tail _ (List.Mem.tail _ (List.Mem.tail _ (List.Mem.head _))))) x_sub0))))) H
def W_X1_divide (s : yS) (g : Nat) (o1 : Nat) (Q : Int32 → yS → Prop) : Prop :=
 ∀ P4 : Int32 → Int32 → yS → Prop, (∀ (x1 : Int32) (x2 : Int32) (s3 : yS), ((((nI 16) ≤ x2 → vp_in (nI 144) 145 ∧ ∀ s5 : yS, s5 = wI s3 (g + 2) (ix (nI 144)) x1 → 
   Q 1 s5)
  ∧ (¬ (nI 16) ≤ x2 → ∀ P16 : Int32 → Int32 → Int32 → yS → Prop, (∀ (x6 : Int32) (x7 : Int32) (x8 : Int32) (s9 : yS), ((((nI 9) ≤ x8 → vp_in x2 17 ∧ 
     vp_in (x2 + 1) 17 ∧ ∀ s12 : yS, s12 = wI s9 (g + 3) (ix (x2 + 1)) ((sI s9 (g + 3) (ix x2)) + x7) → 
     ∀ x13 : Int32, x13 = (x2 + 1) → 
     P4 x6 x13 s12)
    ∧ (¬ (nI 9) ≤ x8 → vp_in ((x2 * (nI 9)) + x8) 145 ∧ ∀ s15 : yS, s15 = wI s9 (g + 2) (ix ((x2 * (nI 9)) + x8)) x6 → 
     W_X1_divideRow s15 g o1 x2 x8 x6 
     (fun r16 s17 => ((r16 = (-1) → Q 0 s17)
     ∧ (¬ r16 = (-1) → vp_in x2 17 ∧ 
      (((x7 * (r16 - x6)) ≤ ((nI 512) - (sI s17 (g + 3) (ix x2))) → ∀ x19 : Int32, x19 = (x7 * (r16 - x6)) → 
       ∀ x20 : Int32, x20 = (x8 + 1) → 
       P16 r16 x19 x20 s17)
      ∧ (¬ (x7 * (r16 - x6)) ≤ ((nI 512) - (sI s17 (g + 3) (ix x2))) → Q 0 s17)))))))) → P16 x6 x7 x8 s9) → 
   P16 x1 1 0 s3))) → P4 x1 x2 s3) → 
 P4 0 0 s
set_option maxRecDepth 100000 in
set_option maxHeartbeats 40000000 in
theorem w_X1_divide {G : xG} (hG : yG G) {z : Nat} {s : yS} {g : Nat} {o1 : Nat} {Q : Int32 → yS → Prop} (hg : kd g = some (5, 0)) (ho1 : kd o1 = some (7, 0)) (H : W_X1_divide s g o1 Q) : xC G mX1_divide [.ref (q_b G + g), .ref (q_b G + o1)] (hS G s) z 0 0 (yQi G z Q) := by
  have hW := hG.1
  have hcl := hG.2.1
  have hty := hG.2.2.1
  have hO : xO G mX1_divide tbX1_divide ptX1_divide := ⟨tkX1_divide, pkX1_divide hcl⟩
  unfold W_X1_divide at H
  refine xC.of hW (by decide) rfl (Nat.le_of_ble_eq_true rfl) ?_
  refine s_iconst (x := 0) (nx := 1) hO rfl (by decide) rfl ?_
  refine s_istore_n (nx := 2) (l' := [(2, .int 0), (0, .ref (q_b G + g)), (1, .ref (q_b G + o1))]) hO rfl (by decide) rfl rfl ?_
  refine s_iconst (x := 0) (nx := 3) hO rfl (by decide) rfl ?_
  refine goK (H (fun (x1 : Int32) (x2 : Int32) (s3 : yS) => xEx G mX1_divide 4 [(0, .ref (q_b G + g)), (1, .ref (q_b G + o1)), (2, .int x1), (3, .int x2)] [] (hS G s3) z 0 0 (yQi G z Q)) (fun x1 x2 s3 H => ?_)) (fun H => ?_)
  · show xEx G mX1_divide 4 [(0, .ref (q_b G + g)), (1, .ref (q_b G + o1)), (2, .int x1), (3, .int x2)] [] (hS G s3) z 0 0 (yQi G z Q)
    refine s_iload_n (nx := 5) hO rfl rfl rfl ?_
    refine s_bipush (x := (nI 16)) (nx := 7) hO rfl (by decide) rfl ?_
    refine s_icmp_ge (nx := 10) hO rfl rfl (fun c7 => ?_) (fun c7 => ?_)
    · replace H := H.1 c7
      refine s_aload_n (nx := 117) hO rfl rfl rfl ?_
      refine s_getf (v := .ref (q_b G + (g + 2))) (nx := 120) hO rfl rfl (hs_o1 hg) rfl rfl ?_
      refine s_sipush (x := (nI 144)) (nx := 123) hO rfl (by decide) rfl ?_
      refine s_iload_n (nx := 124) hO rfl rfl rfl ?_
      obtain ⟨b4, H⟩ := H
      refine goV (wI s3 (g + 2) (ix (nI 144)) x1) (fun s5 es5 => ?_)
      replace H := H s5 es5
      refine s_iast (nx := 125) hO rfl (hs_I (kf1_1 hg)) b4 rfl ?_
      refine xEx.at (up_I (kf1_1 hg) es5) ?_
      refine s_iconst (x := 1) (nx := 126) hO rfl (by decide) rfl ?_
      exact s_iret hO rfl rfl rfl ⟨rfl, _, _, rfl, rfl, H⟩
    · replace H := H.2 c7
      refine s_iconst (x := 1) (nx := 11) hO rfl (by decide) rfl ?_
      refine s_istore (nx := 13) (l' := [(4, .int 1), (0, .ref (q_b G + g)), (1, .ref (q_b G + o1)), (2, .int x1), (3, .int x2)]) hO rfl (by decide) rfl rfl ?_
      refine s_iconst (x := 0) (nx := 14) hO rfl (by decide) rfl ?_
      refine goK (H (fun (x6 : Int32) (x7 : Int32) (x8 : Int32) (s9 : yS) => xEx G mX1_divide 16 [(0, .ref (q_b G + g)), (1, .ref (q_b G + o1)), (2, .int x6), (3, .int x2), (4, .int x7), (5, .int x8)] [] (hS G s9) z 0 0 (yQi G z Q)) (fun x6 x7 x8 s9 H => ?_)) (fun H => ?_)
      · show xEx G mX1_divide 16 [(0, .ref (q_b G + g)), (1, .ref (q_b G + o1)), (2, .int x6), (3, .int x2), (4, .int x7), (5, .int x8)] [] (hS G s9) z 0 0 (yQi G z Q)
        refine s_iload (nx := 18) hO rfl rfl rfl ?_
        refine s_bipush (x := (nI 9)) (nx := 20) hO rfl (by decide) rfl ?_
        refine s_icmp_ge (nx := 23) hO rfl rfl (fun c20 => ?_) (fun c20 => ?_)
        · replace H := H.1 c20
          refine s_aload_n (nx := 94) hO rfl rfl rfl ?_
          refine s_getf (v := .ref (q_b G + (g + 3))) (nx := 97) hO rfl rfl (hs_o1 hg) rfl rfl ?_
          refine s_iload_n (nx := 98) hO rfl rfl rfl ?_
          refine s_iconst (x := 1) (nx := 99) hO rfl (by decide) rfl ?_
          refine s_iadd (nx := 100) hO rfl rfl ?_
          refine s_aload_n (nx := 101) hO rfl rfl rfl ?_
          refine s_getf (v := .ref (q_b G + (g + 3))) (nx := 104) hO rfl rfl (hs_o1 hg) rfl rfl ?_
          refine s_iload_n (nx := 105) hO rfl rfl rfl ?_
          obtain ⟨b10, H⟩ := H
          refine s_iald (nx := 106) hO rfl (hs_I (kf1_2 hg)) b10 rfl ?_
          refine s_iload (nx := 108) hO rfl rfl rfl ?_
          refine s_iadd (nx := 109) hO rfl rfl ?_
          obtain ⟨b11, H⟩ := H
          refine goV (wI s9 (g + 3) (ix (x2 + 1)) ((sI s9 (g + 3) (ix x2)) + x7)) (fun s12 es12 => ?_)
          replace H := H s12 es12
          refine s_iast (nx := 110) hO rfl (hs_I (kf1_2 hg)) b11 rfl ?_
          refine xEx.at (up_I (kf1_2 hg) es12) ?_
          refine goV ((x2 + 1)) (fun x13 ex13 => ?_)
          replace H := H x13 ex13
          refine e_iinc (nx := 113) (l' := [(3, .int x13), (0, .ref (q_b G + g)), (1, .ref (q_b G + o1)), (2, .int x6), (4, .int x7), (5, .int x8)]) ex13 hO rfl (by decide) rfl rfl rfl rfl ?_
          refine s_goto hO rfl ?_
          exact xEx.loc (x_sub1 (List.Mem.tail _ (List.Mem.head _)) (x_sub1 (List.Mem.tail _ (List.Mem.tail _ (List.Mem.head _))) (x_sub1 (List.Mem.tail _ (List.Mem.tail _ (List.Mem.tail _ (List.Mem.head _)))) (x_sub1 (List.Mem.head _) x_sub0)))) H
        · replace H := H.2 c20
          refine s_iload_n (nx := 24) hO rfl rfl rfl ?_
          refine s_istore (nx := 26) (l' := [(6, .int x6), (0, .ref (q_b G + g)), (1, .ref (q_b G + o1)), (2, .int x6), (3, .int x2), (4, .int x7), (5, .int x8)]) hO rfl (by decide) rfl rfl ?_
          refine s_aload_n (nx := 27) hO rfl rfl rfl ?_
          refine s_getf (v := .ref (q_b G + (g + 2))) (nx := 30) hO rfl rfl (hs_o1 hg) rfl rfl ?_
          refine s_iload_n (nx := 31) hO rfl rfl rfl ?_
          refine s_bipush (x := (nI 9)) (nx := 33) hO rfl (by decide) rfl ?_
          refine s_imul (nx := 34) hO rfl rfl ?_
          refine s_iload (nx := 36) hO rfl rfl rfl ?_
          refine s_iadd (nx := 37) hO rfl rfl ?_
          refine s_iload (nx := 39) hO rfl rfl rfl ?_
          obtain ⟨b14, H⟩ := H
          refine goV (wI s9 (g + 2) (ix ((x2 * (nI 9)) + x8)) x6) (fun s15 es15 => ?_)
          replace H := H s15 es15
          refine s_iast (nx := 40) hO rfl (hs_I (kf1_1 hg)) b14 rfl ?_
          refine xEx.at (up_I (kf1_1 hg) es15) ?_
          refine s_aload_n (nx := 41) hO rfl rfl rfl ?_
          refine s_aload_n (nx := 42) hO rfl rfl rfl ?_
          refine s_iload_n (nx := 43) hO rfl rfl rfl ?_
          refine s_iload (nx := 45) hO rfl rfl rfl ?_
          refine s_iload (nx := 47) hO rfl rfl rfl ?_
          refine s_callV [.ref (q_b G + o1), .int x2, .int x8, .int x6] (ci := 1) (F := TX1) (N := 3) (nx := 50) hO rfl kX1_divide_24 (by rw [hcl]; rfl) (hs_o1 hg) (w_X1_divideRow hG hg ho1 H) rfl rfl (Nat.le_of_ble_eq_true rfl) (Nat.zero_le _) (Nat.zero_le _) rfl (k_Qi (fun r16 s17 H => ?_))
          refine s_istore_n (nx := 51) (l' := [(2, .int r16), (6, .int x6), (0, .ref (q_b G + g)), (1, .ref (q_b G + o1)), (3, .int x2), (4, .int x7), (5, .int x8)]) hO rfl (by decide) rfl rfl ?_
          refine s_iload_n (nx := 52) hO rfl rfl rfl ?_
          refine s_iconst (x := (-1)) (nx := 53) hO rfl (by decide) rfl ?_
          refine s_icmp_eq (nx := 56) hO rfl rfl (fun c53 => ?_) (fun c53 => ?_)
          · replace H := H.1 c53
            refine s_iconst (x := 0) (nx := 77) hO rfl (by decide) rfl ?_
            exact s_iret hO rfl rfl rfl ⟨rfl, _, _, rfl, rfl, H⟩
          · replace H := H.2 c53
            refine s_iload (nx := 58) hO rfl rfl rfl ?_
            refine s_iload_n (nx := 59) hO rfl rfl rfl ?_
            refine s_iload (nx := 61) hO rfl rfl rfl ?_
            refine s_isub (nx := 62) hO rfl rfl ?_
            refine s_imul (nx := 63) hO rfl rfl ?_
            refine s_sipush (x := (nI 512)) (nx := 66) hO rfl (by decide) rfl ?_
            refine s_aload_n (nx := 67) hO rfl rfl rfl ?_
            refine s_getf (v := .ref (q_b G + (g + 3))) (nx := 70) hO rfl rfl (hs_o1 hg) rfl rfl ?_
            refine s_iload_n (nx := 71) hO rfl rfl rfl ?_
            obtain ⟨b18, H⟩ := H
            refine s_iald (nx := 72) hO rfl (hs_I (kf1_2 hg)) b18 rfl ?_
            refine s_isub (nx := 73) hO rfl rfl ?_
            refine s_icmp_le (nx := 76) hO rfl rfl (fun c73 => ?_) (fun c73 => ?_)
            · replace H := H.1 c73
              refine s_iload (nx := 80) hO rfl rfl rfl ?_
              refine s_iload_n (nx := 81) hO rfl rfl rfl ?_
              refine s_iload (nx := 83) hO rfl rfl rfl ?_
              refine s_isub (nx := 84) hO rfl rfl ?_
              refine s_imul (nx := 85) hO rfl rfl ?_
              refine goV ((x7 * (r16 - x6))) (fun x19 ex19 => ?_)
              replace H := H x19 ex19
              refine e_istore (nx := 87) (l' := [(4, .int x19), (2, .int r16), (6, .int x6), (0, .ref (q_b G + g)), (1, .ref (q_b G + o1)), (3, .int x2), (5, .int x8)]) ex19 hO rfl (by decide) rfl rfl ?_
              refine goV ((x8 + 1)) (fun x20 ex20 => ?_)
              replace H := H x20 ex20
              refine e_iinc (nx := 90) (l' := [(5, .int x20), (4, .int x19), (2, .int r16), (6, .int x6), (0, .ref (q_b G + g)), (1, .ref (q_b G + o1)), (3, .int x2)]) ex20 hO rfl (by decide) rfl rfl rfl rfl ?_
              refine s_goto hO rfl ?_
              exact xEx.loc (x_sub1 (List.Mem.tail _ (List.Mem.tail _ (List.Mem.tail _ (List.Mem.tail _ (List.Mem.head _))))) (x_sub1 (List.Mem.tail _ (List.Mem.tail _ (List.Mem.tail _ (List.Mem.tail _ (List.Mem.tail _ (List.Mem.head _)))))) (x_sub1 (List.Mem.tail _ (List.Mem.tail _ (List.Mem.head _))) (x_sub1 (List.Mem.tail _ (List.Mem.tail _ (List.Mem.tail _ (List.Mem.tail _ (List.Mem.tail _ (List.Mem.tail _ (List.Mem.head _))))))) (x_sub1 (List.Mem.tail _ (List.Mem.head _)) (x_sub1 (List.Mem.head _) x_sub0)))))) H
            · replace H := H.2 c73
              refine s_iconst (x := 0) (nx := 77) hO rfl (by decide) rfl ?_
              exact s_iret hO rfl rfl rfl ⟨rfl, _, _, rfl, rfl, H⟩
      refine s_istore (nx := 16) (l' := [(5, .int 0), (4, .int 1), (0, .ref (q_b G + g)), (1, .ref (q_b G + o1)), (2, .int x1), (3, .int x2)]) hO rfl (by decide) rfl rfl ?_
      exact xEx.loc (x_sub1 (List.Mem.tail _ (List.Mem.tail _ (List.Mem.head _))) (x_sub1 (List.Mem.tail _ (List.Mem.tail _ (List.Mem.tail _ (List.Mem.head _)))) (x_sub1 (List.Mem.tail _ (List.Mem.tail _ (List.Mem.tail _ (List.Mem.tail _ (List.Mem.head _))))) (x_sub1 (List.Mem.tail _ (List.Mem.tail _ (List.Mem.tail _ (List.Mem.tail _ (List.Mem.tail _ (List.Mem.head _)))))) (x_sub1 (List.Mem.tail _ (List.Mem.head _)) (x_sub1 (List.Mem.head _) x_sub0)))))) H
  refine s_istore_n (nx := 4) (l' := [(3, .int 0), (2, .int 0), (0, .ref (q_b G + g)), (1, .ref (q_b G + o1))]) hO rfl (by decide) rfl rfl ?_
  exact xEx.loc (x_sub1 (List.Mem.tail _ (List.Mem.tail _ (List.Mem.head _))) (x_sub1 (List.Mem.tail _ (List.Mem.tail _ (List.Mem.tail _ (List.Mem.head _)))) (x_sub1 (List.Mem.tail _ (List.Mem.head _)) (x_sub1 (List.Mem.head _) x_sub0)))) H
def W_X1_interval (s : yS) (g : Nat) (v1 : Int32) (v2 : Int32) (v3 : Int32) (Q : Int32 → Prop) : Prop :=
 ∀ P8 : Int32 → Int32 → Prop, (∀ (x1 : Int32) (x2 : Int32), (((x2 ≤ x1 → Q x1)
  ∧ (¬ x2 ≤ x1 → ∀ x3 : Int32, x3 = (((x1 + x2) + 1) / (nI 2)) → 
   vp_in (v1 + x3) 1168 ∧ 
   ((v3 < (sI s (g + 1) (ix (v1 + x3))) → ∀ x5 : Int32, x5 = (x3 - 1) → 
    P8 x1 x5)
   ∧ (¬ v3 < (sI s (g + 1) (ix (v1 + x3))) → P8 x3 x2))))) → P8 x1 x2) → 
 ∀ x6 : Int32, x6 = (v2 - 1) → 
 P8 0 x6
set_option maxRecDepth 100000 in
set_option maxHeartbeats 40000000 in
theorem w_X1_interval {G : xG} (hG : yG G) {z : Nat} {s : yS} {g : Nat} {v1 : Int32} {v2 : Int32} {v3 : Int32} {Q : Int32 → Prop} (hg : kd g = some (5, 0)) (H : W_X1_interval s g v1 v2 v3 Q) : xC G mX1_interval [.ref (q_b G + g), .int v1, .int v2, .int v3] (hS G s) z 0 0 (yPi G z s Q) := by
  have hW := hG.1
  have hcl := hG.2.1
  have hty := hG.2.2.1
  have hO : xO G mX1_interval tbX1_interval ptX1_interval := ⟨tkX1_interval, pkX1_interval hcl⟩
  unfold W_X1_interval at H
  refine xC.of hW (by decide) rfl (Nat.le_of_ble_eq_true rfl) ?_
  refine s_iconst (x := 0) (nx := 1) hO rfl (by decide) rfl ?_
  refine s_istore (nx := 3) (l' := [(4, .int 0), (0, .ref (q_b G + g)), (1, .int v1), (2, .int v2), (3, .int v3)]) hO rfl (by decide) rfl rfl ?_
  refine s_iload_n (nx := 4) hO rfl rfl rfl ?_
  refine s_iconst (x := 1) (nx := 5) hO rfl (by decide) rfl ?_
  refine s_isub (nx := 6) hO rfl rfl ?_
  refine goK (H (fun (x1 : Int32) (x2 : Int32) => xEx G mX1_interval 8 [(0, .ref (q_b G + g)), (1, .int v1), (3, .int v3), (4, .int x1), (5, .int x2)] [] (hS G s) z 0 0 (yPi G z s Q)) (fun x1 x2 H => ?_)) (fun H => ?_)
  · show xEx G mX1_interval 8 [(0, .ref (q_b G + g)), (1, .int v1), (3, .int v3), (4, .int x1), (5, .int x2)] [] (hS G s) z 0 0 (yPi G z s Q)
    refine s_iload (nx := 10) hO rfl rfl rfl ?_
    refine s_iload (nx := 12) hO rfl rfl rfl ?_
    refine s_icmp_ge (nx := 15) hO rfl rfl (fun c12 => ?_) (fun c12 => ?_)
    · replace H := H.1 c12
      refine s_iload (nx := 57) hO rfl rfl rfl ?_
      exact s_iret hO rfl rfl rfl ⟨rfl, _, rfl, rfl, H⟩
    · replace H := H.2 c12
      refine s_iload (nx := 17) hO rfl rfl rfl ?_
      refine s_iload (nx := 19) hO rfl rfl rfl ?_
      refine s_iadd (nx := 20) hO rfl rfl ?_
      refine s_iconst (x := 1) (nx := 21) hO rfl (by decide) rfl ?_
      refine s_iadd (nx := 22) hO rfl rfl ?_
      refine s_iconst (x := (nI 2)) (nx := 23) hO rfl (by decide) rfl ?_
      refine s_idiv (nx := 24) hO rfl (by decide) rfl ?_
      refine goV ((((x1 + x2) + 1) / (nI 2))) (fun x3 ex3 => ?_)
      replace H := H x3 ex3
      refine e_istore (nx := 26) (l' := [(6, .int x3), (0, .ref (q_b G + g)), (1, .int v1), (3, .int v3), (4, .int x1), (5, .int x2)]) ex3 hO rfl (by decide) rfl rfl ?_
      refine s_aload_n (nx := 27) hO rfl rfl rfl ?_
      refine s_getf (v := .ref (q_b G + (g + 1))) (nx := 30) hO rfl rfl (hs_o1 hg) rfl rfl ?_
      refine s_iload_n (nx := 31) hO rfl rfl rfl ?_
      refine s_iload (nx := 33) hO rfl rfl rfl ?_
      refine s_iadd (nx := 34) hO rfl rfl ?_
      obtain ⟨b4, H⟩ := H
      refine s_iald (nx := 35) hO rfl (hs_I (kf1_0 hg)) b4 rfl ?_
      refine s_iload_n (nx := 36) hO rfl rfl rfl ?_
      refine s_icmp_gt (nx := 39) hO rfl rfl (fun c36 => ?_) (fun c36 => ?_)
      · replace H := H.1 c36
        refine s_iload (nx := 48) hO rfl rfl rfl ?_
        refine s_iconst (x := 1) (nx := 49) hO rfl (by decide) rfl ?_
        refine s_isub (nx := 50) hO rfl rfl ?_
        refine goV ((x3 - 1)) (fun x5 ex5 => ?_)
        replace H := H x5 ex5
        refine e_istore (nx := 52) (l' := [(5, .int x5), (6, .int x3), (0, .ref (q_b G + g)), (1, .int v1), (3, .int v3), (4, .int x1)]) ex5 hO rfl (by decide) rfl rfl ?_
        refine s_goto hO rfl ?_
        exact xEx.loc (x_sub1 (List.Mem.tail _ (List.Mem.tail _ (List.Mem.head _))) (x_sub1 (List.Mem.tail _ (List.Mem.tail _ (List.Mem.tail _ (List.Mem.head _)))) (x_sub1 (List.Mem.tail _ (List.Mem.tail _ (List.Mem.tail _ (List.Mem.tail _ (List.Mem.head _))))) (x_sub1 (List.Mem.tail _ (List.Mem.tail _ (List.Mem.tail _ (List.Mem.tail _ (List.Mem.tail _ (List.Mem.head _)))))) (x_sub1 (List.Mem.head _) x_sub0))))) H
      · replace H := H.2 c36
        refine s_iload (nx := 41) hO rfl rfl rfl ?_
        refine s_istore (nx := 43) (l' := [(4, .int x3), (6, .int x3), (0, .ref (q_b G + g)), (1, .int v1), (3, .int v3), (5, .int x2)]) hO rfl (by decide) rfl rfl ?_
        refine s_goto hO rfl ?_
        refine s_goto hO rfl ?_
        exact xEx.loc (x_sub1 (List.Mem.tail _ (List.Mem.tail _ (List.Mem.head _))) (x_sub1 (List.Mem.tail _ (List.Mem.tail _ (List.Mem.tail _ (List.Mem.head _)))) (x_sub1 (List.Mem.tail _ (List.Mem.tail _ (List.Mem.tail _ (List.Mem.tail _ (List.Mem.head _))))) (x_sub1 (List.Mem.head _) (x_sub1 (List.Mem.tail _ (List.Mem.tail _ (List.Mem.tail _ (List.Mem.tail _ (List.Mem.tail _ (List.Mem.head _)))))) x_sub0))))) H
  refine goV ((v2 - 1)) (fun x6 ex6 => ?_)
  replace H := H x6 ex6
  refine e_istore (nx := 8) (l' := [(5, .int x6), (4, .int 0), (0, .ref (q_b G + g)), (1, .int v1), (2, .int v2), (3, .int v3)]) ex6 hO rfl (by decide) rfl rfl ?_
  exact xEx.loc (x_sub1 (List.Mem.tail _ (List.Mem.tail _ (List.Mem.head _))) (x_sub1 (List.Mem.tail _ (List.Mem.tail _ (List.Mem.tail _ (List.Mem.head _)))) (x_sub1 (List.Mem.tail _ (List.Mem.tail _ (List.Mem.tail _ (List.Mem.tail _ (List.Mem.tail _ (List.Mem.head _)))))) (x_sub1 (List.Mem.tail _ (List.Mem.head _)) (x_sub1 (List.Mem.head _) x_sub0))))) H
def W_X1_find (s : yS) (g : Nat) (v1 : Int32) (a2 n2 : Nat) (Q : Int32 → Prop) : Prop :=
 ∀ P5 : Int32 → Int32 → Prop, (∀ (x1 : Int32) (x2 : Int32), ((((nI 9) ≤ x2 → vp_in v1 17 ∧ 
   Q ((sI s (g + 3) (ix v1)) + x1))
  ∧ (¬ (nI 9) ≤ x2 → vp_in ((v1 * (nI 9)) + x2) 145 ∧ 
   ∀ x5 : Int32, x5 = (sI s (g + 2) (ix ((v1 * (nI 9)) + x2))) → 
   vp_in (((v1 * (nI 9)) + x2) + 1) 145 ∧ 
   ∀ x7 : Int32, x7 = ((sI s (g + 2) (ix (((v1 * (nI 9)) + x2) + 1))) - x5) → 
   ∀ P71 : Int32 → Prop, (∀ (y8 : Int32), (∀ x9 : Int32, x9 = ((x1 * x7) + y8) → 
    ∀ x10 : Int32, x10 = (x2 + 1) → 
    P5 x9 x10) → P71 y8) → 
   ((¬ x7 = 1 → vp_in x2 n2 ∧ 
    W_X1_interval s g x5 x7 (sI s a2 (ix x2)) 
    (fun r12 => P71 r12))
   ∧ (x7 = 1 → P71 0))))) → P5 x1 x2) → 
 P5 0 0
set_option maxRecDepth 100000 in
set_option maxHeartbeats 40000000 in
theorem w_X1_find {G : xG} (hG : yG G) {z : Nat} {s : yS} {g : Nat} {v1 : Int32} {a2 n2 : Nat} {Q : Int32 → Prop} (hg : kd g = some (5, 0)) (ha2 : kd a2 = some (0, n2)) (H : W_X1_find s g v1 a2 n2 Q) : xC G mX1_find [.ref (q_b G + g), .int v1, .ref (q_b G + a2)] (hS G s) z 0 0 (yPi G z s Q) := by
  have hW := hG.1
  have hcl := hG.2.1
  have hty := hG.2.2.1
  have hO : xO G mX1_find tbX1_find ptX1_find := ⟨tkX1_find, pkX1_find hcl⟩
  unfold W_X1_find at H
  refine xC.of hW (by decide) rfl (Nat.le_of_ble_eq_true rfl) ?_
  refine s_iconst (x := 0) (nx := 1) hO rfl (by decide) rfl ?_
  refine s_istore_n (nx := 2) (l' := [(3, .int 0), (0, .ref (q_b G + g)), (1, .int v1), (2, .ref (q_b G + a2))]) hO rfl (by decide) rfl rfl ?_
  refine s_iconst (x := 0) (nx := 3) hO rfl (by decide) rfl ?_
  refine goK (H (fun (x1 : Int32) (x2 : Int32) => xEx G mX1_find 5 [(0, .ref (q_b G + g)), (1, .int v1), (2, .ref (q_b G + a2)), (3, .int x1), (4, .int x2)] [] (hS G s) z 0 0 (yPi G z s Q)) (fun x1 x2 H => ?_)) (fun H => ?_)
  · show xEx G mX1_find 5 [(0, .ref (q_b G + g)), (1, .int v1), (2, .ref (q_b G + a2)), (3, .int x1), (4, .int x2)] [] (hS G s) z 0 0 (yPi G z s Q)
    refine s_iload (nx := 7) hO rfl rfl rfl ?_
    refine s_bipush (x := (nI 9)) (nx := 9) hO rfl (by decide) rfl ?_
    refine s_icmp_ge (nx := 12) hO rfl rfl (fun c9 => ?_) (fun c9 => ?_)
    · replace H := H.1 c9
      refine s_aload_n (nx := 80) hO rfl rfl rfl ?_
      refine s_getf (v := .ref (q_b G + (g + 3))) (nx := 83) hO rfl rfl (hs_o1 hg) rfl rfl ?_
      refine s_iload_n (nx := 84) hO rfl rfl rfl ?_
      obtain ⟨b3, H⟩ := H
      refine s_iald (nx := 85) hO rfl (hs_I (kf1_2 hg)) b3 rfl ?_
      refine s_iload_n (nx := 86) hO rfl rfl rfl ?_
      refine s_iadd (nx := 87) hO rfl rfl ?_
      exact s_iret hO rfl rfl rfl ⟨rfl, _, rfl, rfl, H⟩
    · replace H := H.2 c9
      refine s_aload_n (nx := 13) hO rfl rfl rfl ?_
      refine s_getf (v := .ref (q_b G + (g + 2))) (nx := 16) hO rfl rfl (hs_o1 hg) rfl rfl ?_
      refine s_iload_n (nx := 17) hO rfl rfl rfl ?_
      refine s_bipush (x := (nI 9)) (nx := 19) hO rfl (by decide) rfl ?_
      refine s_imul (nx := 20) hO rfl rfl ?_
      refine s_iload (nx := 22) hO rfl rfl rfl ?_
      refine s_iadd (nx := 23) hO rfl rfl ?_
      obtain ⟨b4, H⟩ := H
      refine s_iald (nx := 24) hO rfl (hs_I (kf1_1 hg)) b4 rfl ?_
      refine goV ((sI s (g + 2) (ix ((v1 * (nI 9)) + x2)))) (fun x5 ex5 => ?_)
      replace H := H x5 ex5
      refine e_istore (nx := 26) (l' := [(5, .int x5), (0, .ref (q_b G + g)), (1, .int v1), (2, .ref (q_b G + a2)), (3, .int x1), (4, .int x2)]) ex5 hO rfl (by decide) rfl rfl ?_
      refine s_aload_n (nx := 27) hO rfl rfl rfl ?_
      refine s_getf (v := .ref (q_b G + (g + 2))) (nx := 30) hO rfl rfl (hs_o1 hg) rfl rfl ?_
      refine s_iload_n (nx := 31) hO rfl rfl rfl ?_
      refine s_bipush (x := (nI 9)) (nx := 33) hO rfl (by decide) rfl ?_
      refine s_imul (nx := 34) hO rfl rfl ?_
      refine s_iload (nx := 36) hO rfl rfl rfl ?_
      refine s_iadd (nx := 37) hO rfl rfl ?_
      refine s_iconst (x := 1) (nx := 38) hO rfl (by decide) rfl ?_
      refine s_iadd (nx := 39) hO rfl rfl ?_
      obtain ⟨b6, H⟩ := H
      refine s_iald (nx := 40) hO rfl (hs_I (kf1_1 hg)) b6 rfl ?_
      refine s_iload (nx := 42) hO rfl rfl rfl ?_
      refine s_isub (nx := 43) hO rfl rfl ?_
      refine goV (((sI s (g + 2) (ix (((v1 * (nI 9)) + x2) + 1))) - x5)) (fun x7 ex7 => ?_)
      replace H := H x7 ex7
      refine e_istore (nx := 45) (l' := [(6, .int x7), (5, .int x5), (0, .ref (q_b G + g)), (1, .int v1), (2, .ref (q_b G + a2)), (3, .int x1), (4, .int x2)]) ex7 hO rfl (by decide) rfl rfl ?_
      refine s_iload_n (nx := 46) hO rfl rfl rfl ?_
      refine s_iload (nx := 48) hO rfl rfl rfl ?_
      refine s_imul (nx := 49) hO rfl rfl ?_
      refine s_iload (nx := 51) hO rfl rfl rfl ?_
      refine s_iconst (x := 1) (nx := 52) hO rfl (by decide) rfl ?_
      refine goK (H (fun (y8 : Int32) => xEx G mX1_find 71 [(0, .ref (q_b G + g)), (1, .int v1), (2, .ref (q_b G + a2)), (4, .int x2)] [.int y8, .int (x1 * x7)] (hS G s) z 0 0 (yPi G z s Q)) (fun y8 H => ?_)) (fun H => ?_)
      · show xEx G mX1_find 71 [(0, .ref (q_b G + g)), (1, .int v1), (2, .ref (q_b G + a2)), (4, .int x2)] [.int y8, .int (x1 * x7)] (hS G s) z 0 0 (yPi G z s Q)
        refine s_iadd (nx := 72) hO rfl rfl ?_
        refine goV (((x1 * x7) + y8)) (fun x9 ex9 => ?_)
        replace H := H x9 ex9
        refine e_istore_n (nx := 73) (l' := [(3, .int x9), (0, .ref (q_b G + g)), (1, .int v1), (2, .ref (q_b G + a2)), (4, .int x2)]) ex9 hO rfl (by decide) rfl rfl ?_
        refine goV ((x2 + 1)) (fun x10 ex10 => ?_)
        replace H := H x10 ex10
        refine e_iinc (nx := 76) (l' := [(4, .int x10), (3, .int x9), (0, .ref (q_b G + g)), (1, .int v1), (2, .ref (q_b G + a2))]) ex10 hO rfl (by decide) rfl rfl rfl rfl ?_
        refine s_goto hO rfl ?_
        exact xEx.loc (x_sub1 (List.Mem.tail _ (List.Mem.tail _ (List.Mem.head _))) (x_sub1 (List.Mem.tail _ (List.Mem.tail _ (List.Mem.tail _ (List.Mem.head _)))) (x_sub1 (List.Mem.tail _ (List.Mem.tail _ (List.Mem.tail _ (List.Mem.tail _ (List.Mem.head _))))) (x_sub1 (List.Mem.tail _ (List.Mem.head _)) (x_sub1 (List.Mem.head _) x_sub0))))) H
      refine s_icmp_ne (nx := 55) hO rfl rfl (fun c52 => ?_) (fun c52 => ?_)
      · replace H := H.1 c52
        refine s_aload_n (nx := 60) hO rfl rfl rfl ?_
        refine s_iload (nx := 62) hO rfl rfl rfl ?_
        refine s_iload (nx := 64) hO rfl rfl rfl ?_
        refine s_aload_n (nx := 65) hO rfl rfl rfl ?_
        refine s_iload (nx := 67) hO rfl rfl rfl ?_
        obtain ⟨b11, H⟩ := H
        refine s_iald (nx := 68) hO rfl (hs_I ha2) b11 rfl ?_
        refine s_callV [.int x5, .int x7, .int (sI s a2 (ix x2))] (ci := 1) (F := TX1) (N := 3) (nx := 71) hO rfl kX1_find_71 (by rw [hcl]; rfl) (hs_o1 hg) (w_X1_interval hG hg H) rfl rfl (Nat.le_of_ble_eq_true rfl) (Nat.zero_le _) (Nat.zero_le _) rfl (k_Pi (fun r12 H => ?_))
        exact xEx.loc (x_sub1 (List.Mem.tail _ (List.Mem.tail _ (List.Mem.head _))) (x_sub1 (List.Mem.tail _ (List.Mem.tail _ (List.Mem.tail _ (List.Mem.head _)))) (x_sub1 (List.Mem.tail _ (List.Mem.tail _ (List.Mem.tail _ (List.Mem.tail _ (List.Mem.head _))))) (x_sub1 (List.Mem.tail _ (List.Mem.tail _ (List.Mem.tail _ (List.Mem.tail _ (List.Mem.tail _ (List.Mem.tail _ (List.Mem.head _))))))) x_sub0)))) H
      · replace H := H.2 c52
        refine s_iconst (x := 0) (nx := 56) hO rfl (by decide) rfl ?_
        refine s_goto hO rfl ?_
        exact xEx.loc (x_sub1 (List.Mem.tail _ (List.Mem.tail _ (List.Mem.head _))) (x_sub1 (List.Mem.tail _ (List.Mem.tail _ (List.Mem.tail _ (List.Mem.head _)))) (x_sub1 (List.Mem.tail _ (List.Mem.tail _ (List.Mem.tail _ (List.Mem.tail _ (List.Mem.head _))))) (x_sub1 (List.Mem.tail _ (List.Mem.tail _ (List.Mem.tail _ (List.Mem.tail _ (List.Mem.tail _ (List.Mem.tail _ (List.Mem.head _))))))) x_sub0)))) H
  refine s_istore (nx := 5) (l' := [(4, .int 0), (3, .int 0), (0, .ref (q_b G + g)), (1, .int v1), (2, .ref (q_b G + a2))]) hO rfl (by decide) rfl rfl ?_
  exact xEx.loc (x_sub1 (List.Mem.tail _ (List.Mem.tail _ (List.Mem.head _))) (x_sub1 (List.Mem.tail _ (List.Mem.tail _ (List.Mem.tail _ (List.Mem.head _)))) (x_sub1 (List.Mem.tail _ (List.Mem.tail _ (List.Mem.tail _ (List.Mem.tail _ (List.Mem.head _))))) (x_sub1 (List.Mem.tail _ (List.Mem.head _)) (x_sub1 (List.Mem.head _) x_sub0))))) H
def W_X1_callAt (s : yS) (g : Nat) (v1 : Int32) (Q : Int32 → Prop) : Prop :=
 ∀ P2 : Int32 → Prop, (∀ (x1 : Int32), ((((nI 15) ≤ x1 → Q x1)
  ∧ (¬ (nI 15) ≤ x1 → vp_in (x1 + 1) 17 ∧ 
   ((v1 < (sI s (g + 3) (ix (x1 + 1))) → Q x1)
   ∧ (¬ v1 < (sI s (g + 3) (ix (x1 + 1))) → ∀ x3 : Int32, x3 = (x1 + 1) → 
    P2 x3))))) → P2 x1) → 
 P2 0
set_option maxRecDepth 100000 in
set_option maxHeartbeats 40000000 in
theorem w_X1_callAt {G : xG} (hG : yG G) {z : Nat} {s : yS} {g : Nat} {v1 : Int32} {Q : Int32 → Prop} (hg : kd g = some (5, 0)) (H : W_X1_callAt s g v1 Q) : xC G mX1_callAt [.ref (q_b G + g), .int v1] (hS G s) z 0 0 (yPi G z s Q) := by
  have hW := hG.1
  have hcl := hG.2.1
  have hty := hG.2.2.1
  have hO : xO G mX1_callAt tbX1_callAt ptX1_callAt := ⟨tkX1_callAt, pkX1_callAt hcl⟩
  unfold W_X1_callAt at H
  refine xC.of hW (by decide) rfl (Nat.le_of_ble_eq_true rfl) ?_
  refine s_iconst (x := 0) (nx := 1) hO rfl (by decide) rfl ?_
  refine goK (H (fun (x1 : Int32) => xEx G mX1_callAt 2 [(0, .ref (q_b G + g)), (1, .int v1), (2, .int x1)] [] (hS G s) z 0 0 (yPi G z s Q)) (fun x1 H => ?_)) (fun H => ?_)
  · show xEx G mX1_callAt 2 [(0, .ref (q_b G + g)), (1, .int v1), (2, .int x1)] [] (hS G s) z 0 0 (yPi G z s Q)
    refine s_iload_n (nx := 3) hO rfl rfl rfl ?_
    refine s_bipush (x := (nI 15)) (nx := 5) hO rfl (by decide) rfl ?_
    refine s_icmp_ge (nx := 8) hO rfl rfl (fun c5 => ?_) (fun c5 => ?_)
    · replace H := H.1 c5
      refine s_iload_n (nx := 27) hO rfl rfl rfl ?_
      exact s_iret hO rfl rfl rfl ⟨rfl, _, rfl, rfl, H⟩
    · replace H := H.2 c5
      refine s_aload_n (nx := 9) hO rfl rfl rfl ?_
      refine s_getf (v := .ref (q_b G + (g + 3))) (nx := 12) hO rfl rfl (hs_o1 hg) rfl rfl ?_
      refine s_iload_n (nx := 13) hO rfl rfl rfl ?_
      refine s_iconst (x := 1) (nx := 14) hO rfl (by decide) rfl ?_
      refine s_iadd (nx := 15) hO rfl rfl ?_
      obtain ⟨b2, H⟩ := H
      refine s_iald (nx := 16) hO rfl (hs_I (kf1_2 hg)) b2 rfl ?_
      refine s_iload_n (nx := 17) hO rfl rfl rfl ?_
      refine s_icmp_gt (nx := 20) hO rfl rfl (fun c17 => ?_) (fun c17 => ?_)
      · replace H := H.1 c17
        refine s_iload_n (nx := 27) hO rfl rfl rfl ?_
        exact s_iret hO rfl rfl rfl ⟨rfl, _, rfl, rfl, H⟩
      · replace H := H.2 c17
        refine goV ((x1 + 1)) (fun x3 ex3 => ?_)
        replace H := H x3 ex3
        refine e_iinc (nx := 23) (l' := [(2, .int x3), (0, .ref (q_b G + g)), (1, .int v1)]) ex3 hO rfl (by decide) rfl rfl rfl rfl ?_
        refine s_goto hO rfl ?_
        exact xEx.loc (x_sub1 (List.Mem.tail _ (List.Mem.head _)) (x_sub1 (List.Mem.tail _ (List.Mem.tail _ (List.Mem.head _))) (x_sub1 (List.Mem.head _) x_sub0))) H
  refine s_istore_n (nx := 2) (l' := [(2, .int 0), (0, .ref (q_b G + g)), (1, .int v1)]) hO rfl (by decide) rfl rfl ?_
  exact xEx.loc (x_sub1 (List.Mem.tail _ (List.Mem.head _)) (x_sub1 (List.Mem.tail _ (List.Mem.tail _ (List.Mem.head _))) (x_sub1 (List.Mem.head _) x_sub0))) H
def W_X1_rowSize (s : yS) (g : Nat) (v1 : Int32) (v2 : Int32) (Q : Int32 → Prop) : Prop :=
 ∀ x1 : Int32, x1 = ((v1 * (nI 9)) + v2) → 
 vp_in (x1 + 1) 145 ∧ 
 vp_in x1 145 ∧ 
 Q (if 1 < ((sI s (g + 2) (ix (x1 + 1))) - (sI s (g + 2) (ix x1))) then ((sI s (g + 2) (ix (x1 + 1))) - (sI s (g + 2) (ix x1))) else 1)
set_option maxRecDepth 100000 in
set_option maxHeartbeats 40000000 in
theorem w_X1_rowSize {G : xG} (hG : yG G) {z : Nat} {s : yS} {g : Nat} {v1 : Int32} {v2 : Int32} {Q : Int32 → Prop} (hg : kd g = some (5, 0)) (H : W_X1_rowSize s g v1 v2 Q) : xC G mX1_rowSize [.ref (q_b G + g), .int v1, .int v2] (hS G s) z 0 0 (yPi G z s Q) := by
  have hW := hG.1
  have hcl := hG.2.1
  have hty := hG.2.2.1
  have hO : xO G mX1_rowSize tbX1_rowSize ptX1_rowSize := ⟨tkX1_rowSize, pkX1_rowSize hcl⟩
  unfold W_X1_rowSize at H
  refine xC.of hW (by decide) rfl (Nat.le_of_ble_eq_true rfl) ?_
  refine s_iload_n (nx := 1) hO rfl rfl rfl ?_
  refine s_bipush (x := (nI 9)) (nx := 3) hO rfl (by decide) rfl ?_
  refine s_imul (nx := 4) hO rfl rfl ?_
  refine s_iload_n (nx := 5) hO rfl rfl rfl ?_
  refine s_iadd (nx := 6) hO rfl rfl ?_
  refine goV (((v1 * (nI 9)) + v2)) (fun x1 ex1 => ?_)
  replace H := H x1 ex1
  refine e_istore_n (nx := 7) (l' := [(3, .int x1), (0, .ref (q_b G + g)), (1, .int v1), (2, .int v2)]) ex1 hO rfl (by decide) rfl rfl ?_
  refine s_iconst (x := 1) (nx := 8) hO rfl (by decide) rfl ?_
  refine s_aload_n (nx := 9) hO rfl rfl rfl ?_
  refine s_getf (v := .ref (q_b G + (g + 2))) (nx := 12) hO rfl rfl (hs_o1 hg) rfl rfl ?_
  refine s_iload_n (nx := 13) hO rfl rfl rfl ?_
  refine s_iconst (x := 1) (nx := 14) hO rfl (by decide) rfl ?_
  refine s_iadd (nx := 15) hO rfl rfl ?_
  obtain ⟨b2, H⟩ := H
  refine s_iald (nx := 16) hO rfl (hs_I (kf1_1 hg)) b2 rfl ?_
  refine s_aload_n (nx := 17) hO rfl rfl rfl ?_
  refine s_getf (v := .ref (q_b G + (g + 2))) (nx := 20) hO rfl rfl (hs_o1 hg) rfl rfl ?_
  refine s_iload_n (nx := 21) hO rfl rfl rfl ?_
  obtain ⟨b3, H⟩ := H
  refine s_iald (nx := 22) hO rfl (hs_I (kf1_1 hg)) b3 rfl ?_
  refine s_isub (nx := 23) hO rfl rfl ?_
  refine s_max (nx := 26) hO rfl (List.mem_cons_of_mem _ (ir33 _ (List.mem_of_getElem? (i := 12) rfl))) (List.mem_cons_of_mem _ (ir25 _ (List.mem_of_getElem? (i := 8) rfl))) (List.mem_cons_of_mem _ (ir25 _ (List.mem_of_getElem? (i := 9) rfl))) (List.mem_cons_of_mem _ (ir25 _ (List.mem_of_getElem? (i := 10) rfl))) (by decide) (Nat.le_of_ble_eq_true rfl) rfl ?_
  exact s_iret hO rfl rfl rfl ⟨rfl, _, rfl, rfl, H⟩
def W_X1_leastAt (s : yS) (g : Nat) (v1 : Int32) (v2 : Int32) (Q : Int32 → Prop) : Prop :=
 W_X1_callAt s g v1 
 (fun r1 => vp_in r1 17 ∧ 
 ∀ x3 : Int32, x3 = (v1 - (sI s (g + 3) (ix r1))) → 
 ∀ P20 : Int32 → Int32 → Prop, (∀ (x4 : Int32) (x5 : Int32), (((x5 ≤ v2 → vp_in ((r1 * (nI 9)) + v2) 145 ∧ 
   W_X1_rowSize s g r1 v2 
   (fun r7 => (¬ r7 = 0) ∧ 
   vp_in ((sI s (g + 2) (ix ((r1 * (nI 9)) + v2))) + (x4 - x4 / r7 * r7)) 1168 ∧ 
   Q (sI s (g + 1) (ix ((sI s (g + 2) (ix ((r1 * (nI 9)) + v2))) + (x4 - x4 / r7 * r7))))))
  ∧ (¬ x5 ≤ v2 → W_X1_rowSize s g r1 x5 
   (fun r10 => (¬ r10 = 0) ∧ 
   ∀ x12 : Int32, x12 = (x4 / r10) → 
   ∀ x13 : Int32, x13 = (x5 + (-1)) → 
   P20 x12 x13)))) → P20 x4 x5) → 
 P20 x3 (nI 8))
set_option maxRecDepth 100000 in
set_option maxHeartbeats 40000000 in
theorem w_X1_leastAt {G : xG} (hG : yG G) {z : Nat} {s : yS} {g : Nat} {v1 : Int32} {v2 : Int32} {Q : Int32 → Prop} (hg : kd g = some (5, 0)) (H : W_X1_leastAt s g v1 v2 Q) : xC G mX1_leastAt [.ref (q_b G + g), .int v1, .int v2] (hS G s) z 0 0 (yPi G z s Q) := by
  have hW := hG.1
  have hcl := hG.2.1
  have hty := hG.2.2.1
  have hO : xO G mX1_leastAt tbX1_leastAt ptX1_leastAt := ⟨tkX1_leastAt, pkX1_leastAt hcl⟩
  unfold W_X1_leastAt at H
  refine xC.of hW (by decide) rfl (Nat.le_of_ble_eq_true rfl) ?_
  refine s_aload_n (nx := 1) hO rfl rfl rfl ?_
  refine s_iload_n (nx := 2) hO rfl rfl rfl ?_
  refine s_callV [.int v1] (ci := 1) (F := TX1) (N := 3) (nx := 5) hO rfl kX1_leastAt_75 (by rw [hcl]; rfl) (hs_o1 hg) (w_X1_callAt hG hg H) rfl rfl (Nat.le_of_ble_eq_true rfl) (Nat.zero_le _) (Nat.zero_le _) rfl (k_Pi (fun r1 H => ?_))
  refine s_istore_n (nx := 6) (l' := [(3, .int r1), (0, .ref (q_b G + g)), (1, .int v1), (2, .int v2)]) hO rfl (by decide) rfl rfl ?_
  refine s_iload_n (nx := 7) hO rfl rfl rfl ?_
  refine s_aload_n (nx := 8) hO rfl rfl rfl ?_
  refine s_getf (v := .ref (q_b G + (g + 3))) (nx := 11) hO rfl rfl (hs_o1 hg) rfl rfl ?_
  refine s_iload_n (nx := 12) hO rfl rfl rfl ?_
  obtain ⟨b2, H⟩ := H
  refine s_iald (nx := 13) hO rfl (hs_I (kf1_2 hg)) b2 rfl ?_
  refine s_isub (nx := 14) hO rfl rfl ?_
  refine goV ((v1 - (sI s (g + 3) (ix r1)))) (fun x3 ex3 => ?_)
  replace H := H x3 ex3
  refine e_istore (nx := 16) (l' := [(4, .int x3), (3, .int r1), (0, .ref (q_b G + g)), (1, .int v1), (2, .int v2)]) ex3 hO rfl (by decide) rfl rfl ?_
  refine s_bipush (x := (nI 8)) (nx := 18) hO rfl (by decide) rfl ?_
  refine goK (H (fun (x4 : Int32) (x5 : Int32) => xEx G mX1_leastAt 20 [(0, .ref (q_b G + g)), (2, .int v2), (3, .int r1), (4, .int x4), (5, .int x5)] [] (hS G s) z 0 0 (yPi G z s Q)) (fun x4 x5 H => ?_)) (fun H => ?_)
  · show xEx G mX1_leastAt 20 [(0, .ref (q_b G + g)), (2, .int v2), (3, .int r1), (4, .int x4), (5, .int x5)] [] (hS G s) z 0 0 (yPi G z s Q)
    refine s_iload (nx := 22) hO rfl rfl rfl ?_
    refine s_iload_n (nx := 23) hO rfl rfl rfl ?_
    refine s_icmp_le (nx := 26) hO rfl rfl (fun c23 => ?_) (fun c23 => ?_)
    · replace H := H.1 c23
      refine s_aload_n (nx := 45) hO rfl rfl rfl ?_
      refine s_getf (v := .ref (q_b G + (g + 1))) (nx := 48) hO rfl rfl (hs_o1 hg) rfl rfl ?_
      refine s_aload_n (nx := 49) hO rfl rfl rfl ?_
      refine s_getf (v := .ref (q_b G + (g + 2))) (nx := 52) hO rfl rfl (hs_o1 hg) rfl rfl ?_
      refine s_iload_n (nx := 53) hO rfl rfl rfl ?_
      refine s_bipush (x := (nI 9)) (nx := 55) hO rfl (by decide) rfl ?_
      refine s_imul (nx := 56) hO rfl rfl ?_
      refine s_iload_n (nx := 57) hO rfl rfl rfl ?_
      refine s_iadd (nx := 58) hO rfl rfl ?_
      obtain ⟨b6, H⟩ := H
      refine s_iald (nx := 59) hO rfl (hs_I (kf1_1 hg)) b6 rfl ?_
      refine s_iload (nx := 61) hO rfl rfl rfl ?_
      refine s_aload_n (nx := 62) hO rfl rfl rfl ?_
      refine s_iload_n (nx := 63) hO rfl rfl rfl ?_
      refine s_iload_n (nx := 64) hO rfl rfl rfl ?_
      refine s_callV [.int r1, .int v2] (ci := 1) (F := TX1) (N := 3) (nx := 67) hO rfl kX1_leastAt_79 (by rw [hcl]; rfl) (hs_o1 hg) (w_X1_rowSize hG hg H) rfl rfl (Nat.le_of_ble_eq_true rfl) (Nat.zero_le _) (Nat.zero_le _) rfl (k_Pi (fun r7 H => ?_))
      obtain ⟨b8, H⟩ := H
      refine s_irem (nx := 68) hO rfl b8 rfl ?_
      refine s_iadd (nx := 69) hO rfl rfl ?_
      obtain ⟨b9, H⟩ := H
      refine s_iald (nx := 70) hO rfl (hs_I (kf1_0 hg)) b9 rfl ?_
      exact s_iret hO rfl rfl rfl ⟨rfl, _, rfl, rfl, H⟩
    · replace H := H.2 c23
      refine s_iload (nx := 28) hO rfl rfl rfl ?_
      refine s_aload_n (nx := 29) hO rfl rfl rfl ?_
      refine s_iload_n (nx := 30) hO rfl rfl rfl ?_
      refine s_iload (nx := 32) hO rfl rfl rfl ?_
      refine s_callV [.int r1, .int x5] (ci := 1) (F := TX1) (N := 3) (nx := 35) hO rfl kX1_leastAt_79 (by rw [hcl]; rfl) (hs_o1 hg) (w_X1_rowSize hG hg H) rfl rfl (Nat.le_of_ble_eq_true rfl) (Nat.zero_le _) (Nat.zero_le _) rfl (k_Pi (fun r10 H => ?_))
      obtain ⟨b11, H⟩ := H
      refine s_idiv (nx := 36) hO rfl b11 rfl ?_
      refine goV ((x4 / r10)) (fun x12 ex12 => ?_)
      replace H := H x12 ex12
      refine e_istore (nx := 38) (l' := [(4, .int x12), (0, .ref (q_b G + g)), (2, .int v2), (3, .int r1), (5, .int x5)]) ex12 hO rfl (by decide) rfl rfl ?_
      refine goV ((x5 + (-1))) (fun x13 ex13 => ?_)
      replace H := H x13 ex13
      refine e_iinc (nx := 41) (l' := [(5, .int x13), (4, .int x12), (0, .ref (q_b G + g)), (2, .int v2), (3, .int r1)]) ex13 hO rfl (by decide) rfl rfl rfl rfl ?_
      refine s_goto hO rfl ?_
      exact xEx.loc (x_sub1 (List.Mem.tail _ (List.Mem.tail _ (List.Mem.head _))) (x_sub1 (List.Mem.tail _ (List.Mem.tail _ (List.Mem.tail _ (List.Mem.head _)))) (x_sub1 (List.Mem.tail _ (List.Mem.tail _ (List.Mem.tail _ (List.Mem.tail _ (List.Mem.head _))))) (x_sub1 (List.Mem.tail _ (List.Mem.head _)) (x_sub1 (List.Mem.head _) x_sub0))))) H
  refine s_istore (nx := 20) (l' := [(5, .int (nI 8)), (4, .int x3), (3, .int r1), (0, .ref (q_b G + g)), (1, .int v1), (2, .int v2)]) hO rfl (by decide) rfl rfl ?_
  exact xEx.loc (x_sub1 (List.Mem.tail _ (List.Mem.tail _ (List.Mem.tail _ (List.Mem.head _)))) (x_sub1 (List.Mem.tail _ (List.Mem.tail _ (List.Mem.tail _ (List.Mem.tail _ (List.Mem.tail _ (List.Mem.head _)))))) (x_sub1 (List.Mem.tail _ (List.Mem.tail _ (List.Mem.head _))) (x_sub1 (List.Mem.tail _ (List.Mem.head _)) (x_sub1 (List.Mem.head _) x_sub0))))) H
def W_X2_forget (s : yS) (Q : yS → Prop) : Prop :=
 vp_in 0 8 ∧ ∀ s2 : yS, s2 = wI s 124 (ix 0) (-1) → 
 Q s2
set_option maxRecDepth 100000 in
set_option maxHeartbeats 40000000 in
theorem w_X2_forget {G : xG} (hG : yG G) {z : Nat} {s : yS} {Q : yS → Prop} (H : W_X2_forget s Q) : xC G mX2_forget [.ref (q_b G + 123)] (hS G s) z 0 0 (yQv G z Q) := by
  have hW := hG.1
  have hcl := hG.2.1
  have hty := hG.2.2.1
  have hO : xO G mX2_forget tbX2_forget ptX2_forget := ⟨tkX2_forget, pkX2_forget hcl⟩
  unfold W_X2_forget at H
  refine xC.of hW (by decide) rfl (Nat.le_of_ble_eq_true rfl) ?_
  refine s_aload_n (nx := 1) hO rfl rfl rfl ?_
  refine s_getf (v := .ref (q_b G + 124)) (nx := 4) hO rfl rfl (hs_o2 kc123) rfl rfl ?_
  refine s_iconst (x := 0) (nx := 5) hO rfl (by decide) rfl ?_
  refine s_iconst (x := (-1)) (nx := 6) hO rfl (by decide) rfl ?_
  obtain ⟨b1, H⟩ := H
  refine goV (wI s 124 (ix 0) (-1)) (fun s2 es2 => ?_)
  replace H := H s2 es2
  refine s_iast (nx := 7) hO rfl (hs_I kc124) b1 rfl ?_
  refine xEx.at (up_I kc124 es2) ?_
  exact s_vret hO rfl rfl ⟨rfl, _, rfl, rfl, H⟩
def W_X2_hasRun (s : yS) (Q : Int32 → Prop) : Prop :=
 vp_in 0 8 ∧ 
 (((sI s 124 (ix 0)) = (-1) → Q 0)
 ∧ (¬ (sI s 124 (ix 0)) = (-1) → Q 1))
set_option maxRecDepth 100000 in
set_option maxHeartbeats 40000000 in
theorem w_X2_hasRun {G : xG} (hG : yG G) {z : Nat} {s : yS} {Q : Int32 → Prop} (H : W_X2_hasRun s Q) : xC G mX2_hasRun [.ref (q_b G + 123)] (hS G s) z 0 0 (yPi G z s Q) := by
  have hW := hG.1
  have hcl := hG.2.1
  have hty := hG.2.2.1
  have hO : xO G mX2_hasRun tbX2_hasRun ptX2_hasRun := ⟨tkX2_hasRun, pkX2_hasRun hcl⟩
  unfold W_X2_hasRun at H
  refine xC.of hW (by decide) rfl (Nat.le_of_ble_eq_true rfl) ?_
  refine s_aload_n (nx := 1) hO rfl rfl rfl ?_
  refine s_getf (v := .ref (q_b G + 124)) (nx := 4) hO rfl rfl (hs_o2 kc123) rfl rfl ?_
  refine s_iconst (x := 0) (nx := 5) hO rfl (by decide) rfl ?_
  obtain ⟨b1, H⟩ := H
  refine s_iald (nx := 6) hO rfl (hs_I kc124) b1 rfl ?_
  refine s_iconst (x := (-1)) (nx := 7) hO rfl (by decide) rfl ?_
  refine s_icmp_eq (nx := 10) hO rfl rfl (fun c7 => ?_) (fun c7 => ?_)
  · replace H := H.1 c7
    refine s_iconst (x := 0) (nx := 15) hO rfl (by decide) rfl ?_
    exact s_iret hO rfl rfl rfl ⟨rfl, _, rfl, rfl, H⟩
  · replace H := H.2 c7
    refine s_iconst (x := 1) (nx := 11) hO rfl (by decide) rfl ?_
    refine s_goto hO rfl ?_
    exact s_iret hO rfl rfl rfl ⟨rfl, _, rfl, rfl, H⟩
def W_X2_takeAnswer (s : yS) (v1 : Int32) (Q : Int32 → yS → Prop) : Prop :=
 ((¬ (sI s 123 2) = (nI 256) → vp_in (sI s 123 2) 256 ∧ ∀ s2 : yS, s2 = wI s 128 (ix (sI s 123 2)) v1 → 
  ∀ s3 : yS, s3 = wI s2 123 2 ((sI s2 123 2) + 1) → 
  Q (sI s3 123 2) s3)
 ∧ ((sI s 123 2) = (nI 256) → Q (-1) s))
set_option maxRecDepth 100000 in
set_option maxHeartbeats 40000000 in
theorem w_X2_takeAnswer {G : xG} (hG : yG G) {z : Nat} {s : yS} {v1 : Int32} {Q : Int32 → yS → Prop} (H : W_X2_takeAnswer s v1 Q) : xC G mX2_takeAnswer [.ref (q_b G + 123), .int v1] (hS G s) z 0 0 (yQi G z Q) := by
  have hW := hG.1
  have hcl := hG.2.1
  have hty := hG.2.2.1
  have hO : xO G mX2_takeAnswer tbX2_takeAnswer ptX2_takeAnswer := ⟨tkX2_takeAnswer, pkX2_takeAnswer hcl⟩
  unfold W_X2_takeAnswer at H
  refine xC.of hW (by decide) rfl (Nat.le_of_ble_eq_true rfl) ?_
  refine s_aload_n (nx := 1) hO rfl rfl rfl ?_
  refine s_getf (v := .int (sI s 123 2)) (nx := 4) hO rfl rfl (hs_o2 kc123) rfl rfl ?_
  refine s_sipush (x := (nI 256)) (nx := 7) hO rfl (by decide) rfl ?_
  refine s_icmp_ne (nx := 10) hO rfl rfl (fun c7 => ?_) (fun c7 => ?_)
  · replace H := H.1 c7
    refine s_aload_n (nx := 13) hO rfl rfl rfl ?_
    refine s_getf (v := .ref (q_b G + 128)) (nx := 16) hO rfl rfl (hs_o2 kc123) rfl rfl ?_
    refine s_aload_n (nx := 17) hO rfl rfl rfl ?_
    refine s_getf (v := .int (sI s 123 2)) (nx := 20) hO rfl rfl (hs_o2 kc123) rfl rfl ?_
    refine s_iload_n (nx := 21) hO rfl rfl rfl ?_
    obtain ⟨b1, H⟩ := H
    refine goV (wI s 128 (ix (sI s 123 2)) v1) (fun s2 es2 => ?_)
    replace H := H s2 es2
    refine s_iast (nx := 22) hO rfl (hs_I kc128) b1 rfl ?_
    refine xEx.at (up_I kc128 es2) ?_
    refine s_aload_n (nx := 23) hO rfl rfl rfl ?_
    refine s_dup (nx := 24) hO rfl rfl rfl ?_
    refine s_getf (v := .int (sI s2 123 2)) (nx := 27) hO rfl rfl (hs_o2 kc123) rfl rfl ?_
    refine s_iconst (x := 1) (nx := 28) hO rfl (by decide) rfl ?_
    refine s_iadd (nx := 29) hO rfl rfl ?_
    refine goV (wI s2 123 2 ((sI s2 123 2) + 1)) (fun s3 es3 => ?_)
    replace H := H s3 es3
    refine s_putf (nx := 32) hO rfl rfl (hs_o2 kc123) (Nat.le_of_ble_eq_true rfl) (by rw [hty]; rfl) (by rw [hty]; rfl) pX2_2 rfl ?_
    refine xEx.at (up_oI2 kc123 es3) ?_
    refine s_aload_n (nx := 33) hO rfl rfl rfl ?_
    refine s_getf (v := .int (sI s3 123 2)) (nx := 36) hO rfl rfl (hs_o2 kc123) rfl rfl ?_
    exact s_iret hO rfl rfl rfl ⟨rfl, _, _, rfl, rfl, H⟩
  · replace H := H.2 c7
    refine s_iconst (x := (-1)) (nx := 11) hO rfl (by decide) rfl ?_
    exact s_iret hO rfl rfl rfl ⟨rfl, _, _, rfl, rfl, H⟩
def W_X2_traced (s : yS) (v1 : Int32) (v2 : Int32) (Q : Int32 → Prop) : Prop :=
 ∀ P26 : Int32 → Prop, (∀ (y1 : Int32), (((y1 = 0 → Q 0)
  ∧ (¬ y1 = 0 → ((v2 < 0 → Q 0)
   ∧ (¬ v2 < 0 → (((nI 5) ≤ v2 → Q 0)
    ∧ (¬ (nI 5) ≤ v2 → vp_in ((v1 * (nI 5)) + v2) 1280 ∧ 
     Q (sI s 129 (ix ((v1 * (nI 5)) + v2)))))))))) → P26 y1) → 
 ((v1 < 0 → P26 0)
 ∧ (¬ v1 < 0 → (((nI 256) ≤ v1 → P26 0)
  ∧ (¬ (nI 256) ≤ v1 → vp_in (nI 3) 8 ∧ 
   (((sI s 124 (ix (nI 3))) ≤ v1 → P26 0)
   ∧ (¬ (sI s 124 (ix (nI 3))) ≤ v1 → P26 1))))))
set_option maxRecDepth 100000 in
set_option maxHeartbeats 40000000 in
theorem w_X2_traced {G : xG} (hG : yG G) {z : Nat} {s : yS} {v1 : Int32} {v2 : Int32} {Q : Int32 → Prop} (H : W_X2_traced s v1 v2 Q) : xC G mX2_traced [.ref (q_b G + 123), .int v1, .int v2] (hS G s) z 0 0 (yPi G z s Q) := by
  have hW := hG.1
  have hcl := hG.2.1
  have hty := hG.2.2.1
  have hO : xO G mX2_traced tbX2_traced ptX2_traced := ⟨tkX2_traced, pkX2_traced hcl⟩
  unfold W_X2_traced at H
  refine xC.of hW (by decide) rfl (Nat.le_of_ble_eq_true rfl) ?_
  refine s_iload_n (nx := 1) hO rfl rfl rfl ?_
  refine goK (H (fun (y1 : Int32) => xEx G mX2_traced 26 [(0, .ref (q_b G + 123)), (1, .int v1), (2, .int v2)] [.int y1] (hS G s) z 0 0 (yPi G z s Q)) (fun y1 H => ?_)) (fun H => ?_)
  · show xEx G mX2_traced 26 [(0, .ref (q_b G + 123)), (1, .int v1), (2, .int v2)] [.int y1] (hS G s) z 0 0 (yPi G z s Q)
    refine s_istore_n (nx := 27) (l' := [(3, .int y1), (0, .ref (q_b G + 123)), (1, .int v1), (2, .int v2)]) hO rfl (by decide) rfl rfl ?_
    refine s_iload_n (nx := 28) hO rfl rfl rfl ?_
    refine s_if_eq (nx := 31) hO rfl rfl (fun c28 => ?_) (fun c28 => ?_)
    · replace H := H.1 c28
      refine s_iconst (x := 0) (nx := 54) hO rfl (by decide) rfl ?_
      exact s_iret hO rfl rfl rfl ⟨rfl, _, rfl, rfl, H⟩
    · replace H := H.2 c28
      refine s_iload_n (nx := 32) hO rfl rfl rfl ?_
      refine s_if_lt (nx := 35) hO rfl rfl (fun c32 => ?_) (fun c32 => ?_)
      · replace H := H.1 c32
        refine s_iconst (x := 0) (nx := 54) hO rfl (by decide) rfl ?_
        exact s_iret hO rfl rfl rfl ⟨rfl, _, rfl, rfl, H⟩
      · replace H := H.2 c32
        refine s_iload_n (nx := 36) hO rfl rfl rfl ?_
        refine s_iconst (x := (nI 5)) (nx := 37) hO rfl (by decide) rfl ?_
        refine s_icmp_ge (nx := 40) hO rfl rfl (fun c37 => ?_) (fun c37 => ?_)
        · replace H := H.1 c37
          refine s_iconst (x := 0) (nx := 54) hO rfl (by decide) rfl ?_
          exact s_iret hO rfl rfl rfl ⟨rfl, _, rfl, rfl, H⟩
        · replace H := H.2 c37
          refine s_aload_n (nx := 41) hO rfl rfl rfl ?_
          refine s_getf (v := .ref (q_b G + 129)) (nx := 44) hO rfl rfl (hs_o2 kc123) rfl rfl ?_
          refine s_iload_n (nx := 45) hO rfl rfl rfl ?_
          refine s_iconst (x := (nI 5)) (nx := 46) hO rfl (by decide) rfl ?_
          refine s_imul (nx := 47) hO rfl rfl ?_
          refine s_iload_n (nx := 48) hO rfl rfl rfl ?_
          refine s_iadd (nx := 49) hO rfl rfl ?_
          obtain ⟨b2, H⟩ := H
          refine s_iald (nx := 50) hO rfl (hs_I kc129) b2 rfl ?_
          refine s_goto hO rfl ?_
          exact s_iret hO rfl rfl rfl ⟨rfl, _, rfl, rfl, H⟩
  refine s_if_lt (nx := 4) hO rfl rfl (fun c1 => ?_) (fun c1 => ?_)
  · replace H := H.1 c1
    refine s_iconst (x := 0) (nx := 26) hO rfl (by decide) rfl ?_
    exact xEx.loc (x_sub1 (List.Mem.head _) (x_sub1 (List.Mem.tail _ (List.Mem.head _)) (x_sub1 (List.Mem.tail _ (List.Mem.tail _ (List.Mem.head _))) x_sub0))) H
  · replace H := H.2 c1
    refine s_iload_n (nx := 5) hO rfl rfl rfl ?_
    refine s_sipush (x := (nI 256)) (nx := 8) hO rfl (by decide) rfl ?_
    refine s_icmp_ge (nx := 11) hO rfl rfl (fun c8 => ?_) (fun c8 => ?_)
    · replace H := H.1 c8
      refine s_iconst (x := 0) (nx := 26) hO rfl (by decide) rfl ?_
      exact xEx.loc (x_sub1 (List.Mem.head _) (x_sub1 (List.Mem.tail _ (List.Mem.head _)) (x_sub1 (List.Mem.tail _ (List.Mem.tail _ (List.Mem.head _))) x_sub0))) H
    · replace H := H.2 c8
      refine s_iload_n (nx := 12) hO rfl rfl rfl ?_
      refine s_aload_n (nx := 13) hO rfl rfl rfl ?_
      refine s_getf (v := .ref (q_b G + 124)) (nx := 16) hO rfl rfl (hs_o2 kc123) rfl rfl ?_
      refine s_iconst (x := (nI 3)) (nx := 17) hO rfl (by decide) rfl ?_
      obtain ⟨b3, H⟩ := H
      refine s_iald (nx := 18) hO rfl (hs_I kc124) b3 rfl ?_
      refine s_icmp_ge (nx := 21) hO rfl rfl (fun c18 => ?_) (fun c18 => ?_)
      · replace H := H.1 c18
        refine s_iconst (x := 0) (nx := 26) hO rfl (by decide) rfl ?_
        exact xEx.loc (x_sub1 (List.Mem.head _) (x_sub1 (List.Mem.tail _ (List.Mem.head _)) (x_sub1 (List.Mem.tail _ (List.Mem.tail _ (List.Mem.head _))) x_sub0))) H
      · replace H := H.2 c18
        refine s_iconst (x := 1) (nx := 22) hO rfl (by decide) rfl ?_
        refine s_goto hO rfl ?_
        exact xEx.loc (x_sub1 (List.Mem.head _) (x_sub1 (List.Mem.tail _ (List.Mem.head _)) (x_sub1 (List.Mem.tail _ (List.Mem.tail _ (List.Mem.head _))) x_sub0))) H
def W_J7_fill_53178 (s : yS) (a1 n1 : Nat) (v2 : Int32) (Q : yS → Prop) : Prop :=
 ∀ P5 : Int32 → Int32 → yS → Prop, (∀ (x1 : Int32) (x2 : Int32) (s3 : yS), (((x2 ≤ x1 → Q s3)
  ∧ (¬ x2 ≤ x1 → vp_in x1 n1 ∧ ∀ s5 : yS, s5 = wI s3 a1 (ix x1) v2 → 
   ∀ x6 : Int32, x6 = (x1 + 1) → 
   P5 x6 x2 s5))) → P5 x1 x2 s3) → 
 ∀ x7 : Int32, x7 = (nI n1) → 
 P5 0 x7 s
set_option maxRecDepth 100000 in
set_option maxHeartbeats 40000000 in
theorem w_J7_fill_53178 {G : xG} (hG : yG G) {z : Nat} {s : yS} {a1 n1 : Nat} {v2 : Int32} {Q : yS → Prop} (ha1 : kd a1 = some (0, n1)) (H : W_J7_fill_53178 s a1 n1 v2 Q) : xC G mJ7_fill_53178 [.ref (q_b G + a1), .int v2] (hS G s) z 0 0 (yQv G z Q) := by
  have hW := hG.1
  have hcl := hG.2.1
  have hty := hG.2.2.1
  have hO : xO G mJ7_fill_53178 tbJ7_fill_53178 ptJ7_fill_53178 := ⟨tkJ7_fill_53178, pkJ7_fill_53178 hcl⟩
  unfold W_J7_fill_53178 at H
  refine xC.of hW (by decide) rfl (Nat.le_of_ble_eq_true rfl) ?_
  refine s_iconst (x := 0) (nx := 1) hO rfl (by decide) rfl ?_
  refine s_istore_n (nx := 2) (l' := [(2, .int 0), (0, .ref (q_b G + a1)), (1, .int v2)]) hO rfl (by decide) rfl rfl ?_
  refine s_aload_n (nx := 3) hO rfl rfl rfl ?_
  refine s_alen (nx := 4) hO rfl (hs_I ha1) (by simp) rfl ?_
  refine goK (H (fun (x1 : Int32) (x2 : Int32) (s3 : yS) => xEx G mJ7_fill_53178 5 [(0, .ref (q_b G + a1)), (1, .int v2), (2, .int x1), (3, .int x2)] [] (hS G s3) z 0 0 (yQv G z Q)) (fun x1 x2 s3 H => ?_)) (fun H => ?_)
  · show xEx G mJ7_fill_53178 5 [(0, .ref (q_b G + a1)), (1, .int v2), (2, .int x1), (3, .int x2)] [] (hS G s3) z 0 0 (yQv G z Q)
    refine s_iload_n (nx := 6) hO rfl rfl rfl ?_
    refine s_iload_n (nx := 7) hO rfl rfl rfl ?_
    refine s_icmp_ge (nx := 10) hO rfl rfl (fun c7 => ?_) (fun c7 => ?_)
    · replace H := H.1 c7
      exact s_vret hO rfl rfl ⟨rfl, _, rfl, rfl, H⟩
    · replace H := H.2 c7
      refine s_aload_n (nx := 11) hO rfl rfl rfl ?_
      refine s_iload_n (nx := 12) hO rfl rfl rfl ?_
      refine s_iload_n (nx := 13) hO rfl rfl rfl ?_
      obtain ⟨b4, H⟩ := H
      refine goV (wI s3 a1 (ix x1) v2) (fun s5 es5 => ?_)
      replace H := H s5 es5
      refine s_iast (nx := 14) hO rfl (hs_I ha1) b4 rfl ?_
      refine xEx.at (up_I ha1 es5) ?_
      refine goV ((x1 + 1)) (fun x6 ex6 => ?_)
      replace H := H x6 ex6
      refine e_iinc (nx := 17) (l' := [(2, .int x6), (0, .ref (q_b G + a1)), (1, .int v2), (3, .int x2)]) ex6 hO rfl (by decide) rfl rfl rfl rfl ?_
      refine s_goto hO rfl ?_
      exact xEx.loc (x_sub1 (List.Mem.tail _ (List.Mem.head _)) (x_sub1 (List.Mem.tail _ (List.Mem.tail _ (List.Mem.head _))) (x_sub1 (List.Mem.head _) (x_sub1 (List.Mem.tail _ (List.Mem.tail _ (List.Mem.tail _ (List.Mem.head _)))) x_sub0)))) H
  refine goV ((nI n1)) (fun x7 ex7 => ?_)
  replace H := H x7 ex7
  refine e_istore_n (nx := 5) (l' := [(3, .int x7), (2, .int 0), (0, .ref (q_b G + a1)), (1, .int v2)]) ex7 hO rfl (by decide) rfl rfl ?_
  exact xEx.loc (x_sub1 (List.Mem.tail _ (List.Mem.tail _ (List.Mem.head _))) (x_sub1 (List.Mem.tail _ (List.Mem.tail _ (List.Mem.tail _ (List.Mem.head _)))) (x_sub1 (List.Mem.tail _ (List.Mem.head _)) (x_sub1 (List.Mem.head _) x_sub0)))) H
def W_X10_begin (s : yS) (g : Nat) (Q : yS → Prop) : Prop :=
 ∀ s1 : yS, s1 = wI s g 0 0 → 
 W_J7_fill_53178 s1 (g + 1) 6 0 
 (fun s2 => Q s2)
set_option maxRecDepth 100000 in
set_option maxHeartbeats 40000000 in
theorem w_X10_begin {G : xG} (hG : yG G) {z : Nat} {s : yS} {g : Nat} {Q : yS → Prop} (hg : kd g = some (14, 0)) (H : W_X10_begin s g Q) : xC G mX10_begin [.ref (q_b G + g)] (hS G s) z 0 0 (yQv G z Q) := by
  have hW := hG.1
  have hcl := hG.2.1
  have hty := hG.2.2.1
  have hO : xO G mX10_begin tbX10_begin ptX10_begin := ⟨tkX10_begin, pkX10_begin hcl⟩
  unfold W_X10_begin at H
  refine xC.of hW (by decide) rfl (Nat.le_of_ble_eq_true rfl) ?_
  refine s_aload_n (nx := 1) hO rfl rfl rfl ?_
  refine s_iconst (x := 0) (nx := 2) hO rfl (by decide) rfl ?_
  refine goV (wI s g 0 0) (fun s1 es1 => ?_)
  replace H := H s1 es1
  refine s_putf (nx := 5) hO rfl rfl (hs_o10 hg) (Nat.le_of_ble_eq_true rfl) (by rw [hty]; rfl) (by rw [hty]; rfl) pX10_0 rfl ?_
  refine xEx.at (up_oI10 hg es1) ?_
  refine s_aload_n (nx := 6) hO rfl rfl rfl ?_
  refine s_getf (v := .ref (q_b G + (g + 1))) (nx := 9) hO rfl rfl (hs_o10 hg) rfl rfl ?_
  refine s_iconst (x := 0) (nx := 10) hO rfl (by decide) rfl ?_
  refine s_callS [.ref (q_b G + (g + 1)), .int 0] (nx := 13) hO rfl kX10_begin_22 (w_J7_fill_53178 hG (kf10_1 hg) H) rfl rfl (Nat.le_of_ble_eq_true rfl) (Nat.zero_le _) (Nat.zero_le _) rfl (k_Qv (fun s2 H => ?_))
  exact s_vret hO rfl rfl ⟨rfl, _, rfl, rfl, H⟩
def W_X2_enter (s : yS) (v1 : Int32) (Q : yS → Prop) : Prop :=
 ∃ p1 : Nat, sR s 123 11 = p1 + 1 ∧ kd p1 = some (9, 0) ∧ 
 vp_in v1 12 ∧ 
 ∀ x3 : Int32, x3 = (sI s (p1 + 1) (ix v1)) → 
 ∀ P53 : yS → Prop, (∀ (s4 : yS), (∀ s5 : yS, s5 = wI s4 123 14 ((sI s4 123 14) + 1) → 
  vp_in (sI s5 123 14) 40 ∧ ∀ s7 : yS, s7 = wI s5 133 (ix (sI s5 123 14)) v1 → 
  ∀ P75 : Int32 → yS → Prop, (∀ (x8 : Int32) (s9 : yS), ((((nI 12) ≤ x8 → ∀ s10 : yS, s10 = wI s9 123 15 v1 → 
    ∀ s11 : yS, s11 = wI s10 123 16 0 → 
    ∀ s12 : yS, s12 = wI s11 123 17 ((sI s11 123 14) * (nI 16)) → 
    vp_in (nI 7) 8 ∧ 
    vp_in (nI 7) 8 ∧ ∀ s15 : yS, s15 = wI s12 124 (ix (nI 7)) (if (sI s12 124 (ix (nI 7))) < ((sI s12 123 14) + 1) then ((sI s12 123 14) + 1) else (sI s12 124 (ix (nI 7)))) → 
    Q s15)
   ∧ (¬ (nI 12) ≤ x8 → ∀ P114 : Int32 → Prop, (∀ (y16 : Int32), (vp_in (((sI s9 123 14) * (nI 12)) + x8) 480 ∧ ∀ s18 : yS, s18 = wI s9 132 (ix (((sI s9 123 14) * (nI 12)) + x8)) y16 → 
     ∀ x19 : Int32, x19 = (x8 + 1) → 
     P75 x19 s18) → P114 y16) → 
    ((x3 ≤ x8 → P114 0)
    ∧ (¬ x3 ≤ x8 → vp_in ((sI s9 123 17) + x8) 640 ∧ 
     P114 (sI s9 131 (ix ((sI s9 123 17) + x8)))))))) → P75 x8 s9) → 
  P75 0 s7) → P53 s4) → 
 (((sI s 123 14) < 0 → P53 s)
 ∧ (¬ (sI s 123 14) < 0 → ∀ s21 : yS, s21 = wI s 123 17 ((sI s 123 17) - x3) → 
  vp_in (sI s21 123 14) 40 ∧ ∀ s23 : yS, s23 = wI s21 134 (ix (sI s21 123 14)) (sI s21 123 16) → 
  vp_in (sI s23 123 14) 40 ∧ ∀ s25 : yS, s25 = wI s23 135 (ix (sI s23 123 14)) (sI s23 123 17) → 
  P53 s25))
set_option maxRecDepth 100000 in
set_option maxHeartbeats 40000000 in
theorem w_X2_enter {G : xG} (hG : yG G) {z : Nat} {s : yS} {v1 : Int32} {Q : yS → Prop} (H : W_X2_enter s v1 Q) : xC G mX2_enter [.ref (q_b G + 123), .int v1] (hS G s) z 0 0 (yQv G z Q) := by
  have hW := hG.1
  have hcl := hG.2.1
  have hty := hG.2.2.1
  have hO : xO G mX2_enter tbX2_enter ptX2_enter := ⟨tkX2_enter, pkX2_enter hcl⟩
  unfold W_X2_enter at H
  refine xC.of hW (by decide) rfl (Nat.le_of_ble_eq_true rfl) ?_
  refine s_aload_n (nx := 1) hO rfl rfl rfl ?_
  obtain ⟨p1, ep1, kp1, H⟩ := H
  refine s_getf (v := .ref (q_b G + p1)) (nx := 4) hO rfl rfl (hs_o2 kc123) (congrArg some (rv_at ep1)) rfl ?_
  refine s_getf (v := .ref (q_b G + (p1 + 1))) (nx := 7) hO rfl rfl (hs_o5 kp1) rfl rfl ?_
  refine s_iload_n (nx := 8) hO rfl rfl rfl ?_
  obtain ⟨b2, H⟩ := H
  refine s_iald (nx := 9) hO rfl (hs_I (kf5_1 kp1)) b2 rfl ?_
  refine goV ((sI s (p1 + 1) (ix v1))) (fun x3 ex3 => ?_)
  replace H := H x3 ex3
  refine e_istore_n (nx := 10) (l' := [(2, .int x3), (0, .ref (q_b G + 123)), (1, .int v1)]) ex3 hO rfl (by decide) rfl rfl ?_
  refine s_aload_n (nx := 11) hO rfl rfl rfl ?_
  refine s_getf (v := .int (sI s 123 14)) (nx := 14) hO rfl rfl (hs_o2 kc123) rfl rfl ?_
  refine goK (H (fun (s4 : yS) => xEx G mX2_enter 53 [(0, .ref (q_b G + 123)), (1, .int v1), (2, .int x3)] [] (hS G s4) z 0 0 (yQv G z Q)) (fun s4 H => ?_)) (fun H => ?_)
  · show xEx G mX2_enter 53 [(0, .ref (q_b G + 123)), (1, .int v1), (2, .int x3)] [] (hS G s4) z 0 0 (yQv G z Q)
    refine s_aload_n (nx := 54) hO rfl rfl rfl ?_
    refine s_dup (nx := 55) hO rfl rfl rfl ?_
    refine s_getf (v := .int (sI s4 123 14)) (nx := 58) hO rfl rfl (hs_o2 kc123) rfl rfl ?_
    refine s_iconst (x := 1) (nx := 59) hO rfl (by decide) rfl ?_
    refine s_iadd (nx := 60) hO rfl rfl ?_
    refine goV (wI s4 123 14 ((sI s4 123 14) + 1)) (fun s5 es5 => ?_)
    replace H := H s5 es5
    refine s_putf (nx := 63) hO rfl rfl (hs_o2 kc123) (Nat.le_of_ble_eq_true rfl) (by rw [hty]; rfl) (by rw [hty]; rfl) pX2_14 rfl ?_
    refine xEx.at (up_oI2 kc123 es5) ?_
    refine s_aload_n (nx := 64) hO rfl rfl rfl ?_
    refine s_getf (v := .ref (q_b G + 133)) (nx := 67) hO rfl rfl (hs_o2 kc123) rfl rfl ?_
    refine s_aload_n (nx := 68) hO rfl rfl rfl ?_
    refine s_getf (v := .int (sI s5 123 14)) (nx := 71) hO rfl rfl (hs_o2 kc123) rfl rfl ?_
    refine s_iload_n (nx := 72) hO rfl rfl rfl ?_
    obtain ⟨b6, H⟩ := H
    refine goV (wI s5 133 (ix (sI s5 123 14)) v1) (fun s7 es7 => ?_)
    replace H := H s7 es7
    refine s_iast (nx := 73) hO rfl (hs_I kc133) b6 rfl ?_
    refine xEx.at (up_I kc133 es7) ?_
    refine s_iconst (x := 0) (nx := 74) hO rfl (by decide) rfl ?_
    refine goK (H (fun (x8 : Int32) (s9 : yS) => xEx G mX2_enter 75 [(0, .ref (q_b G + 123)), (1, .int v1), (2, .int x3), (3, .int x8)] [] (hS G s9) z 0 0 (yQv G z Q)) (fun x8 s9 H => ?_)) (fun H => ?_)
    · show xEx G mX2_enter 75 [(0, .ref (q_b G + 123)), (1, .int v1), (2, .int x3), (3, .int x8)] [] (hS G s9) z 0 0 (yQv G z Q)
      refine s_iload_n (nx := 76) hO rfl rfl rfl ?_
      refine s_bipush (x := (nI 12)) (nx := 78) hO rfl (by decide) rfl ?_
      refine s_icmp_ge (nx := 81) hO rfl rfl (fun c78 => ?_) (fun c78 => ?_)
      · replace H := H.1 c78
        refine s_aload_n (nx := 122) hO rfl rfl rfl ?_
        refine s_iload_n (nx := 123) hO rfl rfl rfl ?_
        refine goV (wI s9 123 15 v1) (fun s10 es10 => ?_)
        replace H := H s10 es10
        refine s_putf (nx := 126) hO rfl rfl (hs_o2 kc123) (Nat.le_of_ble_eq_true rfl) (by rw [hty]; rfl) (by rw [hty]; rfl) pX2_15 rfl ?_
        refine xEx.at (up_oI2 kc123 es10) ?_
        refine s_aload_n (nx := 127) hO rfl rfl rfl ?_
        refine s_iconst (x := 0) (nx := 128) hO rfl (by decide) rfl ?_
        refine goV (wI s10 123 16 0) (fun s11 es11 => ?_)
        replace H := H s11 es11
        refine s_putf (nx := 131) hO rfl rfl (hs_o2 kc123) (Nat.le_of_ble_eq_true rfl) (by rw [hty]; rfl) (by rw [hty]; rfl) pX2_16 rfl ?_
        refine xEx.at (up_oI2 kc123 es11) ?_
        refine s_aload_n (nx := 132) hO rfl rfl rfl ?_
        refine s_aload_n (nx := 133) hO rfl rfl rfl ?_
        refine s_getf (v := .int (sI s11 123 14)) (nx := 136) hO rfl rfl (hs_o2 kc123) rfl rfl ?_
        refine s_bipush (x := (nI 16)) (nx := 138) hO rfl (by decide) rfl ?_
        refine s_imul (nx := 139) hO rfl rfl ?_
        refine goV (wI s11 123 17 ((sI s11 123 14) * (nI 16))) (fun s12 es12 => ?_)
        replace H := H s12 es12
        refine s_putf (nx := 142) hO rfl rfl (hs_o2 kc123) (Nat.le_of_ble_eq_true rfl) (by rw [hty]; rfl) (by rw [hty]; rfl) pX2_17 rfl ?_
        refine xEx.at (up_oI2 kc123 es12) ?_
        refine s_aload_n (nx := 143) hO rfl rfl rfl ?_
        refine s_getf (v := .ref (q_b G + 124)) (nx := 146) hO rfl rfl (hs_o2 kc123) rfl rfl ?_
        refine s_bipush (x := (nI 7)) (nx := 148) hO rfl (by decide) rfl ?_
        refine s_aload_n (nx := 149) hO rfl rfl rfl ?_
        refine s_getf (v := .ref (q_b G + 124)) (nx := 152) hO rfl rfl (hs_o2 kc123) rfl rfl ?_
        refine s_bipush (x := (nI 7)) (nx := 154) hO rfl (by decide) rfl ?_
        obtain ⟨b13, H⟩ := H
        refine s_iald (nx := 155) hO rfl (hs_I kc124) b13 rfl ?_
        refine s_aload_n (nx := 156) hO rfl rfl rfl ?_
        refine s_getf (v := .int (sI s12 123 14)) (nx := 159) hO rfl rfl (hs_o2 kc123) rfl rfl ?_
        refine s_iconst (x := 1) (nx := 160) hO rfl (by decide) rfl ?_
        refine s_iadd (nx := 161) hO rfl rfl ?_
        refine s_max (nx := 164) hO rfl (List.mem_cons_of_mem _ (ir56 _ (List.mem_of_getElem? (i := 19) rfl))) (List.mem_cons_of_mem _ (ir25 _ (List.mem_of_getElem? (i := 8) rfl))) (List.mem_cons_of_mem _ (ir25 _ (List.mem_of_getElem? (i := 9) rfl))) (List.mem_cons_of_mem _ (ir25 _ (List.mem_of_getElem? (i := 10) rfl))) (by decide) (Nat.le_of_ble_eq_true rfl) rfl ?_
        obtain ⟨b14, H⟩ := H
        refine goV (wI s12 124 (ix (nI 7)) (if (sI s12 124 (ix (nI 7))) < ((sI s12 123 14) + 1) then ((sI s12 123 14) + 1) else (sI s12 124 (ix (nI 7))))) (fun s15 es15 => ?_)
        replace H := H s15 es15
        refine s_iast (nx := 165) hO rfl (hs_I kc124) b14 rfl ?_
        refine xEx.at (up_I kc124 es15) ?_
        exact s_vret hO rfl rfl ⟨rfl, _, rfl, rfl, H⟩
      · replace H := H.2 c78
        refine s_aload_n (nx := 82) hO rfl rfl rfl ?_
        refine s_getf (v := .ref (q_b G + 132)) (nx := 85) hO rfl rfl (hs_o2 kc123) rfl rfl ?_
        refine s_aload_n (nx := 86) hO rfl rfl rfl ?_
        refine s_getf (v := .int (sI s9 123 14)) (nx := 89) hO rfl rfl (hs_o2 kc123) rfl rfl ?_
        refine s_bipush (x := (nI 12)) (nx := 91) hO rfl (by decide) rfl ?_
        refine s_imul (nx := 92) hO rfl rfl ?_
        refine s_iload_n (nx := 93) hO rfl rfl rfl ?_
        refine s_iadd (nx := 94) hO rfl rfl ?_
        refine s_iload_n (nx := 95) hO rfl rfl rfl ?_
        refine s_iload_n (nx := 96) hO rfl rfl rfl ?_
        refine goK (H (fun (y16 : Int32) => xEx G mX2_enter 114 [(0, .ref (q_b G + 123)), (1, .int v1), (2, .int x3), (3, .int x8)] [.int y16, .int (((sI s9 123 14) * (nI 12)) + x8), .ref (q_b G + 132)] (hS G s9) z 0 0 (yQv G z Q)) (fun y16 H => ?_)) (fun H => ?_)
        · show xEx G mX2_enter 114 [(0, .ref (q_b G + 123)), (1, .int v1), (2, .int x3), (3, .int x8)] [.int y16, .int (((sI s9 123 14) * (nI 12)) + x8), .ref (q_b G + 132)] (hS G s9) z 0 0 (yQv G z Q)
          obtain ⟨b17, H⟩ := H
          refine goV (wI s9 132 (ix (((sI s9 123 14) * (nI 12)) + x8)) y16) (fun s18 es18 => ?_)
          replace H := H s18 es18
          refine s_iast (nx := 115) hO rfl (hs_I kc132) b17 rfl ?_
          refine xEx.at (up_I kc132 es18) ?_
          refine goV ((x8 + 1)) (fun x19 ex19 => ?_)
          replace H := H x19 ex19
          refine e_iinc (nx := 118) (l' := [(3, .int x19), (0, .ref (q_b G + 123)), (1, .int v1), (2, .int x3)]) ex19 hO rfl (by decide) rfl rfl rfl rfl ?_
          refine s_goto hO rfl ?_
          exact xEx.loc (x_sub1 (List.Mem.tail _ (List.Mem.head _)) (x_sub1 (List.Mem.tail _ (List.Mem.tail _ (List.Mem.head _))) (x_sub1 (List.Mem.tail _ (List.Mem.tail _ (List.Mem.tail _ (List.Mem.head _)))) (x_sub1 (List.Mem.head _) x_sub0)))) H
        refine s_icmp_ge (nx := 99) hO rfl rfl (fun c96 => ?_) (fun c96 => ?_)
        · replace H := H.1 c96
          refine s_iconst (x := 0) (nx := 114) hO rfl (by decide) rfl ?_
          exact xEx.loc (x_sub1 (List.Mem.head _) (x_sub1 (List.Mem.tail _ (List.Mem.head _)) (x_sub1 (List.Mem.tail _ (List.Mem.tail _ (List.Mem.head _))) (x_sub1 (List.Mem.tail _ (List.Mem.tail _ (List.Mem.tail _ (List.Mem.head _)))) x_sub0)))) H
        · replace H := H.2 c96
          refine s_aload_n (nx := 100) hO rfl rfl rfl ?_
          refine s_getf (v := .ref (q_b G + 131)) (nx := 103) hO rfl rfl (hs_o2 kc123) rfl rfl ?_
          refine s_aload_n (nx := 104) hO rfl rfl rfl ?_
          refine s_getf (v := .int (sI s9 123 17)) (nx := 107) hO rfl rfl (hs_o2 kc123) rfl rfl ?_
          refine s_iload_n (nx := 108) hO rfl rfl rfl ?_
          refine s_iadd (nx := 109) hO rfl rfl ?_
          obtain ⟨b20, H⟩ := H
          refine s_iald (nx := 110) hO rfl (hs_I kc131) b20 rfl ?_
          refine s_goto hO rfl ?_
          exact xEx.loc (x_sub1 (List.Mem.head _) (x_sub1 (List.Mem.tail _ (List.Mem.head _)) (x_sub1 (List.Mem.tail _ (List.Mem.tail _ (List.Mem.head _))) (x_sub1 (List.Mem.tail _ (List.Mem.tail _ (List.Mem.tail _ (List.Mem.head _)))) x_sub0)))) H
    refine s_istore_n (nx := 75) (l' := [(3, .int 0), (0, .ref (q_b G + 123)), (1, .int v1), (2, .int x3)]) hO rfl (by decide) rfl rfl ?_
    exact xEx.loc (x_sub1 (List.Mem.tail _ (List.Mem.head _)) (x_sub1 (List.Mem.tail _ (List.Mem.tail _ (List.Mem.head _))) (x_sub1 (List.Mem.tail _ (List.Mem.tail _ (List.Mem.tail _ (List.Mem.head _)))) (x_sub1 (List.Mem.head _) x_sub0)))) H
  refine s_if_lt (nx := 17) hO rfl rfl (fun c14 => ?_) (fun c14 => ?_)
  · replace H := H.1 c14
    exact xEx.loc (x_sub1 (List.Mem.tail _ (List.Mem.head _)) (x_sub1 (List.Mem.tail _ (List.Mem.tail _ (List.Mem.head _))) (x_sub1 (List.Mem.head _) x_sub0))) H
  · replace H := H.2 c14
    refine s_aload_n (nx := 18) hO rfl rfl rfl ?_
    refine s_dup (nx := 19) hO rfl rfl rfl ?_
    refine s_getf (v := .int (sI s 123 17)) (nx := 22) hO rfl rfl (hs_o2 kc123) rfl rfl ?_
    refine s_iload_n (nx := 23) hO rfl rfl rfl ?_
    refine s_isub (nx := 24) hO rfl rfl ?_
    refine goV (wI s 123 17 ((sI s 123 17) - x3)) (fun s21 es21 => ?_)
    replace H := H s21 es21
    refine s_putf (nx := 27) hO rfl rfl (hs_o2 kc123) (Nat.le_of_ble_eq_true rfl) (by rw [hty]; rfl) (by rw [hty]; rfl) pX2_17 rfl ?_
    refine xEx.at (up_oI2 kc123 es21) ?_
    refine s_aload_n (nx := 28) hO rfl rfl rfl ?_
    refine s_getf (v := .ref (q_b G + 134)) (nx := 31) hO rfl rfl (hs_o2 kc123) rfl rfl ?_
    refine s_aload_n (nx := 32) hO rfl rfl rfl ?_
    refine s_getf (v := .int (sI s21 123 14)) (nx := 35) hO rfl rfl (hs_o2 kc123) rfl rfl ?_
    refine s_aload_n (nx := 36) hO rfl rfl rfl ?_
    refine s_getf (v := .int (sI s21 123 16)) (nx := 39) hO rfl rfl (hs_o2 kc123) rfl rfl ?_
    obtain ⟨b22, H⟩ := H
    refine goV (wI s21 134 (ix (sI s21 123 14)) (sI s21 123 16)) (fun s23 es23 => ?_)
    replace H := H s23 es23
    refine s_iast (nx := 40) hO rfl (hs_I kc134) b22 rfl ?_
    refine xEx.at (up_I kc134 es23) ?_
    refine s_aload_n (nx := 41) hO rfl rfl rfl ?_
    refine s_getf (v := .ref (q_b G + 135)) (nx := 44) hO rfl rfl (hs_o2 kc123) rfl rfl ?_
    refine s_aload_n (nx := 45) hO rfl rfl rfl ?_
    refine s_getf (v := .int (sI s23 123 14)) (nx := 48) hO rfl rfl (hs_o2 kc123) rfl rfl ?_
    refine s_aload_n (nx := 49) hO rfl rfl rfl ?_
    refine s_getf (v := .int (sI s23 123 17)) (nx := 52) hO rfl rfl (hs_o2 kc123) rfl rfl ?_
    obtain ⟨b24, H⟩ := H
    refine goV (wI s23 135 (ix (sI s23 123 14)) (sI s23 123 17)) (fun s25 es25 => ?_)
    replace H := H s25 es25
    refine s_iast (nx := 53) hO rfl (hs_I kc135) b24 rfl ?_
    refine xEx.at (up_I kc135 es25) ?_
    exact xEx.loc (x_sub1 (List.Mem.tail _ (List.Mem.head _)) (x_sub1 (List.Mem.tail _ (List.Mem.tail _ (List.Mem.head _))) (x_sub1 (List.Mem.head _) x_sub0))) H

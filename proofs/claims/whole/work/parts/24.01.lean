def W_X0_copyHandlers (s : yS) (o1 : Nat) (o2 : Nat) (v3 : Int32) (Q : yS → Prop) : Prop :=
 ∀ P6 : Int32 → yS → Prop, (∀ (x1 : Int32) (s2 : yS), (vp_in v3 12 ∧ 
  ((((v3 * (nI 6)) + (sI s2 (o1 + 6) (ix v3))) ≤ x1 → Q s2)
  ∧ (¬ ((v3 * (nI 6)) + (sI s2 (o1 + 6) (ix v3))) ≤ x1 → vp_in x1 72 ∧ 
   vp_in (sI s2 (o1 + 13) (ix x1)) 401 ∧ 
   vp_in x1 72 ∧ ∀ s7 : yS, s7 = wI s2 (o2 + 13) (ix x1) (sI s2 122 (ix (sI s2 (o1 + 13) (ix x1)))) → 
   vp_in x1 72 ∧ 
   vp_in (sI s7 (o1 + 14) (ix x1)) 401 ∧ 
   vp_in x1 72 ∧ ∀ s11 : yS, s11 = wI s7 (o2 + 14) (ix x1) (sI s7 122 (ix (sI s7 (o1 + 14) (ix x1)))) → 
   vp_in x1 72 ∧ 
   vp_in (sI s11 (o1 + 15) (ix x1)) 401 ∧ 
   vp_in x1 72 ∧ ∀ s15 : yS, s15 = wI s11 (o2 + 15) (ix x1) (sI s11 122 (ix (sI s11 (o1 + 15) (ix x1)))) → 
   vp_in x1 72 ∧ 
   vp_in x1 72 ∧ ∀ s18 : yS, s18 = wI s15 (o2 + 16) (ix x1) (vp_nar .boolean (sI s15 (o1 + 16) (ix x1))) → 
   vp_in x1 72 ∧ 
   vp_in x1 72 ∧ ∀ s21 : yS, s21 = wI s18 (o2 + 17) (ix x1) (sI s18 (o1 + 17) (ix x1)) → 
   vp_in x1 72 ∧ 
   vp_in ((v3 * (nI 400)) + (sI s21 (o2 + 15) (ix x1))) 4800 ∧ ∀ s24 : yS, s24 = wI s21 (o2 + 11) (ix ((v3 * (nI 400)) + (sI s21 (o2 + 15) (ix x1)))) (vp_nar .boolean 1) → 
   ∀ x25 : Int32, x25 = (x1 + 1) → 
   P6 x25 s24))) → P6 x1 s2) → 
 ∀ x26 : Int32, x26 = (v3 * (nI 6)) → 
 P6 x26 s
set_option maxRecDepth 100000 in
set_option maxHeartbeats 40000000 in
theorem w_X0_copyHandlers {G : xG} (hG : yG G) {z : Nat} {s : yS} {o1 : Nat} {o2 : Nat} {v3 : Int32} {Q : yS → Prop} (ho1 : kd o1 = some (9, 0)) (ho2 : kd o2 = some (9, 0)) (H : W_X0_copyHandlers s o1 o2 v3 Q) : xC G mX0_copyHandlers [.ref (q_b G + 116), .ref (q_b G + o1), .ref (q_b G + o2), .int v3] (hS G s) z 0 0 (yQv G z Q) := by
  have hW := hG.1
  have hcl := hG.2.1
  have hty := hG.2.2.1
  have hO : xO G mX0_copyHandlers tbX0_copyHandlers ptX0_copyHandlers := ⟨tkX0_copyHandlers, pkX0_copyHandlers hcl⟩
  unfold W_X0_copyHandlers at H
  refine xC.of hW (by decide) rfl (Nat.le_of_ble_eq_true rfl) ?_
  refine s_iload_n (nx := 1) hO rfl rfl rfl ?_
  refine s_bipush (x := (nI 6)) (nx := 3) hO rfl (by decide) rfl ?_
  refine s_imul (nx := 4) hO rfl rfl ?_
  refine goK (H (fun (x1 : Int32) (s2 : yS) => xEx G mX0_copyHandlers 6 [(0, .ref (q_b G + 116)), (1, .ref (q_b G + o1)), (2, .ref (q_b G + o2)), (3, .int v3), (4, .int x1)] [] (hS G s2) z 0 0 (yQv G z Q)) (fun x1 s2 H => ?_)) (fun H => ?_)
  · show xEx G mX0_copyHandlers 6 [(0, .ref (q_b G + 116)), (1, .ref (q_b G + o1)), (2, .ref (q_b G + o2)), (3, .int v3), (4, .int x1)] [] (hS G s2) z 0 0 (yQv G z Q)
    refine s_iload (nx := 8) hO rfl rfl rfl ?_
    refine s_iload_n (nx := 9) hO rfl rfl rfl ?_
    refine s_bipush (x := (nI 6)) (nx := 11) hO rfl (by decide) rfl ?_
    refine s_imul (nx := 12) hO rfl rfl ?_
    refine s_aload_n (nx := 13) hO rfl rfl rfl ?_
    refine s_getf (v := .ref (q_b G + (o1 + 6))) (nx := 16) hO rfl rfl (hs_o5 ho1) rfl rfl ?_
    refine s_iload_n (nx := 17) hO rfl rfl rfl ?_
    obtain ⟨b3, H⟩ := H
    refine s_iald (nx := 18) hO rfl (hs_I (kf5_6 ho1)) b3 rfl ?_
    refine s_iadd (nx := 19) hO rfl rfl ?_
    refine s_icmp_ge (nx := 22) hO rfl rfl (fun c19 => ?_) (fun c19 => ?_)
    · replace H := H.1 c19
      exact s_vret hO rfl rfl ⟨rfl, _, rfl, rfl, H⟩
    · replace H := H.2 c19
      refine s_aload_n (nx := 23) hO rfl rfl rfl ?_
      refine s_getf (v := .ref (q_b G + (o2 + 13))) (nx := 26) hO rfl rfl (hs_o5 ho2) rfl rfl ?_
      refine s_iload (nx := 28) hO rfl rfl rfl ?_
      refine s_aload_n (nx := 29) hO rfl rfl rfl ?_
      refine s_getf (v := .ref (q_b G + 122)) (nx := 32) hO rfl rfl (hs_o0 kc116) rfl rfl ?_
      refine s_aload_n (nx := 33) hO rfl rfl rfl ?_
      refine s_getf (v := .ref (q_b G + (o1 + 13))) (nx := 36) hO rfl rfl (hs_o5 ho1) rfl rfl ?_
      refine s_iload (nx := 38) hO rfl rfl rfl ?_
      obtain ⟨b4, H⟩ := H
      refine s_iald (nx := 39) hO rfl (hs_I (kf5_14 ho1)) b4 rfl ?_
      obtain ⟨b5, H⟩ := H
      refine s_iald (nx := 40) hO rfl (hs_I kc122) b5 rfl ?_
      obtain ⟨b6, H⟩ := H
      refine goV (wI s2 (o2 + 13) (ix x1) (sI s2 122 (ix (sI s2 (o1 + 13) (ix x1))))) (fun s7 es7 => ?_)
      replace H := H s7 es7
      refine s_iast (nx := 41) hO rfl (hs_I (kf5_14 ho2)) b6 rfl ?_
      refine xEx.at (up_I (kf5_14 ho2) es7) ?_
      refine s_aload_n (nx := 42) hO rfl rfl rfl ?_
      refine s_getf (v := .ref (q_b G + (o2 + 14))) (nx := 45) hO rfl rfl (hs_o5 ho2) rfl rfl ?_
      refine s_iload (nx := 47) hO rfl rfl rfl ?_
      refine s_aload_n (nx := 48) hO rfl rfl rfl ?_
      refine s_getf (v := .ref (q_b G + 122)) (nx := 51) hO rfl rfl (hs_o0 kc116) rfl rfl ?_
      refine s_aload_n (nx := 52) hO rfl rfl rfl ?_
      refine s_getf (v := .ref (q_b G + (o1 + 14))) (nx := 55) hO rfl rfl (hs_o5 ho1) rfl rfl ?_
      refine s_iload (nx := 57) hO rfl rfl rfl ?_
      obtain ⟨b8, H⟩ := H
      refine s_iald (nx := 58) hO rfl (hs_I (kf5_15 ho1)) b8 rfl ?_
      obtain ⟨b9, H⟩ := H
      refine s_iald (nx := 59) hO rfl (hs_I kc122) b9 rfl ?_
      obtain ⟨b10, H⟩ := H
      refine goV (wI s7 (o2 + 14) (ix x1) (sI s7 122 (ix (sI s7 (o1 + 14) (ix x1))))) (fun s11 es11 => ?_)
      replace H := H s11 es11
      refine s_iast (nx := 60) hO rfl (hs_I (kf5_15 ho2)) b10 rfl ?_
      refine xEx.at (up_I (kf5_15 ho2) es11) ?_
      refine s_aload_n (nx := 61) hO rfl rfl rfl ?_
      refine s_getf (v := .ref (q_b G + (o2 + 15))) (nx := 64) hO rfl rfl (hs_o5 ho2) rfl rfl ?_
      refine s_iload (nx := 66) hO rfl rfl rfl ?_
      refine s_aload_n (nx := 67) hO rfl rfl rfl ?_
      refine s_getf (v := .ref (q_b G + 122)) (nx := 70) hO rfl rfl (hs_o0 kc116) rfl rfl ?_
      refine s_aload_n (nx := 71) hO rfl rfl rfl ?_
      refine s_getf (v := .ref (q_b G + (o1 + 15))) (nx := 74) hO rfl rfl (hs_o5 ho1) rfl rfl ?_
      refine s_iload (nx := 76) hO rfl rfl rfl ?_
      obtain ⟨b12, H⟩ := H
      refine s_iald (nx := 77) hO rfl (hs_I (kf5_16 ho1)) b12 rfl ?_
      obtain ⟨b13, H⟩ := H
      refine s_iald (nx := 78) hO rfl (hs_I kc122) b13 rfl ?_
      obtain ⟨b14, H⟩ := H
      refine goV (wI s11 (o2 + 15) (ix x1) (sI s11 122 (ix (sI s11 (o1 + 15) (ix x1))))) (fun s15 es15 => ?_)
      replace H := H s15 es15
      refine s_iast (nx := 79) hO rfl (hs_I (kf5_16 ho2)) b14 rfl ?_
      refine xEx.at (up_I (kf5_16 ho2) es15) ?_
      refine s_aload_n (nx := 80) hO rfl rfl rfl ?_
      refine s_getf (v := .ref (q_b G + (o2 + 16))) (nx := 83) hO rfl rfl (hs_o5 ho2) rfl rfl ?_
      refine s_iload (nx := 85) hO rfl rfl rfl ?_
      refine s_aload_n (nx := 86) hO rfl rfl rfl ?_
      refine s_getf (v := .ref (q_b G + (o1 + 16))) (nx := 89) hO rfl rfl (hs_o5 ho1) rfl rfl ?_
      refine s_iload (nx := 91) hO rfl rfl rfl ?_
      obtain ⟨b16, H⟩ := H
      refine s_zald (nx := 92) hO rfl (hs_Z (kf5_17 ho1)) b16 rfl ?_
      obtain ⟨b17, H⟩ := H
      refine goV (wI s15 (o2 + 16) (ix x1) (vp_nar .boolean (sI s15 (o1 + 16) (ix x1)))) (fun s18 es18 => ?_)
      replace H := H s18 es18
      refine s_zast (nx := 93) hO rfl (hs_Z (kf5_17 ho2)) b17 rfl ?_
      refine xEx.at (up_Z (kf5_17 ho2) es18) ?_
      refine s_aload_n (nx := 94) hO rfl rfl rfl ?_
      refine s_getf (v := .ref (q_b G + (o2 + 17))) (nx := 97) hO rfl rfl (hs_o5 ho2) rfl rfl ?_
      refine s_iload (nx := 99) hO rfl rfl rfl ?_
      refine s_aload_n (nx := 100) hO rfl rfl rfl ?_
      refine s_getf (v := .ref (q_b G + (o1 + 17))) (nx := 103) hO rfl rfl (hs_o5 ho1) rfl rfl ?_
      refine s_iload (nx := 105) hO rfl rfl rfl ?_
      obtain ⟨b19, H⟩ := H
      refine s_iald (nx := 106) hO rfl (hs_I (kf5_18 ho1)) b19 rfl ?_
      obtain ⟨b20, H⟩ := H
      refine goV (wI s18 (o2 + 17) (ix x1) (sI s18 (o1 + 17) (ix x1))) (fun s21 es21 => ?_)
      replace H := H s21 es21
      refine s_iast (nx := 107) hO rfl (hs_I (kf5_18 ho2)) b20 rfl ?_
      refine xEx.at (up_I (kf5_18 ho2) es21) ?_
      refine s_aload_n (nx := 108) hO rfl rfl rfl ?_
      refine s_getf (v := .ref (q_b G + (o2 + 11))) (nx := 111) hO rfl rfl (hs_o5 ho2) rfl rfl ?_
      refine s_iload_n (nx := 112) hO rfl rfl rfl ?_
      refine s_sipush (x := (nI 400)) (nx := 115) hO rfl (by decide) rfl ?_
      refine s_imul (nx := 116) hO rfl rfl ?_
      refine s_aload_n (nx := 117) hO rfl rfl rfl ?_
      refine s_getf (v := .ref (q_b G + (o2 + 15))) (nx := 120) hO rfl rfl (hs_o5 ho2) rfl rfl ?_
      refine s_iload (nx := 122) hO rfl rfl rfl ?_
      obtain ⟨b22, H⟩ := H
      refine s_iald (nx := 123) hO rfl (hs_I (kf5_16 ho2)) b22 rfl ?_
      refine s_iadd (nx := 124) hO rfl rfl ?_
      refine s_iconst (x := 1) (nx := 125) hO rfl (by decide) rfl ?_
      obtain ⟨b23, H⟩ := H
      refine goV (wI s21 (o2 + 11) (ix ((v3 * (nI 400)) + (sI s21 (o2 + 15) (ix x1)))) (vp_nar .boolean 1)) (fun s24 es24 => ?_)
      replace H := H s24 es24
      refine s_zast (nx := 126) hO rfl (hs_Z (kf5_11 ho2)) b23 rfl ?_
      refine xEx.at (up_Z (kf5_11 ho2) es24) ?_
      refine goV ((x1 + 1)) (fun x25 ex25 => ?_)
      replace H := H x25 ex25
      refine e_iinc (nx := 129) (l' := [(4, .int x25), (0, .ref (q_b G + 116)), (1, .ref (q_b G + o1)), (2, .ref (q_b G + o2)), (3, .int v3)]) ex25 hO rfl (by decide) rfl rfl rfl rfl ?_
      refine s_goto hO rfl ?_
      exact xEx.loc (x_sub1 (List.Mem.tail _ (List.Mem.head _)) (x_sub1 (List.Mem.tail _ (List.Mem.tail _ (List.Mem.head _))) (x_sub1 (List.Mem.tail _ (List.Mem.tail _ (List.Mem.tail _ (List.Mem.head _)))) (x_sub1 (List.Mem.tail _ (List.Mem.tail _ (List.Mem.tail _ (List.Mem.tail _ (List.Mem.head _))))) (x_sub1 (List.Mem.head _) x_sub0))))) H
  refine goV ((v3 * (nI 6))) (fun x26 ex26 => ?_)
  replace H := H x26 ex26
  refine e_istore (nx := 6) (l' := [(4, .int x26), (0, .ref (q_b G + 116)), (1, .ref (q_b G + o1)), (2, .ref (q_b G + o2)), (3, .int v3)]) ex26 hO rfl (by decide) rfl rfl ?_
  exact xEx.loc (x_sub1 (List.Mem.tail _ (List.Mem.head _)) (x_sub1 (List.Mem.tail _ (List.Mem.tail _ (List.Mem.head _))) (x_sub1 (List.Mem.tail _ (List.Mem.tail _ (List.Mem.tail _ (List.Mem.head _)))) (x_sub1 (List.Mem.tail _ (List.Mem.tail _ (List.Mem.tail _ (List.Mem.tail _ (List.Mem.head _))))) (x_sub1 (List.Mem.head _) x_sub0))))) H
def W_X5_byteLength (s : yS) (g : Nat) (Q : Int32 → Prop) : Prop :=
 ∀ P4 : Int32 → Int32 → Prop, (∀ (x1 : Int32) (x2 : Int32), ((((sI s g 0) ≤ x2 → Q x1)
  ∧ (¬ (sI s g 0) ≤ x2 → ∀ x3 : Int32, x3 = (x1 + (nI 8)) → 
   ∀ P17 : Int32 → Int32 → Prop, (∀ (x4 : Int32) (x5 : Int32), (vp_in x2 12 ∧ 
    (((sI s (g + 5) (ix x2)) ≤ x5 → ∀ P59 : Int32 → Int32 → Prop, (∀ (x7 : Int32) (x8 : Int32), (vp_in x2 12 ∧ 
      ((((x2 * (nI 6)) + (sI s (g + 6) (ix x2))) ≤ x8 → ∀ x10 : Int32, x10 = (x2 + 1) → 
       P4 x7 x10)
      ∧ (¬ ((x2 * (nI 6)) + (sI s (g + 6) (ix x2))) ≤ x8 → vp_in x8 72 ∧ 
       ∀ P91 : Int32 → Int32 → Prop, (∀ (y12 : Int32) (y13 : Int32), (∀ x14 : Int32, x14 = (y13 + y12) → 
        ∀ x15 : Int32, x15 = (x8 + 1) → 
        P59 x14 x15) → P91 y12 y13) → 
       (((sI s (g + 16) (ix x8)) = 0 → P91 (nI 11) x7)
       ∧ (¬ (sI s (g + 16) (ix x8)) = 0 → P91 (nI 7) x7))))) → P59 x7 x8) → 
     ∀ x16 : Int32, x16 = (x2 * (nI 6)) → 
     P59 x4 x16)
    ∧ (¬ (sI s (g + 5) (ix x2)) ≤ x5 → vp_in ((x2 * (nI 400)) + x5) 4800 ∧ 
     vp_in (sI s (g + 7) (ix ((x2 * (nI 400)) + x5))) 30 ∧ 
     ∀ x19 : Int32, x19 = (x4 + (1 + (g_wid.getD (ix (sI s (g + 7) (ix ((x2 * (nI 400)) + x5)))) 0))) → 
     ∀ x20 : Int32, x20 = (x5 + 1) → 
     P17 x19 x20))) → P17 x4 x5) → 
   P17 x3 0))) → P4 x1 x2) → 
 P4 (nI 4) 0
set_option maxRecDepth 100000 in
set_option maxHeartbeats 40000000 in
theorem w_X5_byteLength {G : xG} (hG : yG G) {z : Nat} {s : yS} {g : Nat} {Q : Int32 → Prop} (hg : kd g = some (9, 0)) (H : W_X5_byteLength s g Q) : xC G mX5_byteLength [.ref (q_b G + g)] (hS G s) z 0 0 (yPi G z s Q) := by
  have hW := hG.1
  have hcl := hG.2.1
  have hty := hG.2.2.1
  obtain ⟨t0, t1, hf0, hf1, hr1, hr2⟩ := hG.2.2.2
  have hO : xO G mX5_byteLength tbX5_byteLength ptX5_byteLength := ⟨tkX5_byteLength, pkX5_byteLength hcl hf0⟩
  unfold W_X5_byteLength at H
  refine xC.of hW (by decide) rfl (Nat.le_of_ble_eq_true rfl) ?_
  refine s_iconst (x := (nI 4)) (nx := 1) hO rfl (by decide) rfl ?_
  refine s_istore_n (nx := 2) (l' := [(1, .int (nI 4)), (0, .ref (q_b G + g))]) hO rfl (by decide) rfl rfl ?_
  refine s_iconst (x := 0) (nx := 3) hO rfl (by decide) rfl ?_
  refine goK (H (fun (x1 : Int32) (x2 : Int32) => xEx G mX5_byteLength 4 [(0, .ref (q_b G + g)), (1, .int x1), (2, .int x2)] [] (hS G s) z 0 0 (yPi G z s Q)) (fun x1 x2 H => ?_)) (fun H => ?_)
  · show xEx G mX5_byteLength 4 [(0, .ref (q_b G + g)), (1, .int x1), (2, .int x2)] [] (hS G s) z 0 0 (yPi G z s Q)
    refine s_iload_n (nx := 5) hO rfl rfl rfl ?_
    refine s_aload_n (nx := 6) hO rfl rfl rfl ?_
    refine s_getf (v := .int (sI s g 0)) (nx := 9) hO rfl rfl (hs_o5 hg) rfl rfl ?_
    refine s_icmp_ge (nx := 12) hO rfl rfl (fun c9 => ?_) (fun c9 => ?_)
    · replace H := H.1 c9
      refine s_iload_n (nx := 106) hO rfl rfl rfl ?_
      exact s_iret hO rfl rfl rfl ⟨rfl, _, rfl, rfl, H⟩
    · replace H := H.2 c9
      refine goV ((x1 + (nI 8))) (fun x3 ex3 => ?_)
      replace H := H x3 ex3
      refine e_iinc (nx := 15) (l' := [(1, .int x3), (0, .ref (q_b G + g)), (2, .int x2)]) ex3 hO rfl (by decide) rfl rfl rfl rfl ?_
      refine s_iconst (x := 0) (nx := 16) hO rfl (by decide) rfl ?_
      refine goK (H (fun (x4 : Int32) (x5 : Int32) => xEx G mX5_byteLength 17 [(0, .ref (q_b G + g)), (1, .int x4), (2, .int x2), (3, .int x5)] [] (hS G s) z 0 0 (yPi G z s Q)) (fun x4 x5 H => ?_)) (fun H => ?_)
      · show xEx G mX5_byteLength 17 [(0, .ref (q_b G + g)), (1, .int x4), (2, .int x2), (3, .int x5)] [] (hS G s) z 0 0 (yPi G z s Q)
        refine s_iload_n (nx := 18) hO rfl rfl rfl ?_
        refine s_aload_n (nx := 19) hO rfl rfl rfl ?_
        refine s_getf (v := .ref (q_b G + (g + 5))) (nx := 22) hO rfl rfl (hs_o5 hg) rfl rfl ?_
        refine s_iload_n (nx := 23) hO rfl rfl rfl ?_
        obtain ⟨b6, H⟩ := H
        refine s_iald (nx := 24) hO rfl (hs_I (kf5_5 hg)) b6 rfl ?_
        refine s_icmp_ge (nx := 27) hO rfl rfl (fun c24 => ?_) (fun c24 => ?_)
        · replace H := H.1 c24
          refine s_iload_n (nx := 55) hO rfl rfl rfl ?_
          refine s_bipush (x := (nI 6)) (nx := 57) hO rfl (by decide) rfl ?_
          refine s_imul (nx := 58) hO rfl rfl ?_
          refine goK (H (fun (x7 : Int32) (x8 : Int32) => xEx G mX5_byteLength 59 [(0, .ref (q_b G + g)), (1, .int x7), (2, .int x2), (3, .int x8)] [] (hS G s) z 0 0 (yPi G z s Q)) (fun x7 x8 H => ?_)) (fun H => ?_)
          · show xEx G mX5_byteLength 59 [(0, .ref (q_b G + g)), (1, .int x7), (2, .int x2), (3, .int x8)] [] (hS G s) z 0 0 (yPi G z s Q)
            refine s_iload_n (nx := 60) hO rfl rfl rfl ?_
            refine s_iload_n (nx := 61) hO rfl rfl rfl ?_
            refine s_bipush (x := (nI 6)) (nx := 63) hO rfl (by decide) rfl ?_
            refine s_imul (nx := 64) hO rfl rfl ?_
            refine s_aload_n (nx := 65) hO rfl rfl rfl ?_
            refine s_getf (v := .ref (q_b G + (g + 6))) (nx := 68) hO rfl rfl (hs_o5 hg) rfl rfl ?_
            refine s_iload_n (nx := 69) hO rfl rfl rfl ?_
            obtain ⟨b9, H⟩ := H
            refine s_iald (nx := 70) hO rfl (hs_I (kf5_6 hg)) b9 rfl ?_
            refine s_iadd (nx := 71) hO rfl rfl ?_
            refine s_icmp_ge (nx := 74) hO rfl rfl (fun c71 => ?_) (fun c71 => ?_)
            · replace H := H.1 c71
              refine goV ((x2 + 1)) (fun x10 ex10 => ?_)
              replace H := H x10 ex10
              refine e_iinc (nx := 102) (l' := [(2, .int x10), (0, .ref (q_b G + g)), (1, .int x7), (3, .int x8)]) ex10 hO rfl (by decide) rfl rfl rfl rfl ?_
              refine s_goto hO rfl ?_
              exact xEx.loc (x_sub1 (List.Mem.tail _ (List.Mem.head _)) (x_sub1 (List.Mem.tail _ (List.Mem.tail _ (List.Mem.head _))) (x_sub1 (List.Mem.head _) x_sub0))) H
            · replace H := H.2 c71
              refine s_iload_n (nx := 75) hO rfl rfl rfl ?_
              refine s_aload_n (nx := 76) hO rfl rfl rfl ?_
              refine s_getf (v := .ref (q_b G + (g + 16))) (nx := 79) hO rfl rfl (hs_o5 hg) rfl rfl ?_
              refine s_iload_n (nx := 80) hO rfl rfl rfl ?_
              obtain ⟨b11, H⟩ := H
              refine s_zald (nx := 81) hO rfl (hs_Z (kf5_17 hg)) b11 rfl ?_
              refine goK (H (fun (y12 : Int32) (y13 : Int32) => xEx G mX5_byteLength 91 [(0, .ref (q_b G + g)), (2, .int x2), (3, .int x8)] [.int y12, .int y13] (hS G s) z 0 0 (yPi G z s Q)) (fun y12 y13 H => ?_)) (fun H => ?_)
              · show xEx G mX5_byteLength 91 [(0, .ref (q_b G + g)), (2, .int x2), (3, .int x8)] [.int y12, .int y13] (hS G s) z 0 0 (yPi G z s Q)
                refine s_iadd (nx := 92) hO rfl rfl ?_
                refine goV ((y13 + y12)) (fun x14 ex14 => ?_)
                replace H := H x14 ex14
                refine e_istore_n (nx := 93) (l' := [(1, .int x14), (0, .ref (q_b G + g)), (2, .int x2), (3, .int x8)]) ex14 hO rfl (by decide) rfl rfl ?_
                refine goV ((x8 + 1)) (fun x15 ex15 => ?_)
                replace H := H x15 ex15
                refine e_iinc (nx := 96) (l' := [(3, .int x15), (1, .int x14), (0, .ref (q_b G + g)), (2, .int x2)]) ex15 hO rfl (by decide) rfl rfl rfl rfl ?_
                refine s_goto hO rfl ?_
                exact xEx.loc (x_sub1 (List.Mem.tail _ (List.Mem.tail _ (List.Mem.head _))) (x_sub1 (List.Mem.tail _ (List.Mem.head _)) (x_sub1 (List.Mem.tail _ (List.Mem.tail _ (List.Mem.tail _ (List.Mem.head _)))) (x_sub1 (List.Mem.head _) x_sub0)))) H
              refine s_if_eq (nx := 84) hO rfl rfl (fun c81 => ?_) (fun c81 => ?_)
              · replace H := H.1 c81
                refine s_bipush (x := (nI 11)) (nx := 91) hO rfl (by decide) rfl ?_
                exact xEx.loc (x_sub1 (List.Mem.head _) (x_sub1 (List.Mem.tail _ (List.Mem.tail _ (List.Mem.head _))) (x_sub1 (List.Mem.tail _ (List.Mem.tail _ (List.Mem.tail _ (List.Mem.head _)))) x_sub0))) H
              · replace H := H.2 c81
                refine s_bipush (x := (nI 7)) (nx := 86) hO rfl (by decide) rfl ?_
                refine s_goto hO rfl ?_
                exact xEx.loc (x_sub1 (List.Mem.head _) (x_sub1 (List.Mem.tail _ (List.Mem.tail _ (List.Mem.head _))) (x_sub1 (List.Mem.tail _ (List.Mem.tail _ (List.Mem.tail _ (List.Mem.head _)))) x_sub0))) H
          refine goV ((x2 * (nI 6))) (fun x16 ex16 => ?_)
          replace H := H x16 ex16
          refine e_istore_n (nx := 59) (l' := [(3, .int x16), (0, .ref (q_b G + g)), (1, .int x4), (2, .int x2)]) ex16 hO rfl (by decide) rfl rfl ?_
          exact xEx.loc (x_sub1 (List.Mem.tail _ (List.Mem.head _)) (x_sub1 (List.Mem.tail _ (List.Mem.tail _ (List.Mem.head _))) (x_sub1 (List.Mem.tail _ (List.Mem.tail _ (List.Mem.tail _ (List.Mem.head _)))) (x_sub1 (List.Mem.head _) x_sub0)))) H
        · replace H := H.2 c24
          refine s_iload_n (nx := 28) hO rfl rfl rfl ?_
          refine s_iconst (x := 1) (nx := 29) hO rfl (by decide) rfl ?_
          refine s_gets (nx := 32) hO rfl rfl hf0 rfl ?_
          refine s_aload_n (nx := 33) hO rfl rfl rfl ?_
          refine s_getf (v := .ref (q_b G + (g + 7))) (nx := 36) hO rfl rfl (hs_o5 hg) rfl rfl ?_
          refine s_iload_n (nx := 37) hO rfl rfl rfl ?_
          refine s_sipush (x := (nI 400)) (nx := 40) hO rfl (by decide) rfl ?_
          refine s_imul (nx := 41) hO rfl rfl ?_
          refine s_iload_n (nx := 42) hO rfl rfl rfl ?_
          refine s_iadd (nx := 43) hO rfl rfl ?_
          obtain ⟨b17, H⟩ := H
          refine s_iald (nx := 44) hO rfl (hs_I (kf5_7 hg)) b17 rfl ?_
          obtain ⟨b18, H⟩ := H
          refine s_roI (v := .int (g_wid.getD (ix (sI s (g + 7) (ix ((x2 * (nI 400)) + x5)))) 0)) (nx := 45) hO rfl hr1 b18 rfl rfl ?_
          refine s_iadd (nx := 46) hO rfl rfl ?_
          refine s_iadd (nx := 47) hO rfl rfl ?_
          refine goV ((x4 + (1 + (g_wid.getD (ix (sI s (g + 7) (ix ((x2 * (nI 400)) + x5)))) 0)))) (fun x19 ex19 => ?_)
          replace H := H x19 ex19
          refine e_istore_n (nx := 48) (l' := [(1, .int x19), (0, .ref (q_b G + g)), (2, .int x2), (3, .int x5)]) ex19 hO rfl (by decide) rfl rfl ?_
          refine goV ((x5 + 1)) (fun x20 ex20 => ?_)
          replace H := H x20 ex20
          refine e_iinc (nx := 51) (l' := [(3, .int x20), (1, .int x19), (0, .ref (q_b G + g)), (2, .int x2)]) ex20 hO rfl (by decide) rfl rfl rfl rfl ?_
          refine s_goto hO rfl ?_
          exact xEx.loc (x_sub1 (List.Mem.tail _ (List.Mem.tail _ (List.Mem.head _))) (x_sub1 (List.Mem.tail _ (List.Mem.head _)) (x_sub1 (List.Mem.tail _ (List.Mem.tail _ (List.Mem.tail _ (List.Mem.head _)))) (x_sub1 (List.Mem.head _) x_sub0)))) H
      refine s_istore_n (nx := 17) (l' := [(3, .int 0), (1, .int x3), (0, .ref (q_b G + g)), (2, .int x2)]) hO rfl (by decide) rfl rfl ?_
      exact xEx.loc (x_sub1 (List.Mem.tail _ (List.Mem.tail _ (List.Mem.head _))) (x_sub1 (List.Mem.tail _ (List.Mem.head _)) (x_sub1 (List.Mem.tail _ (List.Mem.tail _ (List.Mem.tail _ (List.Mem.head _)))) (x_sub1 (List.Mem.head _) x_sub0)))) H
  refine s_istore_n (nx := 4) (l' := [(2, .int 0), (1, .int (nI 4)), (0, .ref (q_b G + g))]) hO rfl (by decide) rfl rfl ?_
  exact xEx.loc (x_sub1 (List.Mem.tail _ (List.Mem.tail _ (List.Mem.head _))) (x_sub1 (List.Mem.tail _ (List.Mem.head _)) (x_sub1 (List.Mem.head _) x_sub0))) H
def W_X0_forge (s : yS) (o1 : Nat) (o2 : Nat) (o3 : Nat) (Q : Int32 → yS → Prop) : Prop :=
 W_X5_empty s o3 
 (fun s1 => ∀ s2 : yS, s2 = wI s1 o3 0 (sI s1 o1 0) → 
 ∀ P18 : Int32 → Int32 → yS → Prop, (∀ (x3 : Int32) (x4 : Int32) (s5 : yS), ((((sI s5 o1 0) ≤ x4 → W_X5_byteLength s5 o3 
   (fun r6 => ((r6 ≤ (nI 8192) → Q x3 s5)
   ∧ (¬ r6 ≤ (nI 8192) → Q (-2) s5))))
  ∧ (¬ (sI s5 o1 0) ≤ x4 → W_X0_move s5 o1 o2 x4 
   (fun r7 s8 => ∀ x9 : Int32, x9 = (x3 + r7) → 
   vp_in x4 12 ∧ 
   ((((sI s8 (o1 + 5) (ix x4)) + r7) ≤ (nI 400) → W_X0_copyHead s8 o1 o3 x4 
    (fun s11 => W_X0_copyCode s11 o1 o3 x4 
    (fun s12 => W_X0_copyHandlers s12 o1 o3 x4 
    (fun s13 => ∀ x14 : Int32, x14 = (x4 + 1) → 
    P18 x9 x14 s13))))
   ∧ (¬ ((sI s8 (o1 + 5) (ix x4)) + r7) ≤ (nI 400) → Q (-2) s8)))))) → P18 x3 x4 s5) → 
 P18 0 0 s2)
set_option maxRecDepth 100000 in
set_option maxHeartbeats 40000000 in
theorem w_X0_forge {G : xG} (hG : yG G) {z : Nat} {s : yS} {o1 : Nat} {o2 : Nat} {o3 : Nat} {Q : Int32 → yS → Prop} (ho1 : kd o1 = some (9, 0)) (ho2 : kd o2 = some (7, 0)) (ho3 : kd o3 = some (9, 0)) (H : W_X0_forge s o1 o2 o3 Q) : xC G mX0_forge [.ref (q_b G + 116), .ref (q_b G + o1), .ref (q_b G + o2), .ref (q_b G + o3)] (hS G s) z 0 0 (yQi G z Q) := by
  have hW := hG.1
  have hcl := hG.2.1
  have hty := hG.2.2.1
  have hO : xO G mX0_forge tbX0_forge ptX0_forge := ⟨tkX0_forge, pkX0_forge hcl⟩
  unfold W_X0_forge at H
  refine xC.of hW (by decide) rfl (Nat.le_of_ble_eq_true rfl) ?_
  refine s_aload_n (nx := 1) hO rfl rfl rfl ?_
  refine s_callV [] (ci := 5) (F := TX5) (N := 19) (nx := 4) hO rfl kX0_forge_153 (by rw [hcl]; rfl) (hs_o5 ho3) (w_X5_empty hG ho3 H) rfl rfl (Nat.le_of_ble_eq_true rfl) (Nat.zero_le _) (Nat.zero_le _) rfl (k_Qv (fun s1 H => ?_))
  refine s_aload_n (nx := 5) hO rfl rfl rfl ?_
  refine s_aload_n (nx := 6) hO rfl rfl rfl ?_
  refine s_getf (v := .int (sI s1 o1 0)) (nx := 9) hO rfl rfl (hs_o5 ho1) rfl rfl ?_
  refine goV (wI s1 o3 0 (sI s1 o1 0)) (fun s2 es2 => ?_)
  replace H := H s2 es2
  refine s_putf (nx := 12) hO rfl rfl (hs_o5 ho3) (Nat.le_of_ble_eq_true rfl) (by rw [hty]; rfl) (by rw [hty]; rfl) pX5_0 rfl ?_
  refine xEx.at (up_oI5 ho3 es2) ?_
  refine s_iconst (x := 0) (nx := 13) hO rfl (by decide) rfl ?_
  refine s_istore (nx := 15) (l' := [(4, .int 0), (0, .ref (q_b G + 116)), (1, .ref (q_b G + o1)), (2, .ref (q_b G + o2)), (3, .ref (q_b G + o3))]) hO rfl (by decide) rfl rfl ?_
  refine s_iconst (x := 0) (nx := 16) hO rfl (by decide) rfl ?_
  refine goK (H (fun (x3 : Int32) (x4 : Int32) (s5 : yS) => xEx G mX0_forge 18 [(0, .ref (q_b G + 116)), (1, .ref (q_b G + o1)), (2, .ref (q_b G + o2)), (3, .ref (q_b G + o3)), (4, .int x3), (5, .int x4)] [] (hS G s5) z 0 0 (yQi G z Q)) (fun x3 x4 s5 H => ?_)) (fun H => ?_)
  · show xEx G mX0_forge 18 [(0, .ref (q_b G + 116)), (1, .ref (q_b G + o1)), (2, .ref (q_b G + o2)), (3, .ref (q_b G + o3)), (4, .int x3), (5, .int x4)] [] (hS G s5) z 0 0 (yQi G z Q)
    refine s_iload (nx := 20) hO rfl rfl rfl ?_
    refine s_aload_n (nx := 21) hO rfl rfl rfl ?_
    refine s_getf (v := .int (sI s5 o1 0)) (nx := 24) hO rfl rfl (hs_o5 ho1) rfl rfl ?_
    refine s_icmp_ge (nx := 27) hO rfl rfl (fun c24 => ?_) (fun c24 => ?_)
    · replace H := H.1 c24
      refine s_aload_n (nx := 94) hO rfl rfl rfl ?_
      refine s_callV [] (ci := 5) (F := TX5) (N := 19) (nx := 97) hO rfl kX0_forge_170 (by rw [hcl]; rfl) (hs_o5 ho3) (w_X5_byteLength hG ho3 H) rfl rfl (Nat.le_of_ble_eq_true rfl) (Nat.zero_le _) (Nat.zero_le _) rfl (k_Pi (fun r6 H => ?_))
      refine s_sipush (x := (nI 8192)) (nx := 100) hO rfl (by decide) rfl ?_
      refine s_icmp_le (nx := 103) hO rfl rfl (fun c100 => ?_) (fun c100 => ?_)
      · replace H := H.1 c100
        refine s_iload (nx := 110) hO rfl rfl rfl ?_
        exact s_iret hO rfl rfl rfl ⟨rfl, _, _, rfl, rfl, H⟩
      · replace H := H.2 c100
        refine s_bipush (x := (-2)) (nx := 105) hO rfl (by decide) rfl ?_
        refine s_goto hO rfl ?_
        exact s_iret hO rfl rfl rfl ⟨rfl, _, _, rfl, rfl, H⟩
    · replace H := H.2 c24
      refine s_aload_n (nx := 28) hO rfl rfl rfl ?_
      refine s_aload_n (nx := 29) hO rfl rfl rfl ?_
      refine s_aload_n (nx := 30) hO rfl rfl rfl ?_
      refine s_iload (nx := 32) hO rfl rfl rfl ?_
      refine s_callV [.ref (q_b G + o1), .ref (q_b G + o2), .int x4] (ci := 0) (F := TX0) (N := 11) (nx := 35) hO rfl kX0_forge_156 (by rw [hcl]; rfl) (hs_o0 kc116) (w_X0_move hG ho1 ho2 H) rfl rfl (Nat.le_of_ble_eq_true rfl) (Nat.zero_le _) (Nat.zero_le _) rfl (k_Qi (fun r7 s8 H => ?_))
      refine s_istore (nx := 37) (l' := [(6, .int r7), (0, .ref (q_b G + 116)), (1, .ref (q_b G + o1)), (2, .ref (q_b G + o2)), (3, .ref (q_b G + o3)), (4, .int x3), (5, .int x4)]) hO rfl (by decide) rfl rfl ?_
      refine s_iload (nx := 39) hO rfl rfl rfl ?_
      refine s_iload (nx := 41) hO rfl rfl rfl ?_
      refine s_iadd (nx := 42) hO rfl rfl ?_
      refine goV ((x3 + r7)) (fun x9 ex9 => ?_)
      replace H := H x9 ex9
      refine e_istore (nx := 44) (l' := [(4, .int x9), (6, .int r7), (0, .ref (q_b G + 116)), (1, .ref (q_b G + o1)), (2, .ref (q_b G + o2)), (3, .ref (q_b G + o3)), (5, .int x4)]) ex9 hO rfl (by decide) rfl rfl ?_
      refine s_aload_n (nx := 45) hO rfl rfl rfl ?_
      refine s_getf (v := .ref (q_b G + (o1 + 5))) (nx := 48) hO rfl rfl (hs_o5 ho1) rfl rfl ?_
      refine s_iload (nx := 50) hO rfl rfl rfl ?_
      obtain ⟨b10, H⟩ := H
      refine s_iald (nx := 51) hO rfl (hs_I (kf5_5 ho1)) b10 rfl ?_
      refine s_iload (nx := 53) hO rfl rfl rfl ?_
      refine s_iadd (nx := 54) hO rfl rfl ?_
      refine s_sipush (x := (nI 400)) (nx := 57) hO rfl (by decide) rfl ?_
      refine s_icmp_le (nx := 60) hO rfl rfl (fun c57 => ?_) (fun c57 => ?_)
      · replace H := H.1 c57
        refine s_aload_n (nx := 64) hO rfl rfl rfl ?_
        refine s_aload_n (nx := 65) hO rfl rfl rfl ?_
        refine s_aload_n (nx := 66) hO rfl rfl rfl ?_
        refine s_iload (nx := 68) hO rfl rfl rfl ?_
        refine s_callV [.ref (q_b G + o1), .ref (q_b G + o3), .int x4] (ci := 0) (F := TX0) (N := 11) (nx := 71) hO rfl kX0_forge_160 (by rw [hcl]; rfl) (hs_o0 kc116) (w_X0_copyHead hG ho1 ho3 H) rfl rfl (Nat.le_of_ble_eq_true rfl) (Nat.zero_le _) (Nat.zero_le _) rfl (k_Qv (fun s11 H => ?_))
        refine s_aload_n (nx := 72) hO rfl rfl rfl ?_
        refine s_aload_n (nx := 73) hO rfl rfl rfl ?_
        refine s_aload_n (nx := 74) hO rfl rfl rfl ?_
        refine s_iload (nx := 76) hO rfl rfl rfl ?_
        refine s_callV [.ref (q_b G + o1), .ref (q_b G + o3), .int x4] (ci := 0) (F := TX0) (N := 11) (nx := 79) hO rfl kX0_forge_164 (by rw [hcl]; rfl) (hs_o0 kc116) (w_X0_copyCode hG ho1 ho3 H) rfl rfl (Nat.le_of_ble_eq_true rfl) (Nat.zero_le _) (Nat.zero_le _) rfl (k_Qv (fun s12 H => ?_))
        refine s_aload_n (nx := 80) hO rfl rfl rfl ?_
        refine s_aload_n (nx := 81) hO rfl rfl rfl ?_
        refine s_aload_n (nx := 82) hO rfl rfl rfl ?_
        refine s_iload (nx := 84) hO rfl rfl rfl ?_
        refine s_callV [.ref (q_b G + o1), .ref (q_b G + o3), .int x4] (ci := 0) (F := TX0) (N := 11) (nx := 87) hO rfl kX0_forge_167 (by rw [hcl]; rfl) (hs_o0 kc116) (w_X0_copyHandlers hG ho1 ho3 H) rfl rfl (Nat.le_of_ble_eq_true rfl) (Nat.zero_le _) (Nat.zero_le _) rfl (k_Qv (fun s13 H => ?_))
        refine goV ((x4 + 1)) (fun x14 ex14 => ?_)
        replace H := H x14 ex14
        refine e_iinc (nx := 90) (l' := [(5, .int x14), (4, .int x9), (6, .int r7), (0, .ref (q_b G + 116)), (1, .ref (q_b G + o1)), (2, .ref (q_b G + o2)), (3, .ref (q_b G + o3))]) ex14 hO rfl (by decide) rfl rfl rfl rfl ?_
        refine s_goto hO rfl ?_
        exact xEx.loc (x_sub1 (List.Mem.tail _ (List.Mem.tail _ (List.Mem.tail _ (List.Mem.head _)))) (x_sub1 (List.Mem.tail _ (List.Mem.tail _ (List.Mem.tail _ (List.Mem.tail _ (List.Mem.head _))))) (x_sub1 (List.Mem.tail _ (List.Mem.tail _ (List.Mem.tail _ (List.Mem.tail _ (List.Mem.tail _ (List.Mem.head _)))))) (x_sub1 (List.Mem.tail _ (List.Mem.tail _ (List.Mem.tail _ (List.Mem.tail _ (List.Mem.tail _ (List.Mem.tail _ (List.Mem.head _))))))) (x_sub1 (List.Mem.tail _ (List.Mem.head _)) (x_sub1 (List.Mem.head _) x_sub0)))))) H
      · replace H := H.2 c57
        refine s_bipush (x := (-2)) (nx := 62) hO rfl (by decide) rfl ?_
        exact s_iret hO rfl rfl rfl ⟨rfl, _, _, rfl, rfl, H⟩
  refine s_istore (nx := 18) (l' := [(5, .int 0), (4, .int 0), (0, .ref (q_b G + 116)), (1, .ref (q_b G + o1)), (2, .ref (q_b G + o2)), (3, .ref (q_b G + o3))]) hO rfl (by decide) rfl rfl ?_
  exact xEx.loc (x_sub1 (List.Mem.tail _ (List.Mem.tail _ (List.Mem.head _))) (x_sub1 (List.Mem.tail _ (List.Mem.tail _ (List.Mem.tail _ (List.Mem.head _)))) (x_sub1 (List.Mem.tail _ (List.Mem.tail _ (List.Mem.tail _ (List.Mem.tail _ (List.Mem.head _))))) (x_sub1 (List.Mem.tail _ (List.Mem.tail _ (List.Mem.tail _ (List.Mem.tail _ (List.Mem.tail _ (List.Mem.head _)))))) (x_sub1 (List.Mem.tail _ (List.Mem.head _)) (x_sub1 (List.Mem.head _) x_sub0)))))) H
def W_X1_count (s : yS) (g : Nat) (Q : Int32 → Prop) : Prop :=
 vp_in (nI 16) 17 ∧ 
 Q (sI s (g + 3) (ix (nI 16)))
set_option maxRecDepth 100000 in
set_option maxHeartbeats 40000000 in
theorem w_X1_count {G : xG} (hG : yG G) {z : Nat} {s : yS} {g : Nat} {Q : Int32 → Prop} (hg : kd g = some (5, 0)) (H : W_X1_count s g Q) : xC G mX1_count [.ref (q_b G + g)] (hS G s) z 0 0 (yPi G z s Q) := by
  have hW := hG.1
  have hcl := hG.2.1
  have hty := hG.2.2.1
  have hO : xO G mX1_count tbX1_count ptX1_count := ⟨tkX1_count, pkX1_count hcl⟩
  unfold W_X1_count at H
  refine xC.of hW (by decide) rfl (Nat.le_of_ble_eq_true rfl) ?_
  refine s_aload_n (nx := 1) hO rfl rfl rfl ?_
  refine s_getf (v := .ref (q_b G + (g + 3))) (nx := 4) hO rfl rfl (hs_o1 hg) rfl rfl ?_
  refine s_bipush (x := (nI 16)) (nx := 6) hO rfl (by decide) rfl ?_
  obtain ⟨b1, H⟩ := H
  refine s_iald (nx := 7) hO rfl (hs_I (kf1_2 hg)) b1 rfl ?_
  exact s_iret hO rfl rfl rfl ⟨rfl, _, rfl, rfl, H⟩
def W_X1_firstOf (s : yS) (g : Nat) (v1 : Int32) (Q : Int32 → Prop) : Prop :=
 vp_in v1 17 ∧ 
 Q (sI s (g + 3) (ix v1))
set_option maxRecDepth 100000 in
set_option maxHeartbeats 40000000 in
theorem w_X1_firstOf {G : xG} (hG : yG G) {z : Nat} {s : yS} {g : Nat} {v1 : Int32} {Q : Int32 → Prop} (hg : kd g = some (5, 0)) (H : W_X1_firstOf s g v1 Q) : xC G mX1_firstOf [.ref (q_b G + g), .int v1] (hS G s) z 0 0 (yPi G z s Q) := by
  have hW := hG.1
  have hcl := hG.2.1
  have hty := hG.2.2.1
  have hO : xO G mX1_firstOf tbX1_firstOf ptX1_firstOf := ⟨tkX1_firstOf, pkX1_firstOf hcl⟩
  unfold W_X1_firstOf at H
  refine xC.of hW (by decide) rfl (Nat.le_of_ble_eq_true rfl) ?_
  refine s_aload_n (nx := 1) hO rfl rfl rfl ?_
  refine s_getf (v := .ref (q_b G + (g + 3))) (nx := 4) hO rfl rfl (hs_o1 hg) rfl rfl ?_
  refine s_iload_n (nx := 5) hO rfl rfl rfl ?_
  obtain ⟨b1, H⟩ := H
  refine s_iald (nx := 6) hO rfl (hs_I (kf1_2 hg)) b1 rfl ?_
  exact s_iret hO rfl rfl rfl ⟨rfl, _, rfl, rfl, H⟩
def W_X3_firstWay (s : yS) (g : Nat) (Q : Int32 → Prop) : Prop :=
 vp_in (sI s g 0) 31 ∧ 
 Q (sI s (g + 2) (ix (sI s g 0)))
set_option maxRecDepth 100000 in
set_option maxHeartbeats 40000000 in
theorem w_X3_firstWay {G : xG} (hG : yG G) {z : Nat} {s : yS} {g : Nat} {Q : Int32 → Prop} (hg : kd g = some (7, 0)) (H : W_X3_firstWay s g Q) : xC G mX3_firstWay [.ref (q_b G + g)] (hS G s) z 0 0 (yPi G z s Q) := by
  have hW := hG.1
  have hcl := hG.2.1
  have hty := hG.2.2.1
  have hO : xO G mX3_firstWay tbX3_firstWay ptX3_firstWay := ⟨tkX3_firstWay, pkX3_firstWay hcl⟩
  unfold W_X3_firstWay at H
  refine xC.of hW (by decide) rfl (Nat.le_of_ble_eq_true rfl) ?_
  refine s_aload_n (nx := 1) hO rfl rfl rfl ?_
  refine s_getf (v := .ref (q_b G + (g + 2))) (nx := 4) hO rfl rfl (hs_o3 hg) rfl rfl ?_
  refine s_aload_n (nx := 5) hO rfl rfl rfl ?_
  refine s_getf (v := .int (sI s g 0)) (nx := 8) hO rfl rfl (hs_o3 hg) rfl rfl ?_
  obtain ⟨b1, H⟩ := H
  refine s_iald (nx := 9) hO rfl (hs_I (kf3_8 hg)) b1 rfl ?_
  exact s_iret hO rfl rfl rfl ⟨rfl, _, rfl, rfl, H⟩
def W_X3_isFor (s : yS) (g : Nat) (v1 : Int32) (v2 : Int32) (Q : Int32 → Prop) : Prop :=
 vp_in v1 216 ∧ 
 (((sI s (g + 3) (ix v1)) = v2 → Q 1)
 ∧ (¬ (sI s (g + 3) (ix v1)) = v2 → vp_in v1 216 ∧ 
  ((¬ (sI s (g + 3) (ix v1)) = (nI 16) → Q 0)
  ∧ ((sI s (g + 3) (ix v1)) = (nI 16) → Q 1))))
set_option maxRecDepth 100000 in
set_option maxHeartbeats 40000000 in
theorem w_X3_isFor {G : xG} (hG : yG G) {z : Nat} {s : yS} {g : Nat} {v1 : Int32} {v2 : Int32} {Q : Int32 → Prop} (hg : kd g = some (7, 0)) (H : W_X3_isFor s g v1 v2 Q) : xC G mX3_isFor [.ref (q_b G + g), .int v1, .int v2] (hS G s) z 0 0 (yPi G z s Q) := by
  have hW := hG.1
  have hcl := hG.2.1
  have hty := hG.2.2.1
  have hO : xO G mX3_isFor tbX3_isFor ptX3_isFor := ⟨tkX3_isFor, pkX3_isFor hcl⟩
  unfold W_X3_isFor at H
  refine xC.of hW (by decide) rfl (Nat.le_of_ble_eq_true rfl) ?_
  refine s_aload_n (nx := 1) hO rfl rfl rfl ?_
  refine s_getf (v := .ref (q_b G + (g + 3))) (nx := 4) hO rfl rfl (hs_o3 hg) rfl rfl ?_
  refine s_iload_n (nx := 5) hO rfl rfl rfl ?_
  obtain ⟨b1, H⟩ := H
  refine s_iald (nx := 6) hO rfl (hs_I (kf3_9 hg)) b1 rfl ?_
  refine s_iload_n (nx := 7) hO rfl rfl rfl ?_
  refine s_icmp_eq (nx := 10) hO rfl rfl (fun c7 => ?_) (fun c7 => ?_)
  · replace H := H.1 c7
    refine s_iconst (x := 1) (nx := 22) hO rfl (by decide) rfl ?_
    refine s_goto hO rfl ?_
    exact s_iret hO rfl rfl rfl ⟨rfl, _, rfl, rfl, H⟩
  · replace H := H.2 c7
    refine s_aload_n (nx := 11) hO rfl rfl rfl ?_
    refine s_getf (v := .ref (q_b G + (g + 3))) (nx := 14) hO rfl rfl (hs_o3 hg) rfl rfl ?_
    refine s_iload_n (nx := 15) hO rfl rfl rfl ?_
    obtain ⟨b2, H⟩ := H
    refine s_iald (nx := 16) hO rfl (hs_I (kf3_9 hg)) b2 rfl ?_
    refine s_bipush (x := (nI 16)) (nx := 18) hO rfl (by decide) rfl ?_
    refine s_icmp_ne (nx := 21) hO rfl rfl (fun c18 => ?_) (fun c18 => ?_)
    · replace H := H.1 c18
      refine s_iconst (x := 0) (nx := 26) hO rfl (by decide) rfl ?_
      exact s_iret hO rfl rfl rfl ⟨rfl, _, rfl, rfl, H⟩
    · replace H := H.2 c18
      refine s_iconst (x := 1) (nx := 22) hO rfl (by decide) rfl ?_
      refine s_goto hO rfl ?_
      exact s_iret hO rfl rfl rfl ⟨rfl, _, rfl, rfl, H⟩
def W_X1_interval (s : yS) (g : Nat) (v1 : Int32) (v2 : Int32) (v3 : Int32) (Q : Int32 → Prop) : Prop :=
 ∀ P8 : Int32 → Int32 → Prop, (∀ (x1 : Int32) (x2 : Int32), (((x2 ≤ x1 → Q x1)
  ∧ (¬ x2 ≤ x1 → ∀ x3 : Int32, x3 = (((x1 + x2) + 1) / (nI 2)) → 
   vp_in (v1 + x3) 1168 ∧ 
   ((v3 < (sI s (g + 1) (ix (v1 + x3))) → ∀ x5 : Int32, x5 = (x3 - 1) → 
    P8 x1 x5)
   ∧ (¬ v3 < (sI s (g + 1) (ix (v1 + x3))) → P8 x3 x2))))) → P8 x1 x2) → 
 ∀ x6 : Int32, x6 = (v2 - 1) → 
 P8 0 x6
set_option maxRecDepth 100000 in
set_option maxHeartbeats 40000000 in
theorem w_X1_interval {G : xG} (hG : yG G) {z : Nat} {s : yS} {g : Nat} {v1 : Int32} {v2 : Int32} {v3 : Int32} {Q : Int32 → Prop} (hg : kd g = some (5, 0)) (H : W_X1_interval s g v1 v2 v3 Q) : xC G mX1_interval [.ref (q_b G + g), .int v1, .int v2, .int v3] (hS G s) z 0 0 (yPi G z s Q) := by
  have hW := hG.1
  have hcl := hG.2.1
  have hty := hG.2.2.1
  have hO : xO G mX1_interval tbX1_interval ptX1_interval := ⟨tkX1_interval, pkX1_interval hcl⟩
  unfold W_X1_interval at H
  refine xC.of hW (by decide) rfl (Nat.le_of_ble_eq_true rfl) ?_
  refine s_iconst (x := 0) (nx := 1) hO rfl (by decide) rfl ?_
  refine s_istore (nx := 3) (l' := [(4, .int 0), (0, .ref (q_b G + g)), (1, .int v1), (2, .int v2), (3, .int v3)]) hO rfl (by decide) rfl rfl ?_
  refine s_iload_n (nx := 4) hO rfl rfl rfl ?_
  refine s_iconst (x := 1) (nx := 5) hO rfl (by decide) rfl ?_
  refine s_isub (nx := 6) hO rfl rfl ?_
  refine goK (H (fun (x1 : Int32) (x2 : Int32) => xEx G mX1_interval 8 [(0, .ref (q_b G + g)), (1, .int v1), (3, .int v3), (4, .int x1), (5, .int x2)] [] (hS G s) z 0 0 (yPi G z s Q)) (fun x1 x2 H => ?_)) (fun H => ?_)
  · show xEx G mX1_interval 8 [(0, .ref (q_b G + g)), (1, .int v1), (3, .int v3), (4, .int x1), (5, .int x2)] [] (hS G s) z 0 0 (yPi G z s Q)
    refine s_iload (nx := 10) hO rfl rfl rfl ?_
    refine s_iload (nx := 12) hO rfl rfl rfl ?_
    refine s_icmp_ge (nx := 15) hO rfl rfl (fun c12 => ?_) (fun c12 => ?_)
    · replace H := H.1 c12
      refine s_iload (nx := 57) hO rfl rfl rfl ?_
      exact s_iret hO rfl rfl rfl ⟨rfl, _, rfl, rfl, H⟩
    · replace H := H.2 c12
      refine s_iload (nx := 17) hO rfl rfl rfl ?_
      refine s_iload (nx := 19) hO rfl rfl rfl ?_
      refine s_iadd (nx := 20) hO rfl rfl ?_
      refine s_iconst (x := 1) (nx := 21) hO rfl (by decide) rfl ?_
      refine s_iadd (nx := 22) hO rfl rfl ?_
      refine s_iconst (x := (nI 2)) (nx := 23) hO rfl (by decide) rfl ?_
      refine s_idiv (nx := 24) hO rfl (by decide) rfl ?_
      refine goV ((((x1 + x2) + 1) / (nI 2))) (fun x3 ex3 => ?_)
      replace H := H x3 ex3
      refine e_istore (nx := 26) (l' := [(6, .int x3), (0, .ref (q_b G + g)), (1, .int v1), (3, .int v3), (4, .int x1), (5, .int x2)]) ex3 hO rfl (by decide) rfl rfl ?_
      refine s_aload_n (nx := 27) hO rfl rfl rfl ?_
      refine s_getf (v := .ref (q_b G + (g + 1))) (nx := 30) hO rfl rfl (hs_o1 hg) rfl rfl ?_
      refine s_iload_n (nx := 31) hO rfl rfl rfl ?_
      refine s_iload (nx := 33) hO rfl rfl rfl ?_
      refine s_iadd (nx := 34) hO rfl rfl ?_
      obtain ⟨b4, H⟩ := H
      refine s_iald (nx := 35) hO rfl (hs_I (kf1_0 hg)) b4 rfl ?_
      refine s_iload_n (nx := 36) hO rfl rfl rfl ?_
      refine s_icmp_gt (nx := 39) hO rfl rfl (fun c36 => ?_) (fun c36 => ?_)
      · replace H := H.1 c36
        refine s_iload (nx := 48) hO rfl rfl rfl ?_
        refine s_iconst (x := 1) (nx := 49) hO rfl (by decide) rfl ?_
        refine s_isub (nx := 50) hO rfl rfl ?_
        refine goV ((x3 - 1)) (fun x5 ex5 => ?_)
        replace H := H x5 ex5
        refine e_istore (nx := 52) (l' := [(5, .int x5), (6, .int x3), (0, .ref (q_b G + g)), (1, .int v1), (3, .int v3), (4, .int x1)]) ex5 hO rfl (by decide) rfl rfl ?_
        refine s_goto hO rfl ?_
        exact xEx.loc (x_sub1 (List.Mem.tail _ (List.Mem.tail _ (List.Mem.head _))) (x_sub1 (List.Mem.tail _ (List.Mem.tail _ (List.Mem.tail _ (List.Mem.head _)))) (x_sub1 (List.Mem.tail _ (List.Mem.tail _ (List.Mem.tail _ (List.Mem.tail _ (List.Mem.head _))))) (x_sub1 (List.Mem.tail _ (List.Mem.tail _ (List.Mem.tail _ (List.Mem.tail _ (List.Mem.tail _ (List.Mem.head _)))))) (x_sub1 (List.Mem.head _) x_sub0))))) H
      · replace H := H.2 c36
        refine s_iload (nx := 41) hO rfl rfl rfl ?_
        refine s_istore (nx := 43) (l' := [(4, .int x3), (6, .int x3), (0, .ref (q_b G + g)), (1, .int v1), (3, .int v3), (5, .int x2)]) hO rfl (by decide) rfl rfl ?_
        refine s_goto hO rfl ?_
        refine s_goto hO rfl ?_
        exact xEx.loc (x_sub1 (List.Mem.tail _ (List.Mem.tail _ (List.Mem.head _))) (x_sub1 (List.Mem.tail _ (List.Mem.tail _ (List.Mem.tail _ (List.Mem.head _)))) (x_sub1 (List.Mem.tail _ (List.Mem.tail _ (List.Mem.tail _ (List.Mem.tail _ (List.Mem.head _))))) (x_sub1 (List.Mem.head _) (x_sub1 (List.Mem.tail _ (List.Mem.tail _ (List.Mem.tail _ (List.Mem.tail _ (List.Mem.tail _ (List.Mem.head _)))))) x_sub0))))) H
  refine goV ((v2 - 1)) (fun x6 ex6 => ?_)
  replace H := H x6 ex6
  refine e_istore (nx := 8) (l' := [(5, .int x6), (4, .int 0), (0, .ref (q_b G + g)), (1, .int v1), (2, .int v2), (3, .int v3)]) ex6 hO rfl (by decide) rfl rfl ?_
  exact xEx.loc (x_sub1 (List.Mem.tail _ (List.Mem.tail _ (List.Mem.head _))) (x_sub1 (List.Mem.tail _ (List.Mem.tail _ (List.Mem.tail _ (List.Mem.head _)))) (x_sub1 (List.Mem.tail _ (List.Mem.tail _ (List.Mem.tail _ (List.Mem.tail _ (List.Mem.tail _ (List.Mem.head _)))))) (x_sub1 (List.Mem.tail _ (List.Mem.head _)) (x_sub1 (List.Mem.head _) x_sub0))))) H
def W_X1_find (s : yS) (g : Nat) (v1 : Int32) (a2 n2 : Nat) (Q : Int32 → Prop) : Prop :=
 ∀ P5 : Int32 → Int32 → Prop, (∀ (x1 : Int32) (x2 : Int32), ((((nI 9) ≤ x2 → vp_in v1 17 ∧ 
   Q ((sI s (g + 3) (ix v1)) + x1))
  ∧ (¬ (nI 9) ≤ x2 → vp_in ((v1 * (nI 9)) + x2) 145 ∧ 
   ∀ x5 : Int32, x5 = (sI s (g + 2) (ix ((v1 * (nI 9)) + x2))) → 
   vp_in (((v1 * (nI 9)) + x2) + 1) 145 ∧ 
   ∀ x7 : Int32, x7 = ((sI s (g + 2) (ix (((v1 * (nI 9)) + x2) + 1))) - x5) → 
   ∀ P71 : Int32 → Int32 → Prop, (∀ (y8 : Int32) (y9 : Int32), (∀ x10 : Int32, x10 = (y9 + y8) → 
    ∀ x11 : Int32, x11 = (x2 + 1) → 
    P5 x10 x11) → P71 y8 y9) → 
   ((¬ x7 = 1 → vp_in x2 n2 ∧ 
    W_X1_interval s g x5 x7 (sI s a2 (ix x2)) 
    (fun r13 => P71 r13 (x1 * x7)))
   ∧ (x7 = 1 → P71 0 (x1 * x7)))))) → P5 x1 x2) → 
 P5 0 0
set_option maxRecDepth 100000 in
set_option maxHeartbeats 40000000 in
theorem w_X1_find {G : xG} (hG : yG G) {z : Nat} {s : yS} {g : Nat} {v1 : Int32} {a2 n2 : Nat} {Q : Int32 → Prop} (hg : kd g = some (5, 0)) (ha2 : kd a2 = some (0, n2)) (H : W_X1_find s g v1 a2 n2 Q) : xC G mX1_find [.ref (q_b G + g), .int v1, .ref (q_b G + a2)] (hS G s) z 0 0 (yPi G z s Q) := by
  have hW := hG.1
  have hcl := hG.2.1
  have hty := hG.2.2.1
  have hO : xO G mX1_find tbX1_find ptX1_find := ⟨tkX1_find, pkX1_find hcl⟩
  unfold W_X1_find at H
  refine xC.of hW (by decide) rfl (Nat.le_of_ble_eq_true rfl) ?_
  refine s_iconst (x := 0) (nx := 1) hO rfl (by decide) rfl ?_
  refine s_istore_n (nx := 2) (l' := [(3, .int 0), (0, .ref (q_b G + g)), (1, .int v1), (2, .ref (q_b G + a2))]) hO rfl (by decide) rfl rfl ?_
  refine s_iconst (x := 0) (nx := 3) hO rfl (by decide) rfl ?_
  refine goK (H (fun (x1 : Int32) (x2 : Int32) => xEx G mX1_find 5 [(0, .ref (q_b G + g)), (1, .int v1), (2, .ref (q_b G + a2)), (3, .int x1), (4, .int x2)] [] (hS G s) z 0 0 (yPi G z s Q)) (fun x1 x2 H => ?_)) (fun H => ?_)
  · show xEx G mX1_find 5 [(0, .ref (q_b G + g)), (1, .int v1), (2, .ref (q_b G + a2)), (3, .int x1), (4, .int x2)] [] (hS G s) z 0 0 (yPi G z s Q)
    refine s_iload (nx := 7) hO rfl rfl rfl ?_
    refine s_bipush (x := (nI 9)) (nx := 9) hO rfl (by decide) rfl ?_
    refine s_icmp_ge (nx := 12) hO rfl rfl (fun c9 => ?_) (fun c9 => ?_)
    · replace H := H.1 c9
      refine s_aload_n (nx := 80) hO rfl rfl rfl ?_
      refine s_getf (v := .ref (q_b G + (g + 3))) (nx := 83) hO rfl rfl (hs_o1 hg) rfl rfl ?_
      refine s_iload_n (nx := 84) hO rfl rfl rfl ?_
      obtain ⟨b3, H⟩ := H
      refine s_iald (nx := 85) hO rfl (hs_I (kf1_2 hg)) b3 rfl ?_
      refine s_iload_n (nx := 86) hO rfl rfl rfl ?_
      refine s_iadd (nx := 87) hO rfl rfl ?_
      exact s_iret hO rfl rfl rfl ⟨rfl, _, rfl, rfl, H⟩
    · replace H := H.2 c9
      refine s_aload_n (nx := 13) hO rfl rfl rfl ?_
      refine s_getf (v := .ref (q_b G + (g + 2))) (nx := 16) hO rfl rfl (hs_o1 hg) rfl rfl ?_
      refine s_iload_n (nx := 17) hO rfl rfl rfl ?_
      refine s_bipush (x := (nI 9)) (nx := 19) hO rfl (by decide) rfl ?_
      refine s_imul (nx := 20) hO rfl rfl ?_
      refine s_iload (nx := 22) hO rfl rfl rfl ?_
      refine s_iadd (nx := 23) hO rfl rfl ?_
      obtain ⟨b4, H⟩ := H
      refine s_iald (nx := 24) hO rfl (hs_I (kf1_1 hg)) b4 rfl ?_
      refine goV ((sI s (g + 2) (ix ((v1 * (nI 9)) + x2)))) (fun x5 ex5 => ?_)
      replace H := H x5 ex5
      refine e_istore (nx := 26) (l' := [(5, .int x5), (0, .ref (q_b G + g)), (1, .int v1), (2, .ref (q_b G + a2)), (3, .int x1), (4, .int x2)]) ex5 hO rfl (by decide) rfl rfl ?_
      refine s_aload_n (nx := 27) hO rfl rfl rfl ?_
      refine s_getf (v := .ref (q_b G + (g + 2))) (nx := 30) hO rfl rfl (hs_o1 hg) rfl rfl ?_
      refine s_iload_n (nx := 31) hO rfl rfl rfl ?_
      refine s_bipush (x := (nI 9)) (nx := 33) hO rfl (by decide) rfl ?_
      refine s_imul (nx := 34) hO rfl rfl ?_
      refine s_iload (nx := 36) hO rfl rfl rfl ?_
      refine s_iadd (nx := 37) hO rfl rfl ?_
      refine s_iconst (x := 1) (nx := 38) hO rfl (by decide) rfl ?_
      refine s_iadd (nx := 39) hO rfl rfl ?_
      obtain ⟨b6, H⟩ := H
      refine s_iald (nx := 40) hO rfl (hs_I (kf1_1 hg)) b6 rfl ?_
      refine s_iload (nx := 42) hO rfl rfl rfl ?_
      refine s_isub (nx := 43) hO rfl rfl ?_
      refine goV (((sI s (g + 2) (ix (((v1 * (nI 9)) + x2) + 1))) - x5)) (fun x7 ex7 => ?_)
      replace H := H x7 ex7
      refine e_istore (nx := 45) (l' := [(6, .int x7), (5, .int x5), (0, .ref (q_b G + g)), (1, .int v1), (2, .ref (q_b G + a2)), (3, .int x1), (4, .int x2)]) ex7 hO rfl (by decide) rfl rfl ?_
      refine s_iload_n (nx := 46) hO rfl rfl rfl ?_
      refine s_iload (nx := 48) hO rfl rfl rfl ?_
      refine s_imul (nx := 49) hO rfl rfl ?_
      refine s_iload (nx := 51) hO rfl rfl rfl ?_
      refine s_iconst (x := 1) (nx := 52) hO rfl (by decide) rfl ?_
      refine goK (H (fun (y8 : Int32) (y9 : Int32) => xEx G mX1_find 71 [(0, .ref (q_b G + g)), (1, .int v1), (2, .ref (q_b G + a2)), (4, .int x2)] [.int y8, .int y9] (hS G s) z 0 0 (yPi G z s Q)) (fun y8 y9 H => ?_)) (fun H => ?_)
      · show xEx G mX1_find 71 [(0, .ref (q_b G + g)), (1, .int v1), (2, .ref (q_b G + a2)), (4, .int x2)] [.int y8, .int y9] (hS G s) z 0 0 (yPi G z s Q)
        refine s_iadd (nx := 72) hO rfl rfl ?_
        refine goV ((y9 + y8)) (fun x10 ex10 => ?_)
        replace H := H x10 ex10
        refine e_istore_n (nx := 73) (l' := [(3, .int x10), (0, .ref (q_b G + g)), (1, .int v1), (2, .ref (q_b G + a2)), (4, .int x2)]) ex10 hO rfl (by decide) rfl rfl ?_
        refine goV ((x2 + 1)) (fun x11 ex11 => ?_)
        replace H := H x11 ex11
        refine e_iinc (nx := 76) (l' := [(4, .int x11), (3, .int x10), (0, .ref (q_b G + g)), (1, .int v1), (2, .ref (q_b G + a2))]) ex11 hO rfl (by decide) rfl rfl rfl rfl ?_
        refine s_goto hO rfl ?_
        exact xEx.loc (x_sub1 (List.Mem.tail _ (List.Mem.tail _ (List.Mem.head _))) (x_sub1 (List.Mem.tail _ (List.Mem.tail _ (List.Mem.tail _ (List.Mem.head _)))) (x_sub1 (List.Mem.tail _ (List.Mem.tail _ (List.Mem.tail _ (List.Mem.tail _ (List.Mem.head _))))) (x_sub1 (List.Mem.tail _ (List.Mem.head _)) (x_sub1 (List.Mem.head _) x_sub0))))) H
      refine s_icmp_ne (nx := 55) hO rfl rfl (fun c52 => ?_) (fun c52 => ?_)
      · replace H := H.1 c52
        refine s_aload_n (nx := 60) hO rfl rfl rfl ?_
        refine s_iload (nx := 62) hO rfl rfl rfl ?_
        refine s_iload (nx := 64) hO rfl rfl rfl ?_
        refine s_aload_n (nx := 65) hO rfl rfl rfl ?_
        refine s_iload (nx := 67) hO rfl rfl rfl ?_
        obtain ⟨b12, H⟩ := H
        refine s_iald (nx := 68) hO rfl (hs_I ha2) b12 rfl ?_
        refine s_callV [.int x5, .int x7, .int (sI s a2 (ix x2))] (ci := 1) (F := TX1) (N := 3) (nx := 71) hO rfl kX1_find_71 (by rw [hcl]; rfl) (hs_o1 hg) (w_X1_interval hG hg H) rfl rfl (Nat.le_of_ble_eq_true rfl) (Nat.zero_le _) (Nat.zero_le _) rfl (k_Pi (fun r13 H => ?_))
        exact xEx.loc (x_sub1 (List.Mem.tail _ (List.Mem.tail _ (List.Mem.head _))) (x_sub1 (List.Mem.tail _ (List.Mem.tail _ (List.Mem.tail _ (List.Mem.head _)))) (x_sub1 (List.Mem.tail _ (List.Mem.tail _ (List.Mem.tail _ (List.Mem.tail _ (List.Mem.head _))))) (x_sub1 (List.Mem.tail _ (List.Mem.tail _ (List.Mem.tail _ (List.Mem.tail _ (List.Mem.tail _ (List.Mem.tail _ (List.Mem.head _))))))) x_sub0)))) H
      · replace H := H.2 c52
        refine s_iconst (x := 0) (nx := 56) hO rfl (by decide) rfl ?_
        refine s_goto hO rfl ?_
        exact xEx.loc (x_sub1 (List.Mem.tail _ (List.Mem.tail _ (List.Mem.head _))) (x_sub1 (List.Mem.tail _ (List.Mem.tail _ (List.Mem.tail _ (List.Mem.head _)))) (x_sub1 (List.Mem.tail _ (List.Mem.tail _ (List.Mem.tail _ (List.Mem.tail _ (List.Mem.head _))))) (x_sub1 (List.Mem.tail _ (List.Mem.tail _ (List.Mem.tail _ (List.Mem.tail _ (List.Mem.tail _ (List.Mem.tail _ (List.Mem.head _))))))) x_sub0)))) H
  refine s_istore (nx := 5) (l' := [(4, .int 0), (3, .int 0), (0, .ref (q_b G + g)), (1, .int v1), (2, .ref (q_b G + a2))]) hO rfl (by decide) rfl rfl ?_
  exact xEx.loc (x_sub1 (List.Mem.tail _ (List.Mem.tail _ (List.Mem.head _))) (x_sub1 (List.Mem.tail _ (List.Mem.tail _ (List.Mem.tail _ (List.Mem.head _)))) (x_sub1 (List.Mem.tail _ (List.Mem.tail _ (List.Mem.tail _ (List.Mem.tail _ (List.Mem.head _))))) (x_sub1 (List.Mem.tail _ (List.Mem.head _)) (x_sub1 (List.Mem.head _) x_sub0))))) H
def W_X1_callAt (s : yS) (g : Nat) (v1 : Int32) (Q : Int32 → Prop) : Prop :=
 ∀ P2 : Int32 → Prop, (∀ (x1 : Int32), ((((nI 15) ≤ x1 → Q x1)
  ∧ (¬ (nI 15) ≤ x1 → vp_in (x1 + 1) 17 ∧ 
   ((v1 < (sI s (g + 3) (ix (x1 + 1))) → Q x1)
   ∧ (¬ v1 < (sI s (g + 3) (ix (x1 + 1))) → ∀ x3 : Int32, x3 = (x1 + 1) → 
    P2 x3))))) → P2 x1) → 
 P2 0
set_option maxRecDepth 100000 in
set_option maxHeartbeats 40000000 in
theorem w_X1_callAt {G : xG} (hG : yG G) {z : Nat} {s : yS} {g : Nat} {v1 : Int32} {Q : Int32 → Prop} (hg : kd g = some (5, 0)) (H : W_X1_callAt s g v1 Q) : xC G mX1_callAt [.ref (q_b G + g), .int v1] (hS G s) z 0 0 (yPi G z s Q) := by
  have hW := hG.1
  have hcl := hG.2.1
  have hty := hG.2.2.1
  have hO : xO G mX1_callAt tbX1_callAt ptX1_callAt := ⟨tkX1_callAt, pkX1_callAt hcl⟩
  unfold W_X1_callAt at H
  refine xC.of hW (by decide) rfl (Nat.le_of_ble_eq_true rfl) ?_
  refine s_iconst (x := 0) (nx := 1) hO rfl (by decide) rfl ?_
  refine goK (H (fun (x1 : Int32) => xEx G mX1_callAt 2 [(0, .ref (q_b G + g)), (1, .int v1), (2, .int x1)] [] (hS G s) z 0 0 (yPi G z s Q)) (fun x1 H => ?_)) (fun H => ?_)
  · show xEx G mX1_callAt 2 [(0, .ref (q_b G + g)), (1, .int v1), (2, .int x1)] [] (hS G s) z 0 0 (yPi G z s Q)
    refine s_iload_n (nx := 3) hO rfl rfl rfl ?_
    refine s_bipush (x := (nI 15)) (nx := 5) hO rfl (by decide) rfl ?_
    refine s_icmp_ge (nx := 8) hO rfl rfl (fun c5 => ?_) (fun c5 => ?_)
    · replace H := H.1 c5
      refine s_iload_n (nx := 27) hO rfl rfl rfl ?_
      exact s_iret hO rfl rfl rfl ⟨rfl, _, rfl, rfl, H⟩
    · replace H := H.2 c5
      refine s_aload_n (nx := 9) hO rfl rfl rfl ?_
      refine s_getf (v := .ref (q_b G + (g + 3))) (nx := 12) hO rfl rfl (hs_o1 hg) rfl rfl ?_
      refine s_iload_n (nx := 13) hO rfl rfl rfl ?_
      refine s_iconst (x := 1) (nx := 14) hO rfl (by decide) rfl ?_
      refine s_iadd (nx := 15) hO rfl rfl ?_
      obtain ⟨b2, H⟩ := H
      refine s_iald (nx := 16) hO rfl (hs_I (kf1_2 hg)) b2 rfl ?_
      refine s_iload_n (nx := 17) hO rfl rfl rfl ?_
      refine s_icmp_gt (nx := 20) hO rfl rfl (fun c17 => ?_) (fun c17 => ?_)
      · replace H := H.1 c17
        refine s_iload_n (nx := 27) hO rfl rfl rfl ?_
        exact s_iret hO rfl rfl rfl ⟨rfl, _, rfl, rfl, H⟩
      · replace H := H.2 c17
        refine goV ((x1 + 1)) (fun x3 ex3 => ?_)
        replace H := H x3 ex3
        refine e_iinc (nx := 23) (l' := [(2, .int x3), (0, .ref (q_b G + g)), (1, .int v1)]) ex3 hO rfl (by decide) rfl rfl rfl rfl ?_
        refine s_goto hO rfl ?_
        exact xEx.loc (x_sub1 (List.Mem.tail _ (List.Mem.head _)) (x_sub1 (List.Mem.tail _ (List.Mem.tail _ (List.Mem.head _))) (x_sub1 (List.Mem.head _) x_sub0))) H
  refine s_istore_n (nx := 2) (l' := [(2, .int 0), (0, .ref (q_b G + g)), (1, .int v1)]) hO rfl (by decide) rfl rfl ?_
  exact xEx.loc (x_sub1 (List.Mem.tail _ (List.Mem.head _)) (x_sub1 (List.Mem.tail _ (List.Mem.tail _ (List.Mem.head _))) (x_sub1 (List.Mem.head _) x_sub0))) H
def W_X2_forget (s : yS) (Q : yS → Prop) : Prop :=
 vp_in 0 8 ∧ ∀ s2 : yS, s2 = wI s 124 (ix 0) (-1) → 
 Q s2
set_option maxRecDepth 100000 in
set_option maxHeartbeats 40000000 in
theorem w_X2_forget {G : xG} (hG : yG G) {z : Nat} {s : yS} {Q : yS → Prop} (H : W_X2_forget s Q) : xC G mX2_forget [.ref (q_b G + 123)] (hS G s) z 0 0 (yQv G z Q) := by
  have hW := hG.1
  have hcl := hG.2.1
  have hty := hG.2.2.1
  have hO : xO G mX2_forget tbX2_forget ptX2_forget := ⟨tkX2_forget, pkX2_forget hcl⟩
  unfold W_X2_forget at H
  refine xC.of hW (by decide) rfl (Nat.le_of_ble_eq_true rfl) ?_
  refine s_aload_n (nx := 1) hO rfl rfl rfl ?_
  refine s_getf (v := .ref (q_b G + 124)) (nx := 4) hO rfl rfl (hs_o2 kc123) rfl rfl ?_
  refine s_iconst (x := 0) (nx := 5) hO rfl (by decide) rfl ?_
  refine s_iconst (x := (-1)) (nx := 6) hO rfl (by decide) rfl ?_
  obtain ⟨b1, H⟩ := H
  refine goV (wI s 124 (ix 0) (-1)) (fun s2 es2 => ?_)
  replace H := H s2 es2
  refine s_iast (nx := 7) hO rfl (hs_I kc124) b1 rfl ?_
  refine xEx.at (up_I kc124 es2) ?_
  exact s_vret hO rfl rfl ⟨rfl, _, rfl, rfl, H⟩
def W_X2_hasRun (s : yS) (Q : Int32 → Prop) : Prop :=
 vp_in 0 8 ∧ 
 (((sI s 124 (ix 0)) = (-1) → Q 0)
 ∧ (¬ (sI s 124 (ix 0)) = (-1) → Q 1))
set_option maxRecDepth 100000 in
set_option maxHeartbeats 40000000 in
theorem w_X2_hasRun {G : xG} (hG : yG G) {z : Nat} {s : yS} {Q : Int32 → Prop} (H : W_X2_hasRun s Q) : xC G mX2_hasRun [.ref (q_b G + 123)] (hS G s) z 0 0 (yPi G z s Q) := by
  have hW := hG.1
  have hcl := hG.2.1
  have hty := hG.2.2.1
  have hO : xO G mX2_hasRun tbX2_hasRun ptX2_hasRun := ⟨tkX2_hasRun, pkX2_hasRun hcl⟩
  unfold W_X2_hasRun at H
  refine xC.of hW (by decide) rfl (Nat.le_of_ble_eq_true rfl) ?_
  refine s_aload_n (nx := 1) hO rfl rfl rfl ?_
  refine s_getf (v := .ref (q_b G + 124)) (nx := 4) hO rfl rfl (hs_o2 kc123) rfl rfl ?_
  refine s_iconst (x := 0) (nx := 5) hO rfl (by decide) rfl ?_
  obtain ⟨b1, H⟩ := H
  refine s_iald (nx := 6) hO rfl (hs_I kc124) b1 rfl ?_
  refine s_iconst (x := (-1)) (nx := 7) hO rfl (by decide) rfl ?_
  refine s_icmp_eq (nx := 10) hO rfl rfl (fun c7 => ?_) (fun c7 => ?_)
  · replace H := H.1 c7
    refine s_iconst (x := 0) (nx := 15) hO rfl (by decide) rfl ?_
    exact s_iret hO rfl rfl rfl ⟨rfl, _, rfl, rfl, H⟩
  · replace H := H.2 c7
    refine s_iconst (x := 1) (nx := 11) hO rfl (by decide) rfl ?_
    refine s_goto hO rfl ?_
    exact s_iret hO rfl rfl rfl ⟨rfl, _, rfl, rfl, H⟩
def W_X2_takeAnswer (s : yS) (v1 : Int32) (Q : Int32 → yS → Prop) : Prop :=
 ((¬ (sI s 123 2) = (nI 256) → vp_in (sI s 123 2) 256 ∧ ∀ s2 : yS, s2 = wI s 128 (ix (sI s 123 2)) v1 → 
  ∀ s3 : yS, s3 = wI s2 123 2 ((sI s2 123 2) + 1) → 
  Q (sI s3 123 2) s3)
 ∧ ((sI s 123 2) = (nI 256) → Q (-1) s))
set_option maxRecDepth 100000 in
set_option maxHeartbeats 40000000 in
theorem w_X2_takeAnswer {G : xG} (hG : yG G) {z : Nat} {s : yS} {v1 : Int32} {Q : Int32 → yS → Prop} (H : W_X2_takeAnswer s v1 Q) : xC G mX2_takeAnswer [.ref (q_b G + 123), .int v1] (hS G s) z 0 0 (yQi G z Q) := by
  have hW := hG.1
  have hcl := hG.2.1
  have hty := hG.2.2.1
  have hO : xO G mX2_takeAnswer tbX2_takeAnswer ptX2_takeAnswer := ⟨tkX2_takeAnswer, pkX2_takeAnswer hcl⟩
  unfold W_X2_takeAnswer at H
  refine xC.of hW (by decide) rfl (Nat.le_of_ble_eq_true rfl) ?_
  refine s_aload_n (nx := 1) hO rfl rfl rfl ?_
  refine s_getf (v := .int (sI s 123 2)) (nx := 4) hO rfl rfl (hs_o2 kc123) rfl rfl ?_
  refine s_sipush (x := (nI 256)) (nx := 7) hO rfl (by decide) rfl ?_
  refine s_icmp_ne (nx := 10) hO rfl rfl (fun c7 => ?_) (fun c7 => ?_)
  · replace H := H.1 c7
    refine s_aload_n (nx := 13) hO rfl rfl rfl ?_
    refine s_getf (v := .ref (q_b G + 128)) (nx := 16) hO rfl rfl (hs_o2 kc123) rfl rfl ?_
    refine s_aload_n (nx := 17) hO rfl rfl rfl ?_
    refine s_getf (v := .int (sI s 123 2)) (nx := 20) hO rfl rfl (hs_o2 kc123) rfl rfl ?_
    refine s_iload_n (nx := 21) hO rfl rfl rfl ?_
    obtain ⟨b1, H⟩ := H
    refine goV (wI s 128 (ix (sI s 123 2)) v1) (fun s2 es2 => ?_)
    replace H := H s2 es2
    refine s_iast (nx := 22) hO rfl (hs_I kc128) b1 rfl ?_
    refine xEx.at (up_I kc128 es2) ?_
    refine s_aload_n (nx := 23) hO rfl rfl rfl ?_
    refine s_dup (nx := 24) hO rfl rfl rfl ?_
    refine s_getf (v := .int (sI s2 123 2)) (nx := 27) hO rfl rfl (hs_o2 kc123) rfl rfl ?_
    refine s_iconst (x := 1) (nx := 28) hO rfl (by decide) rfl ?_
    refine s_iadd (nx := 29) hO rfl rfl ?_
    refine goV (wI s2 123 2 ((sI s2 123 2) + 1)) (fun s3 es3 => ?_)
    replace H := H s3 es3
    refine s_putf (nx := 32) hO rfl rfl (hs_o2 kc123) (Nat.le_of_ble_eq_true rfl) (by rw [hty]; rfl) (by rw [hty]; rfl) pX2_2 rfl ?_
    refine xEx.at (up_oI2 kc123 es3) ?_
    refine s_aload_n (nx := 33) hO rfl rfl rfl ?_
    refine s_getf (v := .int (sI s3 123 2)) (nx := 36) hO rfl rfl (hs_o2 kc123) rfl rfl ?_
    exact s_iret hO rfl rfl rfl ⟨rfl, _, _, rfl, rfl, H⟩
  · replace H := H.2 c7
    refine s_iconst (x := (-1)) (nx := 11) hO rfl (by decide) rfl ?_
    exact s_iret hO rfl rfl rfl ⟨rfl, _, _, rfl, rfl, H⟩
def W_X2_traced (s : yS) (v1 : Int32) (v2 : Int32) (Q : Int32 → Prop) : Prop :=
 ∀ P26 : Int32 → Prop, (∀ (y1 : Int32), (((y1 = 0 → Q 0)
  ∧ (¬ y1 = 0 → ((v2 < 0 → Q 0)
   ∧ (¬ v2 < 0 → (((nI 5) ≤ v2 → Q 0)
    ∧ (¬ (nI 5) ≤ v2 → vp_in ((v1 * (nI 5)) + v2) 1280 ∧ 
     Q (sI s 129 (ix ((v1 * (nI 5)) + v2)))))))))) → P26 y1) → 
 ((v1 < 0 → P26 0)
 ∧ (¬ v1 < 0 → (((nI 256) ≤ v1 → P26 0)
  ∧ (¬ (nI 256) ≤ v1 → vp_in (nI 3) 8 ∧ 
   (((sI s 124 (ix (nI 3))) ≤ v1 → P26 0)
   ∧ (¬ (sI s 124 (ix (nI 3))) ≤ v1 → P26 1))))))
set_option maxRecDepth 100000 in
set_option maxHeartbeats 40000000 in
theorem w_X2_traced {G : xG} (hG : yG G) {z : Nat} {s : yS} {v1 : Int32} {v2 : Int32} {Q : Int32 → Prop} (H : W_X2_traced s v1 v2 Q) : xC G mX2_traced [.ref (q_b G + 123), .int v1, .int v2] (hS G s) z 0 0 (yPi G z s Q) := by
  have hW := hG.1
  have hcl := hG.2.1
  have hty := hG.2.2.1
  have hO : xO G mX2_traced tbX2_traced ptX2_traced := ⟨tkX2_traced, pkX2_traced hcl⟩
  unfold W_X2_traced at H
  refine xC.of hW (by decide) rfl (Nat.le_of_ble_eq_true rfl) ?_
  refine s_iload_n (nx := 1) hO rfl rfl rfl ?_
  refine goK (H (fun (y1 : Int32) => xEx G mX2_traced 26 [(0, .ref (q_b G + 123)), (1, .int v1), (2, .int v2)] [.int y1] (hS G s) z 0 0 (yPi G z s Q)) (fun y1 H => ?_)) (fun H => ?_)
  · show xEx G mX2_traced 26 [(0, .ref (q_b G + 123)), (1, .int v1), (2, .int v2)] [.int y1] (hS G s) z 0 0 (yPi G z s Q)
    refine s_istore_n (nx := 27) (l' := [(3, .int y1), (0, .ref (q_b G + 123)), (1, .int v1), (2, .int v2)]) hO rfl (by decide) rfl rfl ?_
    refine s_iload_n (nx := 28) hO rfl rfl rfl ?_
    refine s_if_eq (nx := 31) hO rfl rfl (fun c28 => ?_) (fun c28 => ?_)
    · replace H := H.1 c28
      refine s_iconst (x := 0) (nx := 54) hO rfl (by decide) rfl ?_
      exact s_iret hO rfl rfl rfl ⟨rfl, _, rfl, rfl, H⟩
    · replace H := H.2 c28
      refine s_iload_n (nx := 32) hO rfl rfl rfl ?_
      refine s_if_lt (nx := 35) hO rfl rfl (fun c32 => ?_) (fun c32 => ?_)
      · replace H := H.1 c32
        refine s_iconst (x := 0) (nx := 54) hO rfl (by decide) rfl ?_
        exact s_iret hO rfl rfl rfl ⟨rfl, _, rfl, rfl, H⟩
      · replace H := H.2 c32
        refine s_iload_n (nx := 36) hO rfl rfl rfl ?_
        refine s_iconst (x := (nI 5)) (nx := 37) hO rfl (by decide) rfl ?_
        refine s_icmp_ge (nx := 40) hO rfl rfl (fun c37 => ?_) (fun c37 => ?_)
        · replace H := H.1 c37
          refine s_iconst (x := 0) (nx := 54) hO rfl (by decide) rfl ?_
          exact s_iret hO rfl rfl rfl ⟨rfl, _, rfl, rfl, H⟩
        · replace H := H.2 c37
          refine s_aload_n (nx := 41) hO rfl rfl rfl ?_
          refine s_getf (v := .ref (q_b G + 129)) (nx := 44) hO rfl rfl (hs_o2 kc123) rfl rfl ?_
          refine s_iload_n (nx := 45) hO rfl rfl rfl ?_
          refine s_iconst (x := (nI 5)) (nx := 46) hO rfl (by decide) rfl ?_
          refine s_imul (nx := 47) hO rfl rfl ?_
          refine s_iload_n (nx := 48) hO rfl rfl rfl ?_
          refine s_iadd (nx := 49) hO rfl rfl ?_
          obtain ⟨b2, H⟩ := H
          refine s_iald (nx := 50) hO rfl (hs_I kc129) b2 rfl ?_
          refine s_goto hO rfl ?_
          exact s_iret hO rfl rfl rfl ⟨rfl, _, rfl, rfl, H⟩
  refine s_if_lt (nx := 4) hO rfl rfl (fun c1 => ?_) (fun c1 => ?_)
  · replace H := H.1 c1
    refine s_iconst (x := 0) (nx := 26) hO rfl (by decide) rfl ?_
    exact xEx.loc (x_sub1 (List.Mem.head _) (x_sub1 (List.Mem.tail _ (List.Mem.head _)) (x_sub1 (List.Mem.tail _ (List.Mem.tail _ (List.Mem.head _))) x_sub0))) H
  · replace H := H.2 c1
    refine s_iload_n (nx := 5) hO rfl rfl rfl ?_
    refine s_sipush (x := (nI 256)) (nx := 8) hO rfl (by decide) rfl ?_
    refine s_icmp_ge (nx := 11) hO rfl rfl (fun c8 => ?_) (fun c8 => ?_)
    · replace H := H.1 c8
      refine s_iconst (x := 0) (nx := 26) hO rfl (by decide) rfl ?_
      exact xEx.loc (x_sub1 (List.Mem.head _) (x_sub1 (List.Mem.tail _ (List.Mem.head _)) (x_sub1 (List.Mem.tail _ (List.Mem.tail _ (List.Mem.head _))) x_sub0))) H
    · replace H := H.2 c8
      refine s_iload_n (nx := 12) hO rfl rfl rfl ?_
      refine s_aload_n (nx := 13) hO rfl rfl rfl ?_
      refine s_getf (v := .ref (q_b G + 124)) (nx := 16) hO rfl rfl (hs_o2 kc123) rfl rfl ?_
      refine s_iconst (x := (nI 3)) (nx := 17) hO rfl (by decide) rfl ?_
      obtain ⟨b3, H⟩ := H
      refine s_iald (nx := 18) hO rfl (hs_I kc124) b3 rfl ?_
      refine s_icmp_ge (nx := 21) hO rfl rfl (fun c18 => ?_) (fun c18 => ?_)
      · replace H := H.1 c18
        refine s_iconst (x := 0) (nx := 26) hO rfl (by decide) rfl ?_
        exact xEx.loc (x_sub1 (List.Mem.head _) (x_sub1 (List.Mem.tail _ (List.Mem.head _)) (x_sub1 (List.Mem.tail _ (List.Mem.tail _ (List.Mem.head _))) x_sub0))) H
      · replace H := H.2 c18
        refine s_iconst (x := 1) (nx := 22) hO rfl (by decide) rfl ?_
        refine s_goto hO rfl ?_
        exact xEx.loc (x_sub1 (List.Mem.head _) (x_sub1 (List.Mem.tail _ (List.Mem.head _)) (x_sub1 (List.Mem.tail _ (List.Mem.tail _ (List.Mem.head _))) x_sub0))) H
def W_J7_fill_53178 (s : yS) (a1 n1 : Nat) (v2 : Int32) (Q : yS → Prop) : Prop :=
 ∀ P5 : Int32 → Int32 → yS → Prop, (∀ (x1 : Int32) (x2 : Int32) (s3 : yS), (((x2 ≤ x1 → Q s3)
  ∧ (¬ x2 ≤ x1 → vp_in x1 n1 ∧ ∀ s5 : yS, s5 = wI s3 a1 (ix x1) v2 → 
   ∀ x6 : Int32, x6 = (x1 + 1) → 
   P5 x6 x2 s5))) → P5 x1 x2 s3) → 
 ∀ x7 : Int32, x7 = (nI n1) → 
 P5 0 x7 s
set_option maxRecDepth 100000 in
set_option maxHeartbeats 40000000 in
theorem w_J7_fill_53178 {G : xG} (hG : yG G) {z : Nat} {s : yS} {a1 n1 : Nat} {v2 : Int32} {Q : yS → Prop} (ha1 : kd a1 = some (0, n1)) (H : W_J7_fill_53178 s a1 n1 v2 Q) : xC G mJ7_fill_53178 [.ref (q_b G + a1), .int v2] (hS G s) z 0 0 (yQv G z Q) := by
  have hW := hG.1
  have hcl := hG.2.1
  have hty := hG.2.2.1
  have hO : xO G mJ7_fill_53178 tbJ7_fill_53178 ptJ7_fill_53178 := ⟨tkJ7_fill_53178, pkJ7_fill_53178 hcl⟩
  unfold W_J7_fill_53178 at H
  refine xC.of hW (by decide) rfl (Nat.le_of_ble_eq_true rfl) ?_
  refine s_iconst (x := 0) (nx := 1) hO rfl (by decide) rfl ?_
  refine s_istore_n (nx := 2) (l' := [(2, .int 0), (0, .ref (q_b G + a1)), (1, .int v2)]) hO rfl (by decide) rfl rfl ?_
  refine s_aload_n (nx := 3) hO rfl rfl rfl ?_
  refine s_alen (nx := 4) hO rfl (hs_I ha1) (by simp) rfl ?_
  refine goK (H (fun (x1 : Int32) (x2 : Int32) (s3 : yS) => xEx G mJ7_fill_53178 5 [(0, .ref (q_b G + a1)), (1, .int v2), (2, .int x1), (3, .int x2)] [] (hS G s3) z 0 0 (yQv G z Q)) (fun x1 x2 s3 H => ?_)) (fun H => ?_)
  · show xEx G mJ7_fill_53178 5 [(0, .ref (q_b G + a1)), (1, .int v2), (2, .int x1), (3, .int x2)] [] (hS G s3) z 0 0 (yQv G z Q)
    refine s_iload_n (nx := 6) hO rfl rfl rfl ?_
    refine s_iload_n (nx := 7) hO rfl rfl rfl ?_
    refine s_icmp_ge (nx := 10) hO rfl rfl (fun c7 => ?_) (fun c7 => ?_)
    · replace H := H.1 c7
      exact s_vret hO rfl rfl ⟨rfl, _, rfl, rfl, H⟩
    · replace H := H.2 c7
      refine s_aload_n (nx := 11) hO rfl rfl rfl ?_
      refine s_iload_n (nx := 12) hO rfl rfl rfl ?_
      refine s_iload_n (nx := 13) hO rfl rfl rfl ?_
      obtain ⟨b4, H⟩ := H
      refine goV (wI s3 a1 (ix x1) v2) (fun s5 es5 => ?_)
      replace H := H s5 es5
      refine s_iast (nx := 14) hO rfl (hs_I ha1) b4 rfl ?_
      refine xEx.at (up_I ha1 es5) ?_
      refine goV ((x1 + 1)) (fun x6 ex6 => ?_)
      replace H := H x6 ex6
      refine e_iinc (nx := 17) (l' := [(2, .int x6), (0, .ref (q_b G + a1)), (1, .int v2), (3, .int x2)]) ex6 hO rfl (by decide) rfl rfl rfl rfl ?_
      refine s_goto hO rfl ?_
      exact xEx.loc (x_sub1 (List.Mem.tail _ (List.Mem.head _)) (x_sub1 (List.Mem.tail _ (List.Mem.tail _ (List.Mem.head _))) (x_sub1 (List.Mem.head _) (x_sub1 (List.Mem.tail _ (List.Mem.tail _ (List.Mem.tail _ (List.Mem.head _)))) x_sub0)))) H
  refine goV ((nI n1)) (fun x7 ex7 => ?_)
  replace H := H x7 ex7
  refine e_istore_n (nx := 5) (l' := [(3, .int x7), (2, .int 0), (0, .ref (q_b G + a1)), (1, .int v2)]) ex7 hO rfl (by decide) rfl rfl ?_
  exact xEx.loc (x_sub1 (List.Mem.tail _ (List.Mem.tail _ (List.Mem.head _))) (x_sub1 (List.Mem.tail _ (List.Mem.tail _ (List.Mem.tail _ (List.Mem.head _)))) (x_sub1 (List.Mem.tail _ (List.Mem.head _)) (x_sub1 (List.Mem.head _) x_sub0)))) H
def W_X10_begin (s : yS) (g : Nat) (Q : yS → Prop) : Prop :=
 ∀ s1 : yS, s1 = wI s g 0 0 → 
 W_J7_fill_53178 s1 (g + 1) 6 0 
 (fun s2 => Q s2)
set_option maxRecDepth 100000 in
set_option maxHeartbeats 40000000 in
theorem w_X10_begin {G : xG} (hG : yG G) {z : Nat} {s : yS} {g : Nat} {Q : yS → Prop} (hg : kd g = some (14, 0)) (H : W_X10_begin s g Q) : xC G mX10_begin [.ref (q_b G + g)] (hS G s) z 0 0 (yQv G z Q) := by
  have hW := hG.1
  have hcl := hG.2.1
  have hty := hG.2.2.1
  have hO : xO G mX10_begin tbX10_begin ptX10_begin := ⟨tkX10_begin, pkX10_begin hcl⟩
  unfold W_X10_begin at H
  refine xC.of hW (by decide) rfl (Nat.le_of_ble_eq_true rfl) ?_
  refine s_aload_n (nx := 1) hO rfl rfl rfl ?_
  refine s_iconst (x := 0) (nx := 2) hO rfl (by decide) rfl ?_
  refine goV (wI s g 0 0) (fun s1 es1 => ?_)
  replace H := H s1 es1
  refine s_putf (nx := 5) hO rfl rfl (hs_o10 hg) (Nat.le_of_ble_eq_true rfl) (by rw [hty]; rfl) (by rw [hty]; rfl) pX10_0 rfl ?_
  refine xEx.at (up_oI10 hg es1) ?_
  refine s_aload_n (nx := 6) hO rfl rfl rfl ?_
  refine s_getf (v := .ref (q_b G + (g + 1))) (nx := 9) hO rfl rfl (hs_o10 hg) rfl rfl ?_
  refine s_iconst (x := 0) (nx := 10) hO rfl (by decide) rfl ?_
  refine s_callS [.ref (q_b G + (g + 1)), .int 0] (nx := 13) hO rfl kX10_begin_22 (w_J7_fill_53178 hG (kf10_1 hg) H) rfl rfl (Nat.le_of_ble_eq_true rfl) (Nat.zero_le _) (Nat.zero_le _) rfl (k_Qv (fun s2 H => ?_))
  exact s_vret hO rfl rfl ⟨rfl, _, rfl, rfl, H⟩
def W_X2_end (s : yS) (v1 : Int32) (v2 : Int32) (Q : yS → Prop) : Prop :=
 vp_in 0 8 ∧ ∀ s2 : yS, s2 = wI s 124 (ix 0) v1 → 
 vp_in 1 8 ∧ ∀ s4 : yS, s4 = wI s2 124 (ix 1) v2 → 
 Q s4
set_option maxRecDepth 100000 in
set_option maxHeartbeats 40000000 in
theorem w_X2_end {G : xG} (hG : yG G) {z : Nat} {s : yS} {v1 : Int32} {v2 : Int32} {Q : yS → Prop} (H : W_X2_end s v1 v2 Q) : xC G mX2_end [.ref (q_b G + 123), .int v1, .int v2] (hS G s) z 0 0 (yQv G z Q) := by
  have hW := hG.1
  have hcl := hG.2.1
  have hty := hG.2.2.1
  have hO : xO G mX2_end tbX2_end ptX2_end := ⟨tkX2_end, pkX2_end hcl⟩
  unfold W_X2_end at H
  refine xC.of hW (by decide) rfl (Nat.le_of_ble_eq_true rfl) ?_
  refine s_aload_n (nx := 1) hO rfl rfl rfl ?_
  refine s_getf (v := .ref (q_b G + 124)) (nx := 4) hO rfl rfl (hs_o2 kc123) rfl rfl ?_
  refine s_iconst (x := 0) (nx := 5) hO rfl (by decide) rfl ?_
  refine s_iload_n (nx := 6) hO rfl rfl rfl ?_
  obtain ⟨b1, H⟩ := H
  refine goV (wI s 124 (ix 0) v1) (fun s2 es2 => ?_)
  replace H := H s2 es2
  refine s_iast (nx := 7) hO rfl (hs_I kc124) b1 rfl ?_
  refine xEx.at (up_I kc124 es2) ?_
  refine s_aload_n (nx := 8) hO rfl rfl rfl ?_
  refine s_getf (v := .ref (q_b G + 124)) (nx := 11) hO rfl rfl (hs_o2 kc123) rfl rfl ?_
  refine s_iconst (x := 1) (nx := 12) hO rfl (by decide) rfl ?_
  refine s_iload_n (nx := 13) hO rfl rfl rfl ?_
  obtain ⟨b3, H⟩ := H
  refine goV (wI s2 124 (ix 1) v2) (fun s4 es4 => ?_)
  replace H := H s4 es4
  refine s_iast (nx := 14) hO rfl (hs_I kc124) b3 rfl ?_
  refine xEx.at (up_I kc124 es4) ?_
  exact s_vret hO rfl rfl ⟨rfl, _, rfl, rfl, H⟩
def W_X2_argument (s : yS) (v1 : Int32) (v2 : Int32) (Q : Int32 → Prop) : Prop :=
 (((v1 - v1 / (nI 4) * (nI 4)) ≤ v2 → Q 0)
 ∧ (¬ (v1 - v1 / (nI 4) * (nI 4)) ≤ v2 → vp_in (((sI s 123 17) - (v1 - v1 / (nI 4) * (nI 4))) + v2) 640 ∧ 
  Q (sI s 131 (ix (((sI s 123 17) - (v1 - v1 / (nI 4) * (nI 4))) + v2)))))
set_option maxRecDepth 100000 in
set_option maxHeartbeats 40000000 in
theorem w_X2_argument {G : xG} (hG : yG G) {z : Nat} {s : yS} {v1 : Int32} {v2 : Int32} {Q : Int32 → Prop} (H : W_X2_argument s v1 v2 Q) : xC G mX2_argument [.ref (q_b G + 123), .int v1, .int v2] (hS G s) z 0 0 (yPi G z s Q) := by
  have hW := hG.1
  have hcl := hG.2.1
  have hty := hG.2.2.1
  have hO : xO G mX2_argument tbX2_argument ptX2_argument := ⟨tkX2_argument, pkX2_argument hcl⟩
  unfold W_X2_argument at H
  refine xC.of hW (by decide) rfl (Nat.le_of_ble_eq_true rfl) ?_
  refine s_iload_n (nx := 1) hO rfl rfl rfl ?_
  refine s_iload_n (nx := 2) hO rfl rfl rfl ?_
  refine s_iconst (x := (nI 4)) (nx := 3) hO rfl (by decide) rfl ?_
  refine s_irem (nx := 4) hO rfl (by decide) rfl ?_
  refine s_icmp_ge (nx := 7) hO rfl rfl (fun c4 => ?_) (fun c4 => ?_)
  · replace H := H.1 c4
    refine s_iconst (x := 0) (nx := 26) hO rfl (by decide) rfl ?_
    exact s_iret hO rfl rfl rfl ⟨rfl, _, rfl, rfl, H⟩
  · replace H := H.2 c4
    refine s_aload_n (nx := 8) hO rfl rfl rfl ?_
    refine s_getf (v := .ref (q_b G + 131)) (nx := 11) hO rfl rfl (hs_o2 kc123) rfl rfl ?_
    refine s_aload_n (nx := 12) hO rfl rfl rfl ?_
    refine s_getf (v := .int (sI s 123 17)) (nx := 15) hO rfl rfl (hs_o2 kc123) rfl rfl ?_
    refine s_iload_n (nx := 16) hO rfl rfl rfl ?_
    refine s_iconst (x := (nI 4)) (nx := 17) hO rfl (by decide) rfl ?_
    refine s_irem (nx := 18) hO rfl (by decide) rfl ?_
    refine s_isub (nx := 19) hO rfl rfl ?_
    refine s_iload_n (nx := 20) hO rfl rfl rfl ?_
    refine s_iadd (nx := 21) hO rfl rfl ?_
    obtain ⟨b1, H⟩ := H
    refine s_iald (nx := 22) hO rfl (hs_I kc131) b1 rfl ?_
    refine s_goto hO rfl ?_
    exact s_iret hO rfl rfl rfl ⟨rfl, _, rfl, rfl, H⟩
def W_X3_isTrue (s : yS) (g : Nat) (v1 : Int32) (v2 : Int32) (Q : Int32 → Prop) : Prop :=
 vp_in v1 864 ∧ 
 ∀ x2 : Int32, x2 = (sI s (g + 8) (ix v1)) → 
 vp_in v1 864 ∧ 
 ∀ x4 : Int32, x4 = (sI s (g + 7) (ix v1)) → 
 ((¬ x4 = 0 → ((¬ x4 = 1 → ((v2 ≤ x2 → Q 0)
   ∧ (¬ v2 ≤ x2 → Q 1)))
  ∧ (x4 = 1 → ((¬ v2 = x2 → Q 0)
   ∧ (v2 = x2 → Q 1)))))
 ∧ (x4 = 0 → ((x2 ≤ v2 → Q 0)
  ∧ (¬ x2 ≤ v2 → Q 1))))
set_option maxRecDepth 100000 in
set_option maxHeartbeats 40000000 in
theorem w_X3_isTrue {G : xG} (hG : yG G) {z : Nat} {s : yS} {g : Nat} {v1 : Int32} {v2 : Int32} {Q : Int32 → Prop} (hg : kd g = some (7, 0)) (H : W_X3_isTrue s g v1 v2 Q) : xC G mX3_isTrue [.ref (q_b G + g), .int v1, .int v2] (hS G s) z 0 0 (yPi G z s Q) := by
  have hW := hG.1
  have hcl := hG.2.1
  have hty := hG.2.2.1
  have hO : xO G mX3_isTrue tbX3_isTrue ptX3_isTrue := ⟨tkX3_isTrue, pkX3_isTrue hcl⟩
  unfold W_X3_isTrue at H
  refine xC.of hW (by decide) rfl (Nat.le_of_ble_eq_true rfl) ?_
  refine s_aload_n (nx := 1) hO rfl rfl rfl ?_
  refine s_getf (v := .ref (q_b G + (g + 8))) (nx := 4) hO rfl rfl (hs_o3 hg) rfl rfl ?_
  refine s_iload_n (nx := 5) hO rfl rfl rfl ?_
  obtain ⟨b1, H⟩ := H
  refine s_iald (nx := 6) hO rfl (hs_I (kf3_14 hg)) b1 rfl ?_
  refine goV ((sI s (g + 8) (ix v1))) (fun x2 ex2 => ?_)
  replace H := H x2 ex2
  refine e_istore_n (nx := 7) (l' := [(3, .int x2), (0, .ref (q_b G + g)), (1, .int v1), (2, .int v2)]) ex2 hO rfl (by decide) rfl rfl ?_
  refine s_aload_n (nx := 8) hO rfl rfl rfl ?_
  refine s_getf (v := .ref (q_b G + (g + 7))) (nx := 11) hO rfl rfl (hs_o3 hg) rfl rfl ?_
  refine s_iload_n (nx := 12) hO rfl rfl rfl ?_
  obtain ⟨b3, H⟩ := H
  refine s_iald (nx := 13) hO rfl (hs_I (kf3_13 hg)) b3 rfl ?_
  refine goV ((sI s (g + 7) (ix v1))) (fun x4 ex4 => ?_)
  replace H := H x4 ex4
  refine e_istore (nx := 15) (l' := [(4, .int x4), (3, .int x2), (0, .ref (q_b G + g)), (1, .int v1), (2, .int v2)]) ex4 hO rfl (by decide) rfl rfl ?_
  refine s_iload (nx := 17) hO rfl rfl rfl ?_
  refine s_if_ne (nx := 20) hO rfl rfl (fun c17 => ?_) (fun c17 => ?_)
  · replace H := H.1 c17
    refine s_iload (nx := 35) hO rfl rfl rfl ?_
    refine s_iconst (x := 1) (nx := 36) hO rfl (by decide) rfl ?_
    refine s_icmp_ne (nx := 39) hO rfl rfl (fun c36 => ?_) (fun c36 => ?_)
    · replace H := H.1 c36
      refine s_iload_n (nx := 53) hO rfl rfl rfl ?_
      refine s_iload_n (nx := 54) hO rfl rfl rfl ?_
      refine s_icmp_le (nx := 57) hO rfl rfl (fun c54 => ?_) (fun c54 => ?_)
      · replace H := H.1 c54
        refine s_iconst (x := 0) (nx := 62) hO rfl (by decide) rfl ?_
        exact s_iret hO rfl rfl rfl ⟨rfl, _, rfl, rfl, H⟩
      · replace H := H.2 c54
        refine s_iconst (x := 1) (nx := 58) hO rfl (by decide) rfl ?_
        refine s_goto hO rfl ?_
        exact s_iret hO rfl rfl rfl ⟨rfl, _, rfl, rfl, H⟩
    · replace H := H.2 c36
      refine s_iload_n (nx := 40) hO rfl rfl rfl ?_
      refine s_iload_n (nx := 41) hO rfl rfl rfl ?_
      refine s_icmp_ne (nx := 44) hO rfl rfl (fun c41 => ?_) (fun c41 => ?_)
      · replace H := H.1 c41
        refine s_iconst (x := 0) (nx := 49) hO rfl (by decide) rfl ?_
        refine s_goto hO rfl ?_
        exact s_iret hO rfl rfl rfl ⟨rfl, _, rfl, rfl, H⟩
      · replace H := H.2 c41
        refine s_iconst (x := 1) (nx := 45) hO rfl (by decide) rfl ?_
        refine s_goto hO rfl ?_
        exact s_iret hO rfl rfl rfl ⟨rfl, _, rfl, rfl, H⟩
  · replace H := H.2 c17
    refine s_iload_n (nx := 21) hO rfl rfl rfl ?_
    refine s_iload_n (nx := 22) hO rfl rfl rfl ?_
    refine s_icmp_ge (nx := 25) hO rfl rfl (fun c22 => ?_) (fun c22 => ?_)
    · replace H := H.1 c22
      refine s_iconst (x := 0) (nx := 30) hO rfl (by decide) rfl ?_
      refine s_goto hO rfl ?_
      exact s_iret hO rfl rfl rfl ⟨rfl, _, rfl, rfl, H⟩
    · replace H := H.2 c22
      refine s_iconst (x := 1) (nx := 26) hO rfl (by decide) rfl ?_
      refine s_goto hO rfl ?_
      exact s_iret hO rfl rfl rfl ⟨rfl, _, rfl, rfl, H⟩
def W_X3_holds (s : yS) (g : Nat) (v1 : Int32) (v2 : Int32) (a3 n3 : Nat) (Q : Int32 → Prop) : Prop :=
 W_X3_isFor s g v1 v2 
 (fun r1 => ((¬ r1 = 0 → vp_in v1 217 ∧ 
  ∀ P19 : Int32 → Prop, (∀ (x3 : Int32), (vp_in (v1 + 1) 217 ∧ 
   (((sI s (g + 5) (ix (v1 + 1))) ≤ x3 → Q 1)
   ∧ (¬ (sI s (g + 5) (ix (v1 + 1))) ≤ x3 → vp_in x3 864 ∧ 
    ∀ x6 : Int32, x6 = (sI s (g + 6) (ix x3)) → 
    ∀ P60 : Int32 → Prop, (∀ (y7 : Int32), (∀ P85 : Int32 → Prop, (∀ (y8 : Int32), (vp_in x3 864 ∧ 
      ((¬ y8 = (sI s (g + 9) (ix x3)) → ∀ x10 : Int32, x10 = (x3 + 1) → 
       P19 x10)
      ∧ (y8 = (sI s (g + 9) (ix x3)) → Q 0))) → P85 y8) → 
     ((y7 = 0 → P85 0)
     ∧ (¬ y7 = 0 → vp_in x6 n3 ∧ 
      W_X3_isTrue s g x3 (sI s a3 (ix x6)) 
      (fun r12 => ((r12 = 0 → P85 0)
      ∧ (¬ r12 = 0 → P85 1)))))) → P60 y7) → 
    (((nI 3) ≤ x6 → P60 1)
    ∧ (¬ (nI 3) ≤ x6 → (((v2 - v2 / (nI 4) * (nI 4)) ≤ x6 → P60 0)
     ∧ (¬ (v2 - v2 / (nI 4) * (nI 4)) ≤ x6 → P60 1))))))) → P19 x3) → 
  ∀ x13 : Int32, x13 = (sI s (g + 5) (ix v1)) → 
  P19 x13)
 ∧ (r1 = 0 → Q 0)))
set_option maxRecDepth 100000 in
set_option maxHeartbeats 40000000 in
theorem w_X3_holds {G : xG} (hG : yG G) {z : Nat} {s : yS} {g : Nat} {v1 : Int32} {v2 : Int32} {a3 n3 : Nat} {Q : Int32 → Prop} (hg : kd g = some (7, 0)) (ha3 : kd a3 = some (0, n3)) (H : W_X3_holds s g v1 v2 a3 n3 Q) : xC G mX3_holds [.ref (q_b G + g), .int v1, .int v2, .ref (q_b G + a3)] (hS G s) z 0 0 (yPi G z s Q) := by
  have hW := hG.1
  have hcl := hG.2.1
  have hty := hG.2.2.1
  have hO : xO G mX3_holds tbX3_holds ptX3_holds := ⟨tkX3_holds, pkX3_holds hcl⟩
  unfold W_X3_holds at H
  refine xC.of hW (by decide) rfl (Nat.le_of_ble_eq_true rfl) ?_
  refine s_aload_n (nx := 1) hO rfl rfl rfl ?_
  refine s_iload_n (nx := 2) hO rfl rfl rfl ?_
  refine s_iload_n (nx := 3) hO rfl rfl rfl ?_
  refine s_callV [.int v1, .int v2] (ci := 3) (F := TX3) (N := 20) (nx := 6) hO rfl kX3_holds_84 (by rw [hcl]; rfl) (hs_o3 hg) (w_X3_isFor hG hg H) rfl rfl (Nat.le_of_ble_eq_true rfl) (Nat.zero_le _) (Nat.zero_le _) rfl (k_Pi (fun r1 H => ?_))
  refine s_if_ne (nx := 9) hO rfl rfl (fun c6 => ?_) (fun c6 => ?_)
  · replace H := H.1 c6
    refine s_aload_n (nx := 12) hO rfl rfl rfl ?_
    refine s_getf (v := .ref (q_b G + (g + 5))) (nx := 15) hO rfl rfl (hs_o3 hg) rfl rfl ?_
    refine s_iload_n (nx := 16) hO rfl rfl rfl ?_
    obtain ⟨b2, H⟩ := H
    refine s_iald (nx := 17) hO rfl (hs_I (kf3_11 hg)) b2 rfl ?_
    refine goK (H (fun (x3 : Int32) => xEx G mX3_holds 19 [(0, .ref (q_b G + g)), (1, .int v1), (2, .int v2), (3, .ref (q_b G + a3)), (4, .int x3)] [] (hS G s) z 0 0 (yPi G z s Q)) (fun x3 H => ?_)) (fun H => ?_)
    · show xEx G mX3_holds 19 [(0, .ref (q_b G + g)), (1, .int v1), (2, .int v2), (3, .ref (q_b G + a3)), (4, .int x3)] [] (hS G s) z 0 0 (yPi G z s Q)
      refine s_iload (nx := 21) hO rfl rfl rfl ?_
      refine s_aload_n (nx := 22) hO rfl rfl rfl ?_
      refine s_getf (v := .ref (q_b G + (g + 5))) (nx := 25) hO rfl rfl (hs_o3 hg) rfl rfl ?_
      refine s_iload_n (nx := 26) hO rfl rfl rfl ?_
      refine s_iconst (x := 1) (nx := 27) hO rfl (by decide) rfl ?_
      refine s_iadd (nx := 28) hO rfl rfl ?_
      obtain ⟨b4, H⟩ := H
      refine s_iald (nx := 29) hO rfl (hs_I (kf3_11 hg)) b4 rfl ?_
      refine s_icmp_ge (nx := 32) hO rfl rfl (fun c29 => ?_) (fun c29 => ?_)
      · replace H := H.1 c29
        refine s_iconst (x := 1) (nx := 104) hO rfl (by decide) rfl ?_
        exact s_iret hO rfl rfl rfl ⟨rfl, _, rfl, rfl, H⟩
      · replace H := H.2 c29
        refine s_aload_n (nx := 33) hO rfl rfl rfl ?_
        refine s_getf (v := .ref (q_b G + (g + 6))) (nx := 36) hO rfl rfl (hs_o3 hg) rfl rfl ?_
        refine s_iload (nx := 38) hO rfl rfl rfl ?_
        obtain ⟨b5, H⟩ := H
        refine s_iald (nx := 39) hO rfl (hs_I (kf3_12 hg)) b5 rfl ?_
        refine goV ((sI s (g + 6) (ix x3))) (fun x6 ex6 => ?_)
        replace H := H x6 ex6
        refine e_istore (nx := 41) (l' := [(5, .int x6), (0, .ref (q_b G + g)), (1, .int v1), (2, .int v2), (3, .ref (q_b G + a3)), (4, .int x3)]) ex6 hO rfl (by decide) rfl rfl ?_
        refine s_iload (nx := 43) hO rfl rfl rfl ?_
        refine s_iconst (x := (nI 3)) (nx := 44) hO rfl (by decide) rfl ?_
        refine goK (H (fun (y7 : Int32) => xEx G mX3_holds 60 [(0, .ref (q_b G + g)), (1, .int v1), (2, .int v2), (3, .ref (q_b G + a3)), (4, .int x3), (5, .int x6)] [.int y7] (hS G s) z 0 0 (yPi G z s Q)) (fun y7 H => ?_)) (fun H => ?_)
        · show xEx G mX3_holds 60 [(0, .ref (q_b G + g)), (1, .int v1), (2, .int v2), (3, .ref (q_b G + a3)), (4, .int x3), (5, .int x6)] [.int y7] (hS G s) z 0 0 (yPi G z s Q)
          refine s_istore (nx := 62) (l' := [(6, .int y7), (0, .ref (q_b G + g)), (1, .int v1), (2, .int v2), (3, .ref (q_b G + a3)), (4, .int x3), (5, .int x6)]) hO rfl (by decide) rfl rfl ?_
          refine s_iload (nx := 64) hO rfl rfl rfl ?_
          refine goK (H (fun (y8 : Int32) => xEx G mX3_holds 85 [(0, .ref (q_b G + g)), (1, .int v1), (2, .int v2), (3, .ref (q_b G + a3)), (4, .int x3)] [.int y8] (hS G s) z 0 0 (yPi G z s Q)) (fun y8 H => ?_)) (fun H => ?_)
          · show xEx G mX3_holds 85 [(0, .ref (q_b G + g)), (1, .int v1), (2, .int v2), (3, .ref (q_b G + a3)), (4, .int x3)] [.int y8] (hS G s) z 0 0 (yPi G z s Q)
            refine s_aload_n (nx := 86) hO rfl rfl rfl ?_
            refine s_getf (v := .ref (q_b G + (g + 9))) (nx := 89) hO rfl rfl (hs_o3 hg) rfl rfl ?_
            refine s_iload (nx := 91) hO rfl rfl rfl ?_
            obtain ⟨b9, H⟩ := H
            refine s_zald (nx := 92) hO rfl (hs_Z (kf3_15 hg)) b9 rfl ?_
            refine s_icmp_ne (nx := 95) hO rfl rfl (fun c92 => ?_) (fun c92 => ?_)
            · replace H := H.1 c92
              refine goV ((x3 + 1)) (fun x10 ex10 => ?_)
              replace H := H x10 ex10
              refine e_iinc (nx := 100) (l' := [(4, .int x10), (0, .ref (q_b G + g)), (1, .int v1), (2, .int v2), (3, .ref (q_b G + a3))]) ex10 hO rfl (by decide) rfl rfl rfl rfl ?_
              refine s_goto hO rfl ?_
              exact xEx.loc (x_sub1 (List.Mem.tail _ (List.Mem.head _)) (x_sub1 (List.Mem.tail _ (List.Mem.tail _ (List.Mem.head _))) (x_sub1 (List.Mem.tail _ (List.Mem.tail _ (List.Mem.tail _ (List.Mem.head _)))) (x_sub1 (List.Mem.tail _ (List.Mem.tail _ (List.Mem.tail _ (List.Mem.tail _ (List.Mem.head _))))) (x_sub1 (List.Mem.head _) x_sub0))))) H
            · replace H := H.2 c92
              refine s_iconst (x := 0) (nx := 96) hO rfl (by decide) rfl ?_
              exact s_iret hO rfl rfl rfl ⟨rfl, _, rfl, rfl, H⟩
          refine s_if_eq (nx := 67) hO rfl rfl (fun c64 => ?_) (fun c64 => ?_)
          · replace H := H.1 c64
            refine s_iconst (x := 0) (nx := 85) hO rfl (by decide) rfl ?_
            exact xEx.loc (x_sub1 (List.Mem.tail _ (List.Mem.head _)) (x_sub1 (List.Mem.tail _ (List.Mem.tail _ (List.Mem.head _))) (x_sub1 (List.Mem.tail _ (List.Mem.tail _ (List.Mem.tail _ (List.Mem.head _)))) (x_sub1 (List.Mem.tail _ (List.Mem.tail _ (List.Mem.tail _ (List.Mem.tail _ (List.Mem.head _))))) (x_sub1 (List.Mem.tail _ (List.Mem.tail _ (List.Mem.tail _ (List.Mem.tail _ (List.Mem.tail _ (List.Mem.head _)))))) x_sub0))))) H
          · replace H := H.2 c64
            refine s_aload_n (nx := 68) hO rfl rfl rfl ?_
            refine s_iload (nx := 70) hO rfl rfl rfl ?_
            refine s_aload_n (nx := 71) hO rfl rfl rfl ?_
            refine s_iload (nx := 73) hO rfl rfl rfl ?_
            obtain ⟨b11, H⟩ := H
            refine s_iald (nx := 74) hO rfl (hs_I ha3) b11 rfl ?_
            refine s_callV [.int x3, .int (sI s a3 (ix x6))] (ci := 3) (F := TX3) (N := 20) (nx := 77) hO rfl kX3_holds_88 (by rw [hcl]; rfl) (hs_o3 hg) (w_X3_isTrue hG hg H) rfl rfl (Nat.le_of_ble_eq_true rfl) (Nat.zero_le _) (Nat.zero_le _) rfl (k_Pi (fun r12 H => ?_))
            refine s_if_eq (nx := 80) hO rfl rfl (fun c77 => ?_) (fun c77 => ?_)
            · replace H := H.1 c77
              refine s_iconst (x := 0) (nx := 85) hO rfl (by decide) rfl ?_
              exact xEx.loc (x_sub1 (List.Mem.tail _ (List.Mem.head _)) (x_sub1 (List.Mem.tail _ (List.Mem.tail _ (List.Mem.head _))) (x_sub1 (List.Mem.tail _ (List.Mem.tail _ (List.Mem.tail _ (List.Mem.head _)))) (x_sub1 (List.Mem.tail _ (List.Mem.tail _ (List.Mem.tail _ (List.Mem.tail _ (List.Mem.head _))))) (x_sub1 (List.Mem.tail _ (List.Mem.tail _ (List.Mem.tail _ (List.Mem.tail _ (List.Mem.tail _ (List.Mem.head _)))))) x_sub0))))) H
            · replace H := H.2 c77
              refine s_iconst (x := 1) (nx := 81) hO rfl (by decide) rfl ?_
              refine s_goto hO rfl ?_
              exact xEx.loc (x_sub1 (List.Mem.tail _ (List.Mem.head _)) (x_sub1 (List.Mem.tail _ (List.Mem.tail _ (List.Mem.head _))) (x_sub1 (List.Mem.tail _ (List.Mem.tail _ (List.Mem.tail _ (List.Mem.head _)))) (x_sub1 (List.Mem.tail _ (List.Mem.tail _ (List.Mem.tail _ (List.Mem.tail _ (List.Mem.head _))))) (x_sub1 (List.Mem.tail _ (List.Mem.tail _ (List.Mem.tail _ (List.Mem.tail _ (List.Mem.tail _ (List.Mem.head _)))))) x_sub0))))) H
        refine s_icmp_ge (nx := 47) hO rfl rfl (fun c44 => ?_) (fun c44 => ?_)
        · replace H := H.1 c44
          refine s_iconst (x := 1) (nx := 56) hO rfl (by decide) rfl ?_
          refine s_goto hO rfl ?_
          exact xEx.loc (x_sub1 (List.Mem.tail _ (List.Mem.head _)) (x_sub1 (List.Mem.tail _ (List.Mem.tail _ (List.Mem.head _))) (x_sub1 (List.Mem.tail _ (List.Mem.tail _ (List.Mem.tail _ (List.Mem.head _)))) (x_sub1 (List.Mem.tail _ (List.Mem.tail _ (List.Mem.tail _ (List.Mem.tail _ (List.Mem.head _))))) (x_sub1 (List.Mem.tail _ (List.Mem.tail _ (List.Mem.tail _ (List.Mem.tail _ (List.Mem.tail _ (List.Mem.head _)))))) (x_sub1 (List.Mem.head _) x_sub0)))))) H
        · replace H := H.2 c44
          refine s_iload (nx := 49) hO rfl rfl rfl ?_
          refine s_iload_n (nx := 50) hO rfl rfl rfl ?_
          refine s_iconst (x := (nI 4)) (nx := 51) hO rfl (by decide) rfl ?_
          refine s_irem (nx := 52) hO rfl (by decide) rfl ?_
          refine s_icmp_ge (nx := 55) hO rfl rfl (fun c52 => ?_) (fun c52 => ?_)
          · replace H := H.1 c52
            refine s_iconst (x := 0) (nx := 60) hO rfl (by decide) rfl ?_
            exact xEx.loc (x_sub1 (List.Mem.tail _ (List.Mem.head _)) (x_sub1 (List.Mem.tail _ (List.Mem.tail _ (List.Mem.head _))) (x_sub1 (List.Mem.tail _ (List.Mem.tail _ (List.Mem.tail _ (List.Mem.head _)))) (x_sub1 (List.Mem.tail _ (List.Mem.tail _ (List.Mem.tail _ (List.Mem.tail _ (List.Mem.head _))))) (x_sub1 (List.Mem.tail _ (List.Mem.tail _ (List.Mem.tail _ (List.Mem.tail _ (List.Mem.tail _ (List.Mem.head _)))))) (x_sub1 (List.Mem.head _) x_sub0)))))) H
          · replace H := H.2 c52
            refine s_iconst (x := 1) (nx := 56) hO rfl (by decide) rfl ?_
            refine s_goto hO rfl ?_
            exact xEx.loc (x_sub1 (List.Mem.tail _ (List.Mem.head _)) (x_sub1 (List.Mem.tail _ (List.Mem.tail _ (List.Mem.head _))) (x_sub1 (List.Mem.tail _ (List.Mem.tail _ (List.Mem.tail _ (List.Mem.head _)))) (x_sub1 (List.Mem.tail _ (List.Mem.tail _ (List.Mem.tail _ (List.Mem.tail _ (List.Mem.head _))))) (x_sub1 (List.Mem.tail _ (List.Mem.tail _ (List.Mem.tail _ (List.Mem.tail _ (List.Mem.tail _ (List.Mem.head _)))))) (x_sub1 (List.Mem.head _) x_sub0)))))) H
    refine goV ((sI s (g + 5) (ix v1))) (fun x13 ex13 => ?_)
    replace H := H x13 ex13
    refine e_istore (nx := 19) (l' := [(4, .int x13), (0, .ref (q_b G + g)), (1, .int v1), (2, .int v2), (3, .ref (q_b G + a3))]) ex13 hO rfl (by decide) rfl rfl ?_
    exact xEx.loc (x_sub1 (List.Mem.tail _ (List.Mem.head _)) (x_sub1 (List.Mem.tail _ (List.Mem.tail _ (List.Mem.head _))) (x_sub1 (List.Mem.tail _ (List.Mem.tail _ (List.Mem.tail _ (List.Mem.head _)))) (x_sub1 (List.Mem.tail _ (List.Mem.tail _ (List.Mem.tail _ (List.Mem.tail _ (List.Mem.head _))))) (x_sub1 (List.Mem.head _) x_sub0))))) H
  · replace H := H.2 c6
    refine s_iconst (x := 0) (nx := 10) hO rfl (by decide) rfl ?_
    exact s_iret hO rfl rfl rfl ⟨rfl, _, rfl, rfl, H⟩
def W_X2_push (s : yS) (v1 : Int32) (Q : yS → Prop) : Prop :=
 vp_in (sI s 123 17) 640 ∧ ∀ s2 : yS, s2 = wI s 131 (ix (sI s 123 17)) v1 → 
 ∀ s3 : yS, s3 = wI s2 123 17 ((sI s2 123 17) + 1) → 
 Q s3
set_option maxRecDepth 100000 in
set_option maxHeartbeats 40000000 in
theorem w_X2_push {G : xG} (hG : yG G) {z : Nat} {s : yS} {v1 : Int32} {Q : yS → Prop} (H : W_X2_push s v1 Q) : xC G mX2_push [.ref (q_b G + 123), .int v1] (hS G s) z 0 0 (yQv G z Q) := by
  have hW := hG.1
  have hcl := hG.2.1
  have hty := hG.2.2.1
  have hO : xO G mX2_push tbX2_push ptX2_push := ⟨tkX2_push, pkX2_push hcl⟩
  unfold W_X2_push at H
  refine xC.of hW (by decide) rfl (Nat.le_of_ble_eq_true rfl) ?_
  refine s_aload_n (nx := 1) hO rfl rfl rfl ?_
  refine s_getf (v := .ref (q_b G + 131)) (nx := 4) hO rfl rfl (hs_o2 kc123) rfl rfl ?_
  refine s_aload_n (nx := 5) hO rfl rfl rfl ?_
  refine s_getf (v := .int (sI s 123 17)) (nx := 8) hO rfl rfl (hs_o2 kc123) rfl rfl ?_
  refine s_iload_n (nx := 9) hO rfl rfl rfl ?_
  obtain ⟨b1, H⟩ := H
  refine goV (wI s 131 (ix (sI s 123 17)) v1) (fun s2 es2 => ?_)
  replace H := H s2 es2
  refine s_iast (nx := 10) hO rfl (hs_I kc131) b1 rfl ?_
  refine xEx.at (up_I kc131 es2) ?_
  refine s_aload_n (nx := 11) hO rfl rfl rfl ?_
  refine s_dup (nx := 12) hO rfl rfl rfl ?_
  refine s_getf (v := .int (sI s2 123 17)) (nx := 15) hO rfl rfl (hs_o2 kc123) rfl rfl ?_
  refine s_iconst (x := 1) (nx := 16) hO rfl (by decide) rfl ?_
  refine s_iadd (nx := 17) hO rfl rfl ?_
  refine goV (wI s2 123 17 ((sI s2 123 17) + 1)) (fun s3 es3 => ?_)
  replace H := H s3 es3
  refine s_putf (nx := 20) hO rfl rfl (hs_o2 kc123) (Nat.le_of_ble_eq_true rfl) (by rw [hty]; rfl) (by rw [hty]; rfl) pX2_17 rfl ?_
  refine xEx.at (up_oI2 kc123 es3) ?_
  exact s_vret hO rfl rfl ⟨rfl, _, rfl, rfl, H⟩
def W_X2_pop (s : yS) (Q : Int32 → yS → Prop) : Prop :=
 ∀ s1 : yS, s1 = wI s 123 17 ((sI s 123 17) - 1) → 
 vp_in (sI s1 123 17) 640 ∧ 
 Q (sI s1 131 (ix (sI s1 123 17))) s1
set_option maxRecDepth 100000 in
set_option maxHeartbeats 40000000 in
theorem w_X2_pop {G : xG} (hG : yG G) {z : Nat} {s : yS} {Q : Int32 → yS → Prop} (H : W_X2_pop s Q) : xC G mX2_pop [.ref (q_b G + 123)] (hS G s) z 0 0 (yQi G z Q) := by
  have hW := hG.1
  have hcl := hG.2.1
  have hty := hG.2.2.1
  have hO : xO G mX2_pop tbX2_pop ptX2_pop := ⟨tkX2_pop, pkX2_pop hcl⟩
  unfold W_X2_pop at H
  refine xC.of hW (by decide) rfl (Nat.le_of_ble_eq_true rfl) ?_
  refine s_aload_n (nx := 1) hO rfl rfl rfl ?_
  refine s_dup (nx := 2) hO rfl rfl rfl ?_
  refine s_getf (v := .int (sI s 123 17)) (nx := 5) hO rfl rfl (hs_o2 kc123) rfl rfl ?_
  refine s_iconst (x := 1) (nx := 6) hO rfl (by decide) rfl ?_
  refine s_isub (nx := 7) hO rfl rfl ?_
  refine goV (wI s 123 17 ((sI s 123 17) - 1)) (fun s1 es1 => ?_)
  replace H := H s1 es1
  refine s_putf (nx := 10) hO rfl rfl (hs_o2 kc123) (Nat.le_of_ble_eq_true rfl) (by rw [hty]; rfl) (by rw [hty]; rfl) pX2_17 rfl ?_
  refine xEx.at (up_oI2 kc123 es1) ?_
  refine s_aload_n (nx := 11) hO rfl rfl rfl ?_
  refine s_getf (v := .ref (q_b G + 131)) (nx := 14) hO rfl rfl (hs_o2 kc123) rfl rfl ?_
  refine s_aload_n (nx := 15) hO rfl rfl rfl ?_
  refine s_getf (v := .int (sI s1 123 17)) (nx := 18) hO rfl rfl (hs_o2 kc123) rfl rfl ?_
  obtain ⟨b2, H⟩ := H
  refine s_iald (nx := 19) hO rfl (hs_I kc131) b2 rfl ?_
  exact s_iret hO rfl rfl rfl ⟨rfl, _, _, rfl, rfl, H⟩
def W_X2_doMove (s : yS) (v1 : Int32) (v2 : Int32) (Q : yS → Prop) : Prop :=
 ((((v1).toInt < 0 ∨ 4 < (v1).toInt) → W_X2_pop s 
  (fun r1 s2 => vp_in (((sI s 123 14) * (nI 12)) + v2) 480 ∧ ∀ s4 : yS, s4 = wI s2 132 (ix (((sI s 123 14) * (nI 12)) + v2)) r1 → 
  Q s4))
 ∧ ((v1).toInt = 0 → W_X2_push s v2 
   (fun s5 => Q s5))
 ∧ ((v1).toInt = 1 → W_X2_pop s 
   (fun r6 s7 => Q s7))
 ∧ ((v1).toInt = 2 → vp_in ((sI s 123 17) - 1) 640 ∧ 
   W_X2_push s (sI s 131 (ix ((sI s 123 17) - 1))) 
   (fun s9 => Q s9))
 ∧ ((v1).toInt = 3 → W_X2_pop s 
   (fun r10 s11 => W_X2_pop s11 
   (fun r12 s13 => W_X2_push s13 r10 
   (fun s14 => W_X2_push s14 r12 
   (fun s15 => Q s15)))))
 ∧ ((v1).toInt = 4 → vp_in (((sI s 123 14) * (nI 12)) + v2) 480 ∧ 
   W_X2_push s (sI s 132 (ix (((sI s 123 14) * (nI 12)) + v2))) 
   (fun s17 => Q s17)))
set_option maxRecDepth 100000 in
set_option maxHeartbeats 40000000 in
theorem w_X2_doMove {G : xG} (hG : yG G) {z : Nat} {s : yS} {v1 : Int32} {v2 : Int32} {Q : yS → Prop} (H : W_X2_doMove s v1 v2 Q) : xC G mX2_doMove [.ref (q_b G + 123), .int v1, .int v2] (hS G s) z 0 0 (yQv G z Q) := by
  have hW := hG.1
  have hcl := hG.2.1
  have hty := hG.2.2.1
  have hO : xO G mX2_doMove tbX2_doMove ptX2_doMove := ⟨tkX2_doMove, pkX2_doMove hcl⟩
  unfold W_X2_doMove at H
  refine xC.of hW (by decide) rfl (Nat.le_of_ble_eq_true rfl) ?_
  refine s_iload_n (nx := 1) hO rfl rfl rfl ?_
  refine s_switch hO rfl (fun c1 => ?_) (fun dc1 fc1 => ?_)
  · replace H := H.1 c1
    refine s_aload_n (nx := 117) hO rfl rfl rfl ?_
    refine s_getf (v := .ref (q_b G + 132)) (nx := 120) hO rfl rfl (hs_o2 kc123) rfl rfl ?_
    refine s_aload_n (nx := 121) hO rfl rfl rfl ?_
    refine s_getf (v := .int (sI s 123 14)) (nx := 124) hO rfl rfl (hs_o2 kc123) rfl rfl ?_
    refine s_bipush (x := (nI 12)) (nx := 126) hO rfl (by decide) rfl ?_
    refine s_imul (nx := 127) hO rfl rfl ?_
    refine s_iload_n (nx := 128) hO rfl rfl rfl ?_
    refine s_iadd (nx := 129) hO rfl rfl ?_
    refine s_aload_n (nx := 130) hO rfl rfl rfl ?_
    refine s_callV [] (ci := 2) (F := TX2) (N := 18) (nx := 133) hO rfl kX2_doMove_126 (by rw [hcl]; rfl) (hs_o2 kc123) (w_X2_pop hG H) rfl rfl (Nat.le_of_ble_eq_true rfl) (Nat.zero_le _) (Nat.zero_le _) rfl (k_Qi (fun r1 s2 H => ?_))
    obtain ⟨b3, H⟩ := H
    refine goV (wI s2 132 (ix (((sI s 123 14) * (nI 12)) + v2)) r1) (fun s4 es4 => ?_)
    replace H := H s4 es4
    refine s_iast (nx := 134) hO rfl (hs_I kc132) b3 rfl ?_
    refine xEx.at (up_I kc132 es4) ?_
    exact s_vret hO rfl rfl ⟨rfl, _, rfl, rfl, H⟩
  · obtain c1 | c1 | c1 | c1 | c1 : (v1).toInt = 0 ∨ (v1).toInt = 1 ∨ (v1).toInt = 2 ∨ (v1).toInt = 3 ∨ (v1).toInt = 4 := by omega
    · replace H := H.2.1 c1
      refine ⟨36, by rw [c1]; rfl, ?_⟩
      refine s_aload_n (nx := 37) hO rfl rfl rfl ?_
      refine s_iload_n (nx := 38) hO rfl rfl rfl ?_
      refine s_callV [.int v2] (ci := 2) (F := TX2) (N := 18) (nx := 41) hO rfl kX2_doMove_123 (by rw [hcl]; rfl) (hs_o2 kc123) (w_X2_push hG H) rfl rfl (Nat.le_of_ble_eq_true rfl) (Nat.zero_le _) (Nat.zero_le _) rfl (k_Qv (fun s5 H => ?_))
      refine s_goto hO rfl ?_
      exact s_vret hO rfl rfl ⟨rfl, _, rfl, rfl, H⟩
    · replace H := H.2.2.1 c1
      refine ⟨44, by rw [c1]; rfl, ?_⟩
      refine s_aload_n (nx := 45) hO rfl rfl rfl ?_
      refine s_callV [] (ci := 2) (F := TX2) (N := 18) (nx := 48) hO rfl kX2_doMove_126 (by rw [hcl]; rfl) (hs_o2 kc123) (w_X2_pop hG H) rfl rfl (Nat.le_of_ble_eq_true rfl) (Nat.zero_le _) (Nat.zero_le _) rfl (k_Qi (fun r6 s7 H => ?_))
      refine s_pop (nx := 49) hO rfl rfl rfl ?_
      refine s_goto hO rfl ?_
      exact s_vret hO rfl rfl ⟨rfl, _, rfl, rfl, H⟩
    · replace H := H.2.2.2.1 c1
      refine ⟨52, by rw [c1]; rfl, ?_⟩
      refine s_aload_n (nx := 53) hO rfl rfl rfl ?_
      refine s_aload_n (nx := 54) hO rfl rfl rfl ?_
      refine s_getf (v := .ref (q_b G + 131)) (nx := 57) hO rfl rfl (hs_o2 kc123) rfl rfl ?_
      refine s_aload_n (nx := 58) hO rfl rfl rfl ?_
      refine s_getf (v := .int (sI s 123 17)) (nx := 61) hO rfl rfl (hs_o2 kc123) rfl rfl ?_
      refine s_iconst (x := 1) (nx := 62) hO rfl (by decide) rfl ?_
      refine s_isub (nx := 63) hO rfl rfl ?_
      obtain ⟨b8, H⟩ := H
      refine s_iald (nx := 64) hO rfl (hs_I kc131) b8 rfl ?_
      refine s_callV [.int (sI s 131 (ix ((sI s 123 17) - 1)))] (ci := 2) (F := TX2) (N := 18) (nx := 67) hO rfl kX2_doMove_123 (by rw [hcl]; rfl) (hs_o2 kc123) (w_X2_push hG H) rfl rfl (Nat.le_of_ble_eq_true rfl) (Nat.zero_le _) (Nat.zero_le _) rfl (k_Qv (fun s9 H => ?_))
      refine s_goto hO rfl ?_
      exact s_vret hO rfl rfl ⟨rfl, _, rfl, rfl, H⟩
    · replace H := H.2.2.2.2.1 c1
      refine ⟨70, by rw [c1]; rfl, ?_⟩
      refine s_aload_n (nx := 71) hO rfl rfl rfl ?_
      refine s_callV [] (ci := 2) (F := TX2) (N := 18) (nx := 74) hO rfl kX2_doMove_126 (by rw [hcl]; rfl) (hs_o2 kc123) (w_X2_pop hG H) rfl rfl (Nat.le_of_ble_eq_true rfl) (Nat.zero_le _) (Nat.zero_le _) rfl (k_Qi (fun r10 s11 H => ?_))
      refine s_istore_n (nx := 75) (l' := [(3, .int r10), (0, .ref (q_b G + 123)), (1, .int v1), (2, .int v2)]) hO rfl (by decide) rfl rfl ?_
      refine s_aload_n (nx := 76) hO rfl rfl rfl ?_
      refine s_callV [] (ci := 2) (F := TX2) (N := 18) (nx := 79) hO rfl kX2_doMove_126 (by rw [hcl]; rfl) (hs_o2 kc123) (w_X2_pop hG H) rfl rfl (Nat.le_of_ble_eq_true rfl) (Nat.zero_le _) (Nat.zero_le _) rfl (k_Qi (fun r12 s13 H => ?_))
      refine s_istore (nx := 81) (l' := [(4, .int r12), (3, .int r10), (0, .ref (q_b G + 123)), (1, .int v1), (2, .int v2)]) hO rfl (by decide) rfl rfl ?_
      refine s_aload_n (nx := 82) hO rfl rfl rfl ?_
      refine s_iload_n (nx := 83) hO rfl rfl rfl ?_
      refine s_callV [.int r10] (ci := 2) (F := TX2) (N := 18) (nx := 86) hO rfl kX2_doMove_123 (by rw [hcl]; rfl) (hs_o2 kc123) (w_X2_push hG H) rfl rfl (Nat.le_of_ble_eq_true rfl) (Nat.zero_le _) (Nat.zero_le _) rfl (k_Qv (fun s14 H => ?_))
      refine s_aload_n (nx := 87) hO rfl rfl rfl ?_
      refine s_iload (nx := 89) hO rfl rfl rfl ?_
      refine s_callV [.int r12] (ci := 2) (F := TX2) (N := 18) (nx := 92) hO rfl kX2_doMove_123 (by rw [hcl]; rfl) (hs_o2 kc123) (w_X2_push hG H) rfl rfl (Nat.le_of_ble_eq_true rfl) (Nat.zero_le _) (Nat.zero_le _) rfl (k_Qv (fun s15 H => ?_))
      refine s_goto hO rfl ?_
      exact s_vret hO rfl rfl ⟨rfl, _, rfl, rfl, H⟩
    · replace H := H.2.2.2.2.2 c1
      refine ⟨95, by rw [c1]; rfl, ?_⟩
      refine s_aload_n (nx := 96) hO rfl rfl rfl ?_
      refine s_aload_n (nx := 97) hO rfl rfl rfl ?_
      refine s_getf (v := .ref (q_b G + 132)) (nx := 100) hO rfl rfl (hs_o2 kc123) rfl rfl ?_
      refine s_aload_n (nx := 101) hO rfl rfl rfl ?_
      refine s_getf (v := .int (sI s 123 14)) (nx := 104) hO rfl rfl (hs_o2 kc123) rfl rfl ?_
      refine s_bipush (x := (nI 12)) (nx := 106) hO rfl (by decide) rfl ?_
      refine s_imul (nx := 107) hO rfl rfl ?_
      refine s_iload_n (nx := 108) hO rfl rfl rfl ?_
      refine s_iadd (nx := 109) hO rfl rfl ?_
      obtain ⟨b16, H⟩ := H
      refine s_iald (nx := 110) hO rfl (hs_I kc132) b16 rfl ?_
      refine s_callV [.int (sI s 132 (ix (((sI s 123 14) * (nI 12)) + v2)))] (ci := 2) (F := TX2) (N := 18) (nx := 113) hO rfl kX2_doMove_123 (by rw [hcl]; rfl) (hs_o2 kc123) (w_X2_push hG H) rfl rfl (Nat.le_of_ble_eq_true rfl) (Nat.zero_le _) (Nat.zero_le _) rfl (k_Qv (fun s17 H => ?_))
      refine s_goto hO rfl ?_
      exact s_vret hO rfl rfl ⟨rfl, _, rfl, rfl, H⟩
def W_X2_handlerFor (s : yS) (v1 : Int32) (v2 : Int32) (Q : Int32 → Prop) : Prop :=
 ∀ x1 : Int32, x1 = ((sI s 123 15) * (nI 6)) → 
 ∀ P11 : Int32 → Prop, (∀ (x2 : Int32), (∃ p3 : Nat, sR s 123 11 = p3 + 1 ∧ kd p3 = some (9, 0) ∧ 
  vp_in (sI s 123 15) 12 ∧ 
  (((x1 + (sI s (p3 + 6) (ix (sI s 123 15)))) ≤ x2 → Q (-1))
  ∧ (¬ (x1 + (sI s (p3 + 6) (ix (sI s 123 15)))) ≤ x2 → ∃ p5 : Nat, sR s 123 11 = p5 + 1 ∧ kd p5 = some (9, 0) ∧ 
   W_X5_isInRange s p5 x2 v1 
   (fun r6 => ∀ P73 : Prop, ((∀ x7 : Int32, x7 = (x2 + 1) → 
    P11 x7) → P73) → 
   ((r6 = 0 → P73)
   ∧ (¬ r6 = 0 → ∃ p8 : Nat, sR s 123 11 = p8 + 1 ∧ kd p8 = some (9, 0) ∧ 
    vp_in x2 72 ∧ 
    ((¬ (sI s (p8 + 16) (ix x2)) = 0 → Q x2)
    ∧ ((sI s (p8 + 16) (ix x2)) = 0 → ∃ p10 : Nat, sR s 123 11 = p10 + 1 ∧ kd p10 = some (9, 0) ∧ 
     vp_in x2 72 ∧ 
     ((¬ (sI s (p10 + 17) (ix x2)) = v2 → P73)
     ∧ ((sI s (p10 + 17) (ix x2)) = v2 → Q x2)))))))))) → P11 x2) → 
 P11 x1
set_option maxRecDepth 100000 in
set_option maxHeartbeats 40000000 in
theorem w_X2_handlerFor {G : xG} (hG : yG G) {z : Nat} {s : yS} {v1 : Int32} {v2 : Int32} {Q : Int32 → Prop} (H : W_X2_handlerFor s v1 v2 Q) : xC G mX2_handlerFor [.ref (q_b G + 123), .int v1, .int v2] (hS G s) z 0 0 (yPi G z s Q) := by
  have hW := hG.1
  have hcl := hG.2.1
  have hty := hG.2.2.1
  have hO : xO G mX2_handlerFor tbX2_handlerFor ptX2_handlerFor := ⟨tkX2_handlerFor, pkX2_handlerFor hcl⟩
  unfold W_X2_handlerFor at H
  refine xC.of hW (by decide) rfl (Nat.le_of_ble_eq_true rfl) ?_
  refine s_aload_n (nx := 1) hO rfl rfl rfl ?_
  refine s_getf (v := .int (sI s 123 15)) (nx := 4) hO rfl rfl (hs_o2 kc123) rfl rfl ?_
  refine s_bipush (x := (nI 6)) (nx := 6) hO rfl (by decide) rfl ?_
  refine s_imul (nx := 7) hO rfl rfl ?_
  refine goV (((sI s 123 15) * (nI 6))) (fun x1 ex1 => ?_)
  replace H := H x1 ex1
  refine e_istore_n (nx := 8) (l' := [(3, .int x1), (0, .ref (q_b G + 123)), (1, .int v1), (2, .int v2)]) ex1 hO rfl (by decide) rfl rfl ?_
  refine s_iload_n (nx := 9) hO rfl rfl rfl ?_
  refine goK (H (fun (x2 : Int32) => xEx G mX2_handlerFor 11 [(0, .ref (q_b G + 123)), (1, .int v1), (2, .int v2), (3, .int x1), (4, .int x2)] [] (hS G s) z 0 0 (yPi G z s Q)) (fun x2 H => ?_)) (fun H => ?_)
  · show xEx G mX2_handlerFor 11 [(0, .ref (q_b G + 123)), (1, .int v1), (2, .int v2), (3, .int x1), (4, .int x2)] [] (hS G s) z 0 0 (yPi G z s Q)
    refine s_iload (nx := 13) hO rfl rfl rfl ?_
    refine s_iload_n (nx := 14) hO rfl rfl rfl ?_
    refine s_aload_n (nx := 15) hO rfl rfl rfl ?_
    obtain ⟨p3, ep3, kp3, H⟩ := H
    refine s_getf (v := .ref (q_b G + p3)) (nx := 18) hO rfl rfl (hs_o2 kc123) (congrArg some (rv_at ep3)) rfl ?_
    refine s_getf (v := .ref (q_b G + (p3 + 6))) (nx := 21) hO rfl rfl (hs_o5 kp3) rfl rfl ?_
    refine s_aload_n (nx := 22) hO rfl rfl rfl ?_
    refine s_getf (v := .int (sI s 123 15)) (nx := 25) hO rfl rfl (hs_o2 kc123) rfl rfl ?_
    obtain ⟨b4, H⟩ := H
    refine s_iald (nx := 26) hO rfl (hs_I (kf5_6 kp3)) b4 rfl ?_
    refine s_iadd (nx := 27) hO rfl rfl ?_
    refine s_icmp_ge (nx := 30) hO rfl rfl (fun c27 => ?_) (fun c27 => ?_)
    · replace H := H.1 c27
      refine s_iconst (x := (-1)) (nx := 80) hO rfl (by decide) rfl ?_
      exact s_iret hO rfl rfl rfl ⟨rfl, _, rfl, rfl, H⟩
    · replace H := H.2 c27
      refine s_aload_n (nx := 31) hO rfl rfl rfl ?_
      obtain ⟨p5, ep5, kp5, H⟩ := H
      refine s_getf (v := .ref (q_b G + p5)) (nx := 34) hO rfl rfl (hs_o2 kc123) (congrArg some (rv_at ep5)) rfl ?_
      refine s_iload (nx := 36) hO rfl rfl rfl ?_
      refine s_iload_n (nx := 37) hO rfl rfl rfl ?_
      refine s_callV [.int x2, .int v1] (ci := 5) (F := TX5) (N := 19) (nx := 40) hO rfl kX2_handlerFor_170 (by rw [hcl]; rfl) (hs_o5 kp5) (w_X5_isInRange hG kp5 H) rfl rfl (Nat.le_of_ble_eq_true rfl) (Nat.zero_le _) (Nat.zero_le _) rfl (k_Pi (fun r6 H => ?_))
      refine goK (H (xEx G mX2_handlerFor 73 [(0, .ref (q_b G + 123)), (1, .int v1), (2, .int v2), (3, .int x1), (4, .int x2)] [] (hS G s) z 0 0 (yPi G z s Q)) (fun H => ?_)) (fun H => ?_)
      · show xEx G mX2_handlerFor 73 [(0, .ref (q_b G + 123)), (1, .int v1), (2, .int v2), (3, .int x1), (4, .int x2)] [] (hS G s) z 0 0 (yPi G z s Q)
        refine goV ((x2 + 1)) (fun x7 ex7 => ?_)
        replace H := H x7 ex7
        refine e_iinc (nx := 76) (l' := [(4, .int x7), (0, .ref (q_b G + 123)), (1, .int v1), (2, .int v2), (3, .int x1)]) ex7 hO rfl (by decide) rfl rfl rfl rfl ?_
        refine s_goto hO rfl ?_
        exact xEx.loc (x_sub1 (List.Mem.tail _ (List.Mem.head _)) (x_sub1 (List.Mem.tail _ (List.Mem.tail _ (List.Mem.head _))) (x_sub1 (List.Mem.tail _ (List.Mem.tail _ (List.Mem.tail _ (List.Mem.head _)))) (x_sub1 (List.Mem.tail _ (List.Mem.tail _ (List.Mem.tail _ (List.Mem.tail _ (List.Mem.head _))))) (x_sub1 (List.Mem.head _) x_sub0))))) H
      refine s_if_eq (nx := 43) hO rfl rfl (fun c40 => ?_) (fun c40 => ?_)
      · replace H := H.1 c40
        exact xEx.loc (x_sub1 (List.Mem.head _) (x_sub1 (List.Mem.tail _ (List.Mem.head _)) (x_sub1 (List.Mem.tail _ (List.Mem.tail _ (List.Mem.head _))) (x_sub1 (List.Mem.tail _ (List.Mem.tail _ (List.Mem.tail _ (List.Mem.head _)))) (x_sub1 (List.Mem.tail _ (List.Mem.tail _ (List.Mem.tail _ (List.Mem.tail _ (List.Mem.head _))))) x_sub0))))) H
      · replace H := H.2 c40
        refine s_aload_n (nx := 44) hO rfl rfl rfl ?_
        obtain ⟨p8, ep8, kp8, H⟩ := H
        refine s_getf (v := .ref (q_b G + p8)) (nx := 47) hO rfl rfl (hs_o2 kc123) (congrArg some (rv_at ep8)) rfl ?_
        refine s_getf (v := .ref (q_b G + (p8 + 16))) (nx := 50) hO rfl rfl (hs_o5 kp8) rfl rfl ?_
        refine s_iload (nx := 52) hO rfl rfl rfl ?_
        obtain ⟨b9, H⟩ := H
        refine s_zald (nx := 53) hO rfl (hs_Z (kf5_17 kp8)) b9 rfl ?_
        refine s_if_ne (nx := 56) hO rfl rfl (fun c53 => ?_) (fun c53 => ?_)
        · replace H := H.1 c53
          refine s_iload (nx := 72) hO rfl rfl rfl ?_
          exact s_iret hO rfl rfl rfl ⟨rfl, _, rfl, rfl, H⟩
        · replace H := H.2 c53
          refine s_aload_n (nx := 57) hO rfl rfl rfl ?_
          obtain ⟨p10, ep10, kp10, H⟩ := H
          refine s_getf (v := .ref (q_b G + p10)) (nx := 60) hO rfl rfl (hs_o2 kc123) (congrArg some (rv_at ep10)) rfl ?_
          refine s_getf (v := .ref (q_b G + (p10 + 17))) (nx := 63) hO rfl rfl (hs_o5 kp10) rfl rfl ?_
          refine s_iload (nx := 65) hO rfl rfl rfl ?_
          obtain ⟨b11, H⟩ := H
          refine s_iald (nx := 66) hO rfl (hs_I (kf5_18 kp10)) b11 rfl ?_
          refine s_iload_n (nx := 67) hO rfl rfl rfl ?_
          refine s_icmp_ne (nx := 70) hO rfl rfl (fun c67 => ?_) (fun c67 => ?_)
          · replace H := H.1 c67
            exact xEx.loc (x_sub1 (List.Mem.head _) (x_sub1 (List.Mem.tail _ (List.Mem.head _)) (x_sub1 (List.Mem.tail _ (List.Mem.tail _ (List.Mem.head _))) (x_sub1 (List.Mem.tail _ (List.Mem.tail _ (List.Mem.tail _ (List.Mem.head _)))) (x_sub1 (List.Mem.tail _ (List.Mem.tail _ (List.Mem.tail _ (List.Mem.tail _ (List.Mem.head _))))) x_sub0))))) H
          · replace H := H.2 c67
            refine s_iload (nx := 72) hO rfl rfl rfl ?_
            exact s_iret hO rfl rfl rfl ⟨rfl, _, rfl, rfl, H⟩
  refine s_istore (nx := 11) (l' := [(4, .int x1), (3, .int x1), (0, .ref (q_b G + 123)), (1, .int v1), (2, .int v2)]) hO rfl (by decide) rfl rfl ?_
  exact xEx.loc (x_sub1 (List.Mem.tail _ (List.Mem.tail _ (List.Mem.head _))) (x_sub1 (List.Mem.tail _ (List.Mem.tail _ (List.Mem.tail _ (List.Mem.head _)))) (x_sub1 (List.Mem.tail _ (List.Mem.tail _ (List.Mem.tail _ (List.Mem.tail _ (List.Mem.head _))))) (x_sub1 (List.Mem.tail _ (List.Mem.head _)) (x_sub1 (List.Mem.head _) x_sub0))))) H
def W_X2_backToCaller (s : yS) (Q : yS → Prop) : Prop :=
 ∀ s1 : yS, s1 = wI s 123 14 ((sI s 123 14) - 1) → 
 vp_in (sI s1 123 14) 40 ∧ 
 ∀ s3 : yS, s3 = wI s1 123 15 (sI s1 133 (ix (sI s1 123 14))) → 
 vp_in (sI s3 123 14) 40 ∧ 
 ∀ s5 : yS, s5 = wI s3 123 16 (sI s3 134 (ix (sI s3 123 14))) → 
 vp_in (sI s5 123 14) 40 ∧ 
 ∀ s7 : yS, s7 = wI s5 123 17 (sI s5 135 (ix (sI s5 123 14))) → 
 Q s7
set_option maxRecDepth 100000 in
set_option maxHeartbeats 40000000 in
theorem w_X2_backToCaller {G : xG} (hG : yG G) {z : Nat} {s : yS} {Q : yS → Prop} (H : W_X2_backToCaller s Q) : xC G mX2_backToCaller [.ref (q_b G + 123)] (hS G s) z 0 0 (yQv G z Q) := by
  have hW := hG.1
  have hcl := hG.2.1
  have hty := hG.2.2.1
  have hO : xO G mX2_backToCaller tbX2_backToCaller ptX2_backToCaller := ⟨tkX2_backToCaller, pkX2_backToCaller hcl⟩
  unfold W_X2_backToCaller at H
  refine xC.of hW (by decide) rfl (Nat.le_of_ble_eq_true rfl) ?_
  refine s_aload_n (nx := 1) hO rfl rfl rfl ?_
  refine s_dup (nx := 2) hO rfl rfl rfl ?_
  refine s_getf (v := .int (sI s 123 14)) (nx := 5) hO rfl rfl (hs_o2 kc123) rfl rfl ?_
  refine s_iconst (x := 1) (nx := 6) hO rfl (by decide) rfl ?_
  refine s_isub (nx := 7) hO rfl rfl ?_
  refine goV (wI s 123 14 ((sI s 123 14) - 1)) (fun s1 es1 => ?_)
  replace H := H s1 es1
  refine s_putf (nx := 10) hO rfl rfl (hs_o2 kc123) (Nat.le_of_ble_eq_true rfl) (by rw [hty]; rfl) (by rw [hty]; rfl) pX2_14 rfl ?_
  refine xEx.at (up_oI2 kc123 es1) ?_
  refine s_aload_n (nx := 11) hO rfl rfl rfl ?_
  refine s_aload_n (nx := 12) hO rfl rfl rfl ?_
  refine s_getf (v := .ref (q_b G + 133)) (nx := 15) hO rfl rfl (hs_o2 kc123) rfl rfl ?_
  refine s_aload_n (nx := 16) hO rfl rfl rfl ?_
  refine s_getf (v := .int (sI s1 123 14)) (nx := 19) hO rfl rfl (hs_o2 kc123) rfl rfl ?_
  obtain ⟨b2, H⟩ := H
  refine s_iald (nx := 20) hO rfl (hs_I kc133) b2 rfl ?_
  refine goV (wI s1 123 15 (sI s1 133 (ix (sI s1 123 14)))) (fun s3 es3 => ?_)
  replace H := H s3 es3
  refine s_putf (nx := 23) hO rfl rfl (hs_o2 kc123) (Nat.le_of_ble_eq_true rfl) (by rw [hty]; rfl) (by rw [hty]; rfl) pX2_15 rfl ?_
  refine xEx.at (up_oI2 kc123 es3) ?_
  refine s_aload_n (nx := 24) hO rfl rfl rfl ?_
  refine s_aload_n (nx := 25) hO rfl rfl rfl ?_
  refine s_getf (v := .ref (q_b G + 134)) (nx := 28) hO rfl rfl (hs_o2 kc123) rfl rfl ?_
  refine s_aload_n (nx := 29) hO rfl rfl rfl ?_
  refine s_getf (v := .int (sI s3 123 14)) (nx := 32) hO rfl rfl (hs_o2 kc123) rfl rfl ?_
  obtain ⟨b4, H⟩ := H
  refine s_iald (nx := 33) hO rfl (hs_I kc134) b4 rfl ?_
  refine goV (wI s3 123 16 (sI s3 134 (ix (sI s3 123 14)))) (fun s5 es5 => ?_)
  replace H := H s5 es5
  refine s_putf (nx := 36) hO rfl rfl (hs_o2 kc123) (Nat.le_of_ble_eq_true rfl) (by rw [hty]; rfl) (by rw [hty]; rfl) pX2_16 rfl ?_
  refine xEx.at (up_oI2 kc123 es5) ?_
  refine s_aload_n (nx := 37) hO rfl rfl rfl ?_
  refine s_aload_n (nx := 38) hO rfl rfl rfl ?_
  refine s_getf (v := .ref (q_b G + 135)) (nx := 41) hO rfl rfl (hs_o2 kc123) rfl rfl ?_
  refine s_aload_n (nx := 42) hO rfl rfl rfl ?_
  refine s_getf (v := .int (sI s5 123 14)) (nx := 45) hO rfl rfl (hs_o2 kc123) rfl rfl ?_
  obtain ⟨b6, H⟩ := H
  refine s_iald (nx := 46) hO rfl (hs_I kc135) b6 rfl ?_
  refine goV (wI s5 123 17 (sI s5 135 (ix (sI s5 123 14)))) (fun s7 es7 => ?_)
  replace H := H s7 es7
  refine s_putf (nx := 49) hO rfl rfl (hs_o2 kc123) (Nat.le_of_ble_eq_true rfl) (by rw [hty]; rfl) (by rw [hty]; rfl) pX2_17 rfl ?_
  refine xEx.at (up_oI2 kc123 es7) ?_
  exact s_vret hO rfl rfl ⟨rfl, _, rfl, rfl, H⟩
def W_X2_throwCode (s : yS) (v1 : Int32) (Q : yS → Prop) : Prop :=
 ∀ P2 : Int32 → yS → Prop, (∀ (x1 : Int32) (s2 : yS), ((((nI 40) ≤ x1 → Q s2)
  ∧ (¬ (nI 40) ≤ x1 → W_X2_handlerFor s2 ((sI s2 123 16) - 1) v1 
   (fun r3 => ((r3 = (-1) → ((¬ (sI s2 123 14) = 0 → W_X2_backToCaller s2 
     (fun s4 => ∀ x5 : Int32, x5 = (x1 + 1) → 
     P2 x5 s4))
    ∧ ((sI s2 123 14) = 0 → W_X2_end s2 1 v1 
     (fun s6 => Q s6))))
   ∧ (¬ r3 = (-1) → ∀ s7 : yS, s7 = wI s2 123 17 ((sI s2 123 14) * (nI 16)) → 
    W_X2_push s7 v1 
    (fun s8 => ∃ p9 : Nat, sR s8 123 11 = p9 + 1 ∧ kd p9 = some (9, 0) ∧ 
    vp_in r3 72 ∧ 
    ∀ s11 : yS, s11 = wI s8 123 16 (sI s8 (p9 + 15) (ix r3)) → 
    Q s11))))))) → P2 x1 s2) → 
 P2 0 s
set_option maxRecDepth 100000 in
set_option maxHeartbeats 40000000 in
theorem w_X2_throwCode {G : xG} (hG : yG G) {z : Nat} {s : yS} {v1 : Int32} {Q : yS → Prop} (H : W_X2_throwCode s v1 Q) : xC G mX2_throwCode [.ref (q_b G + 123), .int v1] (hS G s) z 0 0 (yQv G z Q) := by
  have hW := hG.1
  have hcl := hG.2.1
  have hty := hG.2.2.1
  have hO : xO G mX2_throwCode tbX2_throwCode ptX2_throwCode := ⟨tkX2_throwCode, pkX2_throwCode hcl⟩
  unfold W_X2_throwCode at H
  refine xC.of hW (by decide) rfl (Nat.le_of_ble_eq_true rfl) ?_
  refine s_iconst (x := 0) (nx := 1) hO rfl (by decide) rfl ?_
  refine goK (H (fun (x1 : Int32) (s2 : yS) => xEx G mX2_throwCode 2 [(0, .ref (q_b G + 123)), (1, .int v1), (2, .int x1)] [] (hS G s2) z 0 0 (yQv G z Q)) (fun x1 s2 H => ?_)) (fun H => ?_)
  · show xEx G mX2_throwCode 2 [(0, .ref (q_b G + 123)), (1, .int v1), (2, .int x1)] [] (hS G s2) z 0 0 (yQv G z Q)
    refine s_iload_n (nx := 3) hO rfl rfl rfl ?_
    refine s_bipush (x := (nI 40)) (nx := 5) hO rfl (by decide) rfl ?_
    refine s_icmp_ge (nx := 8) hO rfl rfl (fun c5 => ?_) (fun c5 => ?_)
    · replace H := H.1 c5
      exact s_vret hO rfl rfl ⟨rfl, _, rfl, rfl, H⟩
    · replace H := H.2 c5
      refine s_aload_n (nx := 9) hO rfl rfl rfl ?_
      refine s_aload_n (nx := 10) hO rfl rfl rfl ?_
      refine s_getf (v := .int (sI s2 123 16)) (nx := 13) hO rfl rfl (hs_o2 kc123) rfl rfl ?_
      refine s_iconst (x := 1) (nx := 14) hO rfl (by decide) rfl ?_
      refine s_isub (nx := 15) hO rfl rfl ?_
      refine s_iload_n (nx := 16) hO rfl rfl rfl ?_
      refine s_callV [.int ((sI s2 123 16) - 1), .int v1] (ci := 2) (F := TX2) (N := 18) (nx := 19) hO rfl kX2_throwCode_161 (by rw [hcl]; rfl) (hs_o2 kc123) (w_X2_handlerFor hG H) rfl rfl (Nat.le_of_ble_eq_true rfl) (Nat.zero_le _) (Nat.zero_le _) rfl (k_Pi (fun r3 H => ?_))
      refine s_istore_n (nx := 20) (l' := [(3, .int r3), (0, .ref (q_b G + 123)), (1, .int v1), (2, .int x1)]) hO rfl (by decide) rfl rfl ?_
      refine s_iload_n (nx := 21) hO rfl rfl rfl ?_
      refine s_iconst (x := (-1)) (nx := 22) hO rfl (by decide) rfl ?_
      refine s_icmp_eq (nx := 25) hO rfl rfl (fun c22 => ?_) (fun c22 => ?_)
      · replace H := H.1 c22
        refine s_aload_n (nx := 56) hO rfl rfl rfl ?_
        refine s_getf (v := .int (sI s2 123 14)) (nx := 59) hO rfl rfl (hs_o2 kc123) rfl rfl ?_
        refine s_if_ne (nx := 62) hO rfl rfl (fun c59 => ?_) (fun c59 => ?_)
        · replace H := H.1 c59
          refine s_aload_n (nx := 70) hO rfl rfl rfl ?_
          refine s_callV [] (ci := 2) (F := TX2) (N := 18) (nx := 73) hO rfl kX2_throwCode_158 (by rw [hcl]; rfl) (hs_o2 kc123) (w_X2_backToCaller hG H) rfl rfl (Nat.le_of_ble_eq_true rfl) (Nat.zero_le _) (Nat.zero_le _) rfl (k_Qv (fun s4 H => ?_))
          refine goV ((x1 + 1)) (fun x5 ex5 => ?_)
          replace H := H x5 ex5
          refine e_iinc (nx := 76) (l' := [(2, .int x5), (3, .int r3), (0, .ref (q_b G + 123)), (1, .int v1)]) ex5 hO rfl (by decide) rfl rfl rfl rfl ?_
          refine s_goto hO rfl ?_
          exact xEx.loc (x_sub1 (List.Mem.tail _ (List.Mem.tail _ (List.Mem.head _))) (x_sub1 (List.Mem.tail _ (List.Mem.tail _ (List.Mem.tail _ (List.Mem.head _)))) (x_sub1 (List.Mem.head _) x_sub0))) H
        · replace H := H.2 c59
          refine s_aload_n (nx := 63) hO rfl rfl rfl ?_
          refine s_iconst (x := 1) (nx := 64) hO rfl (by decide) rfl ?_
          refine s_iload_n (nx := 65) hO rfl rfl rfl ?_
          refine s_callV [.int 1, .int v1] (ci := 2) (F := TX2) (N := 18) (nx := 68) hO rfl kX2_throwCode_87 (by rw [hcl]; rfl) (hs_o2 kc123) (w_X2_end hG H) rfl rfl (Nat.le_of_ble_eq_true rfl) (Nat.zero_le _) (Nat.zero_le _) rfl (k_Qv (fun s6 H => ?_))
          exact s_vret hO rfl rfl ⟨rfl, _, rfl, rfl, H⟩
      · replace H := H.2 c22
        refine s_aload_n (nx := 26) hO rfl rfl rfl ?_
        refine s_aload_n (nx := 27) hO rfl rfl rfl ?_
        refine s_getf (v := .int (sI s2 123 14)) (nx := 30) hO rfl rfl (hs_o2 kc123) rfl rfl ?_
        refine s_bipush (x := (nI 16)) (nx := 32) hO rfl (by decide) rfl ?_
        refine s_imul (nx := 33) hO rfl rfl ?_
        refine goV (wI s2 123 17 ((sI s2 123 14) * (nI 16))) (fun s7 es7 => ?_)
        replace H := H s7 es7
        refine s_putf (nx := 36) hO rfl rfl (hs_o2 kc123) (Nat.le_of_ble_eq_true rfl) (by rw [hty]; rfl) (by rw [hty]; rfl) pX2_17 rfl ?_
        refine xEx.at (up_oI2 kc123 es7) ?_
        refine s_aload_n (nx := 37) hO rfl rfl rfl ?_
        refine s_iload_n (nx := 38) hO rfl rfl rfl ?_
        refine s_callV [.int v1] (ci := 2) (F := TX2) (N := 18) (nx := 41) hO rfl kX2_throwCode_123 (by rw [hcl]; rfl) (hs_o2 kc123) (w_X2_push hG H) rfl rfl (Nat.le_of_ble_eq_true rfl) (Nat.zero_le _) (Nat.zero_le _) rfl (k_Qv (fun s8 H => ?_))
        refine s_aload_n (nx := 42) hO rfl rfl rfl ?_
        refine s_aload_n (nx := 43) hO rfl rfl rfl ?_
        obtain ⟨p9, ep9, kp9, H⟩ := H
        refine s_getf (v := .ref (q_b G + p9)) (nx := 46) hO rfl rfl (hs_o2 kc123) (congrArg some (rv_at ep9)) rfl ?_
        refine s_getf (v := .ref (q_b G + (p9 + 15))) (nx := 49) hO rfl rfl (hs_o5 kp9) rfl rfl ?_
        refine s_iload_n (nx := 50) hO rfl rfl rfl ?_
        obtain ⟨b10, H⟩ := H
        refine s_iald (nx := 51) hO rfl (hs_I (kf5_16 kp9)) b10 rfl ?_
        refine goV (wI s8 123 16 (sI s8 (p9 + 15) (ix r3))) (fun s11 es11 => ?_)
        replace H := H s11 es11
        refine s_putf (nx := 54) hO rfl rfl (hs_o2 kc123) (Nat.le_of_ble_eq_true rfl) (by rw [hty]; rfl) (by rw [hty]; rfl) pX2_16 rfl ?_
        refine xEx.at (up_oI2 kc123 es11) ?_
        exact s_vret hO rfl rfl ⟨rfl, _, rfl, rfl, H⟩
  refine s_istore_n (nx := 2) (l' := [(2, .int 0), (0, .ref (q_b G + 123)), (1, .int v1)]) hO rfl (by decide) rfl rfl ?_
  exact xEx.loc (x_sub1 (List.Mem.tail _ (List.Mem.head _)) (x_sub1 (List.Mem.tail _ (List.Mem.tail _ (List.Mem.head _))) (x_sub1 (List.Mem.head _) x_sub0))) H
def W_X2_reckon (s : yS) (v1 : Int32) (v2 : Int32) (v3 : Int32) (Q : Int32 → Prop) : Prop :=
 ((((v1).toInt < 6 ∨ 16 < (v1).toInt) → ((¬ v2 = v3 → Q 0)
  ∧ (v2 = v3 → Q 1)))
 ∧ ((v1).toInt = 6 → Q (v2 + v3))
 ∧ ((v1).toInt = 7 → Q (v2 - v3))
 ∧ ((v1).toInt = 8 → Q (v2 * v3))
 ∧ ((v1).toInt = 9 → ((¬ v3 = 0 → (¬ v3 = 0) ∧ 
    Q (v2 / v3))
   ∧ (v3 = 0 → Q 0)))
 ∧ ((v1).toInt = 10 → ((¬ v3 = 0 → (¬ v3 = 0) ∧ 
    Q (v2 - v2 / v3 * v3))
   ∧ (v3 = 0 → Q 0)))
 ∧ ((v1).toInt = 11 → Q (v2 &&& v3))
 ∧ ((v1).toInt = 12 → Q (v2 ||| v3))
 ∧ ((v1).toInt = 13 → Q (v2 ^^^ v3))
 ∧ ((v1).toInt = 14 → Q (v2 <<< ((v3 &&& (nI 31)) &&& 31)))
 ∧ ((v1).toInt = 15 → Q (v2 >>> ((v3 &&& (nI 31)) &&& 31)))
 ∧ ((v1).toInt = 16 → ((v3 ≤ v2 → Q 0)
   ∧ (¬ v3 ≤ v2 → Q 1))))
set_option maxRecDepth 100000 in
set_option maxHeartbeats 40000000 in
theorem w_X2_reckon {G : xG} (hG : yG G) {z : Nat} {s : yS} {v1 : Int32} {v2 : Int32} {v3 : Int32} {Q : Int32 → Prop} (H : W_X2_reckon s v1 v2 v3 Q) : xC G mX2_reckon [.int v1, .int v2, .int v3] (hS G s) z 0 0 (yPi G z s Q) := by
  have hW := hG.1
  have hcl := hG.2.1
  have hty := hG.2.2.1
  have hO : xO G mX2_reckon tbX2_reckon ptX2_reckon := ⟨tkX2_reckon, pkX2_reckon hcl⟩
  unfold W_X2_reckon at H
  refine xC.of hW (by decide) rfl (Nat.le_of_ble_eq_true rfl) ?_
  refine s_iload_n (nx := 1) hO rfl rfl rfl ?_
  refine s_switch hO rfl (fun c1 => ?_) (fun dc1 fc1 => ?_)
  · replace H := H.1 c1
    refine s_iload_n (nx := 134) hO rfl rfl rfl ?_
    refine s_iload_n (nx := 135) hO rfl rfl rfl ?_
    refine s_icmp_ne (nx := 138) hO rfl rfl (fun c135 => ?_) (fun c135 => ?_)
    · replace H := H.1 c135
      refine s_iconst (x := 0) (nx := 143) hO rfl (by decide) rfl ?_
      exact s_iret hO rfl rfl rfl ⟨rfl, _, rfl, rfl, H⟩
    · replace H := H.2 c135
      refine s_iconst (x := 1) (nx := 139) hO rfl (by decide) rfl ?_
      refine s_goto hO rfl ?_
      exact s_iret hO rfl rfl rfl ⟨rfl, _, rfl, rfl, H⟩
  · obtain c1 | c1 | c1 | c1 | c1 | c1 | c1 | c1 | c1 | c1 | c1 : (v1).toInt = 6 ∨ (v1).toInt = 7 ∨ (v1).toInt = 8 ∨ (v1).toInt = 9 ∨ (v1).toInt = 10 ∨ (v1).toInt = 11 ∨ (v1).toInt = 12 ∨ (v1).toInt = 13 ∨ (v1).toInt = 14 ∨ (v1).toInt = 15 ∨ (v1).toInt = 16 := by omega
    · replace H := H.2.1 c1
      refine ⟨60, by rw [c1]; rfl, ?_⟩
      refine s_iload_n (nx := 61) hO rfl rfl rfl ?_
      refine s_iload_n (nx := 62) hO rfl rfl rfl ?_
      refine s_iadd (nx := 63) hO rfl rfl ?_
      exact s_iret hO rfl rfl rfl ⟨rfl, _, rfl, rfl, H⟩
    · replace H := H.2.2.1 c1
      refine ⟨64, by rw [c1]; rfl, ?_⟩
      refine s_iload_n (nx := 65) hO rfl rfl rfl ?_
      refine s_iload_n (nx := 66) hO rfl rfl rfl ?_
      refine s_isub (nx := 67) hO rfl rfl ?_
      exact s_iret hO rfl rfl rfl ⟨rfl, _, rfl, rfl, H⟩
    · replace H := H.2.2.2.1 c1
      refine ⟨68, by rw [c1]; rfl, ?_⟩
      refine s_iload_n (nx := 69) hO rfl rfl rfl ?_
      refine s_iload_n (nx := 70) hO rfl rfl rfl ?_
      refine s_imul (nx := 71) hO rfl rfl ?_
      exact s_iret hO rfl rfl rfl ⟨rfl, _, rfl, rfl, H⟩
    · replace H := H.2.2.2.2.1 c1
      refine ⟨72, by rw [c1]; rfl, ?_⟩
      refine s_iload_n (nx := 73) hO rfl rfl rfl ?_
      refine s_if_ne (nx := 76) hO rfl rfl (fun c73 => ?_) (fun c73 => ?_)
      · replace H := H.1 c73
        refine s_iload_n (nx := 81) hO rfl rfl rfl ?_
        refine s_iload_n (nx := 82) hO rfl rfl rfl ?_
        obtain ⟨b1, H⟩ := H
        refine s_idiv (nx := 83) hO rfl b1 rfl ?_
        exact s_iret hO rfl rfl rfl ⟨rfl, _, rfl, rfl, H⟩
      · replace H := H.2 c73
        refine s_iconst (x := 0) (nx := 77) hO rfl (by decide) rfl ?_
        refine s_goto hO rfl ?_
        exact s_iret hO rfl rfl rfl ⟨rfl, _, rfl, rfl, H⟩
    · replace H := H.2.2.2.2.2.1 c1
      refine ⟨84, by rw [c1]; rfl, ?_⟩
      refine s_iload_n (nx := 85) hO rfl rfl rfl ?_
      refine s_if_ne (nx := 88) hO rfl rfl (fun c85 => ?_) (fun c85 => ?_)
      · replace H := H.1 c85
        refine s_iload_n (nx := 93) hO rfl rfl rfl ?_
        refine s_iload_n (nx := 94) hO rfl rfl rfl ?_
        obtain ⟨b2, H⟩ := H
        refine s_irem (nx := 95) hO rfl b2 rfl ?_
        exact s_iret hO rfl rfl rfl ⟨rfl, _, rfl, rfl, H⟩
      · replace H := H.2 c85
        refine s_iconst (x := 0) (nx := 89) hO rfl (by decide) rfl ?_
        refine s_goto hO rfl ?_
        exact s_iret hO rfl rfl rfl ⟨rfl, _, rfl, rfl, H⟩
    · replace H := H.2.2.2.2.2.2.1 c1
      refine ⟨96, by rw [c1]; rfl, ?_⟩
      refine s_iload_n (nx := 97) hO rfl rfl rfl ?_
      refine s_iload_n (nx := 98) hO rfl rfl rfl ?_
      refine s_iand (nx := 99) hO rfl rfl ?_
      exact s_iret hO rfl rfl rfl ⟨rfl, _, rfl, rfl, H⟩
    · replace H := H.2.2.2.2.2.2.2.1 c1
      refine ⟨100, by rw [c1]; rfl, ?_⟩
      refine s_iload_n (nx := 101) hO rfl rfl rfl ?_
      refine s_iload_n (nx := 102) hO rfl rfl rfl ?_
      refine s_ior (nx := 103) hO rfl rfl ?_
      exact s_iret hO rfl rfl rfl ⟨rfl, _, rfl, rfl, H⟩
    · replace H := H.2.2.2.2.2.2.2.2.1 c1
      refine ⟨104, by rw [c1]; rfl, ?_⟩
      refine s_iload_n (nx := 105) hO rfl rfl rfl ?_
      refine s_iload_n (nx := 106) hO rfl rfl rfl ?_
      refine s_ixor (nx := 107) hO rfl rfl ?_
      exact s_iret hO rfl rfl rfl ⟨rfl, _, rfl, rfl, H⟩
    · replace H := H.2.2.2.2.2.2.2.2.2.1 c1
      refine ⟨108, by rw [c1]; rfl, ?_⟩
      refine s_iload_n (nx := 109) hO rfl rfl rfl ?_
      refine s_iload_n (nx := 110) hO rfl rfl rfl ?_
      refine s_bipush (x := (nI 31)) (nx := 112) hO rfl (by decide) rfl ?_
      refine s_iand (nx := 113) hO rfl rfl ?_
      refine s_ishl (nx := 114) hO rfl rfl ?_
      exact s_iret hO rfl rfl rfl ⟨rfl, _, rfl, rfl, H⟩
    · replace H := H.2.2.2.2.2.2.2.2.2.2.1 c1
      refine ⟨115, by rw [c1]; rfl, ?_⟩
      refine s_iload_n (nx := 116) hO rfl rfl rfl ?_
      refine s_iload_n (nx := 117) hO rfl rfl rfl ?_
      refine s_bipush (x := (nI 31)) (nx := 119) hO rfl (by decide) rfl ?_
      refine s_iand (nx := 120) hO rfl rfl ?_
      refine s_ishr (nx := 121) hO rfl rfl ?_
      exact s_iret hO rfl rfl rfl ⟨rfl, _, rfl, rfl, H⟩
    · replace H := H.2.2.2.2.2.2.2.2.2.2.2 c1
      refine ⟨122, by rw [c1]; rfl, ?_⟩
      refine s_iload_n (nx := 123) hO rfl rfl rfl ?_
      refine s_iload_n (nx := 124) hO rfl rfl rfl ?_
      refine s_icmp_ge (nx := 127) hO rfl rfl (fun c124 => ?_) (fun c124 => ?_)
      · replace H := H.1 c124
        refine s_iconst (x := 0) (nx := 132) hO rfl (by decide) rfl ?_
        exact s_iret hO rfl rfl rfl ⟨rfl, _, rfl, rfl, H⟩
      · replace H := H.2 c124
        refine s_iconst (x := 1) (nx := 128) hO rfl (by decide) rfl ?_
        refine s_goto hO rfl ?_
        exact s_iret hO rfl rfl rfl ⟨rfl, _, rfl, rfl, H⟩
def W_X2_doInts (s : yS) (v1 : Int32) (Q : yS → Prop) : Prop :=
 W_X2_pop s 
 (fun r1 s2 => W_X2_pop s2 
 (fun r3 s4 => ∀ P34 : Prop, ((W_X2_reckon s4 v1 r3 r1 
  (fun r5 => W_X2_push s4 r5 
  (fun s6 => Q s6))) → P34) → 
 ∀ P22 : Prop, ((((¬ r1 = 0 → P34)
  ∧ (r1 = 0 → W_X2_throwCode s4 1 
   (fun s7 => Q s7)))) → P22) → 
 ((v1 = (nI 9) → P22)
 ∧ (¬ v1 = (nI 9) → ((¬ v1 = (nI 10) → P34)
  ∧ (v1 = (nI 10) → P22))))))
set_option maxRecDepth 100000 in
set_option maxHeartbeats 40000000 in
theorem w_X2_doInts {G : xG} (hG : yG G) {z : Nat} {s : yS} {v1 : Int32} {Q : yS → Prop} (H : W_X2_doInts s v1 Q) : xC G mX2_doInts [.ref (q_b G + 123), .int v1] (hS G s) z 0 0 (yQv G z Q) := by
  have hW := hG.1
  have hcl := hG.2.1
  have hty := hG.2.2.1
  have hO : xO G mX2_doInts tbX2_doInts ptX2_doInts := ⟨tkX2_doInts, pkX2_doInts hcl⟩
  unfold W_X2_doInts at H
  refine xC.of hW (by decide) rfl (Nat.le_of_ble_eq_true rfl) ?_
  refine s_aload_n (nx := 1) hO rfl rfl rfl ?_
  refine s_callV [] (ci := 2) (F := TX2) (N := 18) (nx := 4) hO rfl kX2_doInts_126 (by rw [hcl]; rfl) (hs_o2 kc123) (w_X2_pop hG H) rfl rfl (Nat.le_of_ble_eq_true rfl) (Nat.zero_le _) (Nat.zero_le _) rfl (k_Qi (fun r1 s2 H => ?_))
  refine s_istore_n (nx := 5) (l' := [(2, .int r1), (0, .ref (q_b G + 123)), (1, .int v1)]) hO rfl (by decide) rfl rfl ?_
  refine s_aload_n (nx := 6) hO rfl rfl rfl ?_
  refine s_callV [] (ci := 2) (F := TX2) (N := 18) (nx := 9) hO rfl kX2_doInts_126 (by rw [hcl]; rfl) (hs_o2 kc123) (w_X2_pop hG H) rfl rfl (Nat.le_of_ble_eq_true rfl) (Nat.zero_le _) (Nat.zero_le _) rfl (k_Qi (fun r3 s4 H => ?_))
  refine s_istore_n (nx := 10) (l' := [(3, .int r3), (2, .int r1), (0, .ref (q_b G + 123)), (1, .int v1)]) hO rfl (by decide) rfl rfl ?_
  refine s_iload_n (nx := 11) hO rfl rfl rfl ?_
  refine s_bipush (x := (nI 9)) (nx := 13) hO rfl (by decide) rfl ?_
  refine goK (H (xEx G mX2_doInts 34 [(0, .ref (q_b G + 123)), (1, .int v1), (2, .int r1), (3, .int r3)] [] (hS G s4) z 0 0 (yQv G z Q)) (fun H => ?_)) (fun H => ?_)
  · show xEx G mX2_doInts 34 [(0, .ref (q_b G + 123)), (1, .int v1), (2, .int r1), (3, .int r3)] [] (hS G s4) z 0 0 (yQv G z Q)
    refine s_aload_n (nx := 35) hO rfl rfl rfl ?_
    refine s_iload_n (nx := 36) hO rfl rfl rfl ?_
    refine s_iload_n (nx := 37) hO rfl rfl rfl ?_
    refine s_iload_n (nx := 38) hO rfl rfl rfl ?_
    refine s_callS [.int v1, .int r3, .int r1] (nx := 41) hO rfl kX2_doInts_133 (w_X2_reckon hG H) rfl rfl (Nat.le_of_ble_eq_true rfl) (Nat.zero_le _) (Nat.zero_le _) rfl (k_Pi (fun r5 H => ?_))
    refine s_callV [.int r5] (ci := 2) (F := TX2) (N := 18) (nx := 44) hO rfl kX2_doInts_123 (by rw [hcl]; rfl) (hs_o2 kc123) (w_X2_push hG H) rfl rfl (Nat.le_of_ble_eq_true rfl) (Nat.zero_le _) (Nat.zero_le _) rfl (k_Qv (fun s6 H => ?_))
    exact s_vret hO rfl rfl ⟨rfl, _, rfl, rfl, H⟩
  refine goK (H (xEx G mX2_doInts 22 [(0, .ref (q_b G + 123)), (1, .int v1), (2, .int r1), (3, .int r3)] [] (hS G s4) z 0 0 (yQv G z Q)) (fun H => ?_)) (fun H => ?_)
  · show xEx G mX2_doInts 22 [(0, .ref (q_b G + 123)), (1, .int v1), (2, .int r1), (3, .int r3)] [] (hS G s4) z 0 0 (yQv G z Q)
    refine s_iload_n (nx := 23) hO rfl rfl rfl ?_
    refine s_if_ne (nx := 26) hO rfl rfl (fun c23 => ?_) (fun c23 => ?_)
    · replace H := H.1 c23
      exact xEx.loc (x_sub1 (List.Mem.head _) (x_sub1 (List.Mem.tail _ (List.Mem.head _)) (x_sub1 (List.Mem.tail _ (List.Mem.tail _ (List.Mem.head _))) (x_sub1 (List.Mem.tail _ (List.Mem.tail _ (List.Mem.tail _ (List.Mem.head _)))) x_sub0)))) H
    · replace H := H.2 c23
      refine s_aload_n (nx := 27) hO rfl rfl rfl ?_
      refine s_iconst (x := 1) (nx := 28) hO rfl (by decide) rfl ?_
      refine s_callV [.int 1] (ci := 2) (F := TX2) (N := 18) (nx := 31) hO rfl kX2_doInts_130 (by rw [hcl]; rfl) (hs_o2 kc123) (w_X2_throwCode hG H) rfl rfl (Nat.le_of_ble_eq_true rfl) (Nat.zero_le _) (Nat.zero_le _) rfl (k_Qv (fun s7 H => ?_))
      refine s_goto hO rfl ?_
      exact s_vret hO rfl rfl ⟨rfl, _, rfl, rfl, H⟩
  refine s_icmp_eq (nx := 16) hO rfl rfl (fun c13 => ?_) (fun c13 => ?_)
  · replace H := H.1 c13
    exact xEx.loc (x_sub1 (List.Mem.tail _ (List.Mem.tail _ (List.Mem.head _))) (x_sub1 (List.Mem.tail _ (List.Mem.tail _ (List.Mem.tail _ (List.Mem.head _)))) (x_sub1 (List.Mem.tail _ (List.Mem.head _)) (x_sub1 (List.Mem.head _) x_sub0)))) H
  · replace H := H.2 c13
    refine s_iload_n (nx := 17) hO rfl rfl rfl ?_
    refine s_bipush (x := (nI 10)) (nx := 19) hO rfl (by decide) rfl ?_
    refine s_icmp_ne (nx := 22) hO rfl rfl (fun c19 => ?_) (fun c19 => ?_)
    · replace H := H.1 c19
      exact xEx.loc (x_sub1 (List.Mem.tail _ (List.Mem.tail _ (List.Mem.head _))) (x_sub1 (List.Mem.tail _ (List.Mem.tail _ (List.Mem.tail _ (List.Mem.head _)))) (x_sub1 (List.Mem.tail _ (List.Mem.head _)) (x_sub1 (List.Mem.head _) x_sub0)))) H
    · replace H := H.2 c19
      exact xEx.loc (x_sub1 (List.Mem.tail _ (List.Mem.tail _ (List.Mem.head _))) (x_sub1 (List.Mem.tail _ (List.Mem.tail _ (List.Mem.tail _ (List.Mem.head _)))) (x_sub1 (List.Mem.tail _ (List.Mem.head _)) (x_sub1 (List.Mem.head _) x_sub0)))) H

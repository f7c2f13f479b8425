def W_J7_fill_d0a16 (s : yS) (a1 n1 : Nat) (v2 : Int64) (Q : yS → Prop) : Prop :=
 ∀ P6 : Int32 → Int32 → yS → Prop, (∀ (x1 : Int32) (x2 : Int32) (s3 : yS), (((x2 ≤ x1 → Q s3)
  ∧ (¬ x2 ≤ x1 → vp_in x1 n1 ∧ ∀ s5 : yS, s5 = wJ s3 a1 (ix x1) v2 → 
   ∀ x6 : Int32, x6 = (x1 + 1) → 
   P6 x6 x2 s5))) → P6 x1 x2 s3) → 
 ∀ x7 : Int32, x7 = (nI n1) → 
 P6 0 x7 s
set_option maxRecDepth 100000 in
set_option maxHeartbeats 40000000 in
theorem w_J7_fill_d0a16 {G : xG} (hG : yG G) {z : Nat} {s : yS} {a1 n1 : Nat} {v2 : Int64} {Q : yS → Prop} (ha1 : kd a1 = some (3, n1)) (H : W_J7_fill_d0a16 s a1 n1 v2 Q) : xC G mJ7_fill_d0a16 [.ref (q_b G + a1), .long v2] (hS G s) z 0 0 (yQv G z Q) := by
  have hW := hG.1
  have hcl := hG.2.1
  have hty := hG.2.2.1
  have hO : xO G mJ7_fill_d0a16 tbJ7_fill_d0a16 ptJ7_fill_d0a16 := ⟨tkJ7_fill_d0a16, pkJ7_fill_d0a16 hcl⟩
  unfold W_J7_fill_d0a16 at H
  refine xC.of hW (by decide) rfl (Nat.le_of_ble_eq_true rfl) ?_
  refine s_iconst (x := 0) (nx := 1) hO rfl (by decide) rfl ?_
  refine s_istore_n (nx := 2) (l' := [(3, .int 0), (0, .ref (q_b G + a1)), (1, .long v2)]) hO rfl (by decide) rfl rfl ?_
  refine s_aload_n (nx := 3) hO rfl rfl rfl ?_
  refine s_alenJ (nx := 4) hO rfl (hs_J ha1) rfl ?_
  refine goK (H (fun (x1 : Int32) (x2 : Int32) (s3 : yS) => xEx G mJ7_fill_d0a16 6 [(0, .ref (q_b G + a1)), (1, .long v2), (3, .int x1), (4, .int x2)] [] (hS G s3) z 0 0 (yQv G z Q)) (fun x1 x2 s3 H => ?_)) (fun H => ?_)
  · show xEx G mJ7_fill_d0a16 6 [(0, .ref (q_b G + a1)), (1, .long v2), (3, .int x1), (4, .int x2)] [] (hS G s3) z 0 0 (yQv G z Q)
    refine s_iload_n (nx := 7) hO rfl rfl rfl ?_
    refine s_iload (nx := 9) hO rfl rfl rfl ?_
    refine s_icmp_ge (nx := 12) hO rfl rfl (fun c9 => ?_) (fun c9 => ?_)
    · replace H := H.1 c9
      exact s_vret hO rfl rfl ⟨rfl, _, rfl, rfl, H⟩
    · replace H := H.2 c9
      refine s_aload_n (nx := 13) hO rfl rfl rfl ?_
      refine s_iload_n (nx := 14) hO rfl rfl rfl ?_
      refine s_lload_n (nx := 15) hO rfl rfl rfl ?_
      obtain ⟨b4, H⟩ := H
      refine goV (wJ s3 a1 (ix x1) v2) (fun s5 es5 => ?_)
      replace H := H s5 es5
      refine s_last (nx := 16) hO rfl (hs_J ha1) b4 rfl ?_
      refine xEx.at (up_J ha1 es5) ?_
      refine goV ((x1 + 1)) (fun x6 ex6 => ?_)
      replace H := H x6 ex6
      refine e_iinc (nx := 19) (l' := [(3, .int x6), (0, .ref (q_b G + a1)), (1, .long v2), (4, .int x2)]) ex6 hO rfl (by decide) rfl rfl rfl rfl ?_
      refine s_goto hO rfl ?_
      exact xEx.loc (x_sub1 (List.Mem.tail _ (List.Mem.head _)) (x_sub1 (List.Mem.tail _ (List.Mem.tail _ (List.Mem.head _))) (x_sub1 (List.Mem.head _) (x_sub1 (List.Mem.tail _ (List.Mem.tail _ (List.Mem.tail _ (List.Mem.head _)))) x_sub0)))) H
  refine goV ((nI n1)) (fun x7 ex7 => ?_)
  replace H := H x7 ex7
  refine e_istore (nx := 6) (l' := [(4, .int x7), (3, .int 0), (0, .ref (q_b G + a1)), (1, .long v2)]) ex7 hO rfl (by decide) rfl rfl ?_
  exact xEx.loc (x_sub1 (List.Mem.tail _ (List.Mem.tail _ (List.Mem.head _))) (x_sub1 (List.Mem.tail _ (List.Mem.tail _ (List.Mem.tail _ (List.Mem.head _)))) (x_sub1 (List.Mem.tail _ (List.Mem.head _)) (x_sub1 (List.Mem.head _) x_sub0)))) H
def W_X0_enqueue (s : yS) (v1 : Int32) (Q : yS → Prop) : Prop :=
 vp_in v1 4800 ∧ 
 ((¬ (sI s 118 (ix v1)) = 0 → Q s)
 ∧ ((sI s 118 (ix v1)) = 0 → vp_in v1 4800 ∧ ∀ s3 : yS, s3 = wI s 118 (ix v1) (vp_nar .boolean 1) → 
  vp_in (((sI s3 116 4) + (sI s3 116 5)) - ((sI s3 116 4) + (sI s3 116 5)) / (nI 4800) * (nI 4800)) 4800 ∧ ∀ s5 : yS, s5 = wI s3 117 (ix (((sI s3 116 4) + (sI s3 116 5)) - ((sI s3 116 4) + (sI s3 116 5)) / (nI 4800) * (nI 4800))) v1 → 
  ∀ s6 : yS, s6 = wI s5 116 5 ((sI s5 116 5) + 1) → 
  Q s6))
set_option maxRecDepth 100000 in
set_option maxHeartbeats 40000000 in
theorem w_X0_enqueue {G : xG} (hG : yG G) {z : Nat} {s : yS} {v1 : Int32} {Q : yS → Prop} (H : W_X0_enqueue s v1 Q) : xC G mX0_enqueue [.ref (q_b G + 116), .int v1] (hS G s) z 0 0 (yQv G z Q) := by
  have hW := hG.1
  have hcl := hG.2.1
  have hty := hG.2.2.1
  have hO : xO G mX0_enqueue tbX0_enqueue ptX0_enqueue := ⟨tkX0_enqueue, pkX0_enqueue hcl⟩
  unfold W_X0_enqueue at H
  refine xC.of hW (by decide) rfl (Nat.le_of_ble_eq_true rfl) ?_
  refine s_aload_n (nx := 1) hO rfl rfl rfl ?_
  refine s_getf (v := .ref (q_b G + 118)) (nx := 4) hO rfl rfl (hs_o0 kc116) rfl rfl ?_
  refine s_iload_n (nx := 5) hO rfl rfl rfl ?_
  obtain ⟨b1, H⟩ := H
  refine s_zald (nx := 6) hO rfl (hs_Z kc118) b1 rfl ?_
  refine s_if_ne (nx := 9) hO rfl rfl (fun c6 => ?_) (fun c6 => ?_)
  · replace H := H.1 c6
    exact s_vret hO rfl rfl ⟨rfl, _, rfl, rfl, H⟩
  · replace H := H.2 c6
    refine s_aload_n (nx := 10) hO rfl rfl rfl ?_
    refine s_getf (v := .ref (q_b G + 118)) (nx := 13) hO rfl rfl (hs_o0 kc116) rfl rfl ?_
    refine s_iload_n (nx := 14) hO rfl rfl rfl ?_
    refine s_iconst (x := 1) (nx := 15) hO rfl (by decide) rfl ?_
    obtain ⟨b2, H⟩ := H
    refine goV (wI s 118 (ix v1) (vp_nar .boolean 1)) (fun s3 es3 => ?_)
    replace H := H s3 es3
    refine s_zast (nx := 16) hO rfl (hs_Z kc118) b2 rfl ?_
    refine xEx.at (up_Z kc118 es3) ?_
    refine s_aload_n (nx := 17) hO rfl rfl rfl ?_
    refine s_getf (v := .ref (q_b G + 117)) (nx := 20) hO rfl rfl (hs_o0 kc116) rfl rfl ?_
    refine s_aload_n (nx := 21) hO rfl rfl rfl ?_
    refine s_getf (v := .int (sI s3 116 4)) (nx := 24) hO rfl rfl (hs_o0 kc116) rfl rfl ?_
    refine s_aload_n (nx := 25) hO rfl rfl rfl ?_
    refine s_getf (v := .int (sI s3 116 5)) (nx := 28) hO rfl rfl (hs_o0 kc116) rfl rfl ?_
    refine s_iadd (nx := 29) hO rfl rfl ?_
    refine s_aload_n (nx := 30) hO rfl rfl rfl ?_
    refine s_getf (v := .ref (q_b G + 117)) (nx := 33) hO rfl rfl (hs_o0 kc116) rfl rfl ?_
    refine s_alen (nx := 34) hO rfl (hs_I kc117) (by simp) rfl ?_
    refine s_irem (nx := 35) hO rfl (by decide) rfl ?_
    refine s_iload_n (nx := 36) hO rfl rfl rfl ?_
    obtain ⟨b4, H⟩ := H
    refine goV (wI s3 117 (ix (((sI s3 116 4) + (sI s3 116 5)) - ((sI s3 116 4) + (sI s3 116 5)) / (nI 4800) * (nI 4800))) v1) (fun s5 es5 => ?_)
    replace H := H s5 es5
    refine s_iast (nx := 37) hO rfl (hs_I kc117) b4 rfl ?_
    refine xEx.at (up_I kc117 es5) ?_
    refine s_aload_n (nx := 38) hO rfl rfl rfl ?_
    refine s_dup (nx := 39) hO rfl rfl rfl ?_
    refine s_getf (v := .int (sI s5 116 5)) (nx := 42) hO rfl rfl (hs_o0 kc116) rfl rfl ?_
    refine s_iconst (x := 1) (nx := 43) hO rfl (by decide) rfl ?_
    refine s_iadd (nx := 44) hO rfl rfl ?_
    refine goV (wI s5 116 5 ((sI s5 116 5) + 1)) (fun s6 es6 => ?_)
    replace H := H s6 es6
    refine s_putf (nx := 47) hO rfl rfl (hs_o0 kc116) (Nat.le_of_ble_eq_true rfl) (by rw [hty]; rfl) (by rw [hty]; rfl) pX0_5 rfl ?_
    refine xEx.at (up_oI0 kc116 es6) ?_
    exact s_vret hO rfl rfl ⟨rfl, _, rfl, rfl, H⟩
def W_X0_grow (s : yS) (v1 : Int32) (v2 : Int64) (Q : yS → Prop) : Prop :=
 ∃ p1 : Nat, sR s 116 0 = p1 + 1 ∧ kd p1 = some (9, 0) ∧ 
 vp_in v1 4800 ∧ 
 (((lg_cmp (v2 &&& ((sJ s (p1 + 12) (ix v1)) ^^^ ((-1)))) 0) = 0 → Q s)
 ∧ (¬ (lg_cmp (v2 &&& ((sJ s (p1 + 12) (ix v1)) ^^^ ((-1)))) 0) = 0 → ∃ p3 : Nat, sR s 116 0 = p3 + 1 ∧ kd p3 = some (9, 0) ∧ 
  vp_in v1 4800 ∧ 
  vp_in v1 4800 ∧ ∀ s6 : yS, s6 = wJ s (p3 + 12) (ix v1) ((sJ s (p3 + 12) (ix v1)) ||| v2) → 
  W_X0_enqueue s6 v1 
  (fun s7 => Q s7)))
set_option maxRecDepth 100000 in
set_option maxHeartbeats 40000000 in
theorem w_X0_grow {G : xG} (hG : yG G) {z : Nat} {s : yS} {v1 : Int32} {v2 : Int64} {Q : yS → Prop} (H : W_X0_grow s v1 v2 Q) : xC G mX0_grow [.ref (q_b G + 116), .int v1, .long v2] (hS G s) z 0 0 (yQv G z Q) := by
  have hW := hG.1
  have hcl := hG.2.1
  have hty := hG.2.2.1
  have hO : xO G mX0_grow tbX0_grow ptX0_grow := ⟨tkX0_grow, pkX0_grow hcl⟩
  unfold W_X0_grow at H
  refine xC.of hW (by decide) rfl (Nat.le_of_ble_eq_true rfl) ?_
  refine s_lload_n (nx := 1) hO rfl rfl rfl ?_
  refine s_aload_n (nx := 2) hO rfl rfl rfl ?_
  obtain ⟨p1, ep1, kp1, H⟩ := H
  refine s_getf (v := .ref (q_b G + p1)) (nx := 5) hO rfl rfl (hs_o0 kc116) (congrArg some (rv_at ep1)) rfl ?_
  refine s_getf (v := .ref (q_b G + (p1 + 12))) (nx := 8) hO rfl rfl (hs_o5 kp1) rfl rfl ?_
  refine s_iload_n (nx := 9) hO rfl rfl rfl ?_
  obtain ⟨b2, H⟩ := H
  refine s_lald (nx := 10) hO rfl (hs_J (kf5_12 kp1)) b2 rfl ?_
  refine s_ldc2_w (x := ((-1))) (nx := 13) hO rfl rfl rfl ?_
  refine s_lxor (nx := 14) hO rfl rfl ?_
  refine s_land (nx := 15) hO rfl rfl ?_
  refine s_lconst (x := 0) (nx := 16) hO rfl (by decide) rfl ?_
  refine s_lcmp (nx := 17) hO rfl rfl ?_
  refine s_if_eq (nx := 20) hO rfl rfl (fun c17 => ?_) (fun c17 => ?_)
  · replace H := H.1 c17
    exact s_vret hO rfl rfl ⟨rfl, _, rfl, rfl, H⟩
  · replace H := H.2 c17
    refine s_aload_n (nx := 21) hO rfl rfl rfl ?_
    obtain ⟨p3, ep3, kp3, H⟩ := H
    refine s_getf (v := .ref (q_b G + p3)) (nx := 24) hO rfl rfl (hs_o0 kc116) (congrArg some (rv_at ep3)) rfl ?_
    refine s_getf (v := .ref (q_b G + (p3 + 12))) (nx := 27) hO rfl rfl (hs_o5 kp3) rfl rfl ?_
    refine s_iload_n (nx := 28) hO rfl rfl rfl ?_
    refine s_dup2 (nx := 29) hO rfl rfl rfl rfl ?_
    obtain ⟨b4, H⟩ := H
    refine s_lald (nx := 30) hO rfl (hs_J (kf5_12 kp3)) b4 rfl ?_
    refine s_lload_n (nx := 31) hO rfl rfl rfl ?_
    refine s_lor (nx := 32) hO rfl rfl ?_
    obtain ⟨b5, H⟩ := H
    refine goV (wJ s (p3 + 12) (ix v1) ((sJ s (p3 + 12) (ix v1)) ||| v2)) (fun s6 es6 => ?_)
    replace H := H s6 es6
    refine s_last (nx := 33) hO rfl (hs_J (kf5_12 kp3)) b5 rfl ?_
    refine xEx.at (up_J (kf5_12 kp3) es6) ?_
    refine s_aload_n (nx := 34) hO rfl rfl rfl ?_
    refine s_iload_n (nx := 35) hO rfl rfl rfl ?_
    refine s_callV [.int v1] (ci := 0) (F := TX0) (N := 11) (nx := 38) hO rfl kX0_grow_88 (by rw [hcl]; rfl) (hs_o0 kc116) (w_X0_enqueue hG H) rfl rfl (Nat.le_of_ble_eq_true rfl) (Nat.zero_le _) (Nat.zero_le _) rfl (k_Qv (fun s7 H => ?_))
    exact s_vret hO rfl rfl ⟨rfl, _, rfl, rfl, H⟩
def W_X0_begin (s : yS) (Q : yS → Prop) : Prop :=
 ∃ p1 : Nat, sR s 116 0 = p1 + 1 ∧ kd p1 = some (9, 0) ∧ 
 W_J7_fill_d0a16 s (p1 + 12) 4800 0 
 (fun s2 => W_J7_fill_d0a16 s2 119 12 0 
 (fun s3 => W_J7_fill_d0a16 s3 120 12 0 
 (fun s4 => ∀ s5 : yS, s5 = wI s4 116 4 0 → 
 ∀ s6 : yS, s6 = wI s5 116 5 0 → 
 ∀ s7 : yS, s7 = wI s6 116 9 0 → 
 ∀ P44 : Int32 → yS → Prop, (∀ (x8 : Int32) (s9 : yS), (∃ p10 : Nat, sR s9 116 0 = p10 + 1 ∧ kd p10 = some (9, 0) ∧ 
  (((sI s9 p10 0) ≤ x8 → W_X0_grow s9 0 1 
   (fun s11 => Q s11))
  ∧ (¬ (sI s9 p10 0) ≤ x8 → ∀ P61 : Int32 → yS → Prop, (∀ (x12 : Int32) (s13 : yS), (∃ p14 : Nat, sR s13 116 0 = p14 + 1 ∧ kd p14 = some (9, 0) ∧ 
    vp_in x8 12 ∧ 
    ((((x8 * (nI 400)) + (sI s13 (p14 + 5) (ix x8))) ≤ x12 → ∀ x16 : Int32, x16 = (x8 + 1) → 
     P44 x16 s13)
    ∧ (¬ ((x8 * (nI 400)) + (sI s13 (p14 + 5) (ix x8))) ≤ x12 → vp_in x12 4800 ∧ ∀ s18 : yS, s18 = wI s13 118 (ix x12) (vp_nar .boolean 0) → 
     ∃ p19 : Nat, sR s18 116 0 = p19 + 1 ∧ kd p19 = some (9, 0) ∧ 
     vp_in x12 4800 ∧ 
     ∀ P121 : yS → Prop, (∀ (s21 : yS), (∀ x22 : Int32, x22 = (x12 + 1) → 
      P61 x22 s21) → P121 s21) → 
     ((¬ (sI s18 (p19 + 7) (ix x12)) = (nI 25) → P121 s18)
     ∧ ((sI s18 (p19 + 7) (ix x12)) = (nI 25) → vp_in (sI s18 116 9) 4800 ∧ ∀ s24 : yS, s24 = wI s18 121 (ix (sI s18 116 9)) x12 → 
      ∀ s25 : yS, s25 = wI s24 116 9 ((sI s24 116 9) + 1) → 
      P121 s25))))) → P61 x12 s13) → 
   ∀ x26 : Int32, x26 = (x8 * (nI 400)) → 
   P61 x26 s9))) → P44 x8 s9) → 
 P44 0 s7)))
set_option maxRecDepth 100000 in
set_option maxHeartbeats 40000000 in
theorem w_X0_begin {G : xG} (hG : yG G) {z : Nat} {s : yS} {Q : yS → Prop} (H : W_X0_begin s Q) : xC G mX0_begin [.ref (q_b G + 116)] (hS G s) z 0 0 (yQv G z Q) := by
  have hW := hG.1
  have hcl := hG.2.1
  have hty := hG.2.2.1
  have hO : xO G mX0_begin tbX0_begin ptX0_begin := ⟨tkX0_begin, pkX0_begin hcl⟩
  unfold W_X0_begin at H
  refine xC.of hW (by decide) rfl (Nat.le_of_ble_eq_true rfl) ?_
  refine s_aload_n (nx := 1) hO rfl rfl rfl ?_
  obtain ⟨p1, ep1, kp1, H⟩ := H
  refine s_getf (v := .ref (q_b G + p1)) (nx := 4) hO rfl rfl (hs_o0 kc116) (congrArg some (rv_at ep1)) rfl ?_
  refine s_getf (v := .ref (q_b G + (p1 + 12))) (nx := 7) hO rfl rfl (hs_o5 kp1) rfl rfl ?_
  refine s_lconst (x := 0) (nx := 8) hO rfl (by decide) rfl ?_
  refine s_callS [.ref (q_b G + (p1 + 12)), .long 0] (nx := 11) hO rfl kX0_begin_64 (w_J7_fill_d0a16 hG (kf5_12 kp1) H) rfl rfl (Nat.le_of_ble_eq_true rfl) (Nat.zero_le _) (Nat.zero_le _) rfl (k_Qv (fun s2 H => ?_))
  refine s_aload_n (nx := 12) hO rfl rfl rfl ?_
  refine s_getf (v := .ref (q_b G + 119)) (nx := 15) hO rfl rfl (hs_o0 kc116) rfl rfl ?_
  refine s_lconst (x := 0) (nx := 16) hO rfl (by decide) rfl ?_
  refine s_callS [.ref (q_b G + 119), .long 0] (nx := 19) hO rfl kX0_begin_64 (w_J7_fill_d0a16 hG kc119 H) rfl rfl (Nat.le_of_ble_eq_true rfl) (Nat.zero_le _) (Nat.zero_le _) rfl (k_Qv (fun s3 H => ?_))
  refine s_aload_n (nx := 20) hO rfl rfl rfl ?_
  refine s_getf (v := .ref (q_b G + 120)) (nx := 23) hO rfl rfl (hs_o0 kc116) rfl rfl ?_
  refine s_lconst (x := 0) (nx := 24) hO rfl (by decide) rfl ?_
  refine s_callS [.ref (q_b G + 120), .long 0] (nx := 27) hO rfl kX0_begin_64 (w_J7_fill_d0a16 hG kc120 H) rfl rfl (Nat.le_of_ble_eq_true rfl) (Nat.zero_le _) (Nat.zero_le _) rfl (k_Qv (fun s4 H => ?_))
  refine s_aload_n (nx := 28) hO rfl rfl rfl ?_
  refine s_iconst (x := 0) (nx := 29) hO rfl (by decide) rfl ?_
  refine goV (wI s4 116 4 0) (fun s5 es5 => ?_)
  replace H := H s5 es5
  refine s_putf (nx := 32) hO rfl rfl (hs_o0 kc116) (Nat.le_of_ble_eq_true rfl) (by rw [hty]; rfl) (by rw [hty]; rfl) pX0_4 rfl ?_
  refine xEx.at (up_oI0 kc116 es5) ?_
  refine s_aload_n (nx := 33) hO rfl rfl rfl ?_
  refine s_iconst (x := 0) (nx := 34) hO rfl (by decide) rfl ?_
  refine goV (wI s5 116 5 0) (fun s6 es6 => ?_)
  replace H := H s6 es6
  refine s_putf (nx := 37) hO rfl rfl (hs_o0 kc116) (Nat.le_of_ble_eq_true rfl) (by rw [hty]; rfl) (by rw [hty]; rfl) pX0_5 rfl ?_
  refine xEx.at (up_oI0 kc116 es6) ?_
  refine s_aload_n (nx := 38) hO rfl rfl rfl ?_
  refine s_iconst (x := 0) (nx := 39) hO rfl (by decide) rfl ?_
  refine goV (wI s6 116 9 0) (fun s7 es7 => ?_)
  replace H := H s7 es7
  refine s_putf (nx := 42) hO rfl rfl (hs_o0 kc116) (Nat.le_of_ble_eq_true rfl) (by rw [hty]; rfl) (by rw [hty]; rfl) pX0_9 rfl ?_
  refine xEx.at (up_oI0 kc116 es7) ?_
  refine s_iconst (x := 0) (nx := 43) hO rfl (by decide) rfl ?_
  refine goK (H (fun (x8 : Int32) (s9 : yS) => xEx G mX0_begin 44 [(0, .ref (q_b G + 116)), (1, .int x8)] [] (hS G s9) z 0 0 (yQv G z Q)) (fun x8 s9 H => ?_)) (fun H => ?_)
  · show xEx G mX0_begin 44 [(0, .ref (q_b G + 116)), (1, .int x8)] [] (hS G s9) z 0 0 (yQv G z Q)
    refine s_iload_n (nx := 45) hO rfl rfl rfl ?_
    refine s_aload_n (nx := 46) hO rfl rfl rfl ?_
    obtain ⟨p10, ep10, kp10, H⟩ := H
    refine s_getf (v := .ref (q_b G + p10)) (nx := 49) hO rfl rfl (hs_o0 kc116) (congrArg some (rv_at ep10)) rfl ?_
    refine s_getf (v := .int (sI s9 p10 0)) (nx := 52) hO rfl rfl (hs_o5 kp10) rfl rfl ?_
    refine s_icmp_ge (nx := 55) hO rfl rfl (fun c52 => ?_) (fun c52 => ?_)
    · replace H := H.1 c52
      refine s_aload_n (nx := 134) hO rfl rfl rfl ?_
      refine s_iconst (x := 0) (nx := 135) hO rfl (by decide) rfl ?_
      refine s_lconst (x := 1) (nx := 136) hO rfl (by decide) rfl ?_
      refine s_callV [.int 0, .long 1] (ci := 0) (F := TX0) (N := 11) (nx := 139) hO rfl kX0_begin_82 (by rw [hcl]; rfl) (hs_o0 kc116) (w_X0_grow hG H) rfl rfl (Nat.le_of_ble_eq_true rfl) (Nat.zero_le _) (Nat.zero_le _) rfl (k_Qv (fun s11 H => ?_))
      exact s_vret hO rfl rfl ⟨rfl, _, rfl, rfl, H⟩
    · replace H := H.2 c52
      refine s_iload_n (nx := 56) hO rfl rfl rfl ?_
      refine s_sipush (x := (nI 400)) (nx := 59) hO rfl (by decide) rfl ?_
      refine s_imul (nx := 60) hO rfl rfl ?_
      refine goK (H (fun (x12 : Int32) (s13 : yS) => xEx G mX0_begin 61 [(0, .ref (q_b G + 116)), (1, .int x8), (2, .int x12)] [] (hS G s13) z 0 0 (yQv G z Q)) (fun x12 s13 H => ?_)) (fun H => ?_)
      · show xEx G mX0_begin 61 [(0, .ref (q_b G + 116)), (1, .int x8), (2, .int x12)] [] (hS G s13) z 0 0 (yQv G z Q)
        refine s_iload_n (nx := 62) hO rfl rfl rfl ?_
        refine s_iload_n (nx := 63) hO rfl rfl rfl ?_
        refine s_sipush (x := (nI 400)) (nx := 66) hO rfl (by decide) rfl ?_
        refine s_imul (nx := 67) hO rfl rfl ?_
        refine s_aload_n (nx := 68) hO rfl rfl rfl ?_
        obtain ⟨p14, ep14, kp14, H⟩ := H
        refine s_getf (v := .ref (q_b G + p14)) (nx := 71) hO rfl rfl (hs_o0 kc116) (congrArg some (rv_at ep14)) rfl ?_
        refine s_getf (v := .ref (q_b G + (p14 + 5))) (nx := 74) hO rfl rfl (hs_o5 kp14) rfl rfl ?_
        refine s_iload_n (nx := 75) hO rfl rfl rfl ?_
        obtain ⟨b15, H⟩ := H
        refine s_iald (nx := 76) hO rfl (hs_I (kf5_5 kp14)) b15 rfl ?_
        refine s_iadd (nx := 77) hO rfl rfl ?_
        refine s_icmp_ge (nx := 80) hO rfl rfl (fun c77 => ?_) (fun c77 => ?_)
        · replace H := H.1 c77
          refine goV ((x8 + 1)) (fun x16 ex16 => ?_)
          replace H := H x16 ex16
          refine e_iinc (nx := 130) (l' := [(1, .int x16), (0, .ref (q_b G + 116)), (2, .int x12)]) ex16 hO rfl (by decide) rfl rfl rfl rfl ?_
          refine s_goto hO rfl ?_
          exact xEx.loc (x_sub1 (List.Mem.tail _ (List.Mem.head _)) (x_sub1 (List.Mem.head _) x_sub0)) H
        · replace H := H.2 c77
          refine s_aload_n (nx := 81) hO rfl rfl rfl ?_
          refine s_getf (v := .ref (q_b G + 118)) (nx := 84) hO rfl rfl (hs_o0 kc116) rfl rfl ?_
          refine s_iload_n (nx := 85) hO rfl rfl rfl ?_
          refine s_iconst (x := 0) (nx := 86) hO rfl (by decide) rfl ?_
          obtain ⟨b17, H⟩ := H
          refine goV (wI s13 118 (ix x12) (vp_nar .boolean 0)) (fun s18 es18 => ?_)
          replace H := H s18 es18
          refine s_zast (nx := 87) hO rfl (hs_Z kc118) b17 rfl ?_
          refine xEx.at (up_Z kc118 es18) ?_
          refine s_aload_n (nx := 88) hO rfl rfl rfl ?_
          obtain ⟨p19, ep19, kp19, H⟩ := H
          refine s_getf (v := .ref (q_b G + p19)) (nx := 91) hO rfl rfl (hs_o0 kc116) (congrArg some (rv_at ep19)) rfl ?_
          refine s_getf (v := .ref (q_b G + (p19 + 7))) (nx := 94) hO rfl rfl (hs_o5 kp19) rfl rfl ?_
          refine s_iload_n (nx := 95) hO rfl rfl rfl ?_
          obtain ⟨b20, H⟩ := H
          refine s_iald (nx := 96) hO rfl (hs_I (kf5_7 kp19)) b20 rfl ?_
          refine s_bipush (x := (nI 25)) (nx := 98) hO rfl (by decide) rfl ?_
          refine goK (H (fun (s21 : yS) => xEx G mX0_begin 121 [(0, .ref (q_b G + 116)), (1, .int x8), (2, .int x12)] [] (hS G s21) z 0 0 (yQv G z Q)) (fun s21 H => ?_)) (fun H => ?_)
          · show xEx G mX0_begin 121 [(0, .ref (q_b G + 116)), (1, .int x8), (2, .int x12)] [] (hS G s21) z 0 0 (yQv G z Q)
            refine goV ((x12 + 1)) (fun x22 ex22 => ?_)
            replace H := H x22 ex22
            refine e_iinc (nx := 124) (l' := [(2, .int x22), (0, .ref (q_b G + 116)), (1, .int x8)]) ex22 hO rfl (by decide) rfl rfl rfl rfl ?_
            refine s_goto hO rfl ?_
            exact xEx.loc (x_sub1 (List.Mem.tail _ (List.Mem.head _)) (x_sub1 (List.Mem.tail _ (List.Mem.tail _ (List.Mem.head _))) (x_sub1 (List.Mem.head _) x_sub0))) H
          refine s_icmp_ne (nx := 101) hO rfl rfl (fun c98 => ?_) (fun c98 => ?_)
          · replace H := H.1 c98
            exact xEx.loc (x_sub1 (List.Mem.head _) (x_sub1 (List.Mem.tail _ (List.Mem.head _)) (x_sub1 (List.Mem.tail _ (List.Mem.tail _ (List.Mem.head _))) x_sub0))) H
          · replace H := H.2 c98
            refine s_aload_n (nx := 102) hO rfl rfl rfl ?_
            refine s_getf (v := .ref (q_b G + 121)) (nx := 105) hO rfl rfl (hs_o0 kc116) rfl rfl ?_
            refine s_aload_n (nx := 106) hO rfl rfl rfl ?_
            refine s_getf (v := .int (sI s18 116 9)) (nx := 109) hO rfl rfl (hs_o0 kc116) rfl rfl ?_
            refine s_iload_n (nx := 110) hO rfl rfl rfl ?_
            obtain ⟨b23, H⟩ := H
            refine goV (wI s18 121 (ix (sI s18 116 9)) x12) (fun s24 es24 => ?_)
            replace H := H s24 es24
            refine s_iast (nx := 111) hO rfl (hs_I kc121) b23 rfl ?_
            refine xEx.at (up_I kc121 es24) ?_
            refine s_aload_n (nx := 112) hO rfl rfl rfl ?_
            refine s_dup (nx := 113) hO rfl rfl rfl ?_
            refine s_getf (v := .int (sI s24 116 9)) (nx := 116) hO rfl rfl (hs_o0 kc116) rfl rfl ?_
            refine s_iconst (x := 1) (nx := 117) hO rfl (by decide) rfl ?_
            refine s_iadd (nx := 118) hO rfl rfl ?_
            refine goV (wI s24 116 9 ((sI s24 116 9) + 1)) (fun s25 es25 => ?_)
            replace H := H s25 es25
            refine s_putf (nx := 121) hO rfl rfl (hs_o0 kc116) (Nat.le_of_ble_eq_true rfl) (by rw [hty]; rfl) (by rw [hty]; rfl) pX0_9 rfl ?_
            refine xEx.at (up_oI0 kc116 es25) ?_
            exact xEx.loc (x_sub1 (List.Mem.head _) (x_sub1 (List.Mem.tail _ (List.Mem.head _)) (x_sub1 (List.Mem.tail _ (List.Mem.tail _ (List.Mem.head _))) x_sub0))) H
      refine goV ((x8 * (nI 400))) (fun x26 ex26 => ?_)
      replace H := H x26 ex26
      refine e_istore_n (nx := 61) (l' := [(2, .int x26), (0, .ref (q_b G + 116)), (1, .int x8)]) ex26 hO rfl (by decide) rfl rfl ?_
      exact xEx.loc (x_sub1 (List.Mem.tail _ (List.Mem.head _)) (x_sub1 (List.Mem.tail _ (List.Mem.tail _ (List.Mem.head _))) (x_sub1 (List.Mem.head _) x_sub0))) H
  refine s_istore_n (nx := 44) (l' := [(1, .int 0), (0, .ref (q_b G + 116))]) hO rfl (by decide) rfl rfl ?_
  exact xEx.loc (x_sub1 (List.Mem.tail _ (List.Mem.head _)) (x_sub1 (List.Mem.head _) x_sub0)) H
def W_X0_enqueueCalls (s : yS) (v1 : Int32) (Q : yS → Prop) : Prop :=
 ∀ P2 : Int32 → yS → Prop, (∀ (x1 : Int32) (s2 : yS), ((((sI s2 116 9) ≤ x1 → Q s2)
  ∧ (¬ (sI s2 116 9) ≤ x1 → vp_in x1 4800 ∧ 
   ∀ x4 : Int32, x4 = (sI s2 121 (ix x1)) → 
   ∃ p5 : Nat, sR s2 116 0 = p5 + 1 ∧ kd p5 = some (9, 0) ∧ 
   vp_in x4 4800 ∧ 
   ∀ P49 : yS → Prop, (∀ (s7 : yS), (∀ x8 : Int32, x8 = (x1 + 1) → 
    P2 x8 s7) → P49 s7) → 
   ((¬ (sI s2 (p5 + 8) (ix x4)) = v1 → P49 s2)
   ∧ ((sI s2 (p5 + 8) (ix x4)) = v1 → ∃ p9 : Nat, sR s2 116 0 = p9 + 1 ∧ kd p9 = some (9, 0) ∧ 
    vp_in x4 4800 ∧ 
    (((lg_cmp (sJ s2 (p9 + 12) (ix x4)) 0) = 0 → P49 s2)
    ∧ (¬ (lg_cmp (sJ s2 (p9 + 12) (ix x4)) 0) = 0 → W_X0_enqueue s2 x4 
     (fun s11 => P49 s11)))))))) → P2 x1 s2) → 
 P2 0 s
set_option maxRecDepth 100000 in
set_option maxHeartbeats 40000000 in
theorem w_X0_enqueueCalls {G : xG} (hG : yG G) {z : Nat} {s : yS} {v1 : Int32} {Q : yS → Prop} (H : W_X0_enqueueCalls s v1 Q) : xC G mX0_enqueueCalls [.ref (q_b G + 116), .int v1] (hS G s) z 0 0 (yQv G z Q) := by
  have hW := hG.1
  have hcl := hG.2.1
  have hty := hG.2.2.1
  have hO : xO G mX0_enqueueCalls tbX0_enqueueCalls ptX0_enqueueCalls := ⟨tkX0_enqueueCalls, pkX0_enqueueCalls hcl⟩
  unfold W_X0_enqueueCalls at H
  refine xC.of hW (by decide) rfl (Nat.le_of_ble_eq_true rfl) ?_
  refine s_iconst (x := 0) (nx := 1) hO rfl (by decide) rfl ?_
  refine goK (H (fun (x1 : Int32) (s2 : yS) => xEx G mX0_enqueueCalls 2 [(0, .ref (q_b G + 116)), (1, .int v1), (2, .int x1)] [] (hS G s2) z 0 0 (yQv G z Q)) (fun x1 s2 H => ?_)) (fun H => ?_)
  · show xEx G mX0_enqueueCalls 2 [(0, .ref (q_b G + 116)), (1, .int v1), (2, .int x1)] [] (hS G s2) z 0 0 (yQv G z Q)
    refine s_iload_n (nx := 3) hO rfl rfl rfl ?_
    refine s_aload_n (nx := 4) hO rfl rfl rfl ?_
    refine s_getf (v := .int (sI s2 116 9)) (nx := 7) hO rfl rfl (hs_o0 kc116) rfl rfl ?_
    refine s_icmp_ge (nx := 10) hO rfl rfl (fun c7 => ?_) (fun c7 => ?_)
    · replace H := H.1 c7
      exact s_vret hO rfl rfl ⟨rfl, _, rfl, rfl, H⟩
    · replace H := H.2 c7
      refine s_aload_n (nx := 11) hO rfl rfl rfl ?_
      refine s_getf (v := .ref (q_b G + 121)) (nx := 14) hO rfl rfl (hs_o0 kc116) rfl rfl ?_
      refine s_iload_n (nx := 15) hO rfl rfl rfl ?_
      obtain ⟨b3, H⟩ := H
      refine s_iald (nx := 16) hO rfl (hs_I kc121) b3 rfl ?_
      refine goV ((sI s2 121 (ix x1))) (fun x4 ex4 => ?_)
      replace H := H x4 ex4
      refine e_istore_n (nx := 17) (l' := [(3, .int x4), (0, .ref (q_b G + 116)), (1, .int v1), (2, .int x1)]) ex4 hO rfl (by decide) rfl rfl ?_
      refine s_aload_n (nx := 18) hO rfl rfl rfl ?_
      obtain ⟨p5, ep5, kp5, H⟩ := H
      refine s_getf (v := .ref (q_b G + p5)) (nx := 21) hO rfl rfl (hs_o0 kc116) (congrArg some (rv_at ep5)) rfl ?_
      refine s_getf (v := .ref (q_b G + (p5 + 8))) (nx := 24) hO rfl rfl (hs_o5 kp5) rfl rfl ?_
      refine s_iload_n (nx := 25) hO rfl rfl rfl ?_
      obtain ⟨b6, H⟩ := H
      refine s_iald (nx := 26) hO rfl (hs_I (kf5_8 kp5)) b6 rfl ?_
      refine s_iload_n (nx := 27) hO rfl rfl rfl ?_
      refine goK (H (fun (s7 : yS) => xEx G mX0_enqueueCalls 49 [(0, .ref (q_b G + 116)), (1, .int v1), (2, .int x1)] [] (hS G s7) z 0 0 (yQv G z Q)) (fun s7 H => ?_)) (fun H => ?_)
      · show xEx G mX0_enqueueCalls 49 [(0, .ref (q_b G + 116)), (1, .int v1), (2, .int x1)] [] (hS G s7) z 0 0 (yQv G z Q)
        refine goV ((x1 + 1)) (fun x8 ex8 => ?_)
        replace H := H x8 ex8
        refine e_iinc (nx := 52) (l' := [(2, .int x8), (0, .ref (q_b G + 116)), (1, .int v1)]) ex8 hO rfl (by decide) rfl rfl rfl rfl ?_
        refine s_goto hO rfl ?_
        exact xEx.loc (x_sub1 (List.Mem.tail _ (List.Mem.head _)) (x_sub1 (List.Mem.tail _ (List.Mem.tail _ (List.Mem.head _))) (x_sub1 (List.Mem.head _) x_sub0))) H
      refine s_icmp_ne (nx := 30) hO rfl rfl (fun c27 => ?_) (fun c27 => ?_)
      · replace H := H.1 c27
        exact xEx.loc (x_sub1 (List.Mem.tail _ (List.Mem.head _)) (x_sub1 (List.Mem.tail _ (List.Mem.tail _ (List.Mem.head _))) (x_sub1 (List.Mem.tail _ (List.Mem.tail _ (List.Mem.tail _ (List.Mem.head _)))) x_sub0))) H
      · replace H := H.2 c27
        refine s_aload_n (nx := 31) hO rfl rfl rfl ?_
        obtain ⟨p9, ep9, kp9, H⟩ := H
        refine s_getf (v := .ref (q_b G + p9)) (nx := 34) hO rfl rfl (hs_o0 kc116) (congrArg some (rv_at ep9)) rfl ?_
        refine s_getf (v := .ref (q_b G + (p9 + 12))) (nx := 37) hO rfl rfl (hs_o5 kp9) rfl rfl ?_
        refine s_iload_n (nx := 38) hO rfl rfl rfl ?_
        obtain ⟨b10, H⟩ := H
        refine s_lald (nx := 39) hO rfl (hs_J (kf5_12 kp9)) b10 rfl ?_
        refine s_lconst (x := 0) (nx := 40) hO rfl (by decide) rfl ?_
        refine s_lcmp (nx := 41) hO rfl rfl ?_
        refine s_if_eq (nx := 44) hO rfl rfl (fun c41 => ?_) (fun c41 => ?_)
        · replace H := H.1 c41
          exact xEx.loc (x_sub1 (List.Mem.tail _ (List.Mem.head _)) (x_sub1 (List.Mem.tail _ (List.Mem.tail _ (List.Mem.head _))) (x_sub1 (List.Mem.tail _ (List.Mem.tail _ (List.Mem.tail _ (List.Mem.head _)))) x_sub0))) H
        · replace H := H.2 c41
          refine s_aload_n (nx := 45) hO rfl rfl rfl ?_
          refine s_iload_n (nx := 46) hO rfl rfl rfl ?_
          refine s_callV [.int x4] (ci := 0) (F := TX0) (N := 11) (nx := 49) hO rfl kX0_enqueueCalls_88 (by rw [hcl]; rfl) (hs_o0 kc116) (w_X0_enqueue hG H) rfl rfl (Nat.le_of_ble_eq_true rfl) (Nat.zero_le _) (Nat.zero_le _) rfl (k_Qv (fun s11 H => ?_))
          exact xEx.loc (x_sub1 (List.Mem.tail _ (List.Mem.head _)) (x_sub1 (List.Mem.tail _ (List.Mem.tail _ (List.Mem.head _))) (x_sub1 (List.Mem.tail _ (List.Mem.tail _ (List.Mem.tail _ (List.Mem.head _)))) x_sub0))) H
  refine s_istore_n (nx := 2) (l' := [(2, .int 0), (0, .ref (q_b G + 116)), (1, .int v1)]) hO rfl (by decide) rfl rfl ?_
  exact xEx.loc (x_sub1 (List.Mem.tail _ (List.Mem.head _)) (x_sub1 (List.Mem.tail _ (List.Mem.tail _ (List.Mem.head _))) (x_sub1 (List.Mem.head _) x_sub0))) H
def W_X0_growAll (s : yS) (v1 : Int32) (v2 : Int64) (Q : yS → Prop) : Prop :=
 vp_in v1 12 ∧ 
 (((lg_cmp (v2 &&& ((sJ s 120 (ix v1)) ^^^ ((-1)))) 0) = 0 → Q s)
 ∧ (¬ (lg_cmp (v2 &&& ((sJ s 120 (ix v1)) ^^^ ((-1)))) 0) = 0 → vp_in v1 12 ∧ 
  vp_in v1 12 ∧ ∀ s4 : yS, s4 = wJ s 120 (ix v1) ((sJ s 120 (ix v1)) ||| v2) → 
  W_X0_enqueueCalls s4 v1 
  (fun s5 => Q s5)))
set_option maxRecDepth 100000 in
set_option maxHeartbeats 40000000 in
theorem w_X0_growAll {G : xG} (hG : yG G) {z : Nat} {s : yS} {v1 : Int32} {v2 : Int64} {Q : yS → Prop} (H : W_X0_growAll s v1 v2 Q) : xC G mX0_growAll [.ref (q_b G + 116), .int v1, .long v2] (hS G s) z 0 0 (yQv G z Q) := by
  have hW := hG.1
  have hcl := hG.2.1
  have hty := hG.2.2.1
  have hO : xO G mX0_growAll tbX0_growAll ptX0_growAll := ⟨tkX0_growAll, pkX0_growAll hcl⟩
  unfold W_X0_growAll at H
  refine xC.of hW (by decide) rfl (Nat.le_of_ble_eq_true rfl) ?_
  refine s_lload_n (nx := 1) hO rfl rfl rfl ?_
  refine s_aload_n (nx := 2) hO rfl rfl rfl ?_
  refine s_getf (v := .ref (q_b G + 120)) (nx := 5) hO rfl rfl (hs_o0 kc116) rfl rfl ?_
  refine s_iload_n (nx := 6) hO rfl rfl rfl ?_
  obtain ⟨b1, H⟩ := H
  refine s_lald (nx := 7) hO rfl (hs_J kc120) b1 rfl ?_
  refine s_ldc2_w (x := ((-1))) (nx := 10) hO rfl rfl rfl ?_
  refine s_lxor (nx := 11) hO rfl rfl ?_
  refine s_land (nx := 12) hO rfl rfl ?_
  refine s_lconst (x := 0) (nx := 13) hO rfl (by decide) rfl ?_
  refine s_lcmp (nx := 14) hO rfl rfl ?_
  refine s_if_eq (nx := 17) hO rfl rfl (fun c14 => ?_) (fun c14 => ?_)
  · replace H := H.1 c14
    exact s_vret hO rfl rfl ⟨rfl, _, rfl, rfl, H⟩
  · replace H := H.2 c14
    refine s_aload_n (nx := 18) hO rfl rfl rfl ?_
    refine s_getf (v := .ref (q_b G + 120)) (nx := 21) hO rfl rfl (hs_o0 kc116) rfl rfl ?_
    refine s_iload_n (nx := 22) hO rfl rfl rfl ?_
    refine s_dup2 (nx := 23) hO rfl rfl rfl rfl ?_
    obtain ⟨b2, H⟩ := H
    refine s_lald (nx := 24) hO rfl (hs_J kc120) b2 rfl ?_
    refine s_lload_n (nx := 25) hO rfl rfl rfl ?_
    refine s_lor (nx := 26) hO rfl rfl ?_
    obtain ⟨b3, H⟩ := H
    refine goV (wJ s 120 (ix v1) ((sJ s 120 (ix v1)) ||| v2)) (fun s4 es4 => ?_)
    replace H := H s4 es4
    refine s_last (nx := 27) hO rfl (hs_J kc120) b3 rfl ?_
    refine xEx.at (up_J kc120 es4) ?_
    refine s_aload_n (nx := 28) hO rfl rfl rfl ?_
    refine s_iload_n (nx := 29) hO rfl rfl rfl ?_
    refine s_callV [.int v1] (ci := 0) (F := TX0) (N := 11) (nx := 32) hO rfl kX0_growAll_95 (by rw [hcl]; rfl) (hs_o0 kc116) (w_X0_enqueueCalls hG H) rfl rfl (Nat.le_of_ble_eq_true rfl) (Nat.zero_le _) (Nat.zero_le _) rfl (k_Qv (fun s5 H => ?_))
    exact s_vret hO rfl rfl ⟨rfl, _, rfl, rfl, H⟩
def W_X0_growExit (s : yS) (v1 : Int32) (v2 : Int64) (Q : yS → Prop) : Prop :=
 vp_in v1 12 ∧ 
 (((lg_cmp (v2 &&& ((sJ s 119 (ix v1)) ^^^ ((-1)))) 0) = 0 → Q s)
 ∧ (¬ (lg_cmp (v2 &&& ((sJ s 119 (ix v1)) ^^^ ((-1)))) 0) = 0 → vp_in v1 12 ∧ 
  vp_in v1 12 ∧ ∀ s4 : yS, s4 = wJ s 119 (ix v1) ((sJ s 119 (ix v1)) ||| v2) → 
  W_X0_enqueueCalls s4 v1 
  (fun s5 => Q s5)))
set_option maxRecDepth 100000 in
set_option maxHeartbeats 40000000 in
theorem w_X0_growExit {G : xG} (hG : yG G) {z : Nat} {s : yS} {v1 : Int32} {v2 : Int64} {Q : yS → Prop} (H : W_X0_growExit s v1 v2 Q) : xC G mX0_growExit [.ref (q_b G + 116), .int v1, .long v2] (hS G s) z 0 0 (yQv G z Q) := by
  have hW := hG.1
  have hcl := hG.2.1
  have hty := hG.2.2.1
  have hO : xO G mX0_growExit tbX0_growExit ptX0_growExit := ⟨tkX0_growExit, pkX0_growExit hcl⟩
  unfold W_X0_growExit at H
  refine xC.of hW (by decide) rfl (Nat.le_of_ble_eq_true rfl) ?_
  refine s_lload_n (nx := 1) hO rfl rfl rfl ?_
  refine s_aload_n (nx := 2) hO rfl rfl rfl ?_
  refine s_getf (v := .ref (q_b G + 119)) (nx := 5) hO rfl rfl (hs_o0 kc116) rfl rfl ?_
  refine s_iload_n (nx := 6) hO rfl rfl rfl ?_
  obtain ⟨b1, H⟩ := H
  refine s_lald (nx := 7) hO rfl (hs_J kc119) b1 rfl ?_
  refine s_ldc2_w (x := ((-1))) (nx := 10) hO rfl rfl rfl ?_
  refine s_lxor (nx := 11) hO rfl rfl ?_
  refine s_land (nx := 12) hO rfl rfl ?_
  refine s_lconst (x := 0) (nx := 13) hO rfl (by decide) rfl ?_
  refine s_lcmp (nx := 14) hO rfl rfl ?_
  refine s_if_eq (nx := 17) hO rfl rfl (fun c14 => ?_) (fun c14 => ?_)
  · replace H := H.1 c14
    exact s_vret hO rfl rfl ⟨rfl, _, rfl, rfl, H⟩
  · replace H := H.2 c14
    refine s_aload_n (nx := 18) hO rfl rfl rfl ?_
    refine s_getf (v := .ref (q_b G + 119)) (nx := 21) hO rfl rfl (hs_o0 kc116) rfl rfl ?_
    refine s_iload_n (nx := 22) hO rfl rfl rfl ?_
    refine s_dup2 (nx := 23) hO rfl rfl rfl rfl ?_
    obtain ⟨b2, H⟩ := H
    refine s_lald (nx := 24) hO rfl (hs_J kc119) b2 rfl ?_
    refine s_lload_n (nx := 25) hO rfl rfl rfl ?_
    refine s_lor (nx := 26) hO rfl rfl ?_
    obtain ⟨b3, H⟩ := H
    refine goV (wJ s 119 (ix v1) ((sJ s 119 (ix v1)) ||| v2)) (fun s4 es4 => ?_)
    replace H := H s4 es4
    refine s_last (nx := 27) hO rfl (hs_J kc119) b3 rfl ?_
    refine xEx.at (up_J kc119 es4) ?_
    refine s_aload_n (nx := 28) hO rfl rfl rfl ?_
    refine s_iload_n (nx := 29) hO rfl rfl rfl ?_
    refine s_callV [.int v1] (ci := 0) (F := TX0) (N := 11) (nx := 32) hO rfl kX0_growExit_95 (by rw [hcl]; rfl) (hs_o0 kc116) (w_X0_enqueueCalls hG H) rfl rfl (Nat.le_of_ble_eq_true rfl) (Nat.zero_le _) (Nat.zero_le _) rfl (k_Qv (fun s5 H => ?_))
    exact s_vret hO rfl rfl ⟨rfl, _, rfl, rfl, H⟩
def W_X5_isGuarded (s : yS) (g : Nat) (v1 : Int32) (v2 : Int32) (Q : Int32 → Prop) : Prop :=
 ∀ x1 : Int32, x1 = ((v1 * (nI 400)) + v2) → 
 ((v2 ≤ 0 → Q 0)
 ∧ (¬ v2 ≤ 0 → vp_in x1 4800 ∧ 
  ((¬ (sI s (g + 7) (ix x1)) = (nI 26) → Q 0)
  ∧ ((sI s (g + 7) (ix x1)) = (nI 26) → vp_in (x1 - 1) 4800 ∧ 
   ((¬ (sI s (g + 7) (ix (x1 - 1))) = (nI 29) → Q 0)
   ∧ ((sI s (g + 7) (ix (x1 - 1))) = (nI 29) → vp_in (x1 - 1) 4800 ∧ 
    vp_in x1 4800 ∧ 
    ((¬ (sI s (g + 8) (ix (x1 - 1))) = (sI s (g + 8) (ix x1)) → Q 0)
    ∧ ((sI s (g + 8) (ix (x1 - 1))) = (sI s (g + 8) (ix x1)) → vp_in x1 4800 ∧ 
     ((¬ (sI s (g + 11) (ix x1)) = 0 → Q 0)
     ∧ ((sI s (g + 11) (ix x1)) = 0 → Q 1))))))))))
set_option maxRecDepth 100000 in
set_option maxHeartbeats 40000000 in
theorem w_X5_isGuarded {G : xG} (hG : yG G) {z : Nat} {s : yS} {g : Nat} {v1 : Int32} {v2 : Int32} {Q : Int32 → Prop} (hg : kd g = some (9, 0)) (H : W_X5_isGuarded s g v1 v2 Q) : xC G mX5_isGuarded [.ref (q_b G + g), .int v1, .int v2] (hS G s) z 0 0 (yPi G z s Q) := by
  have hW := hG.1
  have hcl := hG.2.1
  have hty := hG.2.2.1
  have hO : xO G mX5_isGuarded tbX5_isGuarded ptX5_isGuarded := ⟨tkX5_isGuarded, pkX5_isGuarded hcl⟩
  unfold W_X5_isGuarded at H
  refine xC.of hW (by decide) rfl (Nat.le_of_ble_eq_true rfl) ?_
  refine s_iload_n (nx := 1) hO rfl rfl rfl ?_
  refine s_sipush (x := (nI 400)) (nx := 4) hO rfl (by decide) rfl ?_
  refine s_imul (nx := 5) hO rfl rfl ?_
  refine s_iload_n (nx := 6) hO rfl rfl rfl ?_
  refine s_iadd (nx := 7) hO rfl rfl ?_
  refine goV (((v1 * (nI 400)) + v2)) (fun x1 ex1 => ?_)
  replace H := H x1 ex1
  refine e_istore_n (nx := 8) (l' := [(3, .int x1), (0, .ref (q_b G + g)), (1, .int v1), (2, .int v2)]) ex1 hO rfl (by decide) rfl rfl ?_
  refine s_iload_n (nx := 9) hO rfl rfl rfl ?_
  refine s_if_le (nx := 12) hO rfl rfl (fun c9 => ?_) (fun c9 => ?_)
  · replace H := H.1 c9
    refine s_iconst (x := 0) (nx := 67) hO rfl (by decide) rfl ?_
    exact s_iret hO rfl rfl rfl ⟨rfl, _, rfl, rfl, H⟩
  · replace H := H.2 c9
    refine s_aload_n (nx := 13) hO rfl rfl rfl ?_
    refine s_getf (v := .ref (q_b G + (g + 7))) (nx := 16) hO rfl rfl (hs_o5 hg) rfl rfl ?_
    refine s_iload_n (nx := 17) hO rfl rfl rfl ?_
    obtain ⟨b2, H⟩ := H
    refine s_iald (nx := 18) hO rfl (hs_I (kf5_7 hg)) b2 rfl ?_
    refine s_bipush (x := (nI 26)) (nx := 20) hO rfl (by decide) rfl ?_
    refine s_icmp_ne (nx := 23) hO rfl rfl (fun c20 => ?_) (fun c20 => ?_)
    · replace H := H.1 c20
      refine s_iconst (x := 0) (nx := 67) hO rfl (by decide) rfl ?_
      exact s_iret hO rfl rfl rfl ⟨rfl, _, rfl, rfl, H⟩
    · replace H := H.2 c20
      refine s_aload_n (nx := 24) hO rfl rfl rfl ?_
      refine s_getf (v := .ref (q_b G + (g + 7))) (nx := 27) hO rfl rfl (hs_o5 hg) rfl rfl ?_
      refine s_iload_n (nx := 28) hO rfl rfl rfl ?_
      refine s_iconst (x := 1) (nx := 29) hO rfl (by decide) rfl ?_
      refine s_isub (nx := 30) hO rfl rfl ?_
      obtain ⟨b3, H⟩ := H
      refine s_iald (nx := 31) hO rfl (hs_I (kf5_7 hg)) b3 rfl ?_
      refine s_bipush (x := (nI 29)) (nx := 33) hO rfl (by decide) rfl ?_
      refine s_icmp_ne (nx := 36) hO rfl rfl (fun c33 => ?_) (fun c33 => ?_)
      · replace H := H.1 c33
        refine s_iconst (x := 0) (nx := 67) hO rfl (by decide) rfl ?_
        exact s_iret hO rfl rfl rfl ⟨rfl, _, rfl, rfl, H⟩
      · replace H := H.2 c33
        refine s_aload_n (nx := 37) hO rfl rfl rfl ?_
        refine s_getf (v := .ref (q_b G + (g + 8))) (nx := 40) hO rfl rfl (hs_o5 hg) rfl rfl ?_
        refine s_iload_n (nx := 41) hO rfl rfl rfl ?_
        refine s_iconst (x := 1) (nx := 42) hO rfl (by decide) rfl ?_
        refine s_isub (nx := 43) hO rfl rfl ?_
        obtain ⟨b4, H⟩ := H
        refine s_iald (nx := 44) hO rfl (hs_I (kf5_8 hg)) b4 rfl ?_
        refine s_aload_n (nx := 45) hO rfl rfl rfl ?_
        refine s_getf (v := .ref (q_b G + (g + 8))) (nx := 48) hO rfl rfl (hs_o5 hg) rfl rfl ?_
        refine s_iload_n (nx := 49) hO rfl rfl rfl ?_
        obtain ⟨b5, H⟩ := H
        refine s_iald (nx := 50) hO rfl (hs_I (kf5_8 hg)) b5 rfl ?_
        refine s_icmp_ne (nx := 53) hO rfl rfl (fun c50 => ?_) (fun c50 => ?_)
        · replace H := H.1 c50
          refine s_iconst (x := 0) (nx := 67) hO rfl (by decide) rfl ?_
          exact s_iret hO rfl rfl rfl ⟨rfl, _, rfl, rfl, H⟩
        · replace H := H.2 c50
          refine s_aload_n (nx := 54) hO rfl rfl rfl ?_
          refine s_getf (v := .ref (q_b G + (g + 11))) (nx := 57) hO rfl rfl (hs_o5 hg) rfl rfl ?_
          refine s_iload_n (nx := 58) hO rfl rfl rfl ?_
          obtain ⟨b6, H⟩ := H
          refine s_zald (nx := 59) hO rfl (hs_Z (kf5_11 hg)) b6 rfl ?_
          refine s_if_ne (nx := 62) hO rfl rfl (fun c59 => ?_) (fun c59 => ?_)
          · replace H := H.1 c59
            refine s_iconst (x := 0) (nx := 67) hO rfl (by decide) rfl ?_
            exact s_iret hO rfl rfl rfl ⟨rfl, _, rfl, rfl, H⟩
          · replace H := H.2 c59
            refine s_iconst (x := 1) (nx := 63) hO rfl (by decide) rfl ?_
            refine s_goto hO rfl ?_
            exact s_iret hO rfl rfl rfl ⟨rfl, _, rfl, rfl, H⟩
def W_X0_led (s : yS) (v1 : Int64) (v2 : Int32) (Q : Int64 → Prop) : Prop :=
 ∀ P6 : Int64 → Int32 → Prop, (∀ (x1 : Int64) (x2 : Int32), (∃ p3 : Nat, sR s 116 1 = p3 + 1 ∧ kd p3 = some (7, 0) ∧ 
  (((sI s p3 3) ≤ x2 → Q x1)
  ∧ (¬ (sI s p3 3) ≤ x2 → ∀ P49 : Int64 → Prop, (∀ (x4 : Int64), (∀ x5 : Int32, x5 = (x2 + 1) → 
    P6 x4 x5) → P49 x4) → 
   ((¬ (lg_cmp ((v1 >>> ((x2).toInt64 &&& 63)) &&& 1) 1) = 0 → P49 x1)
   ∧ ((lg_cmp ((v1 >>> ((x2).toInt64 &&& 63)) &&& 1) 1) = 0 → ∃ p6 : Nat, sR s 116 1 = p6 + 1 ∧ kd p6 = some (7, 0) ∧ 
    vp_in ((v2 * (nI 63)) + x2) 1008 ∧ 
    ∀ x8 : Int64, x8 = (x1 ||| (sJ s (p6 + 15) (ix ((v2 * (nI 63)) + x2)))) → 
    P49 x8))))) → P6 x1 x2) → 
 P6 0 0
set_option maxRecDepth 100000 in
set_option maxHeartbeats 40000000 in
theorem w_X0_led {G : xG} (hG : yG G) {z : Nat} {s : yS} {v1 : Int64} {v2 : Int32} {Q : Int64 → Prop} (H : W_X0_led s v1 v2 Q) : xC G mX0_led [.ref (q_b G + 116), .long v1, .int v2] (hS G s) z 0 0 (yPl G z s Q) := by
  have hW := hG.1
  have hcl := hG.2.1
  have hty := hG.2.2.1
  have hO : xO G mX0_led tbX0_led ptX0_led := ⟨tkX0_led, pkX0_led hcl⟩
  unfold W_X0_led at H
  refine xC.of hW (by decide) rfl (Nat.le_of_ble_eq_true rfl) ?_
  refine s_lconst (x := 0) (nx := 1) hO rfl (by decide) rfl ?_
  refine s_lstore (nx := 3) (l' := [(4, .long 0), (0, .ref (q_b G + 116)), (1, .long v1), (3, .int v2)]) hO rfl (by decide) rfl rfl ?_
  refine s_iconst (x := 0) (nx := 4) hO rfl (by decide) rfl ?_
  refine goK (H (fun (x1 : Int64) (x2 : Int32) => xEx G mX0_led 6 [(0, .ref (q_b G + 116)), (1, .long v1), (3, .int v2), (4, .long x1), (6, .int x2)] [] (hS G s) z 0 0 (yPl G z s Q)) (fun x1 x2 H => ?_)) (fun H => ?_)
  · show xEx G mX0_led 6 [(0, .ref (q_b G + 116)), (1, .long v1), (3, .int v2), (4, .long x1), (6, .int x2)] [] (hS G s) z 0 0 (yPl G z s Q)
    refine s_iload (nx := 8) hO rfl rfl rfl ?_
    refine s_aload_n (nx := 9) hO rfl rfl rfl ?_
    obtain ⟨p3, ep3, kp3, H⟩ := H
    refine s_getf (v := .ref (q_b G + p3)) (nx := 12) hO rfl rfl (hs_o0 kc116) (congrArg some (rv_at ep3)) rfl ?_
    refine s_getf (v := .int (sI s p3 3)) (nx := 15) hO rfl rfl (hs_o3 kp3) rfl rfl ?_
    refine s_icmp_ge (nx := 18) hO rfl rfl (fun c15 => ?_) (fun c15 => ?_)
    · replace H := H.1 c15
      refine s_lload (nx := 57) hO rfl rfl rfl ?_
      exact s_lret hO rfl rfl ⟨rfl, _, rfl, rfl, H⟩
    · replace H := H.2 c15
      refine s_lload_n (nx := 19) hO rfl rfl rfl ?_
      refine s_iload (nx := 21) hO rfl rfl rfl ?_
      refine s_lshr (nx := 22) hO rfl rfl ?_
      refine s_lconst (x := 1) (nx := 23) hO rfl (by decide) rfl ?_
      refine s_land (nx := 24) hO rfl rfl ?_
      refine s_lconst (x := 1) (nx := 25) hO rfl (by decide) rfl ?_
      refine s_lcmp (nx := 26) hO rfl rfl ?_
      refine goK (H (fun (x4 : Int64) => xEx G mX0_led 49 [(0, .ref (q_b G + 116)), (1, .long v1), (3, .int v2), (4, .long x4), (6, .int x2)] [] (hS G s) z 0 0 (yPl G z s Q)) (fun x4 H => ?_)) (fun H => ?_)
      · show xEx G mX0_led 49 [(0, .ref (q_b G + 116)), (1, .long v1), (3, .int v2), (4, .long x4), (6, .int x2)] [] (hS G s) z 0 0 (yPl G z s Q)
        refine goV ((x2 + 1)) (fun x5 ex5 => ?_)
        replace H := H x5 ex5
        refine e_iinc (nx := 52) (l' := [(6, .int x5), (0, .ref (q_b G + 116)), (1, .long v1), (3, .int v2), (4, .long x4)]) ex5 hO rfl (by decide) rfl rfl rfl rfl ?_
        refine s_goto hO rfl ?_
        exact xEx.loc (x_sub1 (List.Mem.tail _ (List.Mem.head _)) (x_sub1 (List.Mem.tail _ (List.Mem.tail _ (List.Mem.head _))) (x_sub1 (List.Mem.tail _ (List.Mem.tail _ (List.Mem.tail _ (List.Mem.head _)))) (x_sub1 (List.Mem.tail _ (List.Mem.tail _ (List.Mem.tail _ (List.Mem.tail _ (List.Mem.head _))))) (x_sub1 (List.Mem.head _) x_sub0))))) H
      refine s_if_ne (nx := 29) hO rfl rfl (fun c26 => ?_) (fun c26 => ?_)
      · replace H := H.1 c26
        exact xEx.loc (x_sub1 (List.Mem.head _) (x_sub1 (List.Mem.tail _ (List.Mem.head _)) (x_sub1 (List.Mem.tail _ (List.Mem.tail _ (List.Mem.head _))) (x_sub1 (List.Mem.tail _ (List.Mem.tail _ (List.Mem.tail _ (List.Mem.head _)))) (x_sub1 (List.Mem.tail _ (List.Mem.tail _ (List.Mem.tail _ (List.Mem.tail _ (List.Mem.head _))))) x_sub0))))) H
      · replace H := H.2 c26
        refine s_lload (nx := 31) hO rfl rfl rfl ?_
        refine s_aload_n (nx := 32) hO rfl rfl rfl ?_
        obtain ⟨p6, ep6, kp6, H⟩ := H
        refine s_getf (v := .ref (q_b G + p6)) (nx := 35) hO rfl rfl (hs_o0 kc116) (congrArg some (rv_at ep6)) rfl ?_
        refine s_getf (v := .ref (q_b G + (p6 + 15))) (nx := 38) hO rfl rfl (hs_o3 kp6) rfl rfl ?_
        refine s_iload_n (nx := 39) hO rfl rfl rfl ?_
        refine s_bipush (x := (nI 63)) (nx := 41) hO rfl (by decide) rfl ?_
        refine s_imul (nx := 42) hO rfl rfl ?_
        refine s_iload (nx := 44) hO rfl rfl rfl ?_
        refine s_iadd (nx := 45) hO rfl rfl ?_
        obtain ⟨b7, H⟩ := H
        refine s_lald (nx := 46) hO rfl (hs_J (kf3_18 kp6)) b7 rfl ?_
        refine s_lor (nx := 47) hO rfl rfl ?_
        refine goV ((x1 ||| (sJ s (p6 + 15) (ix ((v2 * (nI 63)) + x2))))) (fun x8 ex8 => ?_)
        replace H := H x8 ex8
        refine e_lstore (nx := 49) (l' := [(4, .long x8), (0, .ref (q_b G + 116)), (1, .long v1), (3, .int v2), (6, .int x2)]) ex8 hO rfl (by decide) rfl rfl ?_
        exact xEx.loc (x_sub1 (List.Mem.tail _ (List.Mem.head _)) (x_sub1 (List.Mem.tail _ (List.Mem.tail _ (List.Mem.head _))) (x_sub1 (List.Mem.tail _ (List.Mem.tail _ (List.Mem.tail _ (List.Mem.head _)))) (x_sub1 (List.Mem.head _) (x_sub1 (List.Mem.tail _ (List.Mem.tail _ (List.Mem.tail _ (List.Mem.tail _ (List.Mem.head _))))) x_sub0))))) H
  refine s_istore (nx := 6) (l' := [(6, .int 0), (4, .long 0), (0, .ref (q_b G + 116)), (1, .long v1), (3, .int v2)]) hO rfl (by decide) rfl rfl ?_
  exact xEx.loc (x_sub1 (List.Mem.tail _ (List.Mem.tail _ (List.Mem.head _))) (x_sub1 (List.Mem.tail _ (List.Mem.tail _ (List.Mem.tail _ (List.Mem.head _)))) (x_sub1 (List.Mem.tail _ (List.Mem.tail _ (List.Mem.tail _ (List.Mem.tail _ (List.Mem.head _))))) (x_sub1 (List.Mem.tail _ (List.Mem.head _)) (x_sub1 (List.Mem.head _) x_sub0))))) H
def W_X0_canThrow (s : yS) (v1 : Int32) (Q : Int32 → Prop) : Prop :=
 ((v1 = (nI 9) → Q 1)
 ∧ (¬ v1 = (nI 9) → ((v1 = (nI 10) → Q 1)
  ∧ (¬ v1 = (nI 10) → ((v1 = (nI 21) → Q 1)
   ∧ (¬ v1 = (nI 21) → ((v1 = (nI 22) → Q 1)
    ∧ (¬ v1 = (nI 22) → ((v1 = (nI 23) → Q 1)
     ∧ (¬ v1 = (nI 23) → ((v1 = (nI 25) → Q 1)
      ∧ (¬ v1 = (nI 25) → ((¬ v1 = (nI 28) → Q 0)
       ∧ (v1 = (nI 28) → Q 1))))))))))))))
set_option maxRecDepth 100000 in
set_option maxHeartbeats 40000000 in
theorem w_X0_canThrow {G : xG} (hG : yG G) {z : Nat} {s : yS} {v1 : Int32} {Q : Int32 → Prop} (H : W_X0_canThrow s v1 Q) : xC G mX0_canThrow [.int v1] (hS G s) z 0 0 (yPi G z s Q) := by
  have hW := hG.1
  have hcl := hG.2.1
  have hty := hG.2.2.1
  have hO : xO G mX0_canThrow tbX0_canThrow ptX0_canThrow := ⟨tkX0_canThrow, pkX0_canThrow hcl⟩
  unfold W_X0_canThrow at H
  refine xC.of hW (by decide) rfl (Nat.le_of_ble_eq_true rfl) ?_
  refine s_iload_n (nx := 1) hO rfl rfl rfl ?_
  refine s_bipush (x := (nI 9)) (nx := 3) hO rfl (by decide) rfl ?_
  refine s_icmp_eq (nx := 6) hO rfl rfl (fun c3 => ?_) (fun c3 => ?_)
  · replace H := H.1 c3
    refine s_iconst (x := 1) (nx := 43) hO rfl (by decide) rfl ?_
    refine s_goto hO rfl ?_
    exact s_iret hO rfl rfl rfl ⟨rfl, _, rfl, rfl, H⟩
  · replace H := H.2 c3
    refine s_iload_n (nx := 7) hO rfl rfl rfl ?_
    refine s_bipush (x := (nI 10)) (nx := 9) hO rfl (by decide) rfl ?_
    refine s_icmp_eq (nx := 12) hO rfl rfl (fun c9 => ?_) (fun c9 => ?_)
    · replace H := H.1 c9
      refine s_iconst (x := 1) (nx := 43) hO rfl (by decide) rfl ?_
      refine s_goto hO rfl ?_
      exact s_iret hO rfl rfl rfl ⟨rfl, _, rfl, rfl, H⟩
    · replace H := H.2 c9
      refine s_iload_n (nx := 13) hO rfl rfl rfl ?_
      refine s_bipush (x := (nI 21)) (nx := 15) hO rfl (by decide) rfl ?_
      refine s_icmp_eq (nx := 18) hO rfl rfl (fun c15 => ?_) (fun c15 => ?_)
      · replace H := H.1 c15
        refine s_iconst (x := 1) (nx := 43) hO rfl (by decide) rfl ?_
        refine s_goto hO rfl ?_
        exact s_iret hO rfl rfl rfl ⟨rfl, _, rfl, rfl, H⟩
      · replace H := H.2 c15
        refine s_iload_n (nx := 19) hO rfl rfl rfl ?_
        refine s_bipush (x := (nI 22)) (nx := 21) hO rfl (by decide) rfl ?_
        refine s_icmp_eq (nx := 24) hO rfl rfl (fun c21 => ?_) (fun c21 => ?_)
        · replace H := H.1 c21
          refine s_iconst (x := 1) (nx := 43) hO rfl (by decide) rfl ?_
          refine s_goto hO rfl ?_
          exact s_iret hO rfl rfl rfl ⟨rfl, _, rfl, rfl, H⟩
        · replace H := H.2 c21
          refine s_iload_n (nx := 25) hO rfl rfl rfl ?_
          refine s_bipush (x := (nI 23)) (nx := 27) hO rfl (by decide) rfl ?_
          refine s_icmp_eq (nx := 30) hO rfl rfl (fun c27 => ?_) (fun c27 => ?_)
          · replace H := H.1 c27
            refine s_iconst (x := 1) (nx := 43) hO rfl (by decide) rfl ?_
            refine s_goto hO rfl ?_
            exact s_iret hO rfl rfl rfl ⟨rfl, _, rfl, rfl, H⟩
          · replace H := H.2 c27
            refine s_iload_n (nx := 31) hO rfl rfl rfl ?_
            refine s_bipush (x := (nI 25)) (nx := 33) hO rfl (by decide) rfl ?_
            refine s_icmp_eq (nx := 36) hO rfl rfl (fun c33 => ?_) (fun c33 => ?_)
            · replace H := H.1 c33
              refine s_iconst (x := 1) (nx := 43) hO rfl (by decide) rfl ?_
              refine s_goto hO rfl ?_
              exact s_iret hO rfl rfl rfl ⟨rfl, _, rfl, rfl, H⟩
            · replace H := H.2 c33
              refine s_iload_n (nx := 37) hO rfl rfl rfl ?_
              refine s_bipush (x := (nI 28)) (nx := 39) hO rfl (by decide) rfl ?_
              refine s_icmp_ne (nx := 42) hO rfl rfl (fun c39 => ?_) (fun c39 => ?_)
              · replace H := H.1 c39
                refine s_iconst (x := 0) (nx := 47) hO rfl (by decide) rfl ?_
                exact s_iret hO rfl rfl rfl ⟨rfl, _, rfl, rfl, H⟩
              · replace H := H.2 c39
                refine s_iconst (x := 1) (nx := 43) hO rfl (by decide) rfl ?_
                refine s_goto hO rfl ?_
                exact s_iret hO rfl rfl rfl ⟨rfl, _, rfl, rfl, H⟩
def W_X5_isInRange (s : yS) (g : Nat) (v1 : Int32) (v2 : Int32) (Q : Int32 → Prop) : Prop :=
 vp_in v1 72 ∧ 
 ((v2 < (sI s (g + 13) (ix v1)) → Q 0)
 ∧ (¬ v2 < (sI s (g + 13) (ix v1)) → vp_in v1 72 ∧ 
  (((sI s (g + 14) (ix v1)) ≤ v2 → Q 0)
  ∧ (¬ (sI s (g + 14) (ix v1)) ≤ v2 → Q 1))))
set_option maxRecDepth 100000 in
set_option maxHeartbeats 40000000 in
theorem w_X5_isInRange {G : xG} (hG : yG G) {z : Nat} {s : yS} {g : Nat} {v1 : Int32} {v2 : Int32} {Q : Int32 → Prop} (hg : kd g = some (9, 0)) (H : W_X5_isInRange s g v1 v2 Q) : xC G mX5_isInRange [.ref (q_b G + g), .int v1, .int v2] (hS G s) z 0 0 (yPi G z s Q) := by
  have hW := hG.1
  have hcl := hG.2.1
  have hty := hG.2.2.1
  have hO : xO G mX5_isInRange tbX5_isInRange ptX5_isInRange := ⟨tkX5_isInRange, pkX5_isInRange hcl⟩
  unfold W_X5_isInRange at H
  refine xC.of hW (by decide) rfl (Nat.le_of_ble_eq_true rfl) ?_
  refine s_iload_n (nx := 1) hO rfl rfl rfl ?_
  refine s_aload_n (nx := 2) hO rfl rfl rfl ?_
  refine s_getf (v := .ref (q_b G + (g + 13))) (nx := 5) hO rfl rfl (hs_o5 hg) rfl rfl ?_
  refine s_iload_n (nx := 6) hO rfl rfl rfl ?_
  obtain ⟨b1, H⟩ := H
  refine s_iald (nx := 7) hO rfl (hs_I (kf5_14 hg)) b1 rfl ?_
  refine s_icmp_lt (nx := 10) hO rfl rfl (fun c7 => ?_) (fun c7 => ?_)
  · replace H := H.1 c7
    refine s_iconst (x := 0) (nx := 25) hO rfl (by decide) rfl ?_
    exact s_iret hO rfl rfl rfl ⟨rfl, _, rfl, rfl, H⟩
  · replace H := H.2 c7
    refine s_iload_n (nx := 11) hO rfl rfl rfl ?_
    refine s_aload_n (nx := 12) hO rfl rfl rfl ?_
    refine s_getf (v := .ref (q_b G + (g + 14))) (nx := 15) hO rfl rfl (hs_o5 hg) rfl rfl ?_
    refine s_iload_n (nx := 16) hO rfl rfl rfl ?_
    obtain ⟨b2, H⟩ := H
    refine s_iald (nx := 17) hO rfl (hs_I (kf5_15 hg)) b2 rfl ?_
    refine s_icmp_ge (nx := 20) hO rfl rfl (fun c17 => ?_) (fun c17 => ?_)
    · replace H := H.1 c17
      refine s_iconst (x := 0) (nx := 25) hO rfl (by decide) rfl ?_
      exact s_iret hO rfl rfl rfl ⟨rfl, _, rfl, rfl, H⟩
    · replace H := H.2 c17
      refine s_iconst (x := 1) (nx := 21) hO rfl (by decide) rfl ?_
      refine s_goto hO rfl ?_
      exact s_iret hO rfl rfl rfl ⟨rfl, _, rfl, rfl, H⟩
def W_X0_growHandlers (s : yS) (v1 : Int32) (v2 : Int32) (v3 : Int64) (Q : yS → Prop) : Prop :=
 ∀ P6 : Int32 → yS → Prop, (∀ (x1 : Int32) (s2 : yS), (∃ p3 : Nat, sR s2 116 0 = p3 + 1 ∧ kd p3 = some (9, 0) ∧ 
  vp_in v1 12 ∧ 
  ((((v1 * (nI 6)) + (sI s2 (p3 + 6) (ix v1))) ≤ x1 → Q s2)
  ∧ (¬ ((v1 * (nI 6)) + (sI s2 (p3 + 6) (ix v1))) ≤ x1 → ∃ p5 : Nat, sR s2 116 0 = p5 + 1 ∧ kd p5 = some (9, 0) ∧ 
   W_X5_isInRange s2 p5 x1 v2 
   (fun r6 => ∀ P59 : yS → Prop, (∀ (s7 : yS), (∀ x8 : Int32, x8 = (x1 + 1) → 
    P6 x8 s7) → P59 s7) → 
   ((r6 = 0 → P59 s2)
   ∧ (¬ r6 = 0 → ∃ p9 : Nat, sR s2 116 0 = p9 + 1 ∧ kd p9 = some (9, 0) ∧ 
    vp_in x1 72 ∧ 
    W_X0_grow s2 ((v1 * (nI 400)) + (sI s2 (p9 + 15) (ix x1))) v3 
    (fun s11 => P59 s11))))))) → P6 x1 s2) → 
 ∀ x12 : Int32, x12 = (v1 * (nI 6)) → 
 P6 x12 s
set_option maxRecDepth 100000 in
set_option maxHeartbeats 40000000 in
theorem w_X0_growHandlers {G : xG} (hG : yG G) {z : Nat} {s : yS} {v1 : Int32} {v2 : Int32} {v3 : Int64} {Q : yS → Prop} (H : W_X0_growHandlers s v1 v2 v3 Q) : xC G mX0_growHandlers [.ref (q_b G + 116), .int v1, .int v2, .long v3] (hS G s) z 0 0 (yQv G z Q) := by
  have hW := hG.1
  have hcl := hG.2.1
  have hty := hG.2.2.1
  have hO : xO G mX0_growHandlers tbX0_growHandlers ptX0_growHandlers := ⟨tkX0_growHandlers, pkX0_growHandlers hcl⟩
  unfold W_X0_growHandlers at H
  refine xC.of hW (by decide) rfl (Nat.le_of_ble_eq_true rfl) ?_
  refine s_iload_n (nx := 1) hO rfl rfl rfl ?_
  refine s_bipush (x := (nI 6)) (nx := 3) hO rfl (by decide) rfl ?_
  refine s_imul (nx := 4) hO rfl rfl ?_
  refine goK (H (fun (x1 : Int32) (s2 : yS) => xEx G mX0_growHandlers 6 [(0, .ref (q_b G + 116)), (1, .int v1), (2, .int v2), (3, .long v3), (5, .int x1)] [] (hS G s2) z 0 0 (yQv G z Q)) (fun x1 s2 H => ?_)) (fun H => ?_)
  · show xEx G mX0_growHandlers 6 [(0, .ref (q_b G + 116)), (1, .int v1), (2, .int v2), (3, .long v3), (5, .int x1)] [] (hS G s2) z 0 0 (yQv G z Q)
    refine s_iload (nx := 8) hO rfl rfl rfl ?_
    refine s_iload_n (nx := 9) hO rfl rfl rfl ?_
    refine s_bipush (x := (nI 6)) (nx := 11) hO rfl (by decide) rfl ?_
    refine s_imul (nx := 12) hO rfl rfl ?_
    refine s_aload_n (nx := 13) hO rfl rfl rfl ?_
    obtain ⟨p3, ep3, kp3, H⟩ := H
    refine s_getf (v := .ref (q_b G + p3)) (nx := 16) hO rfl rfl (hs_o0 kc116) (congrArg some (rv_at ep3)) rfl ?_
    refine s_getf (v := .ref (q_b G + (p3 + 6))) (nx := 19) hO rfl rfl (hs_o5 kp3) rfl rfl ?_
    refine s_iload_n (nx := 20) hO rfl rfl rfl ?_
    obtain ⟨b4, H⟩ := H
    refine s_iald (nx := 21) hO rfl (hs_I (kf5_6 kp3)) b4 rfl ?_
    refine s_iadd (nx := 22) hO rfl rfl ?_
    refine s_icmp_ge (nx := 25) hO rfl rfl (fun c22 => ?_) (fun c22 => ?_)
    · replace H := H.1 c22
      exact s_vret hO rfl rfl ⟨rfl, _, rfl, rfl, H⟩
    · replace H := H.2 c22
      refine s_aload_n (nx := 26) hO rfl rfl rfl ?_
      obtain ⟨p5, ep5, kp5, H⟩ := H
      refine s_getf (v := .ref (q_b G + p5)) (nx := 29) hO rfl rfl (hs_o0 kc116) (congrArg some (rv_at ep5)) rfl ?_
      refine s_iload (nx := 31) hO rfl rfl rfl ?_
      refine s_iload_n (nx := 32) hO rfl rfl rfl ?_
      refine s_callV [.int x1, .int v2] (ci := 5) (F := TX5) (N := 19) (nx := 35) hO rfl kX0_growHandlers_137 (by rw [hcl]; rfl) (hs_o5 kp5) (w_X5_isInRange hG kp5 H) rfl rfl (Nat.le_of_ble_eq_true rfl) (Nat.zero_le _) (Nat.zero_le _) rfl (k_Pi (fun r6 H => ?_))
      refine goK (H (fun (s7 : yS) => xEx G mX0_growHandlers 59 [(0, .ref (q_b G + 116)), (1, .int v1), (2, .int v2), (3, .long v3), (5, .int x1)] [] (hS G s7) z 0 0 (yQv G z Q)) (fun s7 H => ?_)) (fun H => ?_)
      · show xEx G mX0_growHandlers 59 [(0, .ref (q_b G + 116)), (1, .int v1), (2, .int v2), (3, .long v3), (5, .int x1)] [] (hS G s7) z 0 0 (yQv G z Q)
        refine goV ((x1 + 1)) (fun x8 ex8 => ?_)
        replace H := H x8 ex8
        refine e_iinc (nx := 62) (l' := [(5, .int x8), (0, .ref (q_b G + 116)), (1, .int v1), (2, .int v2), (3, .long v3)]) ex8 hO rfl (by decide) rfl rfl rfl rfl ?_
        refine s_goto hO rfl ?_
        exact xEx.loc (x_sub1 (List.Mem.tail _ (List.Mem.head _)) (x_sub1 (List.Mem.tail _ (List.Mem.tail _ (List.Mem.head _))) (x_sub1 (List.Mem.tail _ (List.Mem.tail _ (List.Mem.tail _ (List.Mem.head _)))) (x_sub1 (List.Mem.tail _ (List.Mem.tail _ (List.Mem.tail _ (List.Mem.tail _ (List.Mem.head _))))) (x_sub1 (List.Mem.head _) x_sub0))))) H
      refine s_if_eq (nx := 38) hO rfl rfl (fun c35 => ?_) (fun c35 => ?_)
      · replace H := H.1 c35
        exact xEx.loc (x_sub1 (List.Mem.head _) (x_sub1 (List.Mem.tail _ (List.Mem.head _)) (x_sub1 (List.Mem.tail _ (List.Mem.tail _ (List.Mem.head _))) (x_sub1 (List.Mem.tail _ (List.Mem.tail _ (List.Mem.tail _ (List.Mem.head _)))) (x_sub1 (List.Mem.tail _ (List.Mem.tail _ (List.Mem.tail _ (List.Mem.tail _ (List.Mem.head _))))) x_sub0))))) H
      · replace H := H.2 c35
        refine s_aload_n (nx := 39) hO rfl rfl rfl ?_
        refine s_iload_n (nx := 40) hO rfl rfl rfl ?_
        refine s_sipush (x := (nI 400)) (nx := 43) hO rfl (by decide) rfl ?_
        refine s_imul (nx := 44) hO rfl rfl ?_
        refine s_aload_n (nx := 45) hO rfl rfl rfl ?_
        obtain ⟨p9, ep9, kp9, H⟩ := H
        refine s_getf (v := .ref (q_b G + p9)) (nx := 48) hO rfl rfl (hs_o0 kc116) (congrArg some (rv_at ep9)) rfl ?_
        refine s_getf (v := .ref (q_b G + (p9 + 15))) (nx := 51) hO rfl rfl (hs_o5 kp9) rfl rfl ?_
        refine s_iload (nx := 53) hO rfl rfl rfl ?_
        obtain ⟨b10, H⟩ := H
        refine s_iald (nx := 54) hO rfl (hs_I (kf5_16 kp9)) b10 rfl ?_
        refine s_iadd (nx := 55) hO rfl rfl ?_
        refine s_lload_n (nx := 56) hO rfl rfl rfl ?_
        refine s_callV [.int ((v1 * (nI 400)) + (sI s2 (p9 + 15) (ix x1))), .long v3] (ci := 0) (F := TX0) (N := 11) (nx := 59) hO rfl kX0_growHandlers_82 (by rw [hcl]; rfl) (hs_o0 kc116) (w_X0_grow hG H) rfl rfl (Nat.le_of_ble_eq_true rfl) (Nat.zero_le _) (Nat.zero_le _) rfl (k_Qv (fun s11 H => ?_))
        exact xEx.loc (x_sub1 (List.Mem.head _) (x_sub1 (List.Mem.tail _ (List.Mem.head _)) (x_sub1 (List.Mem.tail _ (List.Mem.tail _ (List.Mem.head _))) (x_sub1 (List.Mem.tail _ (List.Mem.tail _ (List.Mem.tail _ (List.Mem.head _)))) (x_sub1 (List.Mem.tail _ (List.Mem.tail _ (List.Mem.tail _ (List.Mem.tail _ (List.Mem.head _))))) x_sub0))))) H
  refine goV ((v1 * (nI 6))) (fun x12 ex12 => ?_)
  replace H := H x12 ex12
  refine e_istore (nx := 6) (l' := [(5, .int x12), (0, .ref (q_b G + 116)), (1, .int v1), (2, .int v2), (3, .long v3)]) ex12 hO rfl (by decide) rfl rfl ?_
  exact xEx.loc (x_sub1 (List.Mem.tail _ (List.Mem.head _)) (x_sub1 (List.Mem.tail _ (List.Mem.tail _ (List.Mem.head _))) (x_sub1 (List.Mem.tail _ (List.Mem.tail _ (List.Mem.tail _ (List.Mem.head _)))) (x_sub1 (List.Mem.tail _ (List.Mem.tail _ (List.Mem.tail _ (List.Mem.tail _ (List.Mem.head _))))) (x_sub1 (List.Mem.head _) x_sub0))))) H
def W_X5_isJump (s : yS) (v1 : Int32) (Q : Int32 → Prop) : Prop :=
 ((v1 = (nI 18) → Q 1)
 ∧ (¬ v1 = (nI 18) → ((v1 = (nI 19) → Q 1)
  ∧ (¬ v1 = (nI 19) → ((¬ v1 = (nI 20) → Q 0)
   ∧ (v1 = (nI 20) → Q 1))))))
set_option maxRecDepth 100000 in
set_option maxHeartbeats 40000000 in
theorem w_X5_isJump {G : xG} (hG : yG G) {z : Nat} {s : yS} {v1 : Int32} {Q : Int32 → Prop} (H : W_X5_isJump s v1 Q) : xC G mX5_isJump [.int v1] (hS G s) z 0 0 (yPi G z s Q) := by
  have hW := hG.1
  have hcl := hG.2.1
  have hty := hG.2.2.1
  have hO : xO G mX5_isJump tbX5_isJump ptX5_isJump := ⟨tkX5_isJump, pkX5_isJump hcl⟩
  unfold W_X5_isJump at H
  refine xC.of hW (by decide) rfl (Nat.le_of_ble_eq_true rfl) ?_
  refine s_iload_n (nx := 1) hO rfl rfl rfl ?_
  refine s_bipush (x := (nI 18)) (nx := 3) hO rfl (by decide) rfl ?_
  refine s_icmp_eq (nx := 6) hO rfl rfl (fun c3 => ?_) (fun c3 => ?_)
  · replace H := H.1 c3
    refine s_iconst (x := 1) (nx := 19) hO rfl (by decide) rfl ?_
    refine s_goto hO rfl ?_
    exact s_iret hO rfl rfl rfl ⟨rfl, _, rfl, rfl, H⟩
  · replace H := H.2 c3
    refine s_iload_n (nx := 7) hO rfl rfl rfl ?_
    refine s_bipush (x := (nI 19)) (nx := 9) hO rfl (by decide) rfl ?_
    refine s_icmp_eq (nx := 12) hO rfl rfl (fun c9 => ?_) (fun c9 => ?_)
    · replace H := H.1 c9
      refine s_iconst (x := 1) (nx := 19) hO rfl (by decide) rfl ?_
      refine s_goto hO rfl ?_
      exact s_iret hO rfl rfl rfl ⟨rfl, _, rfl, rfl, H⟩
    · replace H := H.2 c9
      refine s_iload_n (nx := 13) hO rfl rfl rfl ?_
      refine s_bipush (x := (nI 20)) (nx := 15) hO rfl (by decide) rfl ?_
      refine s_icmp_ne (nx := 18) hO rfl rfl (fun c15 => ?_) (fun c15 => ?_)
      · replace H := H.1 c15
        refine s_iconst (x := 0) (nx := 23) hO rfl (by decide) rfl ?_
        exact s_iret hO rfl rfl rfl ⟨rfl, _, rfl, rfl, H⟩
      · replace H := H.2 c15
        refine s_iconst (x := 1) (nx := 19) hO rfl (by decide) rfl ?_
        refine s_goto hO rfl ?_
        exact s_iret hO rfl rfl rfl ⟨rfl, _, rfl, rfl, H⟩
def W_X5_goesOnBehind (s : yS) (v1 : Int32) (Q : Int32 → Prop) : Prop :=
 ((v1 = (nI 18) → Q 0)
 ∧ (¬ v1 = (nI 18) → ((v1 = (nI 27) → Q 0)
  ∧ (¬ v1 = (nI 27) → ((v1 = (nI 28) → Q 0)
   ∧ (¬ v1 = (nI 28) → Q 1))))))
set_option maxRecDepth 100000 in
set_option maxHeartbeats 40000000 in
theorem w_X5_goesOnBehind {G : xG} (hG : yG G) {z : Nat} {s : yS} {v1 : Int32} {Q : Int32 → Prop} (H : W_X5_goesOnBehind s v1 Q) : xC G mX5_goesOnBehind [.int v1] (hS G s) z 0 0 (yPi G z s Q) := by
  have hW := hG.1
  have hcl := hG.2.1
  have hty := hG.2.2.1
  have hO : xO G mX5_goesOnBehind tbX5_goesOnBehind ptX5_goesOnBehind := ⟨tkX5_goesOnBehind, pkX5_goesOnBehind hcl⟩
  unfold W_X5_goesOnBehind at H
  refine xC.of hW (by decide) rfl (Nat.le_of_ble_eq_true rfl) ?_
  refine s_iload_n (nx := 1) hO rfl rfl rfl ?_
  refine s_bipush (x := (nI 18)) (nx := 3) hO rfl (by decide) rfl ?_
  refine s_icmp_eq (nx := 6) hO rfl rfl (fun c3 => ?_) (fun c3 => ?_)
  · replace H := H.1 c3
    refine s_iconst (x := 0) (nx := 23) hO rfl (by decide) rfl ?_
    exact s_iret hO rfl rfl rfl ⟨rfl, _, rfl, rfl, H⟩
  · replace H := H.2 c3
    refine s_iload_n (nx := 7) hO rfl rfl rfl ?_
    refine s_bipush (x := (nI 27)) (nx := 9) hO rfl (by decide) rfl ?_
    refine s_icmp_eq (nx := 12) hO rfl rfl (fun c9 => ?_) (fun c9 => ?_)
    · replace H := H.1 c9
      refine s_iconst (x := 0) (nx := 23) hO rfl (by decide) rfl ?_
      exact s_iret hO rfl rfl rfl ⟨rfl, _, rfl, rfl, H⟩
    · replace H := H.2 c9
      refine s_iload_n (nx := 13) hO rfl rfl rfl ?_
      refine s_bipush (x := (nI 28)) (nx := 15) hO rfl (by decide) rfl ?_
      refine s_icmp_eq (nx := 18) hO rfl rfl (fun c15 => ?_) (fun c15 => ?_)
      · replace H := H.1 c15
        refine s_iconst (x := 0) (nx := 23) hO rfl (by decide) rfl ?_
        exact s_iret hO rfl rfl rfl ⟨rfl, _, rfl, rfl, H⟩
      · replace H := H.2 c15
        refine s_iconst (x := 1) (nx := 19) hO rfl (by decide) rfl ?_
        refine s_goto hO rfl ?_
        exact s_iret hO rfl rfl rfl ⟨rfl, _, rfl, rfl, H⟩
def W_X0_spread (s : yS) (v1 : Int32) (v2 : Int32) (Q : yS → Prop) : Prop :=
 ∀ x1 : Int32, x1 = ((v1 * (nI 400)) + v2) → 
 ∃ p2 : Nat, sR s 116 0 = p2 + 1 ∧ kd p2 = some (9, 0) ∧ 
 vp_in x1 4800 ∧ 
 ∀ x4 : Int32, x4 = (sI s (p2 + 7) (ix x1)) → 
 ∃ p5 : Nat, sR s 116 0 = p5 + 1 ∧ kd p5 = some (9, 0) ∧ 
 vp_in x1 4800 ∧ 
 ∀ x7 : Int32, x7 = (sI s (p5 + 8) (ix x1)) → 
 ∃ p8 : Nat, sR s 116 0 = p8 + 1 ∧ kd p8 = some (9, 0) ∧ 
 vp_in x1 4800 ∧ 
 ∀ x10 : Int64, x10 = (sJ s (p8 + 12) (ix x1)) → 
 W_X0_growAll s v1 x10 
 (fun s11 => ∀ P164 : Int64 → Int64 → yS → Prop, (∀ (x12 : Int64) (x13 : Int64) (s14 : yS), (W_X0_canThrow s14 x4 
  (fun r15 => ∀ P180 : yS → Prop, (∀ (s16 : yS), (W_X5_isJump s16 x4 
   (fun r17 => ∀ P202 : yS → Prop, (∀ (s18 : yS), (W_X5_goesOnBehind s18 x4 
    (fun r19 => ((r19 = 0 → Q s18)
    ∧ (¬ r19 = 0 → W_X0_grow s18 (x1 + 1) x13 
     (fun s20 => Q s20))))) → P202 s18) → 
   ((r17 = 0 → P202 s16)
   ∧ (¬ r17 = 0 → W_X0_grow s16 ((v1 * (nI 400)) + x7) x13 
    (fun s21 => P202 s21))))) → P180 s16) → 
  ((r15 = 0 → P180 s14)
  ∧ (¬ r15 = 0 → W_X0_growHandlers s14 v1 v2 x12 
   (fun s22 => P180 s22))))) → P164 x12 x13 s14) → 
 ((¬ x4 = (nI 25) → ((¬ x4 = (nI 27) → ∀ P154 : Prop, ((W_X0_led s11 x10 x7 
    (fun r23 => P164 x10 r23 s11)) → P154) → 
   ((x4 = (nI 29) → P154)
   ∧ (¬ x4 = (nI 29) → ((¬ x4 = (nI 26) → P164 x10 x10 s11)
    ∧ (x4 = (nI 26) → ∃ p24 : Nat, sR s11 116 0 = p24 + 1 ∧ kd p24 = some (9, 0) ∧ 
     W_X5_isGuarded s11 p24 v1 v2 
     (fun r25 => ((¬ r25 = 0 → P164 x10 x10 s11)
     ∧ (r25 = 0 → P154))))))))
  ∧ (x4 = (nI 27) → W_X0_growExit s11 v1 x10 
   (fun s26 => P164 x10 x10 s26))))
 ∧ (x4 = (nI 25) → W_X0_grow s11 (x7 * (nI 400)) x10 
  (fun s27 => vp_in x7 12 ∧ 
  W_X0_growAll s27 v1 (sJ s27 120 (ix x7)) 
  (fun s29 => vp_in x7 12 ∧ 
  ∀ x31 : Int64, x31 = (sJ s29 119 (ix x7)) → 
  vp_in x7 12 ∧ 
  ∀ x33 : Int64, x33 = (x10 ||| (sJ s29 120 (ix x7))) → 
  P164 x33 x31 s29)))))
set_option maxRecDepth 100000 in
set_option maxHeartbeats 40000000 in
theorem w_X0_spread {G : xG} (hG : yG G) {z : Nat} {s : yS} {v1 : Int32} {v2 : Int32} {Q : yS → Prop} (H : W_X0_spread s v1 v2 Q) : xC G mX0_spread [.ref (q_b G + 116), .int v1, .int v2] (hS G s) z 0 0 (yQv G z Q) := by
  have hW := hG.1
  have hcl := hG.2.1
  have hty := hG.2.2.1
  have hO : xO G mX0_spread tbX0_spread ptX0_spread := ⟨tkX0_spread, pkX0_spread hcl⟩
  unfold W_X0_spread at H
  refine xC.of hW (by decide) rfl (Nat.le_of_ble_eq_true rfl) ?_
  refine s_iload_n (nx := 1) hO rfl rfl rfl ?_
  refine s_sipush (x := (nI 400)) (nx := 4) hO rfl (by decide) rfl ?_
  refine s_imul (nx := 5) hO rfl rfl ?_
  refine s_iload_n (nx := 6) hO rfl rfl rfl ?_
  refine s_iadd (nx := 7) hO rfl rfl ?_
  refine goV (((v1 * (nI 400)) + v2)) (fun x1 ex1 => ?_)
  replace H := H x1 ex1
  refine e_istore_n (nx := 8) (l' := [(3, .int x1), (0, .ref (q_b G + 116)), (1, .int v1), (2, .int v2)]) ex1 hO rfl (by decide) rfl rfl ?_
  refine s_aload_n (nx := 9) hO rfl rfl rfl ?_
  obtain ⟨p2, ep2, kp2, H⟩ := H
  refine s_getf (v := .ref (q_b G + p2)) (nx := 12) hO rfl rfl (hs_o0 kc116) (congrArg some (rv_at ep2)) rfl ?_
  refine s_getf (v := .ref (q_b G + (p2 + 7))) (nx := 15) hO rfl rfl (hs_o5 kp2) rfl rfl ?_
  refine s_iload_n (nx := 16) hO rfl rfl rfl ?_
  obtain ⟨b3, H⟩ := H
  refine s_iald (nx := 17) hO rfl (hs_I (kf5_7 kp2)) b3 rfl ?_
  refine goV ((sI s (p2 + 7) (ix x1))) (fun x4 ex4 => ?_)
  replace H := H x4 ex4
  refine e_istore (nx := 19) (l' := [(4, .int x4), (3, .int x1), (0, .ref (q_b G + 116)), (1, .int v1), (2, .int v2)]) ex4 hO rfl (by decide) rfl rfl ?_
  refine s_aload_n (nx := 20) hO rfl rfl rfl ?_
  obtain ⟨p5, ep5, kp5, H⟩ := H
  refine s_getf (v := .ref (q_b G + p5)) (nx := 23) hO rfl rfl (hs_o0 kc116) (congrArg some (rv_at ep5)) rfl ?_
  refine s_getf (v := .ref (q_b G + (p5 + 8))) (nx := 26) hO rfl rfl (hs_o5 kp5) rfl rfl ?_
  refine s_iload_n (nx := 27) hO rfl rfl rfl ?_
  obtain ⟨b6, H⟩ := H
  refine s_iald (nx := 28) hO rfl (hs_I (kf5_8 kp5)) b6 rfl ?_
  refine goV ((sI s (p5 + 8) (ix x1))) (fun x7 ex7 => ?_)
  replace H := H x7 ex7
  refine e_istore (nx := 30) (l' := [(5, .int x7), (4, .int x4), (3, .int x1), (0, .ref (q_b G + 116)), (1, .int v1), (2, .int v2)]) ex7 hO rfl (by decide) rfl rfl ?_
  refine s_aload_n (nx := 31) hO rfl rfl rfl ?_
  obtain ⟨p8, ep8, kp8, H⟩ := H
  refine s_getf (v := .ref (q_b G + p8)) (nx := 34) hO rfl rfl (hs_o0 kc116) (congrArg some (rv_at ep8)) rfl ?_
  refine s_getf (v := .ref (q_b G + (p8 + 12))) (nx := 37) hO rfl rfl (hs_o5 kp8) rfl rfl ?_
  refine s_iload_n (nx := 38) hO rfl rfl rfl ?_
  obtain ⟨b9, H⟩ := H
  refine s_lald (nx := 39) hO rfl (hs_J (kf5_12 kp8)) b9 rfl ?_
  refine goV ((sJ s (p8 + 12) (ix x1))) (fun x10 ex10 => ?_)
  replace H := H x10 ex10
  refine e_lstore (nx := 41) (l' := [(6, .long x10), (5, .int x7), (4, .int x4), (3, .int x1), (0, .ref (q_b G + 116)), (1, .int v1), (2, .int v2)]) ex10 hO rfl (by decide) rfl rfl ?_
  refine s_lload (nx := 43) hO rfl rfl rfl ?_
  refine s_lstore (nx := 45) (l' := [(8, .long x10), (6, .long x10), (5, .int x7), (4, .int x4), (3, .int x1), (0, .ref (q_b G + 116)), (1, .int v1), (2, .int v2)]) hO rfl (by decide) rfl rfl ?_
  refine s_lload (nx := 47) hO rfl rfl rfl ?_
  refine s_lstore (nx := 49) (l' := [(10, .long x10), (8, .long x10), (6, .long x10), (5, .int x7), (4, .int x4), (3, .int x1), (0, .ref (q_b G + 116)), (1, .int v1), (2, .int v2)]) hO rfl (by decide) rfl rfl ?_
  refine s_aload_n (nx := 50) hO rfl rfl rfl ?_
  refine s_iload_n (nx := 51) hO rfl rfl rfl ?_
  refine s_lload (nx := 53) hO rfl rfl rfl ?_
  refine s_callV [.int v1, .long x10] (ci := 0) (F := TX0) (N := 11) (nx := 56) hO rfl kX0_spread_98 (by rw [hcl]; rfl) (hs_o0 kc116) (w_X0_growAll hG H) rfl rfl (Nat.le_of_ble_eq_true rfl) (Nat.zero_le _) (Nat.zero_le _) rfl (k_Qv (fun s11 H => ?_))
  refine s_iload (nx := 58) hO rfl rfl rfl ?_
  refine s_bipush (x := (nI 25)) (nx := 60) hO rfl (by decide) rfl ?_
  refine goK (H (fun (x12 : Int64) (x13 : Int64) (s14 : yS) => xEx G mX0_spread 164 [(0, .ref (q_b G + 116)), (1, .int v1), (2, .int v2), (3, .int x1), (4, .int x4), (5, .int x7), (8, .long x12), (10, .long x13)] [] (hS G s14) z 0 0 (yQv G z Q)) (fun x12 x13 s14 H => ?_)) (fun H => ?_)
  · show xEx G mX0_spread 164 [(0, .ref (q_b G + 116)), (1, .int v1), (2, .int v2), (3, .int x1), (4, .int x4), (5, .int x7), (8, .long x12), (10, .long x13)] [] (hS G s14) z 0 0 (yQv G z Q)
    refine s_iload (nx := 166) hO rfl rfl rfl ?_
    refine s_callS [.int x4] (nx := 169) hO rfl kX0_spread_112 (w_X0_canThrow hG H) rfl rfl (Nat.le_of_ble_eq_true rfl) (Nat.zero_le _) (Nat.zero_le _) rfl (k_Pi (fun r15 H => ?_))
    refine goK (H (fun (s16 : yS) => xEx G mX0_spread 180 [(0, .ref (q_b G + 116)), (1, .int v1), (3, .int x1), (4, .int x4), (5, .int x7), (10, .long x13)] [] (hS G s16) z 0 0 (yQv G z Q)) (fun s16 H => ?_)) (fun H => ?_)
    · show xEx G mX0_spread 180 [(0, .ref (q_b G + 116)), (1, .int v1), (3, .int x1), (4, .int x4), (5, .int x7), (10, .long x13)] [] (hS G s16) z 0 0 (yQv G z Q)
      refine s_iload (nx := 182) hO rfl rfl rfl ?_
      refine s_callS [.int x4] (nx := 185) hO rfl kX0_spread_120 (w_X5_isJump hG H) rfl rfl (Nat.le_of_ble_eq_true rfl) (Nat.zero_le _) (Nat.zero_le _) rfl (k_Pi (fun r17 H => ?_))
      refine goK (H (fun (s18 : yS) => xEx G mX0_spread 202 [(0, .ref (q_b G + 116)), (3, .int x1), (4, .int x4), (10, .long x13)] [] (hS G s18) z 0 0 (yQv G z Q)) (fun s18 H => ?_)) (fun H => ?_)
      · show xEx G mX0_spread 202 [(0, .ref (q_b G + 116)), (3, .int x1), (4, .int x4), (10, .long x13)] [] (hS G s18) z 0 0 (yQv G z Q)
        refine s_iload (nx := 204) hO rfl rfl rfl ?_
        refine s_callS [.int x4] (nx := 207) hO rfl kX0_spread_123 (w_X5_goesOnBehind hG H) rfl rfl (Nat.le_of_ble_eq_true rfl) (Nat.zero_le _) (Nat.zero_le _) rfl (k_Pi (fun r19 H => ?_))
        refine s_if_eq (nx := 210) hO rfl rfl (fun c207 => ?_) (fun c207 => ?_)
        · replace H := H.1 c207
          exact s_vret hO rfl rfl ⟨rfl, _, rfl, rfl, H⟩
        · replace H := H.2 c207
          refine s_aload_n (nx := 211) hO rfl rfl rfl ?_
          refine s_iload_n (nx := 212) hO rfl rfl rfl ?_
          refine s_iconst (x := 1) (nx := 213) hO rfl (by decide) rfl ?_
          refine s_iadd (nx := 214) hO rfl rfl ?_
          refine s_lload (nx := 216) hO rfl rfl rfl ?_
          refine s_callV [.int (x1 + 1), .long x13] (ci := 0) (F := TX0) (N := 11) (nx := 219) hO rfl kX0_spread_82 (by rw [hcl]; rfl) (hs_o0 kc116) (w_X0_grow hG H) rfl rfl (Nat.le_of_ble_eq_true rfl) (Nat.zero_le _) (Nat.zero_le _) rfl (k_Qv (fun s20 H => ?_))
          exact s_vret hO rfl rfl ⟨rfl, _, rfl, rfl, H⟩
      refine s_if_eq (nx := 188) hO rfl rfl (fun c185 => ?_) (fun c185 => ?_)
      · replace H := H.1 c185
        exact xEx.loc (x_sub1 (List.Mem.head _) (x_sub1 (List.Mem.tail _ (List.Mem.tail _ (List.Mem.head _))) (x_sub1 (List.Mem.tail _ (List.Mem.tail _ (List.Mem.tail _ (List.Mem.head _)))) (x_sub1 (List.Mem.tail _ (List.Mem.tail _ (List.Mem.tail _ (List.Mem.tail _ (List.Mem.tail _ (List.Mem.head _)))))) x_sub0)))) H
      · replace H := H.2 c185
        refine s_aload_n (nx := 189) hO rfl rfl rfl ?_
        refine s_iload_n (nx := 190) hO rfl rfl rfl ?_
        refine s_sipush (x := (nI 400)) (nx := 193) hO rfl (by decide) rfl ?_
        refine s_imul (nx := 194) hO rfl rfl ?_
        refine s_iload (nx := 196) hO rfl rfl rfl ?_
        refine s_iadd (nx := 197) hO rfl rfl ?_
        refine s_lload (nx := 199) hO rfl rfl rfl ?_
        refine s_callV [.int ((v1 * (nI 400)) + x7), .long x13] (ci := 0) (F := TX0) (N := 11) (nx := 202) hO rfl kX0_spread_82 (by rw [hcl]; rfl) (hs_o0 kc116) (w_X0_grow hG H) rfl rfl (Nat.le_of_ble_eq_true rfl) (Nat.zero_le _) (Nat.zero_le _) rfl (k_Qv (fun s21 H => ?_))
        exact xEx.loc (x_sub1 (List.Mem.head _) (x_sub1 (List.Mem.tail _ (List.Mem.tail _ (List.Mem.head _))) (x_sub1 (List.Mem.tail _ (List.Mem.tail _ (List.Mem.tail _ (List.Mem.head _)))) (x_sub1 (List.Mem.tail _ (List.Mem.tail _ (List.Mem.tail _ (List.Mem.tail _ (List.Mem.tail _ (List.Mem.head _)))))) x_sub0)))) H
    refine s_if_eq (nx := 172) hO rfl rfl (fun c169 => ?_) (fun c169 => ?_)
    · replace H := H.1 c169
      exact xEx.loc (x_sub1 (List.Mem.head _) (x_sub1 (List.Mem.tail _ (List.Mem.head _)) (x_sub1 (List.Mem.tail _ (List.Mem.tail _ (List.Mem.tail _ (List.Mem.head _)))) (x_sub1 (List.Mem.tail _ (List.Mem.tail _ (List.Mem.tail _ (List.Mem.tail _ (List.Mem.head _))))) (x_sub1 (List.Mem.tail _ (List.Mem.tail _ (List.Mem.tail _ (List.Mem.tail _ (List.Mem.tail _ (List.Mem.head _)))))) (x_sub1 (List.Mem.tail _ (List.Mem.tail _ (List.Mem.tail _ (List.Mem.tail _ (List.Mem.tail _ (List.Mem.tail _ (List.Mem.tail _ (List.Mem.head _)))))))) x_sub0)))))) H
    · replace H := H.2 c169
      refine s_aload_n (nx := 173) hO rfl rfl rfl ?_
      refine s_iload_n (nx := 174) hO rfl rfl rfl ?_
      refine s_iload_n (nx := 175) hO rfl rfl rfl ?_
      refine s_lload (nx := 177) hO rfl rfl rfl ?_
      refine s_callV [.int v1, .int v2, .long x12] (ci := 0) (F := TX0) (N := 11) (nx := 180) hO rfl kX0_spread_116 (by rw [hcl]; rfl) (hs_o0 kc116) (w_X0_growHandlers hG H) rfl rfl (Nat.le_of_ble_eq_true rfl) (Nat.zero_le _) (Nat.zero_le _) rfl (k_Qv (fun s22 H => ?_))
      exact xEx.loc (x_sub1 (List.Mem.head _) (x_sub1 (List.Mem.tail _ (List.Mem.head _)) (x_sub1 (List.Mem.tail _ (List.Mem.tail _ (List.Mem.tail _ (List.Mem.head _)))) (x_sub1 (List.Mem.tail _ (List.Mem.tail _ (List.Mem.tail _ (List.Mem.tail _ (List.Mem.head _))))) (x_sub1 (List.Mem.tail _ (List.Mem.tail _ (List.Mem.tail _ (List.Mem.tail _ (List.Mem.tail _ (List.Mem.head _)))))) (x_sub1 (List.Mem.tail _ (List.Mem.tail _ (List.Mem.tail _ (List.Mem.tail _ (List.Mem.tail _ (List.Mem.tail _ (List.Mem.tail _ (List.Mem.head _)))))))) x_sub0)))))) H
  refine s_icmp_ne (nx := 63) hO rfl rfl (fun c60 => ?_) (fun c60 => ?_)
  · replace H := H.1 c60
    refine s_iload (nx := 113) hO rfl rfl rfl ?_
    refine s_bipush (x := (nI 27)) (nx := 115) hO rfl (by decide) rfl ?_
    refine s_icmp_ne (nx := 118) hO rfl rfl (fun c115 => ?_) (fun c115 => ?_)
    · replace H := H.1 c115
      refine s_iload (nx := 130) hO rfl rfl rfl ?_
      refine s_bipush (x := (nI 29)) (nx := 132) hO rfl (by decide) rfl ?_
      refine goK (H (xEx G mX0_spread 154 [(0, .ref (q_b G + 116)), (1, .int v1), (2, .int v2), (3, .int x1), (4, .int x4), (5, .int x7), (6, .long x10), (8, .long x10)] [] (hS G s11) z 0 0 (yQv G z Q)) (fun H => ?_)) (fun H => ?_)
      · show xEx G mX0_spread 154 [(0, .ref (q_b G + 116)), (1, .int v1), (2, .int v2), (3, .int x1), (4, .int x4), (5, .int x7), (6, .long x10), (8, .long x10)] [] (hS G s11) z 0 0 (yQv G z Q)
        refine s_aload_n (nx := 155) hO rfl rfl rfl ?_
        refine s_lload (nx := 157) hO rfl rfl rfl ?_
        refine s_iload (nx := 159) hO rfl rfl rfl ?_
        refine s_callV [.long x10, .int x7] (ci := 0) (F := TX0) (N := 11) (nx := 162) hO rfl kX0_spread_108 (by rw [hcl]; rfl) (hs_o0 kc116) (w_X0_led hG H) rfl rfl (Nat.le_of_ble_eq_true rfl) (Nat.zero_le _) (Nat.zero_le _) rfl (k_Pl (fun r23 H => ?_))
        refine s_lstore (nx := 164) (l' := [(10, .long r23), (0, .ref (q_b G + 116)), (1, .int v1), (2, .int v2), (3, .int x1), (4, .int x4), (5, .int x7), (6, .long x10), (8, .long x10)]) hO rfl (by decide) rfl rfl ?_
        exact xEx.loc (x_sub1 (List.Mem.tail _ (List.Mem.head _)) (x_sub1 (List.Mem.tail _ (List.Mem.tail _ (List.Mem.head _))) (x_sub1 (List.Mem.tail _ (List.Mem.tail _ (List.Mem.tail _ (List.Mem.head _)))) (x_sub1 (List.Mem.tail _ (List.Mem.tail _ (List.Mem.tail _ (List.Mem.tail _ (List.Mem.head _))))) (x_sub1 (List.Mem.tail _ (List.Mem.tail _ (List.Mem.tail _ (List.Mem.tail _ (List.Mem.tail _ (List.Mem.head _)))))) (x_sub1 (List.Mem.tail _ (List.Mem.tail _ (List.Mem.tail _ (List.Mem.tail _ (List.Mem.tail _ (List.Mem.tail _ (List.Mem.head _))))))) (x_sub1 (List.Mem.tail _ (List.Mem.tail _ (List.Mem.tail _ (List.Mem.tail _ (List.Mem.tail _ (List.Mem.tail _ (List.Mem.tail _ (List.Mem.tail _ (List.Mem.head _))))))))) (x_sub1 (List.Mem.head _) x_sub0)))))))) H
      refine s_icmp_eq (nx := 135) hO rfl rfl (fun c132 => ?_) (fun c132 => ?_)
      · replace H := H.1 c132
        exact xEx.loc (x_sub1 (List.Mem.tail _ (List.Mem.tail _ (List.Mem.tail _ (List.Mem.tail _ (List.Mem.tail _ (List.Mem.tail _ (List.Mem.head _))))))) (x_sub1 (List.Mem.tail _ (List.Mem.tail _ (List.Mem.tail _ (List.Mem.tail _ (List.Mem.tail _ (List.Mem.tail _ (List.Mem.tail _ (List.Mem.head _)))))))) (x_sub1 (List.Mem.tail _ (List.Mem.tail _ (List.Mem.tail _ (List.Mem.tail _ (List.Mem.tail _ (List.Mem.tail _ (List.Mem.tail _ (List.Mem.tail _ (List.Mem.head _))))))))) (x_sub1 (List.Mem.tail _ (List.Mem.tail _ (List.Mem.tail _ (List.Mem.tail _ (List.Mem.tail _ (List.Mem.head _)))))) (x_sub1 (List.Mem.tail _ (List.Mem.tail _ (List.Mem.tail _ (List.Mem.tail _ (List.Mem.head _))))) (x_sub1 (List.Mem.tail _ (List.Mem.tail _ (List.Mem.tail _ (List.Mem.head _)))) (x_sub1 (List.Mem.tail _ (List.Mem.tail _ (List.Mem.head _))) (x_sub1 (List.Mem.tail _ (List.Mem.head _)) x_sub0)))))))) H
      · replace H := H.2 c132
        refine s_iload (nx := 137) hO rfl rfl rfl ?_
        refine s_bipush (x := (nI 26)) (nx := 139) hO rfl (by decide) rfl ?_
        refine s_icmp_ne (nx := 142) hO rfl rfl (fun c139 => ?_) (fun c139 => ?_)
        · replace H := H.1 c139
          exact xEx.loc (x_sub1 (List.Mem.tail _ (List.Mem.tail _ (List.Mem.tail _ (List.Mem.tail _ (List.Mem.tail _ (List.Mem.tail _ (List.Mem.head _))))))) (x_sub1 (List.Mem.tail _ (List.Mem.tail _ (List.Mem.tail _ (List.Mem.tail _ (List.Mem.tail _ (List.Mem.tail _ (List.Mem.tail _ (List.Mem.head _)))))))) (x_sub1 (List.Mem.tail _ (List.Mem.tail _ (List.Mem.tail _ (List.Mem.tail _ (List.Mem.tail _ (List.Mem.tail _ (List.Mem.tail _ (List.Mem.tail _ (List.Mem.head _))))))))) (x_sub1 (List.Mem.tail _ (List.Mem.tail _ (List.Mem.tail _ (List.Mem.tail _ (List.Mem.tail _ (List.Mem.head _)))))) (x_sub1 (List.Mem.tail _ (List.Mem.tail _ (List.Mem.tail _ (List.Mem.tail _ (List.Mem.head _))))) (x_sub1 (List.Mem.tail _ (List.Mem.tail _ (List.Mem.tail _ (List.Mem.head _)))) (x_sub1 (List.Mem.tail _ (List.Mem.head _)) (x_sub1 (List.Mem.head _) x_sub0)))))))) H
        · replace H := H.2 c139
          refine s_aload_n (nx := 143) hO rfl rfl rfl ?_
          obtain ⟨p24, ep24, kp24, H⟩ := H
          refine s_getf (v := .ref (q_b G + p24)) (nx := 146) hO rfl rfl (hs_o0 kc116) (congrArg some (rv_at ep24)) rfl ?_
          refine s_iload_n (nx := 147) hO rfl rfl rfl ?_
          refine s_iload_n (nx := 148) hO rfl rfl rfl ?_
          refine s_callV [.int v1, .int v2] (ci := 5) (F := TX5) (N := 19) (nx := 151) hO rfl kX0_spread_104 (by rw [hcl]; rfl) (hs_o5 kp24) (w_X5_isGuarded hG kp24 H) rfl rfl (Nat.le_of_ble_eq_true rfl) (Nat.zero_le _) (Nat.zero_le _) rfl (k_Pi (fun r25 H => ?_))
          refine s_if_ne (nx := 154) hO rfl rfl (fun c151 => ?_) (fun c151 => ?_)
          · replace H := H.1 c151
            exact xEx.loc (x_sub1 (List.Mem.tail _ (List.Mem.tail _ (List.Mem.tail _ (List.Mem.tail _ (List.Mem.tail _ (List.Mem.tail _ (List.Mem.head _))))))) (x_sub1 (List.Mem.tail _ (List.Mem.tail _ (List.Mem.tail _ (List.Mem.tail _ (List.Mem.tail _ (List.Mem.tail _ (List.Mem.tail _ (List.Mem.head _)))))))) (x_sub1 (List.Mem.tail _ (List.Mem.tail _ (List.Mem.tail _ (List.Mem.tail _ (List.Mem.tail _ (List.Mem.tail _ (List.Mem.tail _ (List.Mem.tail _ (List.Mem.head _))))))))) (x_sub1 (List.Mem.tail _ (List.Mem.tail _ (List.Mem.tail _ (List.Mem.tail _ (List.Mem.tail _ (List.Mem.head _)))))) (x_sub1 (List.Mem.tail _ (List.Mem.tail _ (List.Mem.tail _ (List.Mem.tail _ (List.Mem.head _))))) (x_sub1 (List.Mem.tail _ (List.Mem.tail _ (List.Mem.tail _ (List.Mem.head _)))) (x_sub1 (List.Mem.tail _ (List.Mem.head _)) (x_sub1 (List.Mem.head _) x_sub0)))))))) H
          · replace H := H.2 c151
            exact xEx.loc (x_sub1 (List.Mem.tail _ (List.Mem.tail _ (List.Mem.tail _ (List.Mem.tail _ (List.Mem.tail _ (List.Mem.tail _ (List.Mem.head _))))))) (x_sub1 (List.Mem.tail _ (List.Mem.tail _ (List.Mem.tail _ (List.Mem.tail _ (List.Mem.tail _ (List.Mem.tail _ (List.Mem.tail _ (List.Mem.head _)))))))) (x_sub1 (List.Mem.tail _ (List.Mem.tail _ (List.Mem.tail _ (List.Mem.tail _ (List.Mem.tail _ (List.Mem.tail _ (List.Mem.tail _ (List.Mem.tail _ (List.Mem.head _))))))))) (x_sub1 (List.Mem.tail _ (List.Mem.tail _ (List.Mem.tail _ (List.Mem.tail _ (List.Mem.tail _ (List.Mem.head _)))))) (x_sub1 (List.Mem.tail _ (List.Mem.tail _ (List.Mem.tail _ (List.Mem.tail _ (List.Mem.head _))))) (x_sub1 (List.Mem.tail _ (List.Mem.tail _ (List.Mem.tail _ (List.Mem.head _)))) (x_sub1 (List.Mem.tail _ (List.Mem.tail _ (List.Mem.head _))) (x_sub1 (List.Mem.tail _ (List.Mem.head _)) x_sub0)))))))) H
    · replace H := H.2 c115
      refine s_aload_n (nx := 119) hO rfl rfl rfl ?_
      refine s_iload_n (nx := 120) hO rfl rfl rfl ?_
      refine s_lload (nx := 122) hO rfl rfl rfl ?_
      refine s_callV [.int v1, .long x10] (ci := 0) (F := TX0) (N := 11) (nx := 125) hO rfl kX0_spread_101 (by rw [hcl]; rfl) (hs_o0 kc116) (w_X0_growExit hG H) rfl rfl (Nat.le_of_ble_eq_true rfl) (Nat.zero_le _) (Nat.zero_le _) rfl (k_Qv (fun s26 H => ?_))
      refine s_goto hO rfl ?_
      exact xEx.loc (x_sub1 (List.Mem.tail _ (List.Mem.tail _ (List.Mem.tail _ (List.Mem.tail _ (List.Mem.tail _ (List.Mem.tail _ (List.Mem.head _))))))) (x_sub1 (List.Mem.tail _ (List.Mem.tail _ (List.Mem.tail _ (List.Mem.tail _ (List.Mem.tail _ (List.Mem.tail _ (List.Mem.tail _ (List.Mem.head _)))))))) (x_sub1 (List.Mem.tail _ (List.Mem.tail _ (List.Mem.tail _ (List.Mem.tail _ (List.Mem.tail _ (List.Mem.tail _ (List.Mem.tail _ (List.Mem.tail _ (List.Mem.head _))))))))) (x_sub1 (List.Mem.tail _ (List.Mem.tail _ (List.Mem.tail _ (List.Mem.tail _ (List.Mem.tail _ (List.Mem.head _)))))) (x_sub1 (List.Mem.tail _ (List.Mem.tail _ (List.Mem.tail _ (List.Mem.tail _ (List.Mem.head _))))) (x_sub1 (List.Mem.tail _ (List.Mem.tail _ (List.Mem.tail _ (List.Mem.head _)))) (x_sub1 (List.Mem.tail _ (List.Mem.head _)) (x_sub1 (List.Mem.head _) x_sub0)))))))) H
  · replace H := H.2 c60
    refine s_aload_n (nx := 64) hO rfl rfl rfl ?_
    refine s_iload (nx := 66) hO rfl rfl rfl ?_
    refine s_sipush (x := (nI 400)) (nx := 69) hO rfl (by decide) rfl ?_
    refine s_imul (nx := 70) hO rfl rfl ?_
    refine s_lload (nx := 72) hO rfl rfl rfl ?_
    refine s_callV [.int (x7 * (nI 400)), .long x10] (ci := 0) (F := TX0) (N := 11) (nx := 75) hO rfl kX0_spread_82 (by rw [hcl]; rfl) (hs_o0 kc116) (w_X0_grow hG H) rfl rfl (Nat.le_of_ble_eq_true rfl) (Nat.zero_le _) (Nat.zero_le _) rfl (k_Qv (fun s27 H => ?_))
    refine s_aload_n (nx := 76) hO rfl rfl rfl ?_
    refine s_iload_n (nx := 77) hO rfl rfl rfl ?_
    refine s_aload_n (nx := 78) hO rfl rfl rfl ?_
    refine s_getf (v := .ref (q_b G + 120)) (nx := 81) hO rfl rfl (hs_o0 kc116) rfl rfl ?_
    refine s_iload (nx := 83) hO rfl rfl rfl ?_
    obtain ⟨b28, H⟩ := H
    refine s_lald (nx := 84) hO rfl (hs_J kc120) b28 rfl ?_
    refine s_callV [.int v1, .long (sJ s27 120 (ix x7))] (ci := 0) (F := TX0) (N := 11) (nx := 87) hO rfl kX0_spread_98 (by rw [hcl]; rfl) (hs_o0 kc116) (w_X0_growAll hG H) rfl rfl (Nat.le_of_ble_eq_true rfl) (Nat.zero_le _) (Nat.zero_le _) rfl (k_Qv (fun s29 H => ?_))
    refine s_aload_n (nx := 88) hO rfl rfl rfl ?_
    refine s_getf (v := .ref (q_b G + 119)) (nx := 91) hO rfl rfl (hs_o0 kc116) rfl rfl ?_
    refine s_iload (nx := 93) hO rfl rfl rfl ?_
    obtain ⟨b30, H⟩ := H
    refine s_lald (nx := 94) hO rfl (hs_J kc119) b30 rfl ?_
    refine goV ((sJ s29 119 (ix x7))) (fun x31 ex31 => ?_)
    replace H := H x31 ex31
    refine e_lstore (nx := 96) (l' := [(10, .long x31), (8, .long x10), (6, .long x10), (5, .int x7), (4, .int x4), (3, .int x1), (0, .ref (q_b G + 116)), (1, .int v1), (2, .int v2)]) ex31 hO rfl (by decide) rfl rfl ?_
    refine s_lload (nx := 98) hO rfl rfl rfl ?_
    refine s_aload_n (nx := 99) hO rfl rfl rfl ?_
    refine s_getf (v := .ref (q_b G + 120)) (nx := 102) hO rfl rfl (hs_o0 kc116) rfl rfl ?_
    refine s_iload (nx := 104) hO rfl rfl rfl ?_
    obtain ⟨b32, H⟩ := H
    refine s_lald (nx := 105) hO rfl (hs_J kc120) b32 rfl ?_
    refine s_lor (nx := 106) hO rfl rfl ?_
    refine goV ((x10 ||| (sJ s29 120 (ix x7)))) (fun x33 ex33 => ?_)
    replace H := H x33 ex33
    refine e_lstore (nx := 108) (l' := [(8, .long x33), (10, .long x31), (6, .long x10), (5, .int x7), (4, .int x4), (3, .int x1), (0, .ref (q_b G + 116)), (1, .int v1), (2, .int v2)]) ex33 hO rfl (by decide) rfl rfl ?_
    refine s_goto hO rfl ?_
    exact xEx.loc (x_sub1 (List.Mem.tail _ (List.Mem.tail _ (List.Mem.tail _ (List.Mem.tail _ (List.Mem.tail _ (List.Mem.tail _ (List.Mem.head _))))))) (x_sub1 (List.Mem.tail _ (List.Mem.tail _ (List.Mem.tail _ (List.Mem.tail _ (List.Mem.tail _ (List.Mem.tail _ (List.Mem.tail _ (List.Mem.head _)))))))) (x_sub1 (List.Mem.tail _ (List.Mem.tail _ (List.Mem.tail _ (List.Mem.tail _ (List.Mem.tail _ (List.Mem.tail _ (List.Mem.tail _ (List.Mem.tail _ (List.Mem.head _))))))))) (x_sub1 (List.Mem.tail _ (List.Mem.tail _ (List.Mem.tail _ (List.Mem.tail _ (List.Mem.tail _ (List.Mem.head _)))))) (x_sub1 (List.Mem.tail _ (List.Mem.tail _ (List.Mem.tail _ (List.Mem.tail _ (List.Mem.head _))))) (x_sub1 (List.Mem.tail _ (List.Mem.tail _ (List.Mem.tail _ (List.Mem.head _)))) (x_sub1 (List.Mem.head _) (x_sub1 (List.Mem.tail _ (List.Mem.head _)) x_sub0)))))))) H
def W_X0_settle (s : yS) (o1 : Nat) (o2 : Nat) (Q : yS → Prop) : Prop :=
 (((sI s o1 13) = 0 → ∀ s1 : yS, s1 = wR s 116 0 (o1 + 1) → 
  ∀ s2 : yS, s2 = wR s1 116 1 (o2 + 1) → 
  W_X0_begin s2 
  (fun s3 => ∀ P24 : Int32 → yS → Prop, (∀ (x4 : Int32) (s5 : yS), (((((2000000)) ≤ x4 → ∀ s6 : yS, s6 = wI s5 o1 13 1 → 
    Q s6)
   ∧ (¬ ((2000000)) ≤ x4 → (((sI s5 116 5) ≤ 0 → ∀ s7 : yS, s7 = wI s5 o1 13 1 → 
     Q s7)
    ∧ (¬ (sI s5 116 5) ≤ 0 → vp_in (sI s5 116 4) 4800 ∧ 
     ∀ x9 : Int32, x9 = (sI s5 117 (ix (sI s5 116 4))) → 
     ∀ s10 : yS, s10 = wI s5 116 4 (((sI s5 116 4) + 1) - ((sI s5 116 4) + 1) / (nI 4800) * (nI 4800)) → 
     ∀ s11 : yS, s11 = wI s10 116 5 ((sI s10 116 5) - 1) → 
     vp_in x9 4800 ∧ ∀ s13 : yS, s13 = wI s11 118 (ix x9) (vp_nar .boolean 0) → 
     W_X0_spread s13 (x9 / (nI 400)) (x9 - x9 / (nI 400) * (nI 400)) 
     (fun s14 => ∀ x15 : Int32, x15 = (x4 + 1) → 
     P24 x15 s14)))))) → P24 x4 s5) → 
  P24 0 s3))
 ∧ (¬ (sI s o1 13) = 0 → Q s))
set_option maxRecDepth 100000 in
set_option maxHeartbeats 40000000 in
theorem w_X0_settle {G : xG} (hG : yG G) {z : Nat} {s : yS} {o1 : Nat} {o2 : Nat} {Q : yS → Prop} (ho1 : kd o1 = some (9, 0)) (ho2 : kd o2 = some (7, 0)) (H : W_X0_settle s o1 o2 Q) : xC G mX0_settle [.ref (q_b G + 116), .ref (q_b G + o1), .ref (q_b G + o2)] (hS G s) z 0 0 (yQv G z Q) := by
  have hW := hG.1
  have hcl := hG.2.1
  have hty := hG.2.2.1
  have hO : xO G mX0_settle tbX0_settle ptX0_settle := ⟨tkX0_settle, pkX0_settle hcl⟩
  unfold W_X0_settle at H
  refine xC.of hW (by decide) rfl (Nat.le_of_ble_eq_true rfl) ?_
  refine s_aload_n (nx := 1) hO rfl rfl rfl ?_
  refine s_getf (v := .int (sI s o1 13)) (nx := 4) hO rfl rfl (hs_o5 ho1) rfl rfl ?_
  refine s_if_eq (nx := 7) hO rfl rfl (fun c4 => ?_) (fun c4 => ?_)
  · replace H := H.1 c4
    refine s_aload_n (nx := 9) hO rfl rfl rfl ?_
    refine s_aload_n (nx := 10) hO rfl rfl rfl ?_
    refine goV (wR s 116 0 (o1 + 1)) (fun s1 es1 => ?_)
    replace H := H s1 es1
    refine s_putf (nx := 13) hO rfl rfl (hs_o0 kc116) (Nat.le_of_ble_eq_true rfl) (by rw [hty]; rfl) (by rw [hty]; rfl) pX0_0 rfl ?_
    refine xEx.at (up_oR0 kc116 es1) ?_
    refine s_aload_n (nx := 14) hO rfl rfl rfl ?_
    refine s_aload_n (nx := 15) hO rfl rfl rfl ?_
    refine goV (wR s1 116 1 (o2 + 1)) (fun s2 es2 => ?_)
    replace H := H s2 es2
    refine s_putf (nx := 18) hO rfl rfl (hs_o0 kc116) (Nat.le_of_ble_eq_true rfl) (by rw [hty]; rfl) (by rw [hty]; rfl) pX0_1 rfl ?_
    refine xEx.at (up_oR0 kc116 es2) ?_
    refine s_aload_n (nx := 19) hO rfl rfl rfl ?_
    refine s_callV [] (ci := 0) (F := TX0) (N := 11) (nx := 22) hO rfl kX0_settle_46 (by rw [hcl]; rfl) (hs_o0 kc116) (w_X0_begin hG H) rfl rfl (Nat.le_of_ble_eq_true rfl) (Nat.zero_le _) (Nat.zero_le _) rfl (k_Qv (fun s3 H => ?_))
    refine s_iconst (x := 0) (nx := 23) hO rfl (by decide) rfl ?_
    refine goK (H (fun (x4 : Int32) (s5 : yS) => xEx G mX0_settle 24 [(0, .ref (q_b G + 116)), (1, .ref (q_b G + o1)), (3, .int x4)] [] (hS G s5) z 0 0 (yQv G z Q)) (fun x4 s5 H => ?_)) (fun H => ?_)
    · show xEx G mX0_settle 24 [(0, .ref (q_b G + 116)), (1, .ref (q_b G + o1)), (3, .int x4)] [] (hS G s5) z 0 0 (yQv G z Q)
      refine s_iload_n (nx := 25) hO rfl rfl rfl ?_
      refine s_ldc (x := ((2000000))) (nx := 27) hO rfl rfl rfl ?_
      refine s_icmp_ge (nx := 30) hO rfl rfl (fun c27 => ?_) (fun c27 => ?_)
      · replace H := H.1 c27
        refine s_aload_n (nx := 105) hO rfl rfl rfl ?_
        refine s_iconst (x := 1) (nx := 106) hO rfl (by decide) rfl ?_
        refine goV (wI s5 o1 13 1) (fun s6 es6 => ?_)
        replace H := H s6 es6
        refine s_putf (nx := 109) hO rfl rfl (hs_o5 ho1) (Nat.le_of_ble_eq_true rfl) (by rw [hty]; rfl) (by rw [hty]; rfl) pX5_13 rfl ?_
        refine xEx.at (up_oI5 ho1 es6) ?_
        exact s_vret hO rfl rfl ⟨rfl, _, rfl, rfl, H⟩
      · replace H := H.2 c27
        refine s_aload_n (nx := 31) hO rfl rfl rfl ?_
        refine s_getf (v := .int (sI s5 116 5)) (nx := 34) hO rfl rfl (hs_o0 kc116) rfl rfl ?_
        refine s_if_le (nx := 37) hO rfl rfl (fun c34 => ?_) (fun c34 => ?_)
        · replace H := H.1 c34
          refine s_aload_n (nx := 105) hO rfl rfl rfl ?_
          refine s_iconst (x := 1) (nx := 106) hO rfl (by decide) rfl ?_
          refine goV (wI s5 o1 13 1) (fun s7 es7 => ?_)
          replace H := H s7 es7
          refine s_putf (nx := 109) hO rfl rfl (hs_o5 ho1) (Nat.le_of_ble_eq_true rfl) (by rw [hty]; rfl) (by rw [hty]; rfl) pX5_13 rfl ?_
          refine xEx.at (up_oI5 ho1 es7) ?_
          exact s_vret hO rfl rfl ⟨rfl, _, rfl, rfl, H⟩
        · replace H := H.2 c34
          refine s_aload_n (nx := 38) hO rfl rfl rfl ?_
          refine s_getf (v := .ref (q_b G + 117)) (nx := 41) hO rfl rfl (hs_o0 kc116) rfl rfl ?_
          refine s_aload_n (nx := 42) hO rfl rfl rfl ?_
          refine s_getf (v := .int (sI s5 116 4)) (nx := 45) hO rfl rfl (hs_o0 kc116) rfl rfl ?_
          obtain ⟨b8, H⟩ := H
          refine s_iald (nx := 46) hO rfl (hs_I kc117) b8 rfl ?_
          refine goV ((sI s5 117 (ix (sI s5 116 4)))) (fun x9 ex9 => ?_)
          replace H := H x9 ex9
          refine e_istore (nx := 48) (l' := [(4, .int x9), (0, .ref (q_b G + 116)), (1, .ref (q_b G + o1)), (3, .int x4)]) ex9 hO rfl (by decide) rfl rfl ?_
          refine s_aload_n (nx := 49) hO rfl rfl rfl ?_
          refine s_aload_n (nx := 50) hO rfl rfl rfl ?_
          refine s_getf (v := .int (sI s5 116 4)) (nx := 53) hO rfl rfl (hs_o0 kc116) rfl rfl ?_
          refine s_iconst (x := 1) (nx := 54) hO rfl (by decide) rfl ?_
          refine s_iadd (nx := 55) hO rfl rfl ?_
          refine s_aload_n (nx := 56) hO rfl rfl rfl ?_
          refine s_getf (v := .ref (q_b G + 117)) (nx := 59) hO rfl rfl (hs_o0 kc116) rfl rfl ?_
          refine s_alen (nx := 60) hO rfl (hs_I kc117) (by simp) rfl ?_
          refine s_irem (nx := 61) hO rfl (by decide) rfl ?_
          refine goV (wI s5 116 4 (((sI s5 116 4) + 1) - ((sI s5 116 4) + 1) / (nI 4800) * (nI 4800))) (fun s10 es10 => ?_)
          replace H := H s10 es10
          refine s_putf (nx := 64) hO rfl rfl (hs_o0 kc116) (Nat.le_of_ble_eq_true rfl) (by rw [hty]; rfl) (by rw [hty]; rfl) pX0_4 rfl ?_
          refine xEx.at (up_oI0 kc116 es10) ?_
          refine s_aload_n (nx := 65) hO rfl rfl rfl ?_
          refine s_dup (nx := 66) hO rfl rfl rfl ?_
          refine s_getf (v := .int (sI s10 116 5)) (nx := 69) hO rfl rfl (hs_o0 kc116) rfl rfl ?_
          refine s_iconst (x := 1) (nx := 70) hO rfl (by decide) rfl ?_
          refine s_isub (nx := 71) hO rfl rfl ?_
          refine goV (wI s10 116 5 ((sI s10 116 5) - 1)) (fun s11 es11 => ?_)
          replace H := H s11 es11
          refine s_putf (nx := 74) hO rfl rfl (hs_o0 kc116) (Nat.le_of_ble_eq_true rfl) (by rw [hty]; rfl) (by rw [hty]; rfl) pX0_5 rfl ?_
          refine xEx.at (up_oI0 kc116 es11) ?_
          refine s_aload_n (nx := 75) hO rfl rfl rfl ?_
          refine s_getf (v := .ref (q_b G + 118)) (nx := 78) hO rfl rfl (hs_o0 kc116) rfl rfl ?_
          refine s_iload (nx := 80) hO rfl rfl rfl ?_
          refine s_iconst (x := 0) (nx := 81) hO rfl (by decide) rfl ?_
          obtain ⟨b12, H⟩ := H
          refine goV (wI s11 118 (ix x9) (vp_nar .boolean 0)) (fun s13 es13 => ?_)
          replace H := H s13 es13
          refine s_zast (nx := 82) hO rfl (hs_Z kc118) b12 rfl ?_
          refine xEx.at (up_Z kc118 es13) ?_
          refine s_aload_n (nx := 83) hO rfl rfl rfl ?_
          refine s_iload (nx := 85) hO rfl rfl rfl ?_
          refine s_sipush (x := (nI 400)) (nx := 88) hO rfl (by decide) rfl ?_
          refine s_idiv (nx := 89) hO rfl (by decide) rfl ?_
          refine s_iload (nx := 91) hO rfl rfl rfl ?_
          refine s_sipush (x := (nI 400)) (nx := 94) hO rfl (by decide) rfl ?_
          refine s_irem (nx := 95) hO rfl (by decide) rfl ?_
          refine s_callV [.int (x9 / (nI 400)), .int (x9 - x9 / (nI 400) * (nI 400))] (ci := 0) (F := TX0) (N := 11) (nx := 98) hO rfl kX0_settle_57 (by rw [hcl]; rfl) (hs_o0 kc116) (w_X0_spread hG H) rfl rfl (Nat.le_of_ble_eq_true rfl) (Nat.zero_le _) (Nat.zero_le _) rfl (k_Qv (fun s14 H => ?_))
          refine goV ((x4 + 1)) (fun x15 ex15 => ?_)
          replace H := H x15 ex15
          refine e_iinc (nx := 101) (l' := [(3, .int x15), (4, .int x9), (0, .ref (q_b G + 116)), (1, .ref (q_b G + o1))]) ex15 hO rfl (by decide) rfl rfl rfl rfl ?_
          refine s_goto hO rfl ?_
          exact xEx.loc (x_sub1 (List.Mem.tail _ (List.Mem.tail _ (List.Mem.head _))) (x_sub1 (List.Mem.tail _ (List.Mem.tail _ (List.Mem.tail _ (List.Mem.head _)))) (x_sub1 (List.Mem.head _) x_sub0))) H
    refine s_istore_n (nx := 24) (l' := [(3, .int 0), (0, .ref (q_b G + 116)), (1, .ref (q_b G + o1)), (2, .ref (q_b G + o2))]) hO rfl (by decide) rfl rfl ?_
    exact xEx.loc (x_sub1 (List.Mem.tail _ (List.Mem.head _)) (x_sub1 (List.Mem.tail _ (List.Mem.tail _ (List.Mem.head _))) (x_sub1 (List.Mem.head _) x_sub0))) H
  · replace H := H.2 c4
    exact s_vret hO rfl rfl ⟨rfl, _, rfl, rfl, H⟩
def W_X0_needs (s : yS) (o1 : Nat) (o2 : Nat) (v3 : Int32) (Q : Int32 → Prop) : Prop :=
 vp_in v3 4800 ∧ 
 (((sI s (o1 + 7) (ix v3)) = (nI 26) → vp_in v3 4800 ∧ 
  ∀ x3 : Int32, x3 = (sI s (o1 + 8) (ix v3)) → 
  (((((sI s o2 6) >>> (x3 &&& 31)) &&& 1) = 1 → Q 1)
  ∧ (¬ (((sI s o2 6) >>> (x3 &&& 31)) &&& 1) = 1 → vp_in v3 4800 ∧ 
   vp_in x3 16 ∧ 
   (((lg_cmp ((sJ s (o1 + 12) (ix v3)) &&& ((sJ s (o2 + 16) (ix x3)) ^^^ ((-1)))) 0) = 0 → Q 0)
   ∧ (¬ (lg_cmp ((sJ s (o1 + 12) (ix v3)) &&& ((sJ s (o2 + 16) (ix x3)) ^^^ ((-1)))) 0) = 0 → Q 1)))))
 ∧ (¬ (sI s (o1 + 7) (ix v3)) = (nI 26) → Q 0))
set_option maxRecDepth 100000 in
set_option maxHeartbeats 40000000 in
theorem w_X0_needs {G : xG} (hG : yG G) {z : Nat} {s : yS} {o1 : Nat} {o2 : Nat} {v3 : Int32} {Q : Int32 → Prop} (ho1 : kd o1 = some (9, 0)) (ho2 : kd o2 = some (7, 0)) (H : W_X0_needs s o1 o2 v3 Q) : xC G mX0_needs [.ref (q_b G + 116), .ref (q_b G + o1), .ref (q_b G + o2), .int v3] (hS G s) z 0 0 (yPi G z s Q) := by
  have hW := hG.1
  have hcl := hG.2.1
  have hty := hG.2.2.1
  have hO : xO G mX0_needs tbX0_needs ptX0_needs := ⟨tkX0_needs, pkX0_needs hcl⟩
  unfold W_X0_needs at H
  refine xC.of hW (by decide) rfl (Nat.le_of_ble_eq_true rfl) ?_
  refine s_aload_n (nx := 1) hO rfl rfl rfl ?_
  refine s_getf (v := .ref (q_b G + (o1 + 7))) (nx := 4) hO rfl rfl (hs_o5 ho1) rfl rfl ?_
  refine s_iload_n (nx := 5) hO rfl rfl rfl ?_
  obtain ⟨b1, H⟩ := H
  refine s_iald (nx := 6) hO rfl (hs_I (kf5_7 ho1)) b1 rfl ?_
  refine s_bipush (x := (nI 26)) (nx := 8) hO rfl (by decide) rfl ?_
  refine s_icmp_eq (nx := 11) hO rfl rfl (fun c8 => ?_) (fun c8 => ?_)
  · replace H := H.1 c8
    refine s_aload_n (nx := 14) hO rfl rfl rfl ?_
    refine s_getf (v := .ref (q_b G + (o1 + 8))) (nx := 17) hO rfl rfl (hs_o5 ho1) rfl rfl ?_
    refine s_iload_n (nx := 18) hO rfl rfl rfl ?_
    obtain ⟨b2, H⟩ := H
    refine s_iald (nx := 19) hO rfl (hs_I (kf5_8 ho1)) b2 rfl ?_
    refine goV ((sI s (o1 + 8) (ix v3))) (fun x3 ex3 => ?_)
    replace H := H x3 ex3
    refine e_istore (nx := 21) (l' := [(4, .int x3), (0, .ref (q_b G + 116)), (1, .ref (q_b G + o1)), (2, .ref (q_b G + o2)), (3, .int v3)]) ex3 hO rfl (by decide) rfl rfl ?_
    refine s_aload_n (nx := 22) hO rfl rfl rfl ?_
    refine s_getf (v := .int (sI s o2 6)) (nx := 25) hO rfl rfl (hs_o3 ho2) rfl rfl ?_
    refine s_iload (nx := 27) hO rfl rfl rfl ?_
    refine s_ishr (nx := 28) hO rfl rfl ?_
    refine s_iconst (x := 1) (nx := 29) hO rfl (by decide) rfl ?_
    refine s_iand (nx := 30) hO rfl rfl ?_
    refine s_iconst (x := 1) (nx := 31) hO rfl (by decide) rfl ?_
    refine s_icmp_eq (nx := 34) hO rfl rfl (fun c31 => ?_) (fun c31 => ?_)
    · replace H := H.1 c31
      refine s_iconst (x := 1) (nx := 58) hO rfl (by decide) rfl ?_
      refine s_goto hO rfl ?_
      exact s_iret hO rfl rfl rfl ⟨rfl, _, rfl, rfl, H⟩
    · replace H := H.2 c31
      refine s_aload_n (nx := 35) hO rfl rfl rfl ?_
      refine s_getf (v := .ref (q_b G + (o1 + 12))) (nx := 38) hO rfl rfl (hs_o5 ho1) rfl rfl ?_
      refine s_iload_n (nx := 39) hO rfl rfl rfl ?_
      obtain ⟨b4, H⟩ := H
      refine s_lald (nx := 40) hO rfl (hs_J (kf5_12 ho1)) b4 rfl ?_
      refine s_aload_n (nx := 41) hO rfl rfl rfl ?_
      refine s_getf (v := .ref (q_b G + (o2 + 16))) (nx := 44) hO rfl rfl (hs_o3 ho2) rfl rfl ?_
      refine s_iload (nx := 46) hO rfl rfl rfl ?_
      obtain ⟨b5, H⟩ := H
      refine s_lald (nx := 47) hO rfl (hs_J (kf3_19 ho2)) b5 rfl ?_
      refine s_ldc2_w (x := ((-1))) (nx := 50) hO rfl rfl rfl ?_
      refine s_lxor (nx := 51) hO rfl rfl ?_
      refine s_land (nx := 52) hO rfl rfl ?_
      refine s_lconst (x := 0) (nx := 53) hO rfl (by decide) rfl ?_
      refine s_lcmp (nx := 54) hO rfl rfl ?_
      refine s_if_eq (nx := 57) hO rfl rfl (fun c54 => ?_) (fun c54 => ?_)
      · replace H := H.1 c54
        refine s_iconst (x := 0) (nx := 62) hO rfl (by decide) rfl ?_
        exact s_iret hO rfl rfl rfl ⟨rfl, _, rfl, rfl, H⟩
      · replace H := H.2 c54
        refine s_iconst (x := 1) (nx := 58) hO rfl (by decide) rfl ?_
        refine s_goto hO rfl ?_
        exact s_iret hO rfl rfl rfl ⟨rfl, _, rfl, rfl, H⟩
  · replace H := H.2 c8
    refine s_iconst (x := 0) (nx := 12) hO rfl (by decide) rfl ?_
    exact s_iret hO rfl rfl rfl ⟨rfl, _, rfl, rfl, H⟩
def W_X0_passes (s : yS) (o1 : Nat) (o2 : Nat) (v3 : Int32) (v4 : Int32) (Q : Int32 → Prop) : Prop :=
 ∀ x1 : Int32, x1 = ((v3 * (nI 400)) + v4) → 
 vp_in x1 4800 ∧ 
 ((¬ (sI s (o1 + 7) (ix x1)) = (nI 29) → W_X0_needs s o1 o2 x1 
  (fun r3 => ((r3 = 0 → Q 1)
  ∧ (¬ r3 = 0 → W_X5_isGuarded s o1 v3 v4 
   (fun r4 => ((r4 = 0 → Q 0)
   ∧ (¬ r4 = 0 → Q 1)))))))
 ∧ ((sI s (o1 + 7) (ix x1)) = (nI 29) → vp_in v3 12 ∧ 
  (((sI s (o1 + 5) (ix v3)) ≤ (v4 + 1) → Q 0)
  ∧ (¬ (sI s (o1 + 5) (ix v3)) ≤ (v4 + 1) → W_X5_isGuarded s o1 v3 (v4 + 1) 
   (fun r6 => ((r6 = 0 → Q 0)
   ∧ (¬ r6 = 0 → Q 1)))))))
set_option maxRecDepth 100000 in
set_option maxHeartbeats 40000000 in
theorem w_X0_passes {G : xG} (hG : yG G) {z : Nat} {s : yS} {o1 : Nat} {o2 : Nat} {v3 : Int32} {v4 : Int32} {Q : Int32 → Prop} (ho1 : kd o1 = some (9, 0)) (ho2 : kd o2 = some (7, 0)) (H : W_X0_passes s o1 o2 v3 v4 Q) : xC G mX0_passes [.ref (q_b G + 116), .ref (q_b G + o1), .ref (q_b G + o2), .int v3, .int v4] (hS G s) z 0 0 (yPi G z s Q) := by
  have hW := hG.1
  have hcl := hG.2.1
  have hty := hG.2.2.1
  have hO : xO G mX0_passes tbX0_passes ptX0_passes := ⟨tkX0_passes, pkX0_passes hcl⟩
  unfold W_X0_passes at H
  refine xC.of hW (by decide) rfl (Nat.le_of_ble_eq_true rfl) ?_
  refine s_iload_n (nx := 1) hO rfl rfl rfl ?_
  refine s_sipush (x := (nI 400)) (nx := 4) hO rfl (by decide) rfl ?_
  refine s_imul (nx := 5) hO rfl rfl ?_
  refine s_iload (nx := 7) hO rfl rfl rfl ?_
  refine s_iadd (nx := 8) hO rfl rfl ?_
  refine goV (((v3 * (nI 400)) + v4)) (fun x1 ex1 => ?_)
  replace H := H x1 ex1
  refine e_istore (nx := 10) (l' := [(5, .int x1), (0, .ref (q_b G + 116)), (1, .ref (q_b G + o1)), (2, .ref (q_b G + o2)), (3, .int v3), (4, .int v4)]) ex1 hO rfl (by decide) rfl rfl ?_
  refine s_aload_n (nx := 11) hO rfl rfl rfl ?_
  refine s_getf (v := .ref (q_b G + (o1 + 7))) (nx := 14) hO rfl rfl (hs_o5 ho1) rfl rfl ?_
  refine s_iload (nx := 16) hO rfl rfl rfl ?_
  obtain ⟨b2, H⟩ := H
  refine s_iald (nx := 17) hO rfl (hs_I (kf5_7 ho1)) b2 rfl ?_
  refine s_bipush (x := (nI 29)) (nx := 19) hO rfl (by decide) rfl ?_
  refine s_icmp_ne (nx := 22) hO rfl rfl (fun c19 => ?_) (fun c19 => ?_)
  · replace H := H.1 c19
    refine s_aload_n (nx := 54) hO rfl rfl rfl ?_
    refine s_aload_n (nx := 55) hO rfl rfl rfl ?_
    refine s_aload_n (nx := 56) hO rfl rfl rfl ?_
    refine s_iload (nx := 58) hO rfl rfl rfl ?_
    refine s_callV [.ref (q_b G + o1), .ref (q_b G + o2), .int x1] (ci := 0) (F := TX0) (N := 11) (nx := 61) hO rfl kX0_passes_149 (by rw [hcl]; rfl) (hs_o0 kc116) (w_X0_needs hG ho1 ho2 H) rfl rfl (Nat.le_of_ble_eq_true rfl) (Nat.zero_le _) (Nat.zero_le _) rfl (k_Pi (fun r3 H => ?_))
    refine s_if_eq (nx := 64) hO rfl rfl (fun c61 => ?_) (fun c61 => ?_)
    · replace H := H.1 c61
      refine s_iconst (x := 1) (nx := 75) hO rfl (by decide) rfl ?_
      refine s_goto hO rfl ?_
      exact s_iret hO rfl rfl rfl ⟨rfl, _, rfl, rfl, H⟩
    · replace H := H.2 c61
      refine s_aload_n (nx := 65) hO rfl rfl rfl ?_
      refine s_iload_n (nx := 66) hO rfl rfl rfl ?_
      refine s_iload (nx := 68) hO rfl rfl rfl ?_
      refine s_callV [.int v3, .int v4] (ci := 5) (F := TX5) (N := 19) (nx := 71) hO rfl kX0_passes_104 (by rw [hcl]; rfl) (hs_o5 ho1) (w_X5_isGuarded hG ho1 H) rfl rfl (Nat.le_of_ble_eq_true rfl) (Nat.zero_le _) (Nat.zero_le _) rfl (k_Pi (fun r4 H => ?_))
      refine s_if_eq (nx := 74) hO rfl rfl (fun c71 => ?_) (fun c71 => ?_)
      · replace H := H.1 c71
        refine s_iconst (x := 0) (nx := 79) hO rfl (by decide) rfl ?_
        exact s_iret hO rfl rfl rfl ⟨rfl, _, rfl, rfl, H⟩
      · replace H := H.2 c71
        refine s_iconst (x := 1) (nx := 75) hO rfl (by decide) rfl ?_
        refine s_goto hO rfl ?_
        exact s_iret hO rfl rfl rfl ⟨rfl, _, rfl, rfl, H⟩
  · replace H := H.2 c19
    refine s_iload (nx := 24) hO rfl rfl rfl ?_
    refine s_iconst (x := 1) (nx := 25) hO rfl (by decide) rfl ?_
    refine s_iadd (nx := 26) hO rfl rfl ?_
    refine s_aload_n (nx := 27) hO rfl rfl rfl ?_
    refine s_getf (v := .ref (q_b G + (o1 + 5))) (nx := 30) hO rfl rfl (hs_o5 ho1) rfl rfl ?_
    refine s_iload_n (nx := 31) hO rfl rfl rfl ?_
    obtain ⟨b5, H⟩ := H
    refine s_iald (nx := 32) hO rfl (hs_I (kf5_5 ho1)) b5 rfl ?_
    refine s_icmp_ge (nx := 35) hO rfl rfl (fun c32 => ?_) (fun c32 => ?_)
    · replace H := H.1 c32
      refine s_iconst (x := 0) (nx := 52) hO rfl (by decide) rfl ?_
      exact s_iret hO rfl rfl rfl ⟨rfl, _, rfl, rfl, H⟩
    · replace H := H.2 c32
      refine s_aload_n (nx := 36) hO rfl rfl rfl ?_
      refine s_iload_n (nx := 37) hO rfl rfl rfl ?_
      refine s_iload (nx := 39) hO rfl rfl rfl ?_
      refine s_iconst (x := 1) (nx := 40) hO rfl (by decide) rfl ?_
      refine s_iadd (nx := 41) hO rfl rfl ?_
      refine s_callV [.int v3, .int (v4 + 1)] (ci := 5) (F := TX5) (N := 19) (nx := 44) hO rfl kX0_passes_104 (by rw [hcl]; rfl) (hs_o5 ho1) (w_X5_isGuarded hG ho1 H) rfl rfl (Nat.le_of_ble_eq_true rfl) (Nat.zero_le _) (Nat.zero_le _) rfl (k_Pi (fun r6 H => ?_))
      refine s_if_eq (nx := 47) hO rfl rfl (fun c44 => ?_) (fun c44 => ?_)
      · replace H := H.1 c44
        refine s_iconst (x := 0) (nx := 52) hO rfl (by decide) rfl ?_
        exact s_iret hO rfl rfl rfl ⟨rfl, _, rfl, rfl, H⟩
      · replace H := H.2 c44
        refine s_iconst (x := 1) (nx := 48) hO rfl (by decide) rfl ?_
        refine s_goto hO rfl ?_
        exact s_iret hO rfl rfl rfl ⟨rfl, _, rfl, rfl, H⟩
def W_X5_empty (s : yS) (g : Nat) (Q : yS → Prop) : Prop :=
 ∀ s1 : yS, s1 = wI s g 0 0 → 
 ∀ s2 : yS, s2 = wI s1 g 13 0 → 
 Q s2
set_option maxRecDepth 100000 in
set_option maxHeartbeats 40000000 in
theorem w_X5_empty {G : xG} (hG : yG G) {z : Nat} {s : yS} {g : Nat} {Q : yS → Prop} (hg : kd g = some (9, 0)) (H : W_X5_empty s g Q) : xC G mX5_empty [.ref (q_b G + g)] (hS G s) z 0 0 (yQv G z Q) := by
  have hW := hG.1
  have hcl := hG.2.1
  have hty := hG.2.2.1
  have hO : xO G mX5_empty tbX5_empty ptX5_empty := ⟨tkX5_empty, pkX5_empty hcl⟩
  unfold W_X5_empty at H
  refine xC.of hW (by decide) rfl (Nat.le_of_ble_eq_true rfl) ?_
  refine s_aload_n (nx := 1) hO rfl rfl rfl ?_
  refine s_iconst (x := 0) (nx := 2) hO rfl (by decide) rfl ?_
  refine goV (wI s g 0 0) (fun s1 es1 => ?_)
  replace H := H s1 es1
  refine s_putf (nx := 5) hO rfl rfl (hs_o5 hg) (Nat.le_of_ble_eq_true rfl) (by rw [hty]; rfl) (by rw [hty]; rfl) pX5_0 rfl ?_
  refine xEx.at (up_oI5 hg es1) ?_
  refine s_aload_n (nx := 6) hO rfl rfl rfl ?_
  refine s_iconst (x := 0) (nx := 7) hO rfl (by decide) rfl ?_
  refine goV (wI s1 g 13 0) (fun s2 es2 => ?_)
  replace H := H s2 es2
  refine s_putf (nx := 10) hO rfl rfl (hs_o5 hg) (Nat.le_of_ble_eq_true rfl) (by rw [hty]; rfl) (by rw [hty]; rfl) pX5_13 rfl ?_
  refine xEx.at (up_oI5 hg es2) ?_
  exact s_vret hO rfl rfl ⟨rfl, _, rfl, rfl, H⟩
def W_X0_move (s : yS) (o1 : Nat) (o2 : Nat) (v3 : Int32) (Q : Int32 → yS → Prop) : Prop :=
 ∀ P6 : Int32 → Int32 → yS → Prop, (∀ (x1 : Int32) (x2 : Int32) (s3 : yS), (vp_in v3 12 ∧ 
  (((sI s3 (o1 + 5) (ix v3)) ≤ x2 → vp_in v3 12 ∧ 
   vp_in v3 12 ∧ 
   vp_in (sI s3 (o1 + 5) (ix v3)) 401 ∧ ∀ s8 : yS, s8 = wI s3 122 (ix (sI s3 (o1 + 5) (ix v3))) ((sI s3 (o1 + 5) (ix v3)) + x1) → 
   Q x1 s8)
  ∧ (¬ (sI s3 (o1 + 5) (ix v3)) ≤ x2 → vp_in x2 401 ∧ ∀ s10 : yS, s10 = wI s3 122 (ix x2) (x2 + x1) → 
   W_X0_needs s10 o1 o2 ((v3 * (nI 400)) + x2) 
   (fun r11 => ∀ P53 : Int32 → Prop, (∀ (y12 : Int32), (∀ x13 : Int32, x13 = (x1 + y12) → 
    ∀ x14 : Int32, x14 = (x2 + 1) → 
    P6 x13 x14 s10) → P53 y12) → 
   ((r11 = 0 → P53 0)
   ∧ (¬ r11 = 0 → P53 1)))))) → P6 x1 x2 s3) → 
 P6 0 0 s
set_option maxRecDepth 100000 in
set_option maxHeartbeats 40000000 in
theorem w_X0_move {G : xG} (hG : yG G) {z : Nat} {s : yS} {o1 : Nat} {o2 : Nat} {v3 : Int32} {Q : Int32 → yS → Prop} (ho1 : kd o1 = some (9, 0)) (ho2 : kd o2 = some (7, 0)) (H : W_X0_move s o1 o2 v3 Q) : xC G mX0_move [.ref (q_b G + 116), .ref (q_b G + o1), .ref (q_b G + o2), .int v3] (hS G s) z 0 0 (yQi G z Q) := by
  have hW := hG.1
  have hcl := hG.2.1
  have hty := hG.2.2.1
  have hO : xO G mX0_move tbX0_move ptX0_move := ⟨tkX0_move, pkX0_move hcl⟩
  unfold W_X0_move at H
  refine xC.of hW (by decide) rfl (Nat.le_of_ble_eq_true rfl) ?_
  refine s_iconst (x := 0) (nx := 1) hO rfl (by decide) rfl ?_
  refine s_istore (nx := 3) (l' := [(4, .int 0), (0, .ref (q_b G + 116)), (1, .ref (q_b G + o1)), (2, .ref (q_b G + o2)), (3, .int v3)]) hO rfl (by decide) rfl rfl ?_
  refine s_iconst (x := 0) (nx := 4) hO rfl (by decide) rfl ?_
  refine goK (H (fun (x1 : Int32) (x2 : Int32) (s3 : yS) => xEx G mX0_move 6 [(0, .ref (q_b G + 116)), (1, .ref (q_b G + o1)), (2, .ref (q_b G + o2)), (3, .int v3), (4, .int x1), (5, .int x2)] [] (hS G s3) z 0 0 (yQi G z Q)) (fun x1 x2 s3 H => ?_)) (fun H => ?_)
  · show xEx G mX0_move 6 [(0, .ref (q_b G + 116)), (1, .ref (q_b G + o1)), (2, .ref (q_b G + o2)), (3, .int v3), (4, .int x1), (5, .int x2)] [] (hS G s3) z 0 0 (yQi G z Q)
    refine s_iload (nx := 8) hO rfl rfl rfl ?_
    refine s_aload_n (nx := 9) hO rfl rfl rfl ?_
    refine s_getf (v := .ref (q_b G + (o1 + 5))) (nx := 12) hO rfl rfl (hs_o5 ho1) rfl rfl ?_
    refine s_iload_n (nx := 13) hO rfl rfl rfl ?_
    obtain ⟨b4, H⟩ := H
    refine s_iald (nx := 14) hO rfl (hs_I (kf5_5 ho1)) b4 rfl ?_
    refine s_icmp_ge (nx := 17) hO rfl rfl (fun c14 => ?_) (fun c14 => ?_)
    · replace H := H.1 c14
      refine s_aload_n (nx := 63) hO rfl rfl rfl ?_
      refine s_getf (v := .ref (q_b G + 122)) (nx := 66) hO rfl rfl (hs_o0 kc116) rfl rfl ?_
      refine s_aload_n (nx := 67) hO rfl rfl rfl ?_
      refine s_getf (v := .ref (q_b G + (o1 + 5))) (nx := 70) hO rfl rfl (hs_o5 ho1) rfl rfl ?_
      refine s_iload_n (nx := 71) hO rfl rfl rfl ?_
      obtain ⟨b5, H⟩ := H
      refine s_iald (nx := 72) hO rfl (hs_I (kf5_5 ho1)) b5 rfl ?_
      refine s_aload_n (nx := 73) hO rfl rfl rfl ?_
      refine s_getf (v := .ref (q_b G + (o1 + 5))) (nx := 76) hO rfl rfl (hs_o5 ho1) rfl rfl ?_
      refine s_iload_n (nx := 77) hO rfl rfl rfl ?_
      obtain ⟨b6, H⟩ := H
      refine s_iald (nx := 78) hO rfl (hs_I (kf5_5 ho1)) b6 rfl ?_
      refine s_iload (nx := 80) hO rfl rfl rfl ?_
      refine s_iadd (nx := 81) hO rfl rfl ?_
      obtain ⟨b7, H⟩ := H
      refine goV (wI s3 122 (ix (sI s3 (o1 + 5) (ix v3))) ((sI s3 (o1 + 5) (ix v3)) + x1)) (fun s8 es8 => ?_)
      replace H := H s8 es8
      refine s_iast (nx := 82) hO rfl (hs_I kc122) b7 rfl ?_
      refine xEx.at (up_I kc122 es8) ?_
      refine s_iload (nx := 84) hO rfl rfl rfl ?_
      exact s_iret hO rfl rfl rfl ⟨rfl, _, _, rfl, rfl, H⟩
    · replace H := H.2 c14
      refine s_aload_n (nx := 18) hO rfl rfl rfl ?_
      refine s_getf (v := .ref (q_b G + 122)) (nx := 21) hO rfl rfl (hs_o0 kc116) rfl rfl ?_
      refine s_iload (nx := 23) hO rfl rfl rfl ?_
      refine s_iload (nx := 25) hO rfl rfl rfl ?_
      refine s_iload (nx := 27) hO rfl rfl rfl ?_
      refine s_iadd (nx := 28) hO rfl rfl ?_
      obtain ⟨b9, H⟩ := H
      refine goV (wI s3 122 (ix x2) (x2 + x1)) (fun s10 es10 => ?_)
      replace H := H s10 es10
      refine s_iast (nx := 29) hO rfl (hs_I kc122) b9 rfl ?_
      refine xEx.at (up_I kc122 es10) ?_
      refine s_iload (nx := 31) hO rfl rfl rfl ?_
      refine s_aload_n (nx := 32) hO rfl rfl rfl ?_
      refine s_aload_n (nx := 33) hO rfl rfl rfl ?_
      refine s_aload_n (nx := 34) hO rfl rfl rfl ?_
      refine s_iload_n (nx := 35) hO rfl rfl rfl ?_
      refine s_sipush (x := (nI 400)) (nx := 38) hO rfl (by decide) rfl ?_
      refine s_imul (nx := 39) hO rfl rfl ?_
      refine s_iload (nx := 41) hO rfl rfl rfl ?_
      refine s_iadd (nx := 42) hO rfl rfl ?_
      refine s_callV [.ref (q_b G + o1), .ref (q_b G + o2), .int ((v3 * (nI 400)) + x2)] (ci := 0) (F := TX0) (N := 11) (nx := 45) hO rfl kX0_move_149 (by rw [hcl]; rfl) (hs_o0 kc116) (w_X0_needs hG ho1 ho2 H) rfl rfl (Nat.le_of_ble_eq_true rfl) (Nat.zero_le _) (Nat.zero_le _) rfl (k_Pi (fun r11 H => ?_))
      refine goK (H (fun (y12 : Int32) => xEx G mX0_move 53 [(0, .ref (q_b G + 116)), (1, .ref (q_b G + o1)), (2, .ref (q_b G + o2)), (3, .int v3), (5, .int x2)] [.int y12, .int x1] (hS G s10) z 0 0 (yQi G z Q)) (fun y12 H => ?_)) (fun H => ?_)
      · show xEx G mX0_move 53 [(0, .ref (q_b G + 116)), (1, .ref (q_b G + o1)), (2, .ref (q_b G + o2)), (3, .int v3), (5, .int x2)] [.int y12, .int x1] (hS G s10) z 0 0 (yQi G z Q)
        refine s_iadd (nx := 54) hO rfl rfl ?_
        refine goV ((x1 + y12)) (fun x13 ex13 => ?_)
        replace H := H x13 ex13
        refine e_istore (nx := 56) (l' := [(4, .int x13), (0, .ref (q_b G + 116)), (1, .ref (q_b G + o1)), (2, .ref (q_b G + o2)), (3, .int v3), (5, .int x2)]) ex13 hO rfl (by decide) rfl rfl ?_
        refine goV ((x2 + 1)) (fun x14 ex14 => ?_)
        replace H := H x14 ex14
        refine e_iinc (nx := 59) (l' := [(5, .int x14), (4, .int x13), (0, .ref (q_b G + 116)), (1, .ref (q_b G + o1)), (2, .ref (q_b G + o2)), (3, .int v3)]) ex14 hO rfl (by decide) rfl rfl rfl rfl ?_
        refine s_goto hO rfl ?_
        exact xEx.loc (x_sub1 (List.Mem.tail _ (List.Mem.tail _ (List.Mem.head _))) (x_sub1 (List.Mem.tail _ (List.Mem.tail _ (List.Mem.tail _ (List.Mem.head _)))) (x_sub1 (List.Mem.tail _ (List.Mem.tail _ (List.Mem.tail _ (List.Mem.tail _ (List.Mem.head _))))) (x_sub1 (List.Mem.tail _ (List.Mem.tail _ (List.Mem.tail _ (List.Mem.tail _ (List.Mem.tail _ (List.Mem.head _)))))) (x_sub1 (List.Mem.tail _ (List.Mem.head _)) (x_sub1 (List.Mem.head _) x_sub0)))))) H
      refine s_if_eq (nx := 48) hO rfl rfl (fun c45 => ?_) (fun c45 => ?_)
      · replace H := H.1 c45
        refine s_iconst (x := 0) (nx := 53) hO rfl (by decide) rfl ?_
        exact xEx.loc (x_sub1 (List.Mem.head _) (x_sub1 (List.Mem.tail _ (List.Mem.head _)) (x_sub1 (List.Mem.tail _ (List.Mem.tail _ (List.Mem.head _))) (x_sub1 (List.Mem.tail _ (List.Mem.tail _ (List.Mem.tail _ (List.Mem.head _)))) (x_sub1 (List.Mem.tail _ (List.Mem.tail _ (List.Mem.tail _ (List.Mem.tail _ (List.Mem.tail _ (List.Mem.head _)))))) x_sub0))))) H
      · replace H := H.2 c45
        refine s_iconst (x := 1) (nx := 49) hO rfl (by decide) rfl ?_
        refine s_goto hO rfl ?_
        exact xEx.loc (x_sub1 (List.Mem.head _) (x_sub1 (List.Mem.tail _ (List.Mem.head _)) (x_sub1 (List.Mem.tail _ (List.Mem.tail _ (List.Mem.head _))) (x_sub1 (List.Mem.tail _ (List.Mem.tail _ (List.Mem.tail _ (List.Mem.head _)))) (x_sub1 (List.Mem.tail _ (List.Mem.tail _ (List.Mem.tail _ (List.Mem.tail _ (List.Mem.tail _ (List.Mem.head _)))))) x_sub0))))) H
  refine s_istore (nx := 6) (l' := [(5, .int 0), (4, .int 0), (0, .ref (q_b G + 116)), (1, .ref (q_b G + o1)), (2, .ref (q_b G + o2)), (3, .int v3)]) hO rfl (by decide) rfl rfl ?_
  exact xEx.loc (x_sub1 (List.Mem.tail _ (List.Mem.tail _ (List.Mem.head _))) (x_sub1 (List.Mem.tail _ (List.Mem.tail _ (List.Mem.tail _ (List.Mem.head _)))) (x_sub1 (List.Mem.tail _ (List.Mem.tail _ (List.Mem.tail _ (List.Mem.tail _ (List.Mem.head _))))) (x_sub1 (List.Mem.tail _ (List.Mem.tail _ (List.Mem.tail _ (List.Mem.tail _ (List.Mem.tail _ (List.Mem.head _)))))) (x_sub1 (List.Mem.tail _ (List.Mem.head _)) (x_sub1 (List.Mem.head _) x_sub0)))))) H
def W_X5_setSize (s : yS) (g : Nat) (v1 : Int32) (v2 : Int32) (Q : yS → Prop) : Prop :=
 vp_in v1 12 ∧ ∀ s2 : yS, s2 = wI s (g + 5) (ix v1) v2 → 
 ∀ P9 : Int32 → yS → Prop, (∀ (x3 : Int32) (s4 : yS), (((v2 ≤ x3 → Q s4)
  ∧ (¬ v2 ≤ x3 → vp_in ((v1 * (nI 400)) + x3) 4800 ∧ ∀ s6 : yS, s6 = wI s4 (g + 11) (ix ((v1 * (nI 400)) + x3)) (vp_nar .boolean 0) → 
   ∀ x7 : Int32, x7 = (x3 + 1) → 
   P9 x7 s6))) → P9 x3 s4) → 
 P9 0 s2
set_option maxRecDepth 100000 in
set_option maxHeartbeats 40000000 in
theorem w_X5_setSize {G : xG} (hG : yG G) {z : Nat} {s : yS} {g : Nat} {v1 : Int32} {v2 : Int32} {Q : yS → Prop} (hg : kd g = some (9, 0)) (H : W_X5_setSize s g v1 v2 Q) : xC G mX5_setSize [.ref (q_b G + g), .int v1, .int v2] (hS G s) z 0 0 (yQv G z Q) := by
  have hW := hG.1
  have hcl := hG.2.1
  have hty := hG.2.2.1
  have hO : xO G mX5_setSize tbX5_setSize ptX5_setSize := ⟨tkX5_setSize, pkX5_setSize hcl⟩
  unfold W_X5_setSize at H
  refine xC.of hW (by decide) rfl (Nat.le_of_ble_eq_true rfl) ?_
  refine s_aload_n (nx := 1) hO rfl rfl rfl ?_
  refine s_getf (v := .ref (q_b G + (g + 5))) (nx := 4) hO rfl rfl (hs_o5 hg) rfl rfl ?_
  refine s_iload_n (nx := 5) hO rfl rfl rfl ?_
  refine s_iload_n (nx := 6) hO rfl rfl rfl ?_
  obtain ⟨b1, H⟩ := H
  refine goV (wI s (g + 5) (ix v1) v2) (fun s2 es2 => ?_)
  replace H := H s2 es2
  refine s_iast (nx := 7) hO rfl (hs_I (kf5_5 hg)) b1 rfl ?_
  refine xEx.at (up_I (kf5_5 hg) es2) ?_
  refine s_iconst (x := 0) (nx := 8) hO rfl (by decide) rfl ?_
  refine goK (H (fun (x3 : Int32) (s4 : yS) => xEx G mX5_setSize 9 [(0, .ref (q_b G + g)), (1, .int v1), (2, .int v2), (3, .int x3)] [] (hS G s4) z 0 0 (yQv G z Q)) (fun x3 s4 H => ?_)) (fun H => ?_)
  · show xEx G mX5_setSize 9 [(0, .ref (q_b G + g)), (1, .int v1), (2, .int v2), (3, .int x3)] [] (hS G s4) z 0 0 (yQv G z Q)
    refine s_iload_n (nx := 10) hO rfl rfl rfl ?_
    refine s_iload_n (nx := 11) hO rfl rfl rfl ?_
    refine s_icmp_ge (nx := 14) hO rfl rfl (fun c11 => ?_) (fun c11 => ?_)
    · replace H := H.1 c11
      exact s_vret hO rfl rfl ⟨rfl, _, rfl, rfl, H⟩
    · replace H := H.2 c11
      refine s_aload_n (nx := 15) hO rfl rfl rfl ?_
      refine s_getf (v := .ref (q_b G + (g + 11))) (nx := 18) hO rfl rfl (hs_o5 hg) rfl rfl ?_
      refine s_iload_n (nx := 19) hO rfl rfl rfl ?_
      refine s_sipush (x := (nI 400)) (nx := 22) hO rfl (by decide) rfl ?_
      refine s_imul (nx := 23) hO rfl rfl ?_
      refine s_iload_n (nx := 24) hO rfl rfl rfl ?_
      refine s_iadd (nx := 25) hO rfl rfl ?_
      refine s_iconst (x := 0) (nx := 26) hO rfl (by decide) rfl ?_
      obtain ⟨b5, H⟩ := H
      refine goV (wI s4 (g + 11) (ix ((v1 * (nI 400)) + x3)) (vp_nar .boolean 0)) (fun s6 es6 => ?_)
      replace H := H s6 es6
      refine s_zast (nx := 27) hO rfl (hs_Z (kf5_11 hg)) b5 rfl ?_
      refine xEx.at (up_Z (kf5_11 hg) es6) ?_
      refine goV ((x3 + 1)) (fun x7 ex7 => ?_)
      replace H := H x7 ex7
      refine e_iinc (nx := 30) (l' := [(3, .int x7), (0, .ref (q_b G + g)), (1, .int v1), (2, .int v2)]) ex7 hO rfl (by decide) rfl rfl rfl rfl ?_
      refine s_goto hO rfl ?_
      exact xEx.loc (x_sub1 (List.Mem.tail _ (List.Mem.head _)) (x_sub1 (List.Mem.tail _ (List.Mem.tail _ (List.Mem.head _))) (x_sub1 (List.Mem.tail _ (List.Mem.tail _ (List.Mem.tail _ (List.Mem.head _)))) (x_sub1 (List.Mem.head _) x_sub0)))) H
  refine s_istore_n (nx := 9) (l' := [(3, .int 0), (0, .ref (q_b G + g)), (1, .int v1), (2, .int v2)]) hO rfl (by decide) rfl rfl ?_
  exact xEx.loc (x_sub1 (List.Mem.tail _ (List.Mem.head _)) (x_sub1 (List.Mem.tail _ (List.Mem.tail _ (List.Mem.head _))) (x_sub1 (List.Mem.tail _ (List.Mem.tail _ (List.Mem.tail _ (List.Mem.head _)))) (x_sub1 (List.Mem.head _) x_sub0)))) H
def W_X0_copyHead (s : yS) (o1 : Nat) (o2 : Nat) (v3 : Int32) (Q : yS → Prop) : Prop :=
 vp_in v3 12 ∧ 
 vp_in v3 12 ∧ ∀ s3 : yS, s3 = wI s (o2 + 1) (ix v3) (sI s (o1 + 1) (ix v3)) → 
 vp_in v3 12 ∧ 
 vp_in v3 12 ∧ ∀ s6 : yS, s6 = wI s3 (o2 + 2) (ix v3) (sI s3 (o1 + 2) (ix v3)) → 
 vp_in v3 12 ∧ 
 vp_in v3 12 ∧ ∀ s9 : yS, s9 = wI s6 (o2 + 3) (ix v3) (sI s6 (o1 + 3) (ix v3)) → 
 vp_in v3 12 ∧ 
 vp_in v3 12 ∧ ∀ s12 : yS, s12 = wI s9 (o2 + 4) (ix v3) (sI s9 (o1 + 4) (ix v3)) → 
 vp_in v3 12 ∧ 
 vp_in (sI s12 (o1 + 5) (ix v3)) 401 ∧ 
 W_X5_setSize s12 o2 v3 (sI s12 122 (ix (sI s12 (o1 + 5) (ix v3)))) 
 (fun s15 => vp_in v3 12 ∧ 
 vp_in v3 12 ∧ ∀ s18 : yS, s18 = wI s15 (o2 + 6) (ix v3) (sI s15 (o1 + 6) (ix v3)) → 
 Q s18)
set_option maxRecDepth 100000 in
set_option maxHeartbeats 40000000 in
theorem w_X0_copyHead {G : xG} (hG : yG G) {z : Nat} {s : yS} {o1 : Nat} {o2 : Nat} {v3 : Int32} {Q : yS → Prop} (ho1 : kd o1 = some (9, 0)) (ho2 : kd o2 = some (9, 0)) (H : W_X0_copyHead s o1 o2 v3 Q) : xC G mX0_copyHead [.ref (q_b G + 116), .ref (q_b G + o1), .ref (q_b G + o2), .int v3] (hS G s) z 0 0 (yQv G z Q) := by
  have hW := hG.1
  have hcl := hG.2.1
  have hty := hG.2.2.1
  have hO : xO G mX0_copyHead tbX0_copyHead ptX0_copyHead := ⟨tkX0_copyHead, pkX0_copyHead hcl⟩
  unfold W_X0_copyHead at H
  refine xC.of hW (by decide) rfl (Nat.le_of_ble_eq_true rfl) ?_
  refine s_aload_n (nx := 1) hO rfl rfl rfl ?_
  refine s_getf (v := .ref (q_b G + (o2 + 1))) (nx := 4) hO rfl rfl (hs_o5 ho2) rfl rfl ?_
  refine s_iload_n (nx := 5) hO rfl rfl rfl ?_
  refine s_aload_n (nx := 6) hO rfl rfl rfl ?_
  refine s_getf (v := .ref (q_b G + (o1 + 1))) (nx := 9) hO rfl rfl (hs_o5 ho1) rfl rfl ?_
  refine s_iload_n (nx := 10) hO rfl rfl rfl ?_
  obtain ⟨b1, H⟩ := H
  refine s_iald (nx := 11) hO rfl (hs_I (kf5_1 ho1)) b1 rfl ?_
  obtain ⟨b2, H⟩ := H
  refine goV (wI s (o2 + 1) (ix v3) (sI s (o1 + 1) (ix v3))) (fun s3 es3 => ?_)
  replace H := H s3 es3
  refine s_iast (nx := 12) hO rfl (hs_I (kf5_1 ho2)) b2 rfl ?_
  refine xEx.at (up_I (kf5_1 ho2) es3) ?_
  refine s_aload_n (nx := 13) hO rfl rfl rfl ?_
  refine s_getf (v := .ref (q_b G + (o2 + 2))) (nx := 16) hO rfl rfl (hs_o5 ho2) rfl rfl ?_
  refine s_iload_n (nx := 17) hO rfl rfl rfl ?_
  refine s_aload_n (nx := 18) hO rfl rfl rfl ?_
  refine s_getf (v := .ref (q_b G + (o1 + 2))) (nx := 21) hO rfl rfl (hs_o5 ho1) rfl rfl ?_
  refine s_iload_n (nx := 22) hO rfl rfl rfl ?_
  obtain ⟨b4, H⟩ := H
  refine s_iald (nx := 23) hO rfl (hs_I (kf5_2 ho1)) b4 rfl ?_
  obtain ⟨b5, H⟩ := H
  refine goV (wI s3 (o2 + 2) (ix v3) (sI s3 (o1 + 2) (ix v3))) (fun s6 es6 => ?_)
  replace H := H s6 es6
  refine s_iast (nx := 24) hO rfl (hs_I (kf5_2 ho2)) b5 rfl ?_
  refine xEx.at (up_I (kf5_2 ho2) es6) ?_
  refine s_aload_n (nx := 25) hO rfl rfl rfl ?_
  refine s_getf (v := .ref (q_b G + (o2 + 3))) (nx := 28) hO rfl rfl (hs_o5 ho2) rfl rfl ?_
  refine s_iload_n (nx := 29) hO rfl rfl rfl ?_
  refine s_aload_n (nx := 30) hO rfl rfl rfl ?_
  refine s_getf (v := .ref (q_b G + (o1 + 3))) (nx := 33) hO rfl rfl (hs_o5 ho1) rfl rfl ?_
  refine s_iload_n (nx := 34) hO rfl rfl rfl ?_
  obtain ⟨b7, H⟩ := H
  refine s_iald (nx := 35) hO rfl (hs_I (kf5_3 ho1)) b7 rfl ?_
  obtain ⟨b8, H⟩ := H
  refine goV (wI s6 (o2 + 3) (ix v3) (sI s6 (o1 + 3) (ix v3))) (fun s9 es9 => ?_)
  replace H := H s9 es9
  refine s_iast (nx := 36) hO rfl (hs_I (kf5_3 ho2)) b8 rfl ?_
  refine xEx.at (up_I (kf5_3 ho2) es9) ?_
  refine s_aload_n (nx := 37) hO rfl rfl rfl ?_
  refine s_getf (v := .ref (q_b G + (o2 + 4))) (nx := 40) hO rfl rfl (hs_o5 ho2) rfl rfl ?_
  refine s_iload_n (nx := 41) hO rfl rfl rfl ?_
  refine s_aload_n (nx := 42) hO rfl rfl rfl ?_
  refine s_getf (v := .ref (q_b G + (o1 + 4))) (nx := 45) hO rfl rfl (hs_o5 ho1) rfl rfl ?_
  refine s_iload_n (nx := 46) hO rfl rfl rfl ?_
  obtain ⟨b10, H⟩ := H
  refine s_iald (nx := 47) hO rfl (hs_I (kf5_4 ho1)) b10 rfl ?_
  obtain ⟨b11, H⟩ := H
  refine goV (wI s9 (o2 + 4) (ix v3) (sI s9 (o1 + 4) (ix v3))) (fun s12 es12 => ?_)
  replace H := H s12 es12
  refine s_iast (nx := 48) hO rfl (hs_I (kf5_4 ho2)) b11 rfl ?_
  refine xEx.at (up_I (kf5_4 ho2) es12) ?_
  refine s_aload_n (nx := 49) hO rfl rfl rfl ?_
  refine s_iload_n (nx := 50) hO rfl rfl rfl ?_
  refine s_aload_n (nx := 51) hO rfl rfl rfl ?_
  refine s_getf (v := .ref (q_b G + 122)) (nx := 54) hO rfl rfl (hs_o0 kc116) rfl rfl ?_
  refine s_aload_n (nx := 55) hO rfl rfl rfl ?_
  refine s_getf (v := .ref (q_b G + (o1 + 5))) (nx := 58) hO rfl rfl (hs_o5 ho1) rfl rfl ?_
  refine s_iload_n (nx := 59) hO rfl rfl rfl ?_
  obtain ⟨b13, H⟩ := H
  refine s_iald (nx := 60) hO rfl (hs_I (kf5_5 ho1)) b13 rfl ?_
  obtain ⟨b14, H⟩ := H
  refine s_iald (nx := 61) hO rfl (hs_I kc122) b14 rfl ?_
  refine s_callV [.int v3, .int (sI s12 122 (ix (sI s12 (o1 + 5) (ix v3))))] (ci := 5) (F := TX5) (N := 19) (nx := 64) hO rfl kX0_copyHead_186 (by rw [hcl]; rfl) (hs_o5 ho2) (w_X5_setSize hG ho2 H) rfl rfl (Nat.le_of_ble_eq_true rfl) (Nat.zero_le _) (Nat.zero_le _) rfl (k_Qv (fun s15 H => ?_))
  refine s_aload_n (nx := 65) hO rfl rfl rfl ?_
  refine s_getf (v := .ref (q_b G + (o2 + 6))) (nx := 68) hO rfl rfl (hs_o5 ho2) rfl rfl ?_
  refine s_iload_n (nx := 69) hO rfl rfl rfl ?_
  refine s_aload_n (nx := 70) hO rfl rfl rfl ?_
  refine s_getf (v := .ref (q_b G + (o1 + 6))) (nx := 73) hO rfl rfl (hs_o5 ho1) rfl rfl ?_
  refine s_iload_n (nx := 74) hO rfl rfl rfl ?_
  obtain ⟨b16, H⟩ := H
  refine s_iald (nx := 75) hO rfl (hs_I (kf5_6 ho1)) b16 rfl ?_
  obtain ⟨b17, H⟩ := H
  refine goV (wI s15 (o2 + 6) (ix v3) (sI s15 (o1 + 6) (ix v3))) (fun s18 es18 => ?_)
  replace H := H s18 es18
  refine s_iast (nx := 76) hO rfl (hs_I (kf5_6 ho2)) b17 rfl ?_
  refine xEx.at (up_I (kf5_6 ho2) es18) ?_
  exact s_vret hO rfl rfl ⟨rfl, _, rfl, rfl, H⟩
def W_X0_copyCode (s : yS) (o1 : Nat) (o2 : Nat) (v3 : Int32) (Q : yS → Prop) : Prop :=
 ∀ x1 : Int32, x1 = (v3 * (nI 400)) → 
 ∀ P10 : Int32 → yS → Prop, (∀ (x2 : Int32) (s3 : yS), (vp_in v3 12 ∧ 
  (((sI s3 (o1 + 5) (ix v3)) ≤ x2 → Q s3)
  ∧ (¬ (sI s3 (o1 + 5) (ix v3)) ≤ x2 → vp_in (x1 + x2) 4800 ∧ 
   ∀ x6 : Int32, x6 = (sI s3 (o1 + 7) (ix (x1 + x2))) → 
   vp_in (x1 + x2) 4800 ∧ 
   ∀ x8 : Int32, x8 = (sI s3 (o1 + 8) (ix (x1 + x2))) → 
   vp_in (x2 + 1) 401 ∧ 
   ∀ x10 : Int32, x10 = ((x1 + (sI s3 122 (ix (x2 + 1)))) - 1) → 
   vp_in (x2 + 1) 401 ∧ 
   vp_in x2 401 ∧ 
   ∀ P104 : yS → Prop, (∀ (s13 : yS), (vp_in x10 4800 ∧ ∀ s15 : yS, s15 = wI s13 (o2 + 7) (ix x10) x6 → 
    vp_in x10 4800 ∧ ∀ s17 : yS, s17 = wI s15 (o2 + 8) (ix x10) x8 → 
    W_X5_isJump s17 x6 
    (fun r18 => ∀ P160 : yS → Prop, (∀ (s19 : yS), (∀ x20 : Int32, x20 = (x2 + 1) → 
     P10 x20 s19) → P160 s19) → 
    ((r18 = 0 → P160 s17)
    ∧ (¬ r18 = 0 → vp_in x8 401 ∧ 
     vp_in x10 4800 ∧ ∀ s23 : yS, s23 = wI s17 (o2 + 8) (ix x10) (sI s17 122 (ix x8)) → 
     vp_in x8 401 ∧ 
     vp_in (x1 + (sI s23 122 (ix x8))) 4800 ∧ ∀ s26 : yS, s26 = wI s23 (o2 + 11) (ix (x1 + (sI s23 122 (ix x8)))) (vp_nar .boolean 1) → 
     P160 s26)))) → P104 s13) → 
   ((¬ ((sI s3 122 (ix (x2 + 1))) - (sI s3 122 (ix x2))) = (nI 2) → P104 s3)
   ∧ (((sI s3 122 (ix (x2 + 1))) - (sI s3 122 (ix x2))) = (nI 2) → vp_in (x10 - 1) 4800 ∧ ∀ s28 : yS, s28 = wI s3 (o2 + 7) (ix (x10 - 1)) (nI 29) → 
    vp_in (x10 - 1) 4800 ∧ ∀ s30 : yS, s30 = wI s28 (o2 + 8) (ix (x10 - 1)) x8 → 
    P104 s30))))) → P10 x2 s3) → 
 P10 0 s
set_option maxRecDepth 100000 in
set_option maxHeartbeats 40000000 in
theorem w_X0_copyCode {G : xG} (hG : yG G) {z : Nat} {s : yS} {o1 : Nat} {o2 : Nat} {v3 : Int32} {Q : yS → Prop} (ho1 : kd o1 = some (9, 0)) (ho2 : kd o2 = some (9, 0)) (H : W_X0_copyCode s o1 o2 v3 Q) : xC G mX0_copyCode [.ref (q_b G + 116), .ref (q_b G + o1), .ref (q_b G + o2), .int v3] (hS G s) z 0 0 (yQv G z Q) := by
  have hW := hG.1
  have hcl := hG.2.1
  have hty := hG.2.2.1
  have hO : xO G mX0_copyCode tbX0_copyCode ptX0_copyCode := ⟨tkX0_copyCode, pkX0_copyCode hcl⟩
  unfold W_X0_copyCode at H
  refine xC.of hW (by decide) rfl (Nat.le_of_ble_eq_true rfl) ?_
  refine s_iload_n (nx := 1) hO rfl rfl rfl ?_
  refine s_sipush (x := (nI 400)) (nx := 4) hO rfl (by decide) rfl ?_
  refine s_imul (nx := 5) hO rfl rfl ?_
  refine goV ((v3 * (nI 400))) (fun x1 ex1 => ?_)
  replace H := H x1 ex1
  refine e_istore (nx := 7) (l' := [(4, .int x1), (0, .ref (q_b G + 116)), (1, .ref (q_b G + o1)), (2, .ref (q_b G + o2)), (3, .int v3)]) ex1 hO rfl (by decide) rfl rfl ?_
  refine s_iconst (x := 0) (nx := 8) hO rfl (by decide) rfl ?_
  refine goK (H (fun (x2 : Int32) (s3 : yS) => xEx G mX0_copyCode 10 [(0, .ref (q_b G + 116)), (1, .ref (q_b G + o1)), (2, .ref (q_b G + o2)), (3, .int v3), (4, .int x1), (5, .int x2)] [] (hS G s3) z 0 0 (yQv G z Q)) (fun x2 s3 H => ?_)) (fun H => ?_)
  · show xEx G mX0_copyCode 10 [(0, .ref (q_b G + 116)), (1, .ref (q_b G + o1)), (2, .ref (q_b G + o2)), (3, .int v3), (4, .int x1), (5, .int x2)] [] (hS G s3) z 0 0 (yQv G z Q)
    refine s_iload (nx := 12) hO rfl rfl rfl ?_
    refine s_aload_n (nx := 13) hO rfl rfl rfl ?_
    refine s_getf (v := .ref (q_b G + (o1 + 5))) (nx := 16) hO rfl rfl (hs_o5 ho1) rfl rfl ?_
    refine s_iload_n (nx := 17) hO rfl rfl rfl ?_
    obtain ⟨b4, H⟩ := H
    refine s_iald (nx := 18) hO rfl (hs_I (kf5_5 ho1)) b4 rfl ?_
    refine s_icmp_ge (nx := 21) hO rfl rfl (fun c18 => ?_) (fun c18 => ?_)
    · replace H := H.1 c18
      exact s_vret hO rfl rfl ⟨rfl, _, rfl, rfl, H⟩
    · replace H := H.2 c18
      refine s_aload_n (nx := 22) hO rfl rfl rfl ?_
      refine s_getf (v := .ref (q_b G + (o1 + 7))) (nx := 25) hO rfl rfl (hs_o5 ho1) rfl rfl ?_
      refine s_iload (nx := 27) hO rfl rfl rfl ?_
      refine s_iload (nx := 29) hO rfl rfl rfl ?_
      refine s_iadd (nx := 30) hO rfl rfl ?_
      obtain ⟨b5, H⟩ := H
      refine s_iald (nx := 31) hO rfl (hs_I (kf5_7 ho1)) b5 rfl ?_
      refine goV ((sI s3 (o1 + 7) (ix (x1 + x2)))) (fun x6 ex6 => ?_)
      replace H := H x6 ex6
      refine e_istore (nx := 33) (l' := [(6, .int x6), (0, .ref (q_b G + 116)), (1, .ref (q_b G + o1)), (2, .ref (q_b G + o2)), (3, .int v3), (4, .int x1), (5, .int x2)]) ex6 hO rfl (by decide) rfl rfl ?_
      refine s_aload_n (nx := 34) hO rfl rfl rfl ?_
      refine s_getf (v := .ref (q_b G + (o1 + 8))) (nx := 37) hO rfl rfl (hs_o5 ho1) rfl rfl ?_
      refine s_iload (nx := 39) hO rfl rfl rfl ?_
      refine s_iload (nx := 41) hO rfl rfl rfl ?_
      refine s_iadd (nx := 42) hO rfl rfl ?_
      obtain ⟨b7, H⟩ := H
      refine s_iald (nx := 43) hO rfl (hs_I (kf5_8 ho1)) b7 rfl ?_
      refine goV ((sI s3 (o1 + 8) (ix (x1 + x2)))) (fun x8 ex8 => ?_)
      replace H := H x8 ex8
      refine e_istore (nx := 45) (l' := [(7, .int x8), (6, .int x6), (0, .ref (q_b G + 116)), (1, .ref (q_b G + o1)), (2, .ref (q_b G + o2)), (3, .int v3), (4, .int x1), (5, .int x2)]) ex8 hO rfl (by decide) rfl rfl ?_
      refine s_iload (nx := 47) hO rfl rfl rfl ?_
      refine s_aload_n (nx := 48) hO rfl rfl rfl ?_
      refine s_getf (v := .ref (q_b G + 122)) (nx := 51) hO rfl rfl (hs_o0 kc116) rfl rfl ?_
      refine s_iload (nx := 53) hO rfl rfl rfl ?_
      refine s_iconst (x := 1) (nx := 54) hO rfl (by decide) rfl ?_
      refine s_iadd (nx := 55) hO rfl rfl ?_
      obtain ⟨b9, H⟩ := H
      refine s_iald (nx := 56) hO rfl (hs_I kc122) b9 rfl ?_
      refine s_iadd (nx := 57) hO rfl rfl ?_
      refine s_iconst (x := 1) (nx := 58) hO rfl (by decide) rfl ?_
      refine s_isub (nx := 59) hO rfl rfl ?_
      refine goV (((x1 + (sI s3 122 (ix (x2 + 1)))) - 1)) (fun x10 ex10 => ?_)
      replace H := H x10 ex10
      refine e_istore (nx := 61) (l' := [(8, .int x10), (7, .int x8), (6, .int x6), (0, .ref (q_b G + 116)), (1, .ref (q_b G + o1)), (2, .ref (q_b G + o2)), (3, .int v3), (4, .int x1), (5, .int x2)]) ex10 hO rfl (by decide) rfl rfl ?_
      refine s_aload_n (nx := 62) hO rfl rfl rfl ?_
      refine s_getf (v := .ref (q_b G + 122)) (nx := 65) hO rfl rfl (hs_o0 kc116) rfl rfl ?_
      refine s_iload (nx := 67) hO rfl rfl rfl ?_
      refine s_iconst (x := 1) (nx := 68) hO rfl (by decide) rfl ?_
      refine s_iadd (nx := 69) hO rfl rfl ?_
      obtain ⟨b11, H⟩ := H
      refine s_iald (nx := 70) hO rfl (hs_I kc122) b11 rfl ?_
      refine s_aload_n (nx := 71) hO rfl rfl rfl ?_
      refine s_getf (v := .ref (q_b G + 122)) (nx := 74) hO rfl rfl (hs_o0 kc116) rfl rfl ?_
      refine s_iload (nx := 76) hO rfl rfl rfl ?_
      obtain ⟨b12, H⟩ := H
      refine s_iald (nx := 77) hO rfl (hs_I kc122) b12 rfl ?_
      refine s_isub (nx := 78) hO rfl rfl ?_
      refine s_iconst (x := (nI 2)) (nx := 79) hO rfl (by decide) rfl ?_
      refine goK (H (fun (s13 : yS) => xEx G mX0_copyCode 104 [(0, .ref (q_b G + 116)), (1, .ref (q_b G + o1)), (2, .ref (q_b G + o2)), (3, .int v3), (4, .int x1), (5, .int x2), (6, .int x6), (7, .int x8), (8, .int x10)] [] (hS G s13) z 0 0 (yQv G z Q)) (fun s13 H => ?_)) (fun H => ?_)
      · show xEx G mX0_copyCode 104 [(0, .ref (q_b G + 116)), (1, .ref (q_b G + o1)), (2, .ref (q_b G + o2)), (3, .int v3), (4, .int x1), (5, .int x2), (6, .int x6), (7, .int x8), (8, .int x10)] [] (hS G s13) z 0 0 (yQv G z Q)
        refine s_aload_n (nx := 105) hO rfl rfl rfl ?_
        refine s_getf (v := .ref (q_b G + (o2 + 7))) (nx := 108) hO rfl rfl (hs_o5 ho2) rfl rfl ?_
        refine s_iload (nx := 110) hO rfl rfl rfl ?_
        refine s_iload (nx := 112) hO rfl rfl rfl ?_
        obtain ⟨b14, H⟩ := H
        refine goV (wI s13 (o2 + 7) (ix x10) x6) (fun s15 es15 => ?_)
        replace H := H s15 es15
        refine s_iast (nx := 113) hO rfl (hs_I (kf5_7 ho2)) b14 rfl ?_
        refine xEx.at (up_I (kf5_7 ho2) es15) ?_
        refine s_aload_n (nx := 114) hO rfl rfl rfl ?_
        refine s_getf (v := .ref (q_b G + (o2 + 8))) (nx := 117) hO rfl rfl (hs_o5 ho2) rfl rfl ?_
        refine s_iload (nx := 119) hO rfl rfl rfl ?_
        refine s_iload (nx := 121) hO rfl rfl rfl ?_
        obtain ⟨b16, H⟩ := H
        refine goV (wI s15 (o2 + 8) (ix x10) x8) (fun s17 es17 => ?_)
        replace H := H s17 es17
        refine s_iast (nx := 122) hO rfl (hs_I (kf5_8 ho2)) b16 rfl ?_
        refine xEx.at (up_I (kf5_8 ho2) es17) ?_
        refine s_iload (nx := 124) hO rfl rfl rfl ?_
        refine s_callS [.int x6] (nx := 127) hO rfl kX0_copyCode_120 (w_X5_isJump hG H) rfl rfl (Nat.le_of_ble_eq_true rfl) (Nat.zero_le _) (Nat.zero_le _) rfl (k_Pi (fun r18 H => ?_))
        refine goK (H (fun (s19 : yS) => xEx G mX0_copyCode 160 [(0, .ref (q_b G + 116)), (1, .ref (q_b G + o1)), (2, .ref (q_b G + o2)), (3, .int v3), (4, .int x1), (5, .int x2)] [] (hS G s19) z 0 0 (yQv G z Q)) (fun s19 H => ?_)) (fun H => ?_)
        · show xEx G mX0_copyCode 160 [(0, .ref (q_b G + 116)), (1, .ref (q_b G + o1)), (2, .ref (q_b G + o2)), (3, .int v3), (4, .int x1), (5, .int x2)] [] (hS G s19) z 0 0 (yQv G z Q)
          refine goV ((x2 + 1)) (fun x20 ex20 => ?_)
          replace H := H x20 ex20
          refine e_iinc (nx := 163) (l' := [(5, .int x20), (0, .ref (q_b G + 116)), (1, .ref (q_b G + o1)), (2, .ref (q_b G + o2)), (3, .int v3), (4, .int x1)]) ex20 hO rfl (by decide) rfl rfl rfl rfl ?_
          refine s_goto hO rfl ?_
          exact xEx.loc (x_sub1 (List.Mem.tail _ (List.Mem.head _)) (x_sub1 (List.Mem.tail _ (List.Mem.tail _ (List.Mem.head _))) (x_sub1 (List.Mem.tail _ (List.Mem.tail _ (List.Mem.tail _ (List.Mem.head _)))) (x_sub1 (List.Mem.tail _ (List.Mem.tail _ (List.Mem.tail _ (List.Mem.tail _ (List.Mem.head _))))) (x_sub1 (List.Mem.tail _ (List.Mem.tail _ (List.Mem.tail _ (List.Mem.tail _ (List.Mem.tail _ (List.Mem.head _)))))) (x_sub1 (List.Mem.head _) x_sub0)))))) H
        refine s_if_eq (nx := 130) hO rfl rfl (fun c127 => ?_) (fun c127 => ?_)
        · replace H := H.1 c127
          exact xEx.loc (x_sub1 (List.Mem.head _) (x_sub1 (List.Mem.tail _ (List.Mem.head _)) (x_sub1 (List.Mem.tail _ (List.Mem.tail _ (List.Mem.head _))) (x_sub1 (List.Mem.tail _ (List.Mem.tail _ (List.Mem.tail _ (List.Mem.head _)))) (x_sub1 (List.Mem.tail _ (List.Mem.tail _ (List.Mem.tail _ (List.Mem.tail _ (List.Mem.head _))))) (x_sub1 (List.Mem.tail _ (List.Mem.tail _ (List.Mem.tail _ (List.Mem.tail _ (List.Mem.tail _ (List.Mem.head _)))))) x_sub0)))))) H
        · replace H := H.2 c127
          refine s_aload_n (nx := 131) hO rfl rfl rfl ?_
          refine s_getf (v := .ref (q_b G + (o2 + 8))) (nx := 134) hO rfl rfl (hs_o5 ho2) rfl rfl ?_
          refine s_iload (nx := 136) hO rfl rfl rfl ?_
          refine s_aload_n (nx := 137) hO rfl rfl rfl ?_
          refine s_getf (v := .ref (q_b G + 122)) (nx := 140) hO rfl rfl (hs_o0 kc116) rfl rfl ?_
          refine s_iload (nx := 142) hO rfl rfl rfl ?_
          obtain ⟨b21, H⟩ := H
          refine s_iald (nx := 143) hO rfl (hs_I kc122) b21 rfl ?_
          obtain ⟨b22, H⟩ := H
          refine goV (wI s17 (o2 + 8) (ix x10) (sI s17 122 (ix x8))) (fun s23 es23 => ?_)
          replace H := H s23 es23
          refine s_iast (nx := 144) hO rfl (hs_I (kf5_8 ho2)) b22 rfl ?_
          refine xEx.at (up_I (kf5_8 ho2) es23) ?_
          refine s_aload_n (nx := 145) hO rfl rfl rfl ?_
          refine s_getf (v := .ref (q_b G + (o2 + 11))) (nx := 148) hO rfl rfl (hs_o5 ho2) rfl rfl ?_
          refine s_iload (nx := 150) hO rfl rfl rfl ?_
          refine s_aload_n (nx := 151) hO rfl rfl rfl ?_
          refine s_getf (v := .ref (q_b G + 122)) (nx := 154) hO rfl rfl (hs_o0 kc116) rfl rfl ?_
          refine s_iload (nx := 156) hO rfl rfl rfl ?_
          obtain ⟨b24, H⟩ := H
          refine s_iald (nx := 157) hO rfl (hs_I kc122) b24 rfl ?_
          refine s_iadd (nx := 158) hO rfl rfl ?_
          refine s_iconst (x := 1) (nx := 159) hO rfl (by decide) rfl ?_
          obtain ⟨b25, H⟩ := H
          refine goV (wI s23 (o2 + 11) (ix (x1 + (sI s23 122 (ix x8)))) (vp_nar .boolean 1)) (fun s26 es26 => ?_)
          replace H := H s26 es26
          refine s_zast (nx := 160) hO rfl (hs_Z (kf5_11 ho2)) b25 rfl ?_
          refine xEx.at (up_Z (kf5_11 ho2) es26) ?_
          exact xEx.loc (x_sub1 (List.Mem.head _) (x_sub1 (List.Mem.tail _ (List.Mem.head _)) (x_sub1 (List.Mem.tail _ (List.Mem.tail _ (List.Mem.head _))) (x_sub1 (List.Mem.tail _ (List.Mem.tail _ (List.Mem.tail _ (List.Mem.head _)))) (x_sub1 (List.Mem.tail _ (List.Mem.tail _ (List.Mem.tail _ (List.Mem.tail _ (List.Mem.head _))))) (x_sub1 (List.Mem.tail _ (List.Mem.tail _ (List.Mem.tail _ (List.Mem.tail _ (List.Mem.tail _ (List.Mem.head _)))))) x_sub0)))))) H
      refine s_icmp_ne (nx := 82) hO rfl rfl (fun c79 => ?_) (fun c79 => ?_)
      · replace H := H.1 c79
        exact xEx.loc (x_sub1 (List.Mem.tail _ (List.Mem.tail _ (List.Mem.tail _ (List.Mem.head _)))) (x_sub1 (List.Mem.tail _ (List.Mem.tail _ (List.Mem.tail _ (List.Mem.tail _ (List.Mem.head _))))) (x_sub1 (List.Mem.tail _ (List.Mem.tail _ (List.Mem.tail _ (List.Mem.tail _ (List.Mem.tail _ (List.Mem.head _)))))) (x_sub1 (List.Mem.tail _ (List.Mem.tail _ (List.Mem.tail _ (List.Mem.tail _ (List.Mem.tail _ (List.Mem.tail _ (List.Mem.head _))))))) (x_sub1 (List.Mem.tail _ (List.Mem.tail _ (List.Mem.tail _ (List.Mem.tail _ (List.Mem.tail _ (List.Mem.tail _ (List.Mem.tail _ (List.Mem.head _)))))))) (x_sub1 (List.Mem.tail _ (List.Mem.tail _ (List.Mem.tail _ (List.Mem.tail _ (List.Mem.tail _ (List.Mem.tail _ (List.Mem.tail _ (List.Mem.tail _ (List.Mem.head _))))))))) (x_sub1 (List.Mem.tail _ (List.Mem.tail _ (List.Mem.head _))) (x_sub1 (List.Mem.tail _ (List.Mem.head _)) (x_sub1 (List.Mem.head _) x_sub0))))))))) H
      · replace H := H.2 c79
        refine s_aload_n (nx := 83) hO rfl rfl rfl ?_
        refine s_getf (v := .ref (q_b G + (o2 + 7))) (nx := 86) hO rfl rfl (hs_o5 ho2) rfl rfl ?_
        refine s_iload (nx := 88) hO rfl rfl rfl ?_
        refine s_iconst (x := 1) (nx := 89) hO rfl (by decide) rfl ?_
        refine s_isub (nx := 90) hO rfl rfl ?_
        refine s_bipush (x := (nI 29)) (nx := 92) hO rfl (by decide) rfl ?_
        obtain ⟨b27, H⟩ := H
        refine goV (wI s3 (o2 + 7) (ix (x10 - 1)) (nI 29)) (fun s28 es28 => ?_)
        replace H := H s28 es28
        refine s_iast (nx := 93) hO rfl (hs_I (kf5_7 ho2)) b27 rfl ?_
        refine xEx.at (up_I (kf5_7 ho2) es28) ?_
        refine s_aload_n (nx := 94) hO rfl rfl rfl ?_
        refine s_getf (v := .ref (q_b G + (o2 + 8))) (nx := 97) hO rfl rfl (hs_o5 ho2) rfl rfl ?_
        refine s_iload (nx := 99) hO rfl rfl rfl ?_
        refine s_iconst (x := 1) (nx := 100) hO rfl (by decide) rfl ?_
        refine s_isub (nx := 101) hO rfl rfl ?_
        refine s_iload (nx := 103) hO rfl rfl rfl ?_
        obtain ⟨b29, H⟩ := H
        refine goV (wI s28 (o2 + 8) (ix (x10 - 1)) x8) (fun s30 es30 => ?_)
        replace H := H s30 es30
        refine s_iast (nx := 104) hO rfl (hs_I (kf5_8 ho2)) b29 rfl ?_
        refine xEx.at (up_I (kf5_8 ho2) es30) ?_
        exact xEx.loc (x_sub1 (List.Mem.tail _ (List.Mem.tail _ (List.Mem.tail _ (List.Mem.head _)))) (x_sub1 (List.Mem.tail _ (List.Mem.tail _ (List.Mem.tail _ (List.Mem.tail _ (List.Mem.head _))))) (x_sub1 (List.Mem.tail _ (List.Mem.tail _ (List.Mem.tail _ (List.Mem.tail _ (List.Mem.tail _ (List.Mem.head _)))))) (x_sub1 (List.Mem.tail _ (List.Mem.tail _ (List.Mem.tail _ (List.Mem.tail _ (List.Mem.tail _ (List.Mem.tail _ (List.Mem.head _))))))) (x_sub1 (List.Mem.tail _ (List.Mem.tail _ (List.Mem.tail _ (List.Mem.tail _ (List.Mem.tail _ (List.Mem.tail _ (List.Mem.tail _ (List.Mem.head _)))))))) (x_sub1 (List.Mem.tail _ (List.Mem.tail _ (List.Mem.tail _ (List.Mem.tail _ (List.Mem.tail _ (List.Mem.tail _ (List.Mem.tail _ (List.Mem.tail _ (List.Mem.head _))))))))) (x_sub1 (List.Mem.tail _ (List.Mem.tail _ (List.Mem.head _))) (x_sub1 (List.Mem.tail _ (List.Mem.head _)) (x_sub1 (List.Mem.head _) x_sub0))))))))) H
  refine s_istore (nx := 10) (l' := [(5, .int 0), (4, .int x1), (0, .ref (q_b G + 116)), (1, .ref (q_b G + o1)), (2, .ref (q_b G + o2)), (3, .int v3)]) hO rfl (by decide) rfl rfl ?_
  exact xEx.loc (x_sub1 (List.Mem.tail _ (List.Mem.tail _ (List.Mem.head _))) (x_sub1 (List.Mem.tail _ (List.Mem.tail _ (List.Mem.tail _ (List.Mem.head _)))) (x_sub1 (List.Mem.tail _ (List.Mem.tail _ (List.Mem.tail _ (List.Mem.tail _ (List.Mem.head _))))) (x_sub1 (List.Mem.tail _ (List.Mem.tail _ (List.Mem.tail _ (List.Mem.tail _ (List.Mem.tail _ (List.Mem.head _)))))) (x_sub1 (List.Mem.tail _ (List.Mem.head _)) (x_sub1 (List.Mem.head _) x_sub0)))))) H

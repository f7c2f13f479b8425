def W_X2_end (s : yS) (v1 : Int32) (v2 : Int32) (Q : yS → Prop) : Prop :=
 vp_in 0 8 ∧ ∀ s2 : yS, s2 = wI s 124 (ix 0) v1 → 
 vp_in 1 8 ∧ ∀ s4 : yS, s4 = wI s2 124 (ix 1) v2 → 
 Q s4
set_option maxRecDepth 100000 in
set_option maxHeartbeats 40000000 in
theorem w_X2_end {G : xG} (hG : yG G) {z : Nat} {s : yS} {v1 : Int32} {v2 : Int32} {Q : yS → Prop} (H : W_X2_end s v1 v2 Q) : xC G mX2_end [.ref (q_b G + 123), .int v1, .int v2] (hS G s) z 0 0 (yQv G z Q) := by
  have hW := hG.1
  have hcl := hG.2.1
  have hty := hG.2.2.1
  have hO : xO G mX2_end tbX2_end ptX2_end := ⟨tkX2_end, pkX2_end hcl⟩
  unfold W_X2_end at H
  refine xC.of hW (by decide) rfl (Nat.le_of_ble_eq_true rfl) ?_
  refine s_aload_n (nx := 1) hO rfl rfl rfl ?_
  refine s_getf (v := .ref (q_b G + 124)) (nx := 4) hO rfl rfl (hs_o2 kc123) rfl rfl ?_
  refine s_iconst (x := 0) (nx := 5) hO rfl (by decide) rfl ?_
  refine s_iload_n (nx := 6) hO rfl rfl rfl ?_
  obtain ⟨b1, H⟩ := H
  refine goV (wI s 124 (ix 0) v1) (fun s2 es2 => ?_)
  replace H := H s2 es2
  refine s_iast (nx := 7) hO rfl (hs_I kc124) b1 rfl ?_
  refine xEx.at (up_I kc124 es2) ?_
  refine s_aload_n (nx := 8) hO rfl rfl rfl ?_
  refine s_getf (v := .ref (q_b G + 124)) (nx := 11) hO rfl rfl (hs_o2 kc123) rfl rfl ?_
  refine s_iconst (x := 1) (nx := 12) hO rfl (by decide) rfl ?_
  refine s_iload_n (nx := 13) hO rfl rfl rfl ?_
  obtain ⟨b3, H⟩ := H
  refine goV (wI s2 124 (ix 1) v2) (fun s4 es4 => ?_)
  replace H := H s4 es4
  refine s_iast (nx := 14) hO rfl (hs_I kc124) b3 rfl ?_
  refine xEx.at (up_I kc124 es4) ?_
  exact s_vret hO rfl rfl ⟨rfl, _, rfl, rfl, H⟩
def W_X2_argument (s : yS) (v1 : Int32) (v2 : Int32) (Q : Int32 → Prop) : Prop :=
 (((v1 - v1 / (nI 4) * (nI 4)) ≤ v2 → Q 0)
 ∧ (¬ (v1 - v1 / (nI 4) * (nI 4)) ≤ v2 → vp_in (((sI s 123 17) - (v1 - v1 / (nI 4) * (nI 4))) + v2) 640 ∧ 
  Q (sI s 131 (ix (((sI s 123 17) - (v1 - v1 / (nI 4) * (nI 4))) + v2)))))
set_option maxRecDepth 100000 in
set_option maxHeartbeats 40000000 in
theorem w_X2_argument {G : xG} (hG : yG G) {z : Nat} {s : yS} {v1 : Int32} {v2 : Int32} {Q : Int32 → Prop} (H : W_X2_argument s v1 v2 Q) : xC G mX2_argument [.ref (q_b G + 123), .int v1, .int v2] (hS G s) z 0 0 (yPi G z s Q) := by
  have hW := hG.1
  have hcl := hG.2.1
  have hty := hG.2.2.1
  have hO : xO G mX2_argument tbX2_argument ptX2_argument := ⟨tkX2_argument, pkX2_argument hcl⟩
  unfold W_X2_argument at H
  refine xC.of hW (by decide) rfl (Nat.le_of_ble_eq_true rfl) ?_
  refine s_iload_n (nx := 1) hO rfl rfl rfl ?_
  refine s_iload_n (nx := 2) hO rfl rfl rfl ?_
  refine s_iconst (x := (nI 4)) (nx := 3) hO rfl (by decide) rfl ?_
  refine s_irem (nx := 4) hO rfl (by decide) rfl ?_
  refine s_icmp_ge (nx := 7) hO rfl rfl (fun c4 => ?_) (fun c4 => ?_)
  · replace H := H.1 c4
    refine s_iconst (x := 0) (nx := 26) hO rfl (by decide) rfl ?_
    exact s_iret hO rfl rfl rfl ⟨rfl, _, rfl, rfl, H⟩
  · replace H := H.2 c4
    refine s_aload_n (nx := 8) hO rfl rfl rfl ?_
    refine s_getf (v := .ref (q_b G + 131)) (nx := 11) hO rfl rfl (hs_o2 kc123) rfl rfl ?_
    refine s_aload_n (nx := 12) hO rfl rfl rfl ?_
    refine s_getf (v := .int (sI s 123 17)) (nx := 15) hO rfl rfl (hs_o2 kc123) rfl rfl ?_
    refine s_iload_n (nx := 16) hO rfl rfl rfl ?_
    refine s_iconst (x := (nI 4)) (nx := 17) hO rfl (by decide) rfl ?_
    refine s_irem (nx := 18) hO rfl (by decide) rfl ?_
    refine s_isub (nx := 19) hO rfl rfl ?_
    refine s_iload_n (nx := 20) hO rfl rfl rfl ?_
    refine s_iadd (nx := 21) hO rfl rfl ?_
    obtain ⟨b1, H⟩ := H
    refine s_iald (nx := 22) hO rfl (hs_I kc131) b1 rfl ?_
    refine s_goto hO rfl ?_
    exact s_iret hO rfl rfl rfl ⟨rfl, _, rfl, rfl, H⟩
def W_X3_isTrue (s : yS) (g : Nat) (v1 : Int32) (v2 : Int32) (Q : Int32 → Prop) : Prop :=
 vp_in v1 864 ∧ 
 ∀ x2 : Int32, x2 = (sI s (g + 8) (ix v1)) → 
 vp_in v1 864 ∧ 
 ∀ x4 : Int32, x4 = (sI s (g + 7) (ix v1)) → 
 ((¬ x4 = 0 → ((¬ x4 = 1 → ((v2 ≤ x2 → Q 0)
   ∧ (¬ v2 ≤ x2 → Q 1)))
  ∧ (x4 = 1 → ((¬ v2 = x2 → Q 0)
   ∧ (v2 = x2 → Q 1)))))
 ∧ (x4 = 0 → ((x2 ≤ v2 → Q 0)
  ∧ (¬ x2 ≤ v2 → Q 1))))
set_option maxRecDepth 100000 in
set_option maxHeartbeats 40000000 in
theorem w_X3_isTrue {G : xG} (hG : yG G) {z : Nat} {s : yS} {g : Nat} {v1 : Int32} {v2 : Int32} {Q : Int32 → Prop} (hg : kd g = some (7, 0)) (H : W_X3_isTrue s g v1 v2 Q) : xC G mX3_isTrue [.ref (q_b G + g), .int v1, .int v2] (hS G s) z 0 0 (yPi G z s Q) := by
  have hW := hG.1
  have hcl := hG.2.1
  have hty := hG.2.2.1
  have hO : xO G mX3_isTrue tbX3_isTrue ptX3_isTrue := ⟨tkX3_isTrue, pkX3_isTrue hcl⟩
  unfold W_X3_isTrue at H
  refine xC.of hW (by decide) rfl (Nat.le_of_ble_eq_true rfl) ?_
  refine s_aload_n (nx := 1) hO rfl rfl rfl ?_
  refine s_getf (v := .ref (q_b G + (g + 8))) (nx := 4) hO rfl rfl (hs_o3 hg) rfl rfl ?_
  refine s_iload_n (nx := 5) hO rfl rfl rfl ?_
  obtain ⟨b1, H⟩ := H
  refine s_iald (nx := 6) hO rfl (hs_I (kf3_14 hg)) b1 rfl ?_
  refine goV ((sI s (g + 8) (ix v1))) (fun x2 ex2 => ?_)
  replace H := H x2 ex2
  refine e_istore_n (nx := 7) (l' := [(3, .int x2), (0, .ref (q_b G + g)), (1, .int v1), (2, .int v2)]) ex2 hO rfl (by decide) rfl rfl ?_
  refine s_aload_n (nx := 8) hO rfl rfl rfl ?_
  refine s_getf (v := .ref (q_b G + (g + 7))) (nx := 11) hO rfl rfl (hs_o3 hg) rfl rfl ?_
  refine s_iload_n (nx := 12) hO rfl rfl rfl ?_
  obtain ⟨b3, H⟩ := H
  refine s_iald (nx := 13) hO rfl (hs_I (kf3_13 hg)) b3 rfl ?_
  refine goV ((sI s (g + 7) (ix v1))) (fun x4 ex4 => ?_)
  replace H := H x4 ex4
  refine e_istore (nx := 15) (l' := [(4, .int x4), (3, .int x2), (0, .ref (q_b G + g)), (1, .int v1), (2, .int v2)]) ex4 hO rfl (by decide) rfl rfl ?_
  refine s_iload (nx := 17) hO rfl rfl rfl ?_
  refine s_if_ne (nx := 20) hO rfl rfl (fun c17 => ?_) (fun c17 => ?_)
  · replace H := H.1 c17
    refine s_iload (nx := 35) hO rfl rfl rfl ?_
    refine s_iconst (x := 1) (nx := 36) hO rfl (by decide) rfl ?_
    refine s_icmp_ne (nx := 39) hO rfl rfl (fun c36 => ?_) (fun c36 => ?_)
    · replace H := H.1 c36
      refine s_iload_n (nx := 53) hO rfl rfl rfl ?_
      refine s_iload_n (nx := 54) hO rfl rfl rfl ?_
      refine s_icmp_le (nx := 57) hO rfl rfl (fun c54 => ?_) (fun c54 => ?_)
      · replace H := H.1 c54
        refine s_iconst (x := 0) (nx := 62) hO rfl (by decide) rfl ?_
        exact s_iret hO rfl rfl rfl ⟨rfl, _, rfl, rfl, H⟩
      · replace H := H.2 c54
        refine s_iconst (x := 1) (nx := 58) hO rfl (by decide) rfl ?_
        refine s_goto hO rfl ?_
        exact s_iret hO rfl rfl rfl ⟨rfl, _, rfl, rfl, H⟩
    · replace H := H.2 c36
      refine s_iload_n (nx := 40) hO rfl rfl rfl ?_
      refine s_iload_n (nx := 41) hO rfl rfl rfl ?_
      refine s_icmp_ne (nx := 44) hO rfl rfl (fun c41 => ?_) (fun c41 => ?_)
      · replace H := H.1 c41
        refine s_iconst (x := 0) (nx := 49) hO rfl (by decide) rfl ?_
        refine s_goto hO rfl ?_
        exact s_iret hO rfl rfl rfl ⟨rfl, _, rfl, rfl, H⟩
      · replace H := H.2 c41
        refine s_iconst (x := 1) (nx := 45) hO rfl (by decide) rfl ?_
        refine s_goto hO rfl ?_
        exact s_iret hO rfl rfl rfl ⟨rfl, _, rfl, rfl, H⟩
  · replace H := H.2 c17
    refine s_iload_n (nx := 21) hO rfl rfl rfl ?_
    refine s_iload_n (nx := 22) hO rfl rfl rfl ?_
    refine s_icmp_ge (nx := 25) hO rfl rfl (fun c22 => ?_) (fun c22 => ?_)
    · replace H := H.1 c22
      refine s_iconst (x := 0) (nx := 30) hO rfl (by decide) rfl ?_
      refine s_goto hO rfl ?_
      exact s_iret hO rfl rfl rfl ⟨rfl, _, rfl, rfl, H⟩
    · replace H := H.2 c22
      refine s_iconst (x := 1) (nx := 26) hO rfl (by decide) rfl ?_
      refine s_goto hO rfl ?_
      exact s_iret hO rfl rfl rfl ⟨rfl, _, rfl, rfl, H⟩
def W_X3_holds (s : yS) (g : Nat) (v1 : Int32) (v2 : Int32) (a3 n3 : Nat) (Q : Int32 → Prop) : Prop :=
 W_X3_isFor s g v1 v2 
 (fun r1 => ((¬ r1 = 0 → vp_in v1 217 ∧ 
  ∀ P19 : Int32 → Prop, (∀ (x3 : Int32), (vp_in (v1 + 1) 217 ∧ 
   (((sI s (g + 5) (ix (v1 + 1))) ≤ x3 → Q 1)
   ∧ (¬ (sI s (g + 5) (ix (v1 + 1))) ≤ x3 → vp_in x3 864 ∧ 
    ∀ x6 : Int32, x6 = (sI s (g + 6) (ix x3)) → 
    ∀ P60 : Int32 → Prop, (∀ (y7 : Int32), (∀ P85 : Int32 → Prop, (∀ (y8 : Int32), (vp_in x3 864 ∧ 
      ((¬ y8 = (sI s (g + 9) (ix x3)) → ∀ x10 : Int32, x10 = (x3 + 1) → 
       P19 x10)
      ∧ (y8 = (sI s (g + 9) (ix x3)) → Q 0))) → P85 y8) → 
     ((y7 = 0 → P85 0)
     ∧ (¬ y7 = 0 → vp_in x6 n3 ∧ 
      W_X3_isTrue s g x3 (sI s a3 (ix x6)) 
      (fun r12 => ((r12 = 0 → P85 0)
      ∧ (¬ r12 = 0 → P85 1)))))) → P60 y7) → 
    (((nI 3) ≤ x6 → P60 1)
    ∧ (¬ (nI 3) ≤ x6 → (((v2 - v2 / (nI 4) * (nI 4)) ≤ x6 → P60 0)
     ∧ (¬ (v2 - v2 / (nI 4) * (nI 4)) ≤ x6 → P60 1))))))) → P19 x3) → 
  ∀ x13 : Int32, x13 = (sI s (g + 5) (ix v1)) → 
  P19 x13)
 ∧ (r1 = 0 → Q 0)))
set_option maxRecDepth 100000 in
set_option maxHeartbeats 40000000 in
theorem w_X3_holds {G : xG} (hG : yG G) {z : Nat} {s : yS} {g : Nat} {v1 : Int32} {v2 : Int32} {a3 n3 : Nat} {Q : Int32 → Prop} (hg : kd g = some (7, 0)) (ha3 : kd a3 = some (0, n3)) (H : W_X3_holds s g v1 v2 a3 n3 Q) : xC G mX3_holds [.ref (q_b G + g), .int v1, .int v2, .ref (q_b G + a3)] (hS G s) z 0 0 (yPi G z s Q) := by
  have hW := hG.1
  have hcl := hG.2.1
  have hty := hG.2.2.1
  have hO : xO G mX3_holds tbX3_holds ptX3_holds := ⟨tkX3_holds, pkX3_holds hcl⟩
  unfold W_X3_holds at H
  refine xC.of hW (by decide) rfl (Nat.le_of_ble_eq_true rfl) ?_
  refine s_aload_n (nx := 1) hO rfl rfl rfl ?_
  refine s_iload_n (nx := 2) hO rfl rfl rfl ?_
  refine s_iload_n (nx := 3) hO rfl rfl rfl ?_
  refine s_callV [.int v1, .int v2] (ci := 3) (F := TX3) (N := 20) (nx := 6) hO rfl kX3_holds_84 (by rw [hcl]; rfl) (hs_o3 hg) (w_X3_isFor hG hg H) rfl rfl (Nat.le_of_ble_eq_true rfl) (Nat.zero_le _) (Nat.zero_le _) rfl (k_Pi (fun r1 H => ?_))
  refine s_if_ne (nx := 9) hO rfl rfl (fun c6 => ?_) (fun c6 => ?_)
  · replace H := H.1 c6
    refine s_aload_n (nx := 12) hO rfl rfl rfl ?_
    refine s_getf (v := .ref (q_b G + (g + 5))) (nx := 15) hO rfl rfl (hs_o3 hg) rfl rfl ?_
    refine s_iload_n (nx := 16) hO rfl rfl rfl ?_
    obtain ⟨b2, H⟩ := H
    refine s_iald (nx := 17) hO rfl (hs_I (kf3_11 hg)) b2 rfl ?_
    refine goK (H (fun (x3 : Int32) => xEx G mX3_holds 19 [(0, .ref (q_b G + g)), (1, .int v1), (2, .int v2), (3, .ref (q_b G + a3)), (4, .int x3)] [] (hS G s) z 0 0 (yPi G z s Q)) (fun x3 H => ?_)) (fun H => ?_)
    · show xEx G mX3_holds 19 [(0, .ref (q_b G + g)), (1, .int v1), (2, .int v2), (3, .ref (q_b G + a3)), (4, .int x3)] [] (hS G s) z 0 0 (yPi G z s Q)
      refine s_iload (nx := 21) hO rfl rfl rfl ?_
      refine s_aload_n (nx := 22) hO rfl rfl rfl ?_
      refine s_getf (v := .ref (q_b G + (g + 5))) (nx := 25) hO rfl rfl (hs_o3 hg) rfl rfl ?_
      refine s_iload_n (nx := 26) hO rfl rfl rfl ?_
      refine s_iconst (x := 1) (nx := 27) hO rfl (by decide) rfl ?_
      refine s_iadd (nx := 28) hO rfl rfl ?_
      obtain ⟨b4, H⟩ := H
      refine s_iald (nx := 29) hO rfl (hs_I (kf3_11 hg)) b4 rfl ?_
      refine s_icmp_ge (nx := 32) hO rfl rfl (fun c29 => ?_) (fun c29 => ?_)
      · replace H := H.1 c29
        refine s_iconst (x := 1) (nx := 104) hO rfl (by decide) rfl ?_
        exact s_iret hO rfl rfl rfl ⟨rfl, _, rfl, rfl, H⟩
      · replace H := H.2 c29
        refine s_aload_n (nx := 33) hO rfl rfl rfl ?_
        refine s_getf (v := .ref (q_b G + (g + 6))) (nx := 36) hO rfl rfl (hs_o3 hg) rfl rfl ?_
        refine s_iload (nx := 38) hO rfl rfl rfl ?_
        obtain ⟨b5, H⟩ := H
        refine s_iald (nx := 39) hO rfl (hs_I (kf3_12 hg)) b5 rfl ?_
        refine goV ((sI s (g + 6) (ix x3))) (fun x6 ex6 => ?_)
        replace H := H x6 ex6
        refine e_istore (nx := 41) (l' := [(5, .int x6), (0, .ref (q_b G + g)), (1, .int v1), (2, .int v2), (3, .ref (q_b G + a3)), (4, .int x3)]) ex6 hO rfl (by decide) rfl rfl ?_
        refine s_iload (nx := 43) hO rfl rfl rfl ?_
        refine s_iconst (x := (nI 3)) (nx := 44) hO rfl (by decide) rfl ?_
        refine goK (H (fun (y7 : Int32) => xEx G mX3_holds 60 [(0, .ref (q_b G + g)), (1, .int v1), (2, .int v2), (3, .ref (q_b G + a3)), (4, .int x3), (5, .int x6)] [.int y7] (hS G s) z 0 0 (yPi G z s Q)) (fun y7 H => ?_)) (fun H => ?_)
        · show xEx G mX3_holds 60 [(0, .ref (q_b G + g)), (1, .int v1), (2, .int v2), (3, .ref (q_b G + a3)), (4, .int x3), (5, .int x6)] [.int y7] (hS G s) z 0 0 (yPi G z s Q)
          refine s_istore (nx := 62) (l' := [(6, .int y7), (0, .ref (q_b G + g)), (1, .int v1), (2, .int v2), (3, .ref (q_b G + a3)), (4, .int x3), (5, .int x6)]) hO rfl (by decide) rfl rfl ?_
          refine s_iload (nx := 64) hO rfl rfl rfl ?_
          refine goK (H (fun (y8 : Int32) => xEx G mX3_holds 85 [(0, .ref (q_b G + g)), (1, .int v1), (2, .int v2), (3, .ref (q_b G + a3)), (4, .int x3)] [.int y8] (hS G s) z 0 0 (yPi G z s Q)) (fun y8 H => ?_)) (fun H => ?_)
          · show xEx G mX3_holds 85 [(0, .ref (q_b G + g)), (1, .int v1), (2, .int v2), (3, .ref (q_b G + a3)), (4, .int x3)] [.int y8] (hS G s) z 0 0 (yPi G z s Q)
            refine s_aload_n (nx := 86) hO rfl rfl rfl ?_
            refine s_getf (v := .ref (q_b G + (g + 9))) (nx := 89) hO rfl rfl (hs_o3 hg) rfl rfl ?_
            refine s_iload (nx := 91) hO rfl rfl rfl ?_
            obtain ⟨b9, H⟩ := H
            refine s_zald (nx := 92) hO rfl (hs_Z (kf3_15 hg)) b9 rfl ?_
            refine s_icmp_ne (nx := 95) hO rfl rfl (fun c92 => ?_) (fun c92 => ?_)
            · replace H := H.1 c92
              refine goV ((x3 + 1)) (fun x10 ex10 => ?_)
              replace H := H x10 ex10
              refine e_iinc (nx := 100) (l' := [(4, .int x10), (0, .ref (q_b G + g)), (1, .int v1), (2, .int v2), (3, .ref (q_b G + a3))]) ex10 hO rfl (by decide) rfl rfl rfl rfl ?_
              refine s_goto hO rfl ?_
              exact xEx.loc (x_sub1 (List.Mem.tail _ (List.Mem.head _)) (x_sub1 (List.Mem.tail _ (List.Mem.tail _ (List.Mem.head _))) (x_sub1 (List.Mem.tail _ (List.Mem.tail _ (List.Mem.tail _ (List.Mem.head _)))) (x_sub1 (List.Mem.tail _ (List.Mem.tail _ (List.Mem.tail _ (List.Mem.tail _ (List.Mem.head _))))) (x_sub1 (List.Mem.head _) x_sub0))))) H
            · replace H := H.2 c92
              refine s_iconst (x := 0) (nx := 96) hO rfl (by decide) rfl ?_
              exact s_iret hO rfl rfl rfl ⟨rfl, _, rfl, rfl, H⟩
          refine s_if_eq (nx := 67) hO rfl rfl (fun c64 => ?_) (fun c64 => ?_)
          · replace H := H.1 c64
            refine s_iconst (x := 0) (nx := 85) hO rfl (by decide) rfl ?_
            exact xEx.loc (x_sub1 (List.Mem.tail _ (List.Mem.head _)) (x_sub1 (List.Mem.tail _ (List.Mem.tail _ (List.Mem.head _))) (x_sub1 (List.Mem.tail _ (List.Mem.tail _ (List.Mem.tail _ (List.Mem.head _)))) (x_sub1 (List.Mem.tail _ (List.Mem.tail _ (List.Mem.tail _ (List.Mem.tail _ (List.Mem.head _))))) (x_sub1 (List.Mem.tail _ (List.Mem.tail _ (List.Mem.tail _ (List.Mem.tail _ (List.Mem.tail _ (List.Mem.head _)))))) x_sub0))))) H
          · replace H := H.2 c64
            refine s_aload_n (nx := 68) hO rfl rfl rfl ?_
            refine s_iload (nx := 70) hO rfl rfl rfl ?_
            refine s_aload_n (nx := 71) hO rfl rfl rfl ?_
            refine s_iload (nx := 73) hO rfl rfl rfl ?_
            obtain ⟨b11, H⟩ := H
            refine s_iald (nx := 74) hO rfl (hs_I ha3) b11 rfl ?_
            refine s_callV [.int x3, .int (sI s a3 (ix x6))] (ci := 3) (F := TX3) (N := 20) (nx := 77) hO rfl kX3_holds_88 (by rw [hcl]; rfl) (hs_o3 hg) (w_X3_isTrue hG hg H) rfl rfl (Nat.le_of_ble_eq_true rfl) (Nat.zero_le _) (Nat.zero_le _) rfl (k_Pi (fun r12 H => ?_))
            refine s_if_eq (nx := 80) hO rfl rfl (fun c77 => ?_) (fun c77 => ?_)
            · replace H := H.1 c77
              refine s_iconst (x := 0) (nx := 85) hO rfl (by decide) rfl ?_
              exact xEx.loc (x_sub1 (List.Mem.tail _ (List.Mem.head _)) (x_sub1 (List.Mem.tail _ (List.Mem.tail _ (List.Mem.head _))) (x_sub1 (List.Mem.tail _ (List.Mem.tail _ (List.Mem.tail _ (List.Mem.head _)))) (x_sub1 (List.Mem.tail _ (List.Mem.tail _ (List.Mem.tail _ (List.Mem.tail _ (List.Mem.head _))))) (x_sub1 (List.Mem.tail _ (List.Mem.tail _ (List.Mem.tail _ (List.Mem.tail _ (List.Mem.tail _ (List.Mem.head _)))))) x_sub0))))) H
            · replace H := H.2 c77
              refine s_iconst (x := 1) (nx := 81) hO rfl (by decide) rfl ?_
              refine s_goto hO rfl ?_
              exact xEx.loc (x_sub1 (List.Mem.tail _ (List.Mem.head _)) (x_sub1 (List.Mem.tail _ (List.Mem.tail _ (List.Mem.head _))) (x_sub1 (List.Mem.tail _ (List.Mem.tail _ (List.Mem.tail _ (List.Mem.head _)))) (x_sub1 (List.Mem.tail _ (List.Mem.tail _ (List.Mem.tail _ (List.Mem.tail _ (List.Mem.head _))))) (x_sub1 (List.Mem.tail _ (List.Mem.tail _ (List.Mem.tail _ (List.Mem.tail _ (List.Mem.tail _ (List.Mem.head _)))))) x_sub0))))) H
        refine s_icmp_ge (nx := 47) hO rfl rfl (fun c44 => ?_) (fun c44 => ?_)
        · replace H := H.1 c44
          refine s_iconst (x := 1) (nx := 56) hO rfl (by decide) rfl ?_
          refine s_goto hO rfl ?_
          exact xEx.loc (x_sub1 (List.Mem.tail _ (List.Mem.head _)) (x_sub1 (List.Mem.tail _ (List.Mem.tail _ (List.Mem.head _))) (x_sub1 (List.Mem.tail _ (List.Mem.tail _ (List.Mem.tail _ (List.Mem.head _)))) (x_sub1 (List.Mem.tail _ (List.Mem.tail _ (List.Mem.tail _ (List.Mem.tail _ (List.Mem.head _))))) (x_sub1 (List.Mem.tail _ (List.Mem.tail _ (List.Mem.tail _ (List.Mem.tail _ (List.Mem.tail _ (List.Mem.head _)))))) (x_sub1 (List.Mem.head _) x_sub0)))))) H
        · replace H := H.2 c44
          refine s_iload (nx := 49) hO rfl rfl rfl ?_
          refine s_iload_n (nx := 50) hO rfl rfl rfl ?_
          refine s_iconst (x := (nI 4)) (nx := 51) hO rfl (by decide) rfl ?_
          refine s_irem (nx := 52) hO rfl (by decide) rfl ?_
          refine s_icmp_ge (nx := 55) hO rfl rfl (fun c52 => ?_) (fun c52 => ?_)
          · replace H := H.1 c52
            refine s_iconst (x := 0) (nx := 60) hO rfl (by decide) rfl ?_
            exact xEx.loc (x_sub1 (List.Mem.tail _ (List.Mem.head _)) (x_sub1 (List.Mem.tail _ (List.Mem.tail _ (List.Mem.head _))) (x_sub1 (List.Mem.tail _ (List.Mem.tail _ (List.Mem.tail _ (List.Mem.head _)))) (x_sub1 (List.Mem.tail _ (List.Mem.tail _ (List.Mem.tail _ (List.Mem.tail _ (List.Mem.head _))))) (x_sub1 (List.Mem.tail _ (List.Mem.tail _ (List.Mem.tail _ (List.Mem.tail _ (List.Mem.tail _ (List.Mem.head _)))))) (x_sub1 (List.Mem.head _) x_sub0)))))) H
          · replace H := H.2 c52
            refine s_iconst (x := 1) (nx := 56) hO rfl (by decide) rfl ?_
            refine s_goto hO rfl ?_
            exact xEx.loc (x_sub1 (List.Mem.tail _ (List.Mem.head _)) (x_sub1 (List.Mem.tail _ (List.Mem.tail _ (List.Mem.head _))) (x_sub1 (List.Mem.tail _ (List.Mem.tail _ (List.Mem.tail _ (List.Mem.head _)))) (x_sub1 (List.Mem.tail _ (List.Mem.tail _ (List.Mem.tail _ (List.Mem.tail _ (List.Mem.head _))))) (x_sub1 (List.Mem.tail _ (List.Mem.tail _ (List.Mem.tail _ (List.Mem.tail _ (List.Mem.tail _ (List.Mem.head _)))))) (x_sub1 (List.Mem.head _) x_sub0)))))) H
    refine goV ((sI s (g + 5) (ix v1))) (fun x13 ex13 => ?_)
    replace H := H x13 ex13
    refine e_istore (nx := 19) (l' := [(4, .int x13), (0, .ref (q_b G + g)), (1, .int v1), (2, .int v2), (3, .ref (q_b G + a3))]) ex13 hO rfl (by decide) rfl rfl ?_
    exact xEx.loc (x_sub1 (List.Mem.tail _ (List.Mem.head _)) (x_sub1 (List.Mem.tail _ (List.Mem.tail _ (List.Mem.head _))) (x_sub1 (List.Mem.tail _ (List.Mem.tail _ (List.Mem.tail _ (List.Mem.head _)))) (x_sub1 (List.Mem.tail _ (List.Mem.tail _ (List.Mem.tail _ (List.Mem.tail _ (List.Mem.head _))))) (x_sub1 (List.Mem.head _) x_sub0))))) H
  · replace H := H.2 c6
    refine s_iconst (x := 0) (nx := 10) hO rfl (by decide) rfl ?_
    exact s_iret hO rfl rfl rfl ⟨rfl, _, rfl, rfl, H⟩
def W_X3_stepCounters (s : yS) (g : Nat) (a1 n1 : Nat) (v2 : Int32) (a3 n3 : Nat) (Q : yS → Prop) : Prop :=
 ∀ P3 : Int32 → yS → Prop, (∀ (x1 : Int32) (s2 : yS), ((((sI s2 g 0) ≤ x1 → Q s2)
  ∧ (¬ (sI s2 g 0) ≤ x1 → vp_in x1 31 ∧ 
   ∀ P21 : Int32 → Prop, (∀ (x4 : Int32), (vp_in (x1 + 1) 31 ∧ 
    ∀ P89 : yS → Prop, (∀ (s6 : yS), (∀ x7 : Int32, x7 = (x1 + 1) → 
     P3 x7 s6) → P89 s6) → 
    (((sI s2 (g + 2) (ix (x1 + 1))) ≤ x4 → P89 s2)
    ∧ (¬ (sI s2 (g + 2) (ix (x1 + 1))) ≤ x4 → W_X3_holds s2 g x4 v2 a3 n3 
     (fun r8 => ((r8 = 0 → ∀ x9 : Int32, x9 = (x4 + 1) → 
      P21 x9)
     ∧ (¬ r8 = 0 → vp_in x4 216 ∧ 
      ∀ P79 : Int32 → Prop, (∀ (y11 : Int32), (vp_in x1 n1 ∧ ∀ s13 : yS, s13 = wI s2 a1 (ix x1) y11 → 
       P89 s13) → P79 y11) → 
      ((¬ (sI s2 (g + 4) (ix x4)) = 0 → vp_in x1 6 ∧ 
       vp_in x1 n1 ∧ 
       P79 (if ((sI s2 a1 (ix x1)) + 1) < (sI s2 (g + 1) (ix x1)) then ((sI s2 a1 (ix x1)) + 1) else (sI s2 (g + 1) (ix x1))))
      ∧ ((sI s2 (g + 4) (ix x4)) = 0 → P79 0)))))))) → P21 x4) → 
   ∀ x16 : Int32, x16 = (sI s2 (g + 2) (ix x1)) → 
   P21 x16))) → P3 x1 s2) → 
 P3 0 s
set_option maxRecDepth 100000 in
set_option maxHeartbeats 40000000 in
theorem w_X3_stepCounters {G : xG} (hG : yG G) {z : Nat} {s : yS} {g : Nat} {a1 n1 : Nat} {v2 : Int32} {a3 n3 : Nat} {Q : yS → Prop} (hg : kd g = some (7, 0)) (ha1 : kd a1 = some (0, n1)) (ha3 : kd a3 = some (0, n3)) (H : W_X3_stepCounters s g a1 n1 v2 a3 n3 Q) : xC G mX3_stepCounters [.ref (q_b G + g), .ref (q_b G + a1), .int v2, .ref (q_b G + a3)] (hS G s) z 0 0 (yQv G z Q) := by
  have hW := hG.1
  have hcl := hG.2.1
  have hty := hG.2.2.1
  have hO : xO G mX3_stepCounters tbX3_stepCounters ptX3_stepCounters := ⟨tkX3_stepCounters, pkX3_stepCounters hcl⟩
  unfold W_X3_stepCounters at H
  refine xC.of hW (by decide) rfl (Nat.le_of_ble_eq_true rfl) ?_
  refine s_iconst (x := 0) (nx := 1) hO rfl (by decide) rfl ?_
  refine goK (H (fun (x1 : Int32) (s2 : yS) => xEx G mX3_stepCounters 3 [(0, .ref (q_b G + g)), (1, .ref (q_b G + a1)), (2, .int v2), (3, .ref (q_b G + a3)), (4, .int x1)] [] (hS G s2) z 0 0 (yQv G z Q)) (fun x1 s2 H => ?_)) (fun H => ?_)
  · show xEx G mX3_stepCounters 3 [(0, .ref (q_b G + g)), (1, .ref (q_b G + a1)), (2, .int v2), (3, .ref (q_b G + a3)), (4, .int x1)] [] (hS G s2) z 0 0 (yQv G z Q)
    refine s_iload (nx := 5) hO rfl rfl rfl ?_
    refine s_aload_n (nx := 6) hO rfl rfl rfl ?_
    refine s_getf (v := .int (sI s2 g 0)) (nx := 9) hO rfl rfl (hs_o3 hg) rfl rfl ?_
    refine s_icmp_ge (nx := 12) hO rfl rfl (fun c9 => ?_) (fun c9 => ?_)
    · replace H := H.1 c9
      exact s_vret hO rfl rfl ⟨rfl, _, rfl, rfl, H⟩
    · replace H := H.2 c9
      refine s_aload_n (nx := 13) hO rfl rfl rfl ?_
      refine s_getf (v := .ref (q_b G + (g + 2))) (nx := 16) hO rfl rfl (hs_o3 hg) rfl rfl ?_
      refine s_iload (nx := 18) hO rfl rfl rfl ?_
      obtain ⟨b3, H⟩ := H
      refine s_iald (nx := 19) hO rfl (hs_I (kf3_8 hg)) b3 rfl ?_
      refine goK (H (fun (x4 : Int32) => xEx G mX3_stepCounters 21 [(0, .ref (q_b G + g)), (1, .ref (q_b G + a1)), (2, .int v2), (3, .ref (q_b G + a3)), (4, .int x1), (5, .int x4)] [] (hS G s2) z 0 0 (yQv G z Q)) (fun x4 H => ?_)) (fun H => ?_)
      · show xEx G mX3_stepCounters 21 [(0, .ref (q_b G + g)), (1, .ref (q_b G + a1)), (2, .int v2), (3, .ref (q_b G + a3)), (4, .int x1), (5, .int x4)] [] (hS G s2) z 0 0 (yQv G z Q)
        refine s_iload (nx := 23) hO rfl rfl rfl ?_
        refine s_aload_n (nx := 24) hO rfl rfl rfl ?_
        refine s_getf (v := .ref (q_b G + (g + 2))) (nx := 27) hO rfl rfl (hs_o3 hg) rfl rfl ?_
        refine s_iload (nx := 29) hO rfl rfl rfl ?_
        refine s_iconst (x := 1) (nx := 30) hO rfl (by decide) rfl ?_
        refine s_iadd (nx := 31) hO rfl rfl ?_
        obtain ⟨b5, H⟩ := H
        refine s_iald (nx := 32) hO rfl (hs_I (kf3_8 hg)) b5 rfl ?_
        refine goK (H (fun (s6 : yS) => xEx G mX3_stepCounters 89 [(0, .ref (q_b G + g)), (1, .ref (q_b G + a1)), (2, .int v2), (3, .ref (q_b G + a3)), (4, .int x1)] [] (hS G s6) z 0 0 (yQv G z Q)) (fun s6 H => ?_)) (fun H => ?_)
        · show xEx G mX3_stepCounters 89 [(0, .ref (q_b G + g)), (1, .ref (q_b G + a1)), (2, .int v2), (3, .ref (q_b G + a3)), (4, .int x1)] [] (hS G s6) z 0 0 (yQv G z Q)
          refine goV ((x1 + 1)) (fun x7 ex7 => ?_)
          replace H := H x7 ex7
          refine e_iinc (nx := 92) (l' := [(4, .int x7), (0, .ref (q_b G + g)), (1, .ref (q_b G + a1)), (2, .int v2), (3, .ref (q_b G + a3))]) ex7 hO rfl (by decide) rfl rfl rfl rfl ?_
          refine s_goto hO rfl ?_
          exact xEx.loc (x_sub1 (List.Mem.tail _ (List.Mem.head _)) (x_sub1 (List.Mem.tail _ (List.Mem.tail _ (List.Mem.head _))) (x_sub1 (List.Mem.tail _ (List.Mem.tail _ (List.Mem.tail _ (List.Mem.head _)))) (x_sub1 (List.Mem.tail _ (List.Mem.tail _ (List.Mem.tail _ (List.Mem.tail _ (List.Mem.head _))))) (x_sub1 (List.Mem.head _) x_sub0))))) H
        refine s_icmp_ge (nx := 35) hO rfl rfl (fun c32 => ?_) (fun c32 => ?_)
        · replace H := H.1 c32
          exact xEx.loc (x_sub1 (List.Mem.head _) (x_sub1 (List.Mem.tail _ (List.Mem.head _)) (x_sub1 (List.Mem.tail _ (List.Mem.tail _ (List.Mem.head _))) (x_sub1 (List.Mem.tail _ (List.Mem.tail _ (List.Mem.tail _ (List.Mem.head _)))) (x_sub1 (List.Mem.tail _ (List.Mem.tail _ (List.Mem.tail _ (List.Mem.tail _ (List.Mem.head _))))) x_sub0))))) H
        · replace H := H.2 c32
          refine s_aload_n (nx := 36) hO rfl rfl rfl ?_
          refine s_iload (nx := 38) hO rfl rfl rfl ?_
          refine s_iload_n (nx := 39) hO rfl rfl rfl ?_
          refine s_aload_n (nx := 40) hO rfl rfl rfl ?_
          refine s_callV [.int x4, .int v2, .ref (q_b G + a3)] (ci := 3) (F := TX3) (N := 20) (nx := 43) hO rfl kX3_stepCounters_91 (by rw [hcl]; rfl) (hs_o3 hg) (w_X3_holds hG hg ha3 H) rfl rfl (Nat.le_of_ble_eq_true rfl) (Nat.zero_le _) (Nat.zero_le _) rfl (k_Pi (fun r8 H => ?_))
          refine s_if_eq (nx := 46) hO rfl rfl (fun c43 => ?_) (fun c43 => ?_)
          · replace H := H.1 c43
            refine goV ((x4 + 1)) (fun x9 ex9 => ?_)
            replace H := H x9 ex9
            refine e_iinc (nx := 86) (l' := [(5, .int x9), (0, .ref (q_b G + g)), (1, .ref (q_b G + a1)), (2, .int v2), (3, .ref (q_b G + a3)), (4, .int x1)]) ex9 hO rfl (by decide) rfl rfl rfl rfl ?_
            refine s_goto hO rfl ?_
            exact xEx.loc (x_sub1 (List.Mem.tail _ (List.Mem.head _)) (x_sub1 (List.Mem.tail _ (List.Mem.tail _ (List.Mem.head _))) (x_sub1 (List.Mem.tail _ (List.Mem.tail _ (List.Mem.tail _ (List.Mem.head _)))) (x_sub1 (List.Mem.tail _ (List.Mem.tail _ (List.Mem.tail _ (List.Mem.tail _ (List.Mem.head _))))) (x_sub1 (List.Mem.tail _ (List.Mem.tail _ (List.Mem.tail _ (List.Mem.tail _ (List.Mem.tail _ (List.Mem.head _)))))) (x_sub1 (List.Mem.head _) x_sub0)))))) H
          · replace H := H.2 c43
            refine s_aload_n (nx := 47) hO rfl rfl rfl ?_
            refine s_iload (nx := 49) hO rfl rfl rfl ?_
            refine s_aload_n (nx := 50) hO rfl rfl rfl ?_
            refine s_getf (v := .ref (q_b G + (g + 4))) (nx := 53) hO rfl rfl (hs_o3 hg) rfl rfl ?_
            refine s_iload (nx := 55) hO rfl rfl rfl ?_
            obtain ⟨b10, H⟩ := H
            refine s_iald (nx := 56) hO rfl (hs_I (kf3_10 hg)) b10 rfl ?_
            refine goK (H (fun (y11 : Int32) => xEx G mX3_stepCounters 79 [(0, .ref (q_b G + g)), (1, .ref (q_b G + a1)), (2, .int v2), (3, .ref (q_b G + a3)), (4, .int x1)] [.int y11, .int x1, .ref (q_b G + a1)] (hS G s2) z 0 0 (yQv G z Q)) (fun y11 H => ?_)) (fun H => ?_)
            · show xEx G mX3_stepCounters 79 [(0, .ref (q_b G + g)), (1, .ref (q_b G + a1)), (2, .int v2), (3, .ref (q_b G + a3)), (4, .int x1)] [.int y11, .int x1, .ref (q_b G + a1)] (hS G s2) z 0 0 (yQv G z Q)
              obtain ⟨b12, H⟩ := H
              refine goV (wI s2 a1 (ix x1) y11) (fun s13 es13 => ?_)
              replace H := H s13 es13
              refine s_iast (nx := 80) hO rfl (hs_I ha1) b12 rfl ?_
              refine xEx.at (up_I ha1 es13) ?_
              refine s_goto hO rfl ?_
              exact xEx.loc (x_sub1 (List.Mem.head _) (x_sub1 (List.Mem.tail _ (List.Mem.head _)) (x_sub1 (List.Mem.tail _ (List.Mem.tail _ (List.Mem.head _))) (x_sub1 (List.Mem.tail _ (List.Mem.tail _ (List.Mem.tail _ (List.Mem.head _)))) (x_sub1 (List.Mem.tail _ (List.Mem.tail _ (List.Mem.tail _ (List.Mem.tail _ (List.Mem.head _))))) x_sub0))))) H
            refine s_if_ne (nx := 59) hO rfl rfl (fun c56 => ?_) (fun c56 => ?_)
            · replace H := H.1 c56
              refine s_aload_n (nx := 64) hO rfl rfl rfl ?_
              refine s_getf (v := .ref (q_b G + (g + 1))) (nx := 67) hO rfl rfl (hs_o3 hg) rfl rfl ?_
              refine s_iload (nx := 69) hO rfl rfl rfl ?_
              obtain ⟨b14, H⟩ := H
              refine s_iald (nx := 70) hO rfl (hs_I (kf3_7 hg)) b14 rfl ?_
              refine s_aload_n (nx := 71) hO rfl rfl rfl ?_
              refine s_iload (nx := 73) hO rfl rfl rfl ?_
              obtain ⟨b15, H⟩ := H
              refine s_iald (nx := 74) hO rfl (hs_I ha1) b15 rfl ?_
              refine s_iconst (x := 1) (nx := 75) hO rfl (by decide) rfl ?_
              refine s_iadd (nx := 76) hO rfl rfl ?_
              refine s_min (nx := 79) hO rfl (List.mem_cons_of_mem _ (ir58 _ (List.mem_of_getElem? (i := 9) rfl))) (List.mem_cons_of_mem _ (ir41 _ (List.mem_of_getElem? (i := 0) rfl))) (List.mem_cons_of_mem _ (ir25 _ (List.mem_of_getElem? (i := 9) rfl))) (List.mem_cons_of_mem _ (ir41 _ (List.mem_of_getElem? (i := 1) rfl))) (by decide) (Nat.le_of_ble_eq_true rfl) rfl ?_
              exact xEx.loc (x_sub1 (List.Mem.head _) (x_sub1 (List.Mem.tail _ (List.Mem.head _)) (x_sub1 (List.Mem.tail _ (List.Mem.tail _ (List.Mem.head _))) (x_sub1 (List.Mem.tail _ (List.Mem.tail _ (List.Mem.tail _ (List.Mem.head _)))) (x_sub1 (List.Mem.tail _ (List.Mem.tail _ (List.Mem.tail _ (List.Mem.tail _ (List.Mem.head _))))) x_sub0))))) H
            · replace H := H.2 c56
              refine s_iconst (x := 0) (nx := 60) hO rfl (by decide) rfl ?_
              refine s_goto hO rfl ?_
              exact xEx.loc (x_sub1 (List.Mem.head _) (x_sub1 (List.Mem.tail _ (List.Mem.head _)) (x_sub1 (List.Mem.tail _ (List.Mem.tail _ (List.Mem.head _))) (x_sub1 (List.Mem.tail _ (List.Mem.tail _ (List.Mem.tail _ (List.Mem.head _)))) (x_sub1 (List.Mem.tail _ (List.Mem.tail _ (List.Mem.tail _ (List.Mem.tail _ (List.Mem.head _))))) x_sub0))))) H
      refine goV ((sI s2 (g + 2) (ix x1))) (fun x16 ex16 => ?_)
      replace H := H x16 ex16
      refine e_istore (nx := 21) (l' := [(5, .int x16), (0, .ref (q_b G + g)), (1, .ref (q_b G + a1)), (2, .int v2), (3, .ref (q_b G + a3)), (4, .int x1)]) ex16 hO rfl (by decide) rfl rfl ?_
      exact xEx.loc (x_sub1 (List.Mem.tail _ (List.Mem.head _)) (x_sub1 (List.Mem.tail _ (List.Mem.tail _ (List.Mem.head _))) (x_sub1 (List.Mem.tail _ (List.Mem.tail _ (List.Mem.tail _ (List.Mem.head _)))) (x_sub1 (List.Mem.tail _ (List.Mem.tail _ (List.Mem.tail _ (List.Mem.tail _ (List.Mem.head _))))) (x_sub1 (List.Mem.tail _ (List.Mem.tail _ (List.Mem.tail _ (List.Mem.tail _ (List.Mem.tail _ (List.Mem.head _)))))) (x_sub1 (List.Mem.head _) x_sub0)))))) H
  refine s_istore (nx := 3) (l' := [(4, .int 0), (0, .ref (q_b G + g)), (1, .ref (q_b G + a1)), (2, .int v2), (3, .ref (q_b G + a3))]) hO rfl (by decide) rfl rfl ?_
  exact xEx.loc (x_sub1 (List.Mem.tail _ (List.Mem.head _)) (x_sub1 (List.Mem.tail _ (List.Mem.tail _ (List.Mem.head _))) (x_sub1 (List.Mem.tail _ (List.Mem.tail _ (List.Mem.tail _ (List.Mem.head _)))) (x_sub1 (List.Mem.tail _ (List.Mem.tail _ (List.Mem.tail _ (List.Mem.tail _ (List.Mem.head _))))) (x_sub1 (List.Mem.head _) x_sub0))))) H
def W_X10_pass (s : yS) (g : Nat) (o1 : Nat) (v2 : Int32) (v3 : Int32) (v4 : Int32) (v5 : Int32) (Q : Int32 → yS → Prop) : Prop :=
 vp_in 0 9 ∧ ∀ s2 : yS, s2 = wI s (g + 2) (ix 0) v3 → 
 vp_in 1 9 ∧ ∀ s4 : yS, s4 = wI s2 (g + 2) (ix 1) v4 → 
 vp_in (nI 2) 9 ∧ ∀ s6 : yS, s6 = wI s4 (g + 2) (ix (nI 2)) v5 → 
 (¬ (0 : Int32) < 0 ∧ ¬ ((nI 3) : Int32) < 0 ∧ ¬ ((nI 6) : Int32) < 0 ∧ ix 0 + ix (nI 6) ≤ 6 ∧ ix (nI 3) + ix (nI 6) ≤ 9) ∧ ∀ s7 : yS, s7 = wC s6 (g + 2) (va_cpy (sI s6 (g + 1)) (sI s6 (g + 2)) (ix 0) (ix (nI 3)) (ix (nI 6))) → 
 W_X1_find s7 (o1 + 10) v2 (g + 2) 9 
 (fun r9 => vp_in (((sI s7 g 0) * (nI 512)) + r9) 32256 ∧ 
 ∀ x11 : Int32, x11 = (sI s7 (o1 + 14) (ix (((sI s7 g 0) * (nI 512)) + r9))) → 
 ((¬ x11 = (-1) → ∀ s12 : yS, s12 = wI s7 g 0 x11 → 
  W_X3_stepCounters s12 o1 (g + 1) 6 v2 (g + 2) 9 
  (fun s13 => Q 1 s13))
 ∧ (x11 = (-1) → Q 0 s7)))
set_option maxRecDepth 100000 in
set_option maxHeartbeats 40000000 in
theorem w_X10_pass {G : xG} (hG : yG G) {z : Nat} {s : yS} {g : Nat} {o1 : Nat} {v2 : Int32} {v3 : Int32} {v4 : Int32} {v5 : Int32} {Q : Int32 → yS → Prop} (hg : kd g = some (14, 0)) (ho1 : kd o1 = some (7, 0)) (H : W_X10_pass s g o1 v2 v3 v4 v5 Q) : xC G mX10_pass [.ref (q_b G + g), .ref (q_b G + o1), .int v2, .int v3, .int v4, .int v5] (hS G s) z 0 0 (yQi G z Q) := by
  have hW := hG.1
  have hcl := hG.2.1
  have hty := hG.2.2.1
  have hO : xO G mX10_pass tbX10_pass ptX10_pass := ⟨tkX10_pass, pkX10_pass hcl⟩
  unfold W_X10_pass at H
  refine xC.of hW (by decide) rfl (Nat.le_of_ble_eq_true rfl) ?_
  refine s_aload_n (nx := 1) hO rfl rfl rfl ?_
  refine s_getf (v := .ref (q_b G + (g + 2))) (nx := 4) hO rfl rfl (hs_o10 hg) rfl rfl ?_
  refine s_iconst (x := 0) (nx := 5) hO rfl (by decide) rfl ?_
  refine s_iload_n (nx := 6) hO rfl rfl rfl ?_
  obtain ⟨b1, H⟩ := H
  refine goV (wI s (g + 2) (ix 0) v3) (fun s2 es2 => ?_)
  replace H := H s2 es2
  refine s_iast (nx := 7) hO rfl (hs_I (kf10_2 hg)) b1 rfl ?_
  refine xEx.at (up_I (kf10_2 hg) es2) ?_
  refine s_aload_n (nx := 8) hO rfl rfl rfl ?_
  refine s_getf (v := .ref (q_b G + (g + 2))) (nx := 11) hO rfl rfl (hs_o10 hg) rfl rfl ?_
  refine s_iconst (x := 1) (nx := 12) hO rfl (by decide) rfl ?_
  refine s_iload (nx := 14) hO rfl rfl rfl ?_
  obtain ⟨b3, H⟩ := H
  refine goV (wI s2 (g + 2) (ix 1) v4) (fun s4 es4 => ?_)
  replace H := H s4 es4
  refine s_iast (nx := 15) hO rfl (hs_I (kf10_2 hg)) b3 rfl ?_
  refine xEx.at (up_I (kf10_2 hg) es4) ?_
  refine s_aload_n (nx := 16) hO rfl rfl rfl ?_
  refine s_getf (v := .ref (q_b G + (g + 2))) (nx := 19) hO rfl rfl (hs_o10 hg) rfl rfl ?_
  refine s_iconst (x := (nI 2)) (nx := 20) hO rfl (by decide) rfl ?_
  refine s_iload (nx := 22) hO rfl rfl rfl ?_
  obtain ⟨b5, H⟩ := H
  refine goV (wI s4 (g + 2) (ix (nI 2)) v5) (fun s6 es6 => ?_)
  replace H := H s6 es6
  refine s_iast (nx := 23) hO rfl (hs_I (kf10_2 hg)) b5 rfl ?_
  refine xEx.at (up_I (kf10_2 hg) es6) ?_
  refine s_aload_n (nx := 24) hO rfl rfl rfl ?_
  refine s_getf (v := .ref (q_b G + (g + 1))) (nx := 27) hO rfl rfl (hs_o10 hg) rfl rfl ?_
  refine s_iconst (x := 0) (nx := 28) hO rfl (by decide) rfl ?_
  refine s_aload_n (nx := 29) hO rfl rfl rfl ?_
  refine s_getf (v := .ref (q_b G + (g + 2))) (nx := 32) hO rfl rfl (hs_o10 hg) rfl rfl ?_
  refine s_iconst (x := (nI 3)) (nx := 33) hO rfl (by decide) rfl ?_
  refine s_bipush (x := (nI 6)) (nx := 35) hO rfl (by decide) rfl ?_
  obtain ⟨b8, H⟩ := H
  refine goV (wC s6 (g + 2) (va_cpy (sI s6 (g + 1)) (sI s6 (g + 2)) (ix 0) (ix (nI 3)) (ix (nI 6)))) (fun s7 es7 => ?_)
  replace H := H s7 es7
  refine e_copy (nx := 38) hO rfl x_tyI rfl (hs_I (kf10_1 hg)) (hs_I (kf10_2 hg)) b8 (fun _ _ => rfl) (List.mem_cons_of_mem _ (ir57 _ (List.mem_of_getElem? (i := 18) rfl))) (List.mem_cons_of_mem _ (ir23 _ (List.mem_of_getElem? (i := 22) rfl))) (List.mem_cons_of_mem _ (ir23 _ (List.mem_of_getElem? (i := 23) rfl))) (List.mem_cons_of_mem _ (ir24 _ (List.mem_of_getElem? (i := 0) rfl))) (by decide) (Nat.le_of_ble_eq_true rfl) rfl (up_CI (kf10_2 hg) es7) ?_
  refine s_aload_n (nx := 39) hO rfl rfl rfl ?_
  refine s_getf (v := .ref (q_b G + (o1 + 14))) (nx := 42) hO rfl rfl (hs_o3 ho1) rfl rfl ?_
  refine s_aload_n (nx := 43) hO rfl rfl rfl ?_
  refine s_getf (v := .int (sI s7 g 0)) (nx := 46) hO rfl rfl (hs_o10 hg) rfl rfl ?_
  refine s_sipush (x := (nI 512)) (nx := 49) hO rfl (by decide) rfl ?_
  refine s_imul (nx := 50) hO rfl rfl ?_
  refine s_aload_n (nx := 51) hO rfl rfl rfl ?_
  refine s_getf (v := .ref (q_b G + (o1 + 10))) (nx := 54) hO rfl rfl (hs_o3 ho1) rfl rfl ?_
  refine s_iload_n (nx := 55) hO rfl rfl rfl ?_
  refine s_aload_n (nx := 56) hO rfl rfl rfl ?_
  refine s_getf (v := .ref (q_b G + (g + 2))) (nx := 59) hO rfl rfl (hs_o10 hg) rfl rfl ?_
  refine s_callV [.int v2, .ref (q_b G + (g + 2))] (ci := 1) (F := TX1) (N := 3) (nx := 62) hO rfl kX10_pass_43 (by rw [hcl]; rfl) (hs_o1 (kf3_16 ho1)) (w_X1_find hG (kf3_16 ho1) (kf10_2 hg) H) rfl rfl (Nat.le_of_ble_eq_true rfl) (Nat.zero_le _) (Nat.zero_le _) rfl (k_Pi (fun r9 H => ?_))
  refine s_iadd (nx := 63) hO rfl rfl ?_
  obtain ⟨b10, H⟩ := H
  refine s_iald (nx := 64) hO rfl (hs_I (kf3_17 ho1)) b10 rfl ?_
  refine goV ((sI s7 (o1 + 14) (ix (((sI s7 g 0) * (nI 512)) + r9)))) (fun x11 ex11 => ?_)
  replace H := H x11 ex11
  refine e_istore (nx := 66) (l' := [(6, .int x11), (0, .ref (q_b G + g)), (1, .ref (q_b G + o1)), (2, .int v2), (3, .int v3), (4, .int v4), (5, .int v5)]) ex11 hO rfl (by decide) rfl rfl ?_
  refine s_iload (nx := 68) hO rfl rfl rfl ?_
  refine s_iconst (x := (-1)) (nx := 69) hO rfl (by decide) rfl ?_
  refine s_icmp_ne (nx := 72) hO rfl rfl (fun c69 => ?_) (fun c69 => ?_)
  · replace H := H.1 c69
    refine s_aload_n (nx := 75) hO rfl rfl rfl ?_
    refine s_iload (nx := 77) hO rfl rfl rfl ?_
    refine goV (wI s7 g 0 x11) (fun s12 es12 => ?_)
    replace H := H s12 es12
    refine s_putf (nx := 80) hO rfl rfl (hs_o10 hg) (Nat.le_of_ble_eq_true rfl) (by rw [hty]; rfl) (by rw [hty]; rfl) pX10_0 rfl ?_
    refine xEx.at (up_oI10 hg es12) ?_
    refine s_aload_n (nx := 81) hO rfl rfl rfl ?_
    refine s_aload_n (nx := 82) hO rfl rfl rfl ?_
    refine s_getf (v := .ref (q_b G + (g + 1))) (nx := 85) hO rfl rfl (hs_o10 hg) rfl rfl ?_
    refine s_iload_n (nx := 86) hO rfl rfl rfl ?_
    refine s_aload_n (nx := 87) hO rfl rfl rfl ?_
    refine s_getf (v := .ref (q_b G + (g + 2))) (nx := 90) hO rfl rfl (hs_o10 hg) rfl rfl ?_
    refine s_callV [.ref (q_b G + (g + 1)), .int v2, .ref (q_b G + (g + 2))] (ci := 3) (F := TX3) (N := 20) (nx := 93) hO rfl kX10_pass_49 (by rw [hcl]; rfl) (hs_o3 ho1) (w_X3_stepCounters hG ho1 (kf10_1 hg) (kf10_2 hg) H) rfl rfl (Nat.le_of_ble_eq_true rfl) (Nat.zero_le _) (Nat.zero_le _) rfl (k_Qv (fun s13 H => ?_))
    refine s_iconst (x := 1) (nx := 94) hO rfl (by decide) rfl ?_
    exact s_iret hO rfl rfl rfl ⟨rfl, _, _, rfl, rfl, H⟩
  · replace H := H.2 c69
    refine s_iconst (x := 0) (nx := 73) hO rfl (by decide) rfl ?_
    exact s_iret hO rfl rfl rfl ⟨rfl, _, _, rfl, rfl, H⟩
def W_X2_guard (s : yS) (v1 : Int32) (Q : yS → Prop) : Prop :=
 ∃ p1 : Nat, sR s 123 12 = p1 + 1 ∧ kd p1 = some (7, 0) ∧ 
 W_X2_argument s v1 0 
 (fun r2 => W_X2_argument s v1 1 
 (fun r3 => W_X2_argument s v1 (nI 2) 
 (fun r4 => W_X10_pass s 125 p1 v1 r2 r3 r4 
 (fun r5 s6 => ((r5 = 0 → W_X2_end s6 (nI 2) 0 
  (fun s7 => Q s7))
 ∧ (¬ r5 = 0 → vp_in (nI 4) 8 ∧ 
  vp_in (nI 4) 8 ∧ ∀ s10 : yS, s10 = wI s6 124 (ix (nI 4)) ((sI s6 124 (ix (nI 4))) + 1) → 
  Q s10))))))
set_option maxRecDepth 100000 in
set_option maxHeartbeats 40000000 in
theorem w_X2_guard {G : xG} (hG : yG G) {z : Nat} {s : yS} {v1 : Int32} {Q : yS → Prop} (H : W_X2_guard s v1 Q) : xC G mX2_guard [.ref (q_b G + 123), .int v1] (hS G s) z 0 0 (yQv G z Q) := by
  have hW := hG.1
  have hcl := hG.2.1
  have hty := hG.2.2.1
  have hO : xO G mX2_guard tbX2_guard ptX2_guard := ⟨tkX2_guard, pkX2_guard hcl⟩
  unfold W_X2_guard at H
  refine xC.of hW (by decide) rfl (Nat.le_of_ble_eq_true rfl) ?_
  refine s_aload_n (nx := 1) hO rfl rfl rfl ?_
  refine s_getf (v := .ref (q_b G + 125)) (nx := 4) hO rfl rfl (hs_o2 kc123) rfl rfl ?_
  refine s_aload_n (nx := 5) hO rfl rfl rfl ?_
  obtain ⟨p1, ep1, kp1, H⟩ := H
  refine s_getf (v := .ref (q_b G + p1)) (nx := 8) hO rfl rfl (hs_o2 kc123) (congrArg some (rv_at ep1)) rfl ?_
  refine s_iload_n (nx := 9) hO rfl rfl rfl ?_
  refine s_aload_n (nx := 10) hO rfl rfl rfl ?_
  refine s_iload_n (nx := 11) hO rfl rfl rfl ?_
  refine s_iconst (x := 0) (nx := 12) hO rfl (by decide) rfl ?_
  refine s_callV [.int v1, .int 0] (ci := 2) (F := TX2) (N := 18) (nx := 15) hO rfl kX2_guard_181 (by rw [hcl]; rfl) (hs_o2 kc123) (w_X2_argument hG H) rfl rfl (Nat.le_of_ble_eq_true rfl) (Nat.zero_le _) (Nat.zero_le _) rfl (k_Pi (fun r2 H => ?_))
  refine s_aload_n (nx := 16) hO rfl rfl rfl ?_
  refine s_iload_n (nx := 17) hO rfl rfl rfl ?_
  refine s_iconst (x := 1) (nx := 18) hO rfl (by decide) rfl ?_
  refine s_callV [.int v1, .int 1] (ci := 2) (F := TX2) (N := 18) (nx := 21) hO rfl kX2_guard_181 (by rw [hcl]; rfl) (hs_o2 kc123) (w_X2_argument hG H) rfl rfl (Nat.le_of_ble_eq_true rfl) (Nat.zero_le _) (Nat.zero_le _) rfl (k_Pi (fun r3 H => ?_))
  refine s_aload_n (nx := 22) hO rfl rfl rfl ?_
  refine s_iload_n (nx := 23) hO rfl rfl rfl ?_
  refine s_iconst (x := (nI 2)) (nx := 24) hO rfl (by decide) rfl ?_
  refine s_callV [.int v1, .int (nI 2)] (ci := 2) (F := TX2) (N := 18) (nx := 27) hO rfl kX2_guard_181 (by rw [hcl]; rfl) (hs_o2 kc123) (w_X2_argument hG H) rfl rfl (Nat.le_of_ble_eq_true rfl) (Nat.zero_le _) (Nat.zero_le _) rfl (k_Pi (fun r4 H => ?_))
  refine s_callV [.ref (q_b G + p1), .int v1, .int r2, .int r3, .int r4] (ci := 10) (F := TX10) (N := 3) (nx := 30) hO rfl kX2_guard_184 (by rw [hcl]; rfl) (hs_o10 kc125) (w_X10_pass hG kc125 kp1 H) rfl rfl (Nat.le_of_ble_eq_true rfl) (Nat.zero_le _) (Nat.zero_le _) rfl (k_Qi (fun r5 s6 H => ?_))
  refine s_if_eq (nx := 33) hO rfl rfl (fun c30 => ?_) (fun c30 => ?_)
  · replace H := H.1 c30
    refine s_aload_n (nx := 47) hO rfl rfl rfl ?_
    refine s_iconst (x := (nI 2)) (nx := 48) hO rfl (by decide) rfl ?_
    refine s_iconst (x := 0) (nx := 49) hO rfl (by decide) rfl ?_
    refine s_callV [.int (nI 2), .int 0] (ci := 2) (F := TX2) (N := 18) (nx := 52) hO rfl kX2_guard_87 (by rw [hcl]; rfl) (hs_o2 kc123) (w_X2_end hG H) rfl rfl (Nat.le_of_ble_eq_true rfl) (Nat.zero_le _) (Nat.zero_le _) rfl (k_Qv (fun s7 H => ?_))
    exact s_vret hO rfl rfl ⟨rfl, _, rfl, rfl, H⟩
  · replace H := H.2 c30
    refine s_aload_n (nx := 34) hO rfl rfl rfl ?_
    refine s_getf (v := .ref (q_b G + 124)) (nx := 37) hO rfl rfl (hs_o2 kc123) rfl rfl ?_
    refine s_iconst (x := (nI 4)) (nx := 38) hO rfl (by decide) rfl ?_
    refine s_dup2 (nx := 39) hO rfl rfl rfl rfl ?_
    obtain ⟨b8, H⟩ := H
    refine s_iald (nx := 40) hO rfl (hs_I kc124) b8 rfl ?_
    refine s_iconst (x := 1) (nx := 41) hO rfl (by decide) rfl ?_
    refine s_iadd (nx := 42) hO rfl rfl ?_
    obtain ⟨b9, H⟩ := H
    refine goV (wI s6 124 (ix (nI 4)) ((sI s6 124 (ix (nI 4))) + 1)) (fun s10 es10 => ?_)
    replace H := H s10 es10
    refine s_iast (nx := 43) hO rfl (hs_I kc124) b9 rfl ?_
    refine xEx.at (up_I kc124 es10) ?_
    refine s_goto hO rfl ?_
    exact s_vret hO rfl rfl ⟨rfl, _, rfl, rfl, H⟩
def W_X2_push (s : yS) (v1 : Int32) (Q : yS → Prop) : Prop :=
 vp_in (sI s 123 17) 640 ∧ ∀ s2 : yS, s2 = wI s 131 (ix (sI s 123 17)) v1 → 
 ∀ s3 : yS, s3 = wI s2 123 17 ((sI s2 123 17) + 1) → 
 Q s3
set_option maxRecDepth 100000 in
set_option maxHeartbeats 40000000 in
theorem w_X2_push {G : xG} (hG : yG G) {z : Nat} {s : yS} {v1 : Int32} {Q : yS → Prop} (H : W_X2_push s v1 Q) : xC G mX2_push [.ref (q_b G + 123), .int v1] (hS G s) z 0 0 (yQv G z Q) := by
  have hW := hG.1
  have hcl := hG.2.1
  have hty := hG.2.2.1
  have hO : xO G mX2_push tbX2_push ptX2_push := ⟨tkX2_push, pkX2_push hcl⟩
  unfold W_X2_push at H
  refine xC.of hW (by decide) rfl (Nat.le_of_ble_eq_true rfl) ?_
  refine s_aload_n (nx := 1) hO rfl rfl rfl ?_
  refine s_getf (v := .ref (q_b G + 131)) (nx := 4) hO rfl rfl (hs_o2 kc123) rfl rfl ?_
  refine s_aload_n (nx := 5) hO rfl rfl rfl ?_
  refine s_getf (v := .int (sI s 123 17)) (nx := 8) hO rfl rfl (hs_o2 kc123) rfl rfl ?_
  refine s_iload_n (nx := 9) hO rfl rfl rfl ?_
  obtain ⟨b1, H⟩ := H
  refine goV (wI s 131 (ix (sI s 123 17)) v1) (fun s2 es2 => ?_)
  replace H := H s2 es2
  refine s_iast (nx := 10) hO rfl (hs_I kc131) b1 rfl ?_
  refine xEx.at (up_I kc131 es2) ?_
  refine s_aload_n (nx := 11) hO rfl rfl rfl ?_
  refine s_dup (nx := 12) hO rfl rfl rfl ?_
  refine s_getf (v := .int (sI s2 123 17)) (nx := 15) hO rfl rfl (hs_o2 kc123) rfl rfl ?_
  refine s_iconst (x := 1) (nx := 16) hO rfl (by decide) rfl ?_
  refine s_iadd (nx := 17) hO rfl rfl ?_
  refine goV (wI s2 123 17 ((sI s2 123 17) + 1)) (fun s3 es3 => ?_)
  replace H := H s3 es3
  refine s_putf (nx := 20) hO rfl rfl (hs_o2 kc123) (Nat.le_of_ble_eq_true rfl) (by rw [hty]; rfl) (by rw [hty]; rfl) pX2_17 rfl ?_
  refine xEx.at (up_oI2 kc123 es3) ?_
  exact s_vret hO rfl rfl ⟨rfl, _, rfl, rfl, H⟩
def W_X2_pop (s : yS) (Q : Int32 → yS → Prop) : Prop :=
 ∀ s1 : yS, s1 = wI s 123 17 ((sI s 123 17) - 1) → 
 vp_in (sI s1 123 17) 640 ∧ 
 Q (sI s1 131 (ix (sI s1 123 17))) s1
set_option maxRecDepth 100000 in
set_option maxHeartbeats 40000000 in
theorem w_X2_pop {G : xG} (hG : yG G) {z : Nat} {s : yS} {Q : Int32 → yS → Prop} (H : W_X2_pop s Q) : xC G mX2_pop [.ref (q_b G + 123)] (hS G s) z 0 0 (yQi G z Q) := by
  have hW := hG.1
  have hcl := hG.2.1
  have hty := hG.2.2.1
  have hO : xO G mX2_pop tbX2_pop ptX2_pop := ⟨tkX2_pop, pkX2_pop hcl⟩
  unfold W_X2_pop at H
  refine xC.of hW (by decide) rfl (Nat.le_of_ble_eq_true rfl) ?_
  refine s_aload_n (nx := 1) hO rfl rfl rfl ?_
  refine s_dup (nx := 2) hO rfl rfl rfl ?_
  refine s_getf (v := .int (sI s 123 17)) (nx := 5) hO rfl rfl (hs_o2 kc123) rfl rfl ?_
  refine s_iconst (x := 1) (nx := 6) hO rfl (by decide) rfl ?_
  refine s_isub (nx := 7) hO rfl rfl ?_
  refine goV (wI s 123 17 ((sI s 123 17) - 1)) (fun s1 es1 => ?_)
  replace H := H s1 es1
  refine s_putf (nx := 10) hO rfl rfl (hs_o2 kc123) (Nat.le_of_ble_eq_true rfl) (by rw [hty]; rfl) (by rw [hty]; rfl) pX2_17 rfl ?_
  refine xEx.at (up_oI2 kc123 es1) ?_
  refine s_aload_n (nx := 11) hO rfl rfl rfl ?_
  refine s_getf (v := .ref (q_b G + 131)) (nx := 14) hO rfl rfl (hs_o2 kc123) rfl rfl ?_
  refine s_aload_n (nx := 15) hO rfl rfl rfl ?_
  refine s_getf (v := .int (sI s1 123 17)) (nx := 18) hO rfl rfl (hs_o2 kc123) rfl rfl ?_
  obtain ⟨b2, H⟩ := H
  refine s_iald (nx := 19) hO rfl (hs_I kc131) b2 rfl ?_
  exact s_iret hO rfl rfl rfl ⟨rfl, _, _, rfl, rfl, H⟩
def W_X2_doMove (s : yS) (v1 : Int32) (v2 : Int32) (Q : yS → Prop) : Prop :=
 ((((v1).toInt < 0 ∨ 4 < (v1).toInt) → W_X2_pop s 
  (fun r1 s2 => vp_in (((sI s 123 14) * (nI 12)) + v2) 480 ∧ ∀ s4 : yS, s4 = wI s2 132 (ix (((sI s 123 14) * (nI 12)) + v2)) r1 → 
  Q s4))
 ∧ ((v1).toInt = 0 → W_X2_push s v2 
   (fun s5 => Q s5))
 ∧ ((v1).toInt = 1 → W_X2_pop s 
   (fun r6 s7 => Q s7))
 ∧ ((v1).toInt = 2 → vp_in ((sI s 123 17) - 1) 640 ∧ 
   W_X2_push s (sI s 131 (ix ((sI s 123 17) - 1))) 
   (fun s9 => Q s9))
 ∧ ((v1).toInt = 3 → W_X2_pop s 
   (fun r10 s11 => W_X2_pop s11 
   (fun r12 s13 => W_X2_push s13 r10 
   (fun s14 => W_X2_push s14 r12 
   (fun s15 => Q s15)))))
 ∧ ((v1).toInt = 4 → vp_in (((sI s 123 14) * (nI 12)) + v2) 480 ∧ 
   W_X2_push s (sI s 132 (ix (((sI s 123 14) * (nI 12)) + v2))) 
   (fun s17 => Q s17)))
set_option maxRecDepth 100000 in
set_option maxHeartbeats 40000000 in
theorem w_X2_doMove {G : xG} (hG : yG G) {z : Nat} {s : yS} {v1 : Int32} {v2 : Int32} {Q : yS → Prop} (H : W_X2_doMove s v1 v2 Q) : xC G mX2_doMove [.ref (q_b G + 123), .int v1, .int v2] (hS G s) z 0 0 (yQv G z Q) := by
  have hW := hG.1
  have hcl := hG.2.1
  have hty := hG.2.2.1
  have hO : xO G mX2_doMove tbX2_doMove ptX2_doMove := ⟨tkX2_doMove, pkX2_doMove hcl⟩
  unfold W_X2_doMove at H
  refine xC.of hW (by decide) rfl (Nat.le_of_ble_eq_true rfl) ?_
  refine s_iload_n (nx := 1) hO rfl rfl rfl ?_
  refine s_switch hO rfl (fun c1 => ?_) (fun dc1 fc1 => ?_)
  · replace H := H.1 c1
    refine s_aload_n (nx := 117) hO rfl rfl rfl ?_
    refine s_getf (v := .ref (q_b G + 132)) (nx := 120) hO rfl rfl (hs_o2 kc123) rfl rfl ?_
    refine s_aload_n (nx := 121) hO rfl rfl rfl ?_
    refine s_getf (v := .int (sI s 123 14)) (nx := 124) hO rfl rfl (hs_o2 kc123) rfl rfl ?_
    refine s_bipush (x := (nI 12)) (nx := 126) hO rfl (by decide) rfl ?_
    refine s_imul (nx := 127) hO rfl rfl ?_
    refine s_iload_n (nx := 128) hO rfl rfl rfl ?_
    refine s_iadd (nx := 129) hO rfl rfl ?_
    refine s_aload_n (nx := 130) hO rfl rfl rfl ?_
    refine s_callV [] (ci := 2) (F := TX2) (N := 18) (nx := 133) hO rfl kX2_doMove_126 (by rw [hcl]; rfl) (hs_o2 kc123) (w_X2_pop hG H) rfl rfl (Nat.le_of_ble_eq_true rfl) (Nat.zero_le _) (Nat.zero_le _) rfl (k_Qi (fun r1 s2 H => ?_))
    obtain ⟨b3, H⟩ := H
    refine goV (wI s2 132 (ix (((sI s 123 14) * (nI 12)) + v2)) r1) (fun s4 es4 => ?_)
    replace H := H s4 es4
    refine s_iast (nx := 134) hO rfl (hs_I kc132) b3 rfl ?_
    refine xEx.at (up_I kc132 es4) ?_
    exact s_vret hO rfl rfl ⟨rfl, _, rfl, rfl, H⟩
  · obtain c1 | c1 | c1 | c1 | c1 : (v1).toInt = 0 ∨ (v1).toInt = 1 ∨ (v1).toInt = 2 ∨ (v1).toInt = 3 ∨ (v1).toInt = 4 := by omega
    · replace H := H.2.1 c1
      refine ⟨36, by rw [c1]; rfl, ?_⟩
      refine s_aload_n (nx := 37) hO rfl rfl rfl ?_
      refine s_iload_n (nx := 38) hO rfl rfl rfl ?_
      refine s_callV [.int v2] (ci := 2) (F := TX2) (N := 18) (nx := 41) hO rfl kX2_doMove_123 (by rw [hcl]; rfl) (hs_o2 kc123) (w_X2_push hG H) rfl rfl (Nat.le_of_ble_eq_true rfl) (Nat.zero_le _) (Nat.zero_le _) rfl (k_Qv (fun s5 H => ?_))
      refine s_goto hO rfl ?_
      exact s_vret hO rfl rfl ⟨rfl, _, rfl, rfl, H⟩
    · replace H := H.2.2.1 c1
      refine ⟨44, by rw [c1]; rfl, ?_⟩
      refine s_aload_n (nx := 45) hO rfl rfl rfl ?_
      refine s_callV [] (ci := 2) (F := TX2) (N := 18) (nx := 48) hO rfl kX2_doMove_126 (by rw [hcl]; rfl) (hs_o2 kc123) (w_X2_pop hG H) rfl rfl (Nat.le_of_ble_eq_true rfl) (Nat.zero_le _) (Nat.zero_le _) rfl (k_Qi (fun r6 s7 H => ?_))
      refine s_pop (nx := 49) hO rfl rfl rfl ?_
      refine s_goto hO rfl ?_
      exact s_vret hO rfl rfl ⟨rfl, _, rfl, rfl, H⟩
    · replace H := H.2.2.2.1 c1
      refine ⟨52, by rw [c1]; rfl, ?_⟩
      refine s_aload_n (nx := 53) hO rfl rfl rfl ?_
      refine s_aload_n (nx := 54) hO rfl rfl rfl ?_
      refine s_getf (v := .ref (q_b G + 131)) (nx := 57) hO rfl rfl (hs_o2 kc123) rfl rfl ?_
      refine s_aload_n (nx := 58) hO rfl rfl rfl ?_
      refine s_getf (v := .int (sI s 123 17)) (nx := 61) hO rfl rfl (hs_o2 kc123) rfl rfl ?_
      refine s_iconst (x := 1) (nx := 62) hO rfl (by decide) rfl ?_
      refine s_isub (nx := 63) hO rfl rfl ?_
      obtain ⟨b8, H⟩ := H
      refine s_iald (nx := 64) hO rfl (hs_I kc131) b8 rfl ?_
      refine s_callV [.int (sI s 131 (ix ((sI s 123 17) - 1)))] (ci := 2) (F := TX2) (N := 18) (nx := 67) hO rfl kX2_doMove_123 (by rw [hcl]; rfl) (hs_o2 kc123) (w_X2_push hG H) rfl rfl (Nat.le_of_ble_eq_true rfl) (Nat.zero_le _) (Nat.zero_le _) rfl (k_Qv (fun s9 H => ?_))
      refine s_goto hO rfl ?_
      exact s_vret hO rfl rfl ⟨rfl, _, rfl, rfl, H⟩
    · replace H := H.2.2.2.2.1 c1
      refine ⟨70, by rw [c1]; rfl, ?_⟩
      refine s_aload_n (nx := 71) hO rfl rfl rfl ?_
      refine s_callV [] (ci := 2) (F := TX2) (N := 18) (nx := 74) hO rfl kX2_doMove_126 (by rw [hcl]; rfl) (hs_o2 kc123) (w_X2_pop hG H) rfl rfl (Nat.le_of_ble_eq_true rfl) (Nat.zero_le _) (Nat.zero_le _) rfl (k_Qi (fun r10 s11 H => ?_))
      refine s_istore_n (nx := 75) (l' := [(3, .int r10), (0, .ref (q_b G + 123)), (1, .int v1), (2, .int v2)]) hO rfl (by decide) rfl rfl ?_
      refine s_aload_n (nx := 76) hO rfl rfl rfl ?_
      refine s_callV [] (ci := 2) (F := TX2) (N := 18) (nx := 79) hO rfl kX2_doMove_126 (by rw [hcl]; rfl) (hs_o2 kc123) (w_X2_pop hG H) rfl rfl (Nat.le_of_ble_eq_true rfl) (Nat.zero_le _) (Nat.zero_le _) rfl (k_Qi (fun r12 s13 H => ?_))
      refine s_istore (nx := 81) (l' := [(4, .int r12), (3, .int r10), (0, .ref (q_b G + 123)), (1, .int v1), (2, .int v2)]) hO rfl (by decide) rfl rfl ?_
      refine s_aload_n (nx := 82) hO rfl rfl rfl ?_
      refine s_iload_n (nx := 83) hO rfl rfl rfl ?_
      refine s_callV [.int r10] (ci := 2) (F := TX2) (N := 18) (nx := 86) hO rfl kX2_doMove_123 (by rw [hcl]; rfl) (hs_o2 kc123) (w_X2_push hG H) rfl rfl (Nat.le_of_ble_eq_true rfl) (Nat.zero_le _) (Nat.zero_le _) rfl (k_Qv (fun s14 H => ?_))
      refine s_aload_n (nx := 87) hO rfl rfl rfl ?_
      refine s_iload (nx := 89) hO rfl rfl rfl ?_
      refine s_callV [.int r12] (ci := 2) (F := TX2) (N := 18) (nx := 92) hO rfl kX2_doMove_123 (by rw [hcl]; rfl) (hs_o2 kc123) (w_X2_push hG H) rfl rfl (Nat.le_of_ble_eq_true rfl) (Nat.zero_le _) (Nat.zero_le _) rfl (k_Qv (fun s15 H => ?_))
      refine s_goto hO rfl ?_
      exact s_vret hO rfl rfl ⟨rfl, _, rfl, rfl, H⟩
    · replace H := H.2.2.2.2.2 c1
      refine ⟨95, by rw [c1]; rfl, ?_⟩
      refine s_aload_n (nx := 96) hO rfl rfl rfl ?_
      refine s_aload_n (nx := 97) hO rfl rfl rfl ?_
      refine s_getf (v := .ref (q_b G + 132)) (nx := 100) hO rfl rfl (hs_o2 kc123) rfl rfl ?_
      refine s_aload_n (nx := 101) hO rfl rfl rfl ?_
      refine s_getf (v := .int (sI s 123 14)) (nx := 104) hO rfl rfl (hs_o2 kc123) rfl rfl ?_
      refine s_bipush (x := (nI 12)) (nx := 106) hO rfl (by decide) rfl ?_
      refine s_imul (nx := 107) hO rfl rfl ?_
      refine s_iload_n (nx := 108) hO rfl rfl rfl ?_
      refine s_iadd (nx := 109) hO rfl rfl ?_
      obtain ⟨b16, H⟩ := H
      refine s_iald (nx := 110) hO rfl (hs_I kc132) b16 rfl ?_
      refine s_callV [.int (sI s 132 (ix (((sI s 123 14) * (nI 12)) + v2)))] (ci := 2) (F := TX2) (N := 18) (nx := 113) hO rfl kX2_doMove_123 (by rw [hcl]; rfl) (hs_o2 kc123) (w_X2_push hG H) rfl rfl (Nat.le_of_ble_eq_true rfl) (Nat.zero_le _) (Nat.zero_le _) rfl (k_Qv (fun s17 H => ?_))
      refine s_goto hO rfl ?_
      exact s_vret hO rfl rfl ⟨rfl, _, rfl, rfl, H⟩
def W_X2_handlerFor (s : yS) (v1 : Int32) (v2 : Int32) (Q : Int32 → Prop) : Prop :=
 ∀ x1 : Int32, x1 = ((sI s 123 15) * (nI 6)) → 
 ∀ P11 : Int32 → Prop, (∀ (x2 : Int32), (∃ p3 : Nat, sR s 123 11 = p3 + 1 ∧ kd p3 = some (9, 0) ∧ 
  vp_in (sI s 123 15) 12 ∧ 
  (((x1 + (sI s (p3 + 6) (ix (sI s 123 15)))) ≤ x2 → Q (-1))
  ∧ (¬ (x1 + (sI s (p3 + 6) (ix (sI s 123 15)))) ≤ x2 → ∃ p5 : Nat, sR s 123 11 = p5 + 1 ∧ kd p5 = some (9, 0) ∧ 
   W_X5_isInRange s p5 x2 v1 
   (fun r6 => ∀ P73 : Prop, ((∀ x7 : Int32, x7 = (x2 + 1) → 
    P11 x7) → P73) → 
   ((r6 = 0 → P73)
   ∧ (¬ r6 = 0 → ∃ p8 : Nat, sR s 123 11 = p8 + 1 ∧ kd p8 = some (9, 0) ∧ 
    vp_in x2 72 ∧ 
    ((¬ (sI s (p8 + 16) (ix x2)) = 0 → Q x2)
    ∧ ((sI s (p8 + 16) (ix x2)) = 0 → ∃ p10 : Nat, sR s 123 11 = p10 + 1 ∧ kd p10 = some (9, 0) ∧ 
     vp_in x2 72 ∧ 
     ((¬ (sI s (p10 + 17) (ix x2)) = v2 → P73)
     ∧ ((sI s (p10 + 17) (ix x2)) = v2 → Q x2)))))))))) → P11 x2) → 
 P11 x1
set_option maxRecDepth 100000 in
set_option maxHeartbeats 40000000 in
theorem w_X2_handlerFor {G : xG} (hG : yG G) {z : Nat} {s : yS} {v1 : Int32} {v2 : Int32} {Q : Int32 → Prop} (H : W_X2_handlerFor s v1 v2 Q) : xC G mX2_handlerFor [.ref (q_b G + 123), .int v1, .int v2] (hS G s) z 0 0 (yPi G z s Q) := by
  have hW := hG.1
  have hcl := hG.2.1
  have hty := hG.2.2.1
  have hO : xO G mX2_handlerFor tbX2_handlerFor ptX2_handlerFor := ⟨tkX2_handlerFor, pkX2_handlerFor hcl⟩
  unfold W_X2_handlerFor at H
  refine xC.of hW (by decide) rfl (Nat.le_of_ble_eq_true rfl) ?_
  refine s_aload_n (nx := 1) hO rfl rfl rfl ?_
  refine s_getf (v := .int (sI s 123 15)) (nx := 4) hO rfl rfl (hs_o2 kc123) rfl rfl ?_
  refine s_bipush (x := (nI 6)) (nx := 6) hO rfl (by decide) rfl ?_
  refine s_imul (nx := 7) hO rfl rfl ?_
  refine goV (((sI s 123 15) * (nI 6))) (fun x1 ex1 => ?_)
  replace H := H x1 ex1
  refine e_istore_n (nx := 8) (l' := [(3, .int x1), (0, .ref (q_b G + 123)), (1, .int v1), (2, .int v2)]) ex1 hO rfl (by decide) rfl rfl ?_
  refine s_iload_n (nx := 9) hO rfl rfl rfl ?_
  refine goK (H (fun (x2 : Int32) => xEx G mX2_handlerFor 11 [(0, .ref (q_b G + 123)), (1, .int v1), (2, .int v2), (3, .int x1), (4, .int x2)] [] (hS G s) z 0 0 (yPi G z s Q)) (fun x2 H => ?_)) (fun H => ?_)
  · show xEx G mX2_handlerFor 11 [(0, .ref (q_b G + 123)), (1, .int v1), (2, .int v2), (3, .int x1), (4, .int x2)] [] (hS G s) z 0 0 (yPi G z s Q)
    refine s_iload (nx := 13) hO rfl rfl rfl ?_
    refine s_iload_n (nx := 14) hO rfl rfl rfl ?_
    refine s_aload_n (nx := 15) hO rfl rfl rfl ?_
    obtain ⟨p3, ep3, kp3, H⟩ := H
    refine s_getf (v := .ref (q_b G + p3)) (nx := 18) hO rfl rfl (hs_o2 kc123) (congrArg some (rv_at ep3)) rfl ?_
    refine s_getf (v := .ref (q_b G + (p3 + 6))) (nx := 21) hO rfl rfl (hs_o5 kp3) rfl rfl ?_
    refine s_aload_n (nx := 22) hO rfl rfl rfl ?_
    refine s_getf (v := .int (sI s 123 15)) (nx := 25) hO rfl rfl (hs_o2 kc123) rfl rfl ?_
    obtain ⟨b4, H⟩ := H
    refine s_iald (nx := 26) hO rfl (hs_I (kf5_6 kp3)) b4 rfl ?_
    refine s_iadd (nx := 27) hO rfl rfl ?_
    refine s_icmp_ge (nx := 30) hO rfl rfl (fun c27 => ?_) (fun c27 => ?_)
    · replace H := H.1 c27
      refine s_iconst (x := (-1)) (nx := 80) hO rfl (by decide) rfl ?_
      exact s_iret hO rfl rfl rfl ⟨rfl, _, rfl, rfl, H⟩
    · replace H := H.2 c27
      refine s_aload_n (nx := 31) hO rfl rfl rfl ?_
      obtain ⟨p5, ep5, kp5, H⟩ := H
      refine s_getf (v := .ref (q_b G + p5)) (nx := 34) hO rfl rfl (hs_o2 kc123) (congrArg some (rv_at ep5)) rfl ?_
      refine s_iload (nx := 36) hO rfl rfl rfl ?_
      refine s_iload_n (nx := 37) hO rfl rfl rfl ?_
      refine s_callV [.int x2, .int v1] (ci := 5) (F := TX5) (N := 19) (nx := 40) hO rfl kX2_handlerFor_170 (by rw [hcl]; rfl) (hs_o5 kp5) (w_X5_isInRange hG kp5 H) rfl rfl (Nat.le_of_ble_eq_true rfl) (Nat.zero_le _) (Nat.zero_le _) rfl (k_Pi (fun r6 H => ?_))
      refine goK (H (xEx G mX2_handlerFor 73 [(0, .ref (q_b G + 123)), (1, .int v1), (2, .int v2), (3, .int x1), (4, .int x2)] [] (hS G s) z 0 0 (yPi G z s Q)) (fun H => ?_)) (fun H => ?_)
      · show xEx G mX2_handlerFor 73 [(0, .ref (q_b G + 123)), (1, .int v1), (2, .int v2), (3, .int x1), (4, .int x2)] [] (hS G s) z 0 0 (yPi G z s Q)
        refine goV ((x2 + 1)) (fun x7 ex7 => ?_)
        replace H := H x7 ex7
        refine e_iinc (nx := 76) (l' := [(4, .int x7), (0, .ref (q_b G + 123)), (1, .int v1), (2, .int v2), (3, .int x1)]) ex7 hO rfl (by decide) rfl rfl rfl rfl ?_
        refine s_goto hO rfl ?_
        exact xEx.loc (x_sub1 (List.Mem.tail _ (List.Mem.head _)) (x_sub1 (List.Mem.tail _ (List.Mem.tail _ (List.Mem.head _))) (x_sub1 (List.Mem.tail _ (List.Mem.tail _ (List.Mem.tail _ (List.Mem.head _)))) (x_sub1 (List.Mem.tail _ (List.Mem.tail _ (List.Mem.tail _ (List.Mem.tail _ (List.Mem.head _))))) (x_sub1 (List.Mem.head _) x_sub0))))) H
      refine s_if_eq (nx := 43) hO rfl rfl (fun c40 => ?_) (fun c40 => ?_)
      · replace H := H.1 c40
        exact xEx.loc (x_sub1 (List.Mem.head _) (x_sub1 (List.Mem.tail _ (List.Mem.head _)) (x_sub1 (List.Mem.tail _ (List.Mem.tail _ (List.Mem.head _))) (x_sub1 (List.Mem.tail _ (List.Mem.tail _ (List.Mem.tail _ (List.Mem.head _)))) (x_sub1 (List.Mem.tail _ (List.Mem.tail _ (List.Mem.tail _ (List.Mem.tail _ (List.Mem.head _))))) x_sub0))))) H
      · replace H := H.2 c40
        refine s_aload_n (nx := 44) hO rfl rfl rfl ?_
        obtain ⟨p8, ep8, kp8, H⟩ := H
        refine s_getf (v := .ref (q_b G + p8)) (nx := 47) hO rfl rfl (hs_o2 kc123) (congrArg some (rv_at ep8)) rfl ?_
        refine s_getf (v := .ref (q_b G + (p8 + 16))) (nx := 50) hO rfl rfl (hs_o5 kp8) rfl rfl ?_
        refine s_iload (nx := 52) hO rfl rfl rfl ?_
        obtain ⟨b9, H⟩ := H
        refine s_zald (nx := 53) hO rfl (hs_Z (kf5_17 kp8)) b9 rfl ?_
        refine s_if_ne (nx := 56) hO rfl rfl (fun c53 => ?_) (fun c53 => ?_)
        · replace H := H.1 c53
          refine s_iload (nx := 72) hO rfl rfl rfl ?_
          exact s_iret hO rfl rfl rfl ⟨rfl, _, rfl, rfl, H⟩
        · replace H := H.2 c53
          refine s_aload_n (nx := 57) hO rfl rfl rfl ?_
          obtain ⟨p10, ep10, kp10, H⟩ := H
          refine s_getf (v := .ref (q_b G + p10)) (nx := 60) hO rfl rfl (hs_o2 kc123) (congrArg some (rv_at ep10)) rfl ?_
          refine s_getf (v := .ref (q_b G + (p10 + 17))) (nx := 63) hO rfl rfl (hs_o5 kp10) rfl rfl ?_
          refine s_iload (nx := 65) hO rfl rfl rfl ?_
          obtain ⟨b11, H⟩ := H
          refine s_iald (nx := 66) hO rfl (hs_I (kf5_18 kp10)) b11 rfl ?_
          refine s_iload_n (nx := 67) hO rfl rfl rfl ?_
          refine s_icmp_ne (nx := 70) hO rfl rfl (fun c67 => ?_) (fun c67 => ?_)
          · replace H := H.1 c67
            exact xEx.loc (x_sub1 (List.Mem.head _) (x_sub1 (List.Mem.tail _ (List.Mem.head _)) (x_sub1 (List.Mem.tail _ (List.Mem.tail _ (List.Mem.head _))) (x_sub1 (List.Mem.tail _ (List.Mem.tail _ (List.Mem.tail _ (List.Mem.head _)))) (x_sub1 (List.Mem.tail _ (List.Mem.tail _ (List.Mem.tail _ (List.Mem.tail _ (List.Mem.head _))))) x_sub0))))) H
          · replace H := H.2 c67
            refine s_iload (nx := 72) hO rfl rfl rfl ?_
            exact s_iret hO rfl rfl rfl ⟨rfl, _, rfl, rfl, H⟩
  refine s_istore (nx := 11) (l' := [(4, .int x1), (3, .int x1), (0, .ref (q_b G + 123)), (1, .int v1), (2, .int v2)]) hO rfl (by decide) rfl rfl ?_
  exact xEx.loc (x_sub1 (List.Mem.tail _ (List.Mem.tail _ (List.Mem.head _))) (x_sub1 (List.Mem.tail _ (List.Mem.tail _ (List.Mem.tail _ (List.Mem.head _)))) (x_sub1 (List.Mem.tail _ (List.Mem.tail _ (List.Mem.tail _ (List.Mem.tail _ (List.Mem.head _))))) (x_sub1 (List.Mem.tail _ (List.Mem.head _)) (x_sub1 (List.Mem.head _) x_sub0))))) H
def W_X2_backToCaller (s : yS) (Q : yS → Prop) : Prop :=
 ∀ s1 : yS, s1 = wI s 123 14 ((sI s 123 14) - 1) → 
 vp_in (sI s1 123 14) 40 ∧ 
 ∀ s3 : yS, s3 = wI s1 123 15 (sI s1 133 (ix (sI s1 123 14))) → 
 vp_in (sI s3 123 14) 40 ∧ 
 ∀ s5 : yS, s5 = wI s3 123 16 (sI s3 134 (ix (sI s3 123 14))) → 
 vp_in (sI s5 123 14) 40 ∧ 
 ∀ s7 : yS, s7 = wI s5 123 17 (sI s5 135 (ix (sI s5 123 14))) → 
 Q s7
set_option maxRecDepth 100000 in
set_option maxHeartbeats 40000000 in
theorem w_X2_backToCaller {G : xG} (hG : yG G) {z : Nat} {s : yS} {Q : yS → Prop} (H : W_X2_backToCaller s Q) : xC G mX2_backToCaller [.ref (q_b G + 123)] (hS G s) z 0 0 (yQv G z Q) := by
  have hW := hG.1
  have hcl := hG.2.1
  have hty := hG.2.2.1
  have hO : xO G mX2_backToCaller tbX2_backToCaller ptX2_backToCaller := ⟨tkX2_backToCaller, pkX2_backToCaller hcl⟩
  unfold W_X2_backToCaller at H
  refine xC.of hW (by decide) rfl (Nat.le_of_ble_eq_true rfl) ?_
  refine s_aload_n (nx := 1) hO rfl rfl rfl ?_
  refine s_dup (nx := 2) hO rfl rfl rfl ?_
  refine s_getf (v := .int (sI s 123 14)) (nx := 5) hO rfl rfl (hs_o2 kc123) rfl rfl ?_
  refine s_iconst (x := 1) (nx := 6) hO rfl (by decide) rfl ?_
  refine s_isub (nx := 7) hO rfl rfl ?_
  refine goV (wI s 123 14 ((sI s 123 14) - 1)) (fun s1 es1 => ?_)
  replace H := H s1 es1
  refine s_putf (nx := 10) hO rfl rfl (hs_o2 kc123) (Nat.le_of_ble_eq_true rfl) (by rw [hty]; rfl) (by rw [hty]; rfl) pX2_14 rfl ?_
  refine xEx.at (up_oI2 kc123 es1) ?_
  refine s_aload_n (nx := 11) hO rfl rfl rfl ?_
  refine s_aload_n (nx := 12) hO rfl rfl rfl ?_
  refine s_getf (v := .ref (q_b G + 133)) (nx := 15) hO rfl rfl (hs_o2 kc123) rfl rfl ?_
  refine s_aload_n (nx := 16) hO rfl rfl rfl ?_
  refine s_getf (v := .int (sI s1 123 14)) (nx := 19) hO rfl rfl (hs_o2 kc123) rfl rfl ?_
  obtain ⟨b2, H⟩ := H
  refine s_iald (nx := 20) hO rfl (hs_I kc133) b2 rfl ?_
  refine goV (wI s1 123 15 (sI s1 133 (ix (sI s1 123 14)))) (fun s3 es3 => ?_)
  replace H := H s3 es3
  refine s_putf (nx := 23) hO rfl rfl (hs_o2 kc123) (Nat.le_of_ble_eq_true rfl) (by rw [hty]; rfl) (by rw [hty]; rfl) pX2_15 rfl ?_
  refine xEx.at (up_oI2 kc123 es3) ?_
  refine s_aload_n (nx := 24) hO rfl rfl rfl ?_
  refine s_aload_n (nx := 25) hO rfl rfl rfl ?_
  refine s_getf (v := .ref (q_b G + 134)) (nx := 28) hO rfl rfl (hs_o2 kc123) rfl rfl ?_
  refine s_aload_n (nx := 29) hO rfl rfl rfl ?_
  refine s_getf (v := .int (sI s3 123 14)) (nx := 32) hO rfl rfl (hs_o2 kc123) rfl rfl ?_
  obtain ⟨b4, H⟩ := H
  refine s_iald (nx := 33) hO rfl (hs_I kc134) b4 rfl ?_
  refine goV (wI s3 123 16 (sI s3 134 (ix (sI s3 123 14)))) (fun s5 es5 => ?_)
  replace H := H s5 es5
  refine s_putf (nx := 36) hO rfl rfl (hs_o2 kc123) (Nat.le_of_ble_eq_true rfl) (by rw [hty]; rfl) (by rw [hty]; rfl) pX2_16 rfl ?_
  refine xEx.at (up_oI2 kc123 es5) ?_
  refine s_aload_n (nx := 37) hO rfl rfl rfl ?_
  refine s_aload_n (nx := 38) hO rfl rfl rfl ?_
  refine s_getf (v := .ref (q_b G + 135)) (nx := 41) hO rfl rfl (hs_o2 kc123) rfl rfl ?_
  refine s_aload_n (nx := 42) hO rfl rfl rfl ?_
  refine s_getf (v := .int (sI s5 123 14)) (nx := 45) hO rfl rfl (hs_o2 kc123) rfl rfl ?_
  obtain ⟨b6, H⟩ := H
  refine s_iald (nx := 46) hO rfl (hs_I kc135) b6 rfl ?_
  refine goV (wI s5 123 17 (sI s5 135 (ix (sI s5 123 14)))) (fun s7 es7 => ?_)
  replace H := H s7 es7
  refine s_putf (nx := 49) hO rfl rfl (hs_o2 kc123) (Nat.le_of_ble_eq_true rfl) (by rw [hty]; rfl) (by rw [hty]; rfl) pX2_17 rfl ?_
  refine xEx.at (up_oI2 kc123 es7) ?_
  exact s_vret hO rfl rfl ⟨rfl, _, rfl, rfl, H⟩
def W_X2_throwCode (s : yS) (v1 : Int32) (Q : yS → Prop) : Prop :=
 ∀ P2 : Int32 → yS → Prop, (∀ (x1 : Int32) (s2 : yS), ((((nI 40) ≤ x1 → Q s2)
  ∧ (¬ (nI 40) ≤ x1 → W_X2_handlerFor s2 ((sI s2 123 16) - 1) v1 
   (fun r3 => ((r3 = (-1) → ((¬ (sI s2 123 14) = 0 → W_X2_backToCaller s2 
     (fun s4 => ∀ x5 : Int32, x5 = (x1 + 1) → 
     P2 x5 s4))
    ∧ ((sI s2 123 14) = 0 → W_X2_end s2 1 v1 
     (fun s6 => Q s6))))
   ∧ (¬ r3 = (-1) → ∀ s7 : yS, s7 = wI s2 123 17 ((sI s2 123 14) * (nI 16)) → 
    W_X2_push s7 v1 
    (fun s8 => ∃ p9 : Nat, sR s8 123 11 = p9 + 1 ∧ kd p9 = some (9, 0) ∧ 
    vp_in r3 72 ∧ 
    ∀ s11 : yS, s11 = wI s8 123 16 (sI s8 (p9 + 15) (ix r3)) → 
    Q s11))))))) → P2 x1 s2) → 
 P2 0 s
set_option maxRecDepth 100000 in
set_option maxHeartbeats 40000000 in
theorem w_X2_throwCode {G : xG} (hG : yG G) {z : Nat} {s : yS} {v1 : Int32} {Q : yS → Prop} (H : W_X2_throwCode s v1 Q) : xC G mX2_throwCode [.ref (q_b G + 123), .int v1] (hS G s) z 0 0 (yQv G z Q) := by
  have hW := hG.1
  have hcl := hG.2.1
  have hty := hG.2.2.1
  have hO : xO G mX2_throwCode tbX2_throwCode ptX2_throwCode := ⟨tkX2_throwCode, pkX2_throwCode hcl⟩
  unfold W_X2_throwCode at H
  refine xC.of hW (by decide) rfl (Nat.le_of_ble_eq_true rfl) ?_
  refine s_iconst (x := 0) (nx := 1) hO rfl (by decide) rfl ?_
  refine goK (H (fun (x1 : Int32) (s2 : yS) => xEx G mX2_throwCode 2 [(0, .ref (q_b G + 123)), (1, .int v1), (2, .int x1)] [] (hS G s2) z 0 0 (yQv G z Q)) (fun x1 s2 H => ?_)) (fun H => ?_)
  · show xEx G mX2_throwCode 2 [(0, .ref (q_b G + 123)), (1, .int v1), (2, .int x1)] [] (hS G s2) z 0 0 (yQv G z Q)
    refine s_iload_n (nx := 3) hO rfl rfl rfl ?_
    refine s_bipush (x := (nI 40)) (nx := 5) hO rfl (by decide) rfl ?_
    refine s_icmp_ge (nx := 8) hO rfl rfl (fun c5 => ?_) (fun c5 => ?_)
    · replace H := H.1 c5
      exact s_vret hO rfl rfl ⟨rfl, _, rfl, rfl, H⟩
    · replace H := H.2 c5
      refine s_aload_n (nx := 9) hO rfl rfl rfl ?_
      refine s_aload_n (nx := 10) hO rfl rfl rfl ?_
      refine s_getf (v := .int (sI s2 123 16)) (nx := 13) hO rfl rfl (hs_o2 kc123) rfl rfl ?_
      refine s_iconst (x := 1) (nx := 14) hO rfl (by decide) rfl ?_
      refine s_isub (nx := 15) hO rfl rfl ?_
      refine s_iload_n (nx := 16) hO rfl rfl rfl ?_
      refine s_callV [.int ((sI s2 123 16) - 1), .int v1] (ci := 2) (F := TX2) (N := 18) (nx := 19) hO rfl kX2_throwCode_161 (by rw [hcl]; rfl) (hs_o2 kc123) (w_X2_handlerFor hG H) rfl rfl (Nat.le_of_ble_eq_true rfl) (Nat.zero_le _) (Nat.zero_le _) rfl (k_Pi (fun r3 H => ?_))
      refine s_istore_n (nx := 20) (l' := [(3, .int r3), (0, .ref (q_b G + 123)), (1, .int v1), (2, .int x1)]) hO rfl (by decide) rfl rfl ?_
      refine s_iload_n (nx := 21) hO rfl rfl rfl ?_
      refine s_iconst (x := (-1)) (nx := 22) hO rfl (by decide) rfl ?_
      refine s_icmp_eq (nx := 25) hO rfl rfl (fun c22 => ?_) (fun c22 => ?_)
      · replace H := H.1 c22
        refine s_aload_n (nx := 56) hO rfl rfl rfl ?_
        refine s_getf (v := .int (sI s2 123 14)) (nx := 59) hO rfl rfl (hs_o2 kc123) rfl rfl ?_
        refine s_if_ne (nx := 62) hO rfl rfl (fun c59 => ?_) (fun c59 => ?_)
        · replace H := H.1 c59
          refine s_aload_n (nx := 70) hO rfl rfl rfl ?_
          refine s_callV [] (ci := 2) (F := TX2) (N := 18) (nx := 73) hO rfl kX2_throwCode_158 (by rw [hcl]; rfl) (hs_o2 kc123) (w_X2_backToCaller hG H) rfl rfl (Nat.le_of_ble_eq_true rfl) (Nat.zero_le _) (Nat.zero_le _) rfl (k_Qv (fun s4 H => ?_))
          refine goV ((x1 + 1)) (fun x5 ex5 => ?_)
          replace H := H x5 ex5
          refine e_iinc (nx := 76) (l' := [(2, .int x5), (3, .int r3), (0, .ref (q_b G + 123)), (1, .int v1)]) ex5 hO rfl (by decide) rfl rfl rfl rfl ?_
          refine s_goto hO rfl ?_
          exact xEx.loc (x_sub1 (List.Mem.tail _ (List.Mem.tail _ (List.Mem.head _))) (x_sub1 (List.Mem.tail _ (List.Mem.tail _ (List.Mem.tail _ (List.Mem.head _)))) (x_sub1 (List.Mem.head _) x_sub0))) H
        · replace H := H.2 c59
          refine s_aload_n (nx := 63) hO rfl rfl rfl ?_
          refine s_iconst (x := 1) (nx := 64) hO rfl (by decide) rfl ?_
          refine s_iload_n (nx := 65) hO rfl rfl rfl ?_
          refine s_callV [.int 1, .int v1] (ci := 2) (F := TX2) (N := 18) (nx := 68) hO rfl kX2_throwCode_87 (by rw [hcl]; rfl) (hs_o2 kc123) (w_X2_end hG H) rfl rfl (Nat.le_of_ble_eq_true rfl) (Nat.zero_le _) (Nat.zero_le _) rfl (k_Qv (fun s6 H => ?_))
          exact s_vret hO rfl rfl ⟨rfl, _, rfl, rfl, H⟩
      · replace H := H.2 c22
        refine s_aload_n (nx := 26) hO rfl rfl rfl ?_
        refine s_aload_n (nx := 27) hO rfl rfl rfl ?_
        refine s_getf (v := .int (sI s2 123 14)) (nx := 30) hO rfl rfl (hs_o2 kc123) rfl rfl ?_
        refine s_bipush (x := (nI 16)) (nx := 32) hO rfl (by decide) rfl ?_
        refine s_imul (nx := 33) hO rfl rfl ?_
        refine goV (wI s2 123 17 ((sI s2 123 14) * (nI 16))) (fun s7 es7 => ?_)
        replace H := H s7 es7
        refine s_putf (nx := 36) hO rfl rfl (hs_o2 kc123) (Nat.le_of_ble_eq_true rfl) (by rw [hty]; rfl) (by rw [hty]; rfl) pX2_17 rfl ?_
        refine xEx.at (up_oI2 kc123 es7) ?_
        refine s_aload_n (nx := 37) hO rfl rfl rfl ?_
        refine s_iload_n (nx := 38) hO rfl rfl rfl ?_
        refine s_callV [.int v1] (ci := 2) (F := TX2) (N := 18) (nx := 41) hO rfl kX2_throwCode_123 (by rw [hcl]; rfl) (hs_o2 kc123) (w_X2_push hG H) rfl rfl (Nat.le_of_ble_eq_true rfl) (Nat.zero_le _) (Nat.zero_le _) rfl (k_Qv (fun s8 H => ?_))
        refine s_aload_n (nx := 42) hO rfl rfl rfl ?_
        refine s_aload_n (nx := 43) hO rfl rfl rfl ?_
        obtain ⟨p9, ep9, kp9, H⟩ := H
        refine s_getf (v := .ref (q_b G + p9)) (nx := 46) hO rfl rfl (hs_o2 kc123) (congrArg some (rv_at ep9)) rfl ?_
        refine s_getf (v := .ref (q_b G + (p9 + 15))) (nx := 49) hO rfl rfl (hs_o5 kp9) rfl rfl ?_
        refine s_iload_n (nx := 50) hO rfl rfl rfl ?_
        obtain ⟨b10, H⟩ := H
        refine s_iald (nx := 51) hO rfl (hs_I (kf5_16 kp9)) b10 rfl ?_
        refine goV (wI s8 123 16 (sI s8 (p9 + 15) (ix r3))) (fun s11 es11 => ?_)
        replace H := H s11 es11
        refine s_putf (nx := 54) hO rfl rfl (hs_o2 kc123) (Nat.le_of_ble_eq_true rfl) (by rw [hty]; rfl) (by rw [hty]; rfl) pX2_16 rfl ?_
        refine xEx.at (up_oI2 kc123 es11) ?_
        exact s_vret hO rfl rfl ⟨rfl, _, rfl, rfl, H⟩
  refine s_istore_n (nx := 2) (l' := [(2, .int 0), (0, .ref (q_b G + 123)), (1, .int v1)]) hO rfl (by decide) rfl rfl ?_
  exact xEx.loc (x_sub1 (List.Mem.tail _ (List.Mem.head _)) (x_sub1 (List.Mem.tail _ (List.Mem.tail _ (List.Mem.head _))) (x_sub1 (List.Mem.head _) x_sub0))) H
def W_X2_reckon (s : yS) (v1 : Int32) (v2 : Int32) (v3 : Int32) (Q : Int32 → Prop) : Prop :=
 ((((v1).toInt < 6 ∨ 16 < (v1).toInt) → ((¬ v2 = v3 → Q 0)
  ∧ (v2 = v3 → Q 1)))
 ∧ ((v1).toInt = 6 → Q (v2 + v3))
 ∧ ((v1).toInt = 7 → Q (v2 - v3))
 ∧ ((v1).toInt = 8 → Q (v2 * v3))
 ∧ ((v1).toInt = 9 → ((¬ v3 = 0 → (¬ v3 = 0) ∧ 
    Q (v2 / v3))
   ∧ (v3 = 0 → Q 0)))
 ∧ ((v1).toInt = 10 → ((¬ v3 = 0 → (¬ v3 = 0) ∧ 
    Q (v2 - v2 / v3 * v3))
   ∧ (v3 = 0 → Q 0)))
 ∧ ((v1).toInt = 11 → Q (v2 &&& v3))
 ∧ ((v1).toInt = 12 → Q (v2 ||| v3))
 ∧ ((v1).toInt = 13 → Q (v2 ^^^ v3))
 ∧ ((v1).toInt = 14 → Q (v2 <<< ((v3 &&& (nI 31)) &&& 31)))
 ∧ ((v1).toInt = 15 → Q (v2 >>> ((v3 &&& (nI 31)) &&& 31)))
 ∧ ((v1).toInt = 16 → ((v3 ≤ v2 → Q 0)
   ∧ (¬ v3 ≤ v2 → Q 1))))
set_option maxRecDepth 100000 in
set_option maxHeartbeats 40000000 in
theorem w_X2_reckon {G : xG} (hG : yG G) {z : Nat} {s : yS} {v1 : Int32} {v2 : Int32} {v3 : Int32} {Q : Int32 → Prop} (H : W_X2_reckon s v1 v2 v3 Q) : xC G mX2_reckon [.int v1, .int v2, .int v3] (hS G s) z 0 0 (yPi G z s Q) := by
  have hW := hG.1
  have hcl := hG.2.1
  have hty := hG.2.2.1
  have hO : xO G mX2_reckon tbX2_reckon ptX2_reckon := ⟨tkX2_reckon, pkX2_reckon hcl⟩
  unfold W_X2_reckon at H
  refine xC.of hW (by decide) rfl (Nat.le_of_ble_eq_true rfl) ?_
  refine s_iload_n (nx := 1) hO rfl rfl rfl ?_
  refine s_switch hO rfl (fun c1 => ?_) (fun dc1 fc1 => ?_)
  · replace H := H.1 c1
    refine s_iload_n (nx := 134) hO rfl rfl rfl ?_
    refine s_iload_n (nx := 135) hO rfl rfl rfl ?_
    refine s_icmp_ne (nx := 138) hO rfl rfl (fun c135 => ?_) (fun c135 => ?_)
    · replace H := H.1 c135
      refine s_iconst (x := 0) (nx := 143) hO rfl (by decide) rfl ?_
      exact s_iret hO rfl rfl rfl ⟨rfl, _, rfl, rfl, H⟩
    · replace H := H.2 c135
      refine s_iconst (x := 1) (nx := 139) hO rfl (by decide) rfl ?_
      refine s_goto hO rfl ?_
      exact s_iret hO rfl rfl rfl ⟨rfl, _, rfl, rfl, H⟩
  · obtain c1 | c1 | c1 | c1 | c1 | c1 | c1 | c1 | c1 | c1 | c1 : (v1).toInt = 6 ∨ (v1).toInt = 7 ∨ (v1).toInt = 8 ∨ (v1).toInt = 9 ∨ (v1).toInt = 10 ∨ (v1).toInt = 11 ∨ (v1).toInt = 12 ∨ (v1).toInt = 13 ∨ (v1).toInt = 14 ∨ (v1).toInt = 15 ∨ (v1).toInt = 16 := by omega
    · replace H := H.2.1 c1
      refine ⟨60, by rw [c1]; rfl, ?_⟩
      refine s_iload_n (nx := 61) hO rfl rfl rfl ?_
      refine s_iload_n (nx := 62) hO rfl rfl rfl ?_
      refine s_iadd (nx := 63) hO rfl rfl ?_
      exact s_iret hO rfl rfl rfl ⟨rfl, _, rfl, rfl, H⟩
    · replace H := H.2.2.1 c1
      refine ⟨64, by rw [c1]; rfl, ?_⟩
      refine s_iload_n (nx := 65) hO rfl rfl rfl ?_
      refine s_iload_n (nx := 66) hO rfl rfl rfl ?_
      refine s_isub (nx := 67) hO rfl rfl ?_
      exact s_iret hO rfl rfl rfl ⟨rfl, _, rfl, rfl, H⟩
    · replace H := H.2.2.2.1 c1
      refine ⟨68, by rw [c1]; rfl, ?_⟩
      refine s_iload_n (nx := 69) hO rfl rfl rfl ?_
      refine s_iload_n (nx := 70) hO rfl rfl rfl ?_
      refine s_imul (nx := 71) hO rfl rfl ?_
      exact s_iret hO rfl rfl rfl ⟨rfl, _, rfl, rfl, H⟩
    · replace H := H.2.2.2.2.1 c1
      refine ⟨72, by rw [c1]; rfl, ?_⟩
      refine s_iload_n (nx := 73) hO rfl rfl rfl ?_
      refine s_if_ne (nx := 76) hO rfl rfl (fun c73 => ?_) (fun c73 => ?_)
      · replace H := H.1 c73
        refine s_iload_n (nx := 81) hO rfl rfl rfl ?_
        refine s_iload_n (nx := 82) hO rfl rfl rfl ?_
        obtain ⟨b1, H⟩ := H
        refine s_idiv (nx := 83) hO rfl b1 rfl ?_
        exact s_iret hO rfl rfl rfl ⟨rfl, _, rfl, rfl, H⟩
      · replace H := H.2 c73
        refine s_iconst (x := 0) (nx := 77) hO rfl (by decide) rfl ?_
        refine s_goto hO rfl ?_
        exact s_iret hO rfl rfl rfl ⟨rfl, _, rfl, rfl, H⟩
    · replace H := H.2.2.2.2.2.1 c1
      refine ⟨84, by rw [c1]; rfl, ?_⟩
      refine s_iload_n (nx := 85) hO rfl rfl rfl ?_
      refine s_if_ne (nx := 88) hO rfl rfl (fun c85 => ?_) (fun c85 => ?_)
      · replace H := H.1 c85
        refine s_iload_n (nx := 93) hO rfl rfl rfl ?_
        refine s_iload_n (nx := 94) hO rfl rfl rfl ?_
        obtain ⟨b2, H⟩ := H
        refine s_irem (nx := 95) hO rfl b2 rfl ?_
        exact s_iret hO rfl rfl rfl ⟨rfl, _, rfl, rfl, H⟩
      · replace H := H.2 c85
        refine s_iconst (x := 0) (nx := 89) hO rfl (by decide) rfl ?_
        refine s_goto hO rfl ?_
        exact s_iret hO rfl rfl rfl ⟨rfl, _, rfl, rfl, H⟩
    · replace H := H.2.2.2.2.2.2.1 c1
      refine ⟨96, by rw [c1]; rfl, ?_⟩
      refine s_iload_n (nx := 97) hO rfl rfl rfl ?_
      refine s_iload_n (nx := 98) hO rfl rfl rfl ?_
      refine s_iand (nx := 99) hO rfl rfl ?_
      exact s_iret hO rfl rfl rfl ⟨rfl, _, rfl, rfl, H⟩
    · replace H := H.2.2.2.2.2.2.2.1 c1
      refine ⟨100, by rw [c1]; rfl, ?_⟩
      refine s_iload_n (nx := 101) hO rfl rfl rfl ?_
      refine s_iload_n (nx := 102) hO rfl rfl rfl ?_
      refine s_ior (nx := 103) hO rfl rfl ?_
      exact s_iret hO rfl rfl rfl ⟨rfl, _, rfl, rfl, H⟩
    · replace H := H.2.2.2.2.2.2.2.2.1 c1
      refine ⟨104, by rw [c1]; rfl, ?_⟩
      refine s_iload_n (nx := 105) hO rfl rfl rfl ?_
      refine s_iload_n (nx := 106) hO rfl rfl rfl ?_
      refine s_ixor (nx := 107) hO rfl rfl ?_
      exact s_iret hO rfl rfl rfl ⟨rfl, _, rfl, rfl, H⟩
    · replace H := H.2.2.2.2.2.2.2.2.2.1 c1
      refine ⟨108, by rw [c1]; rfl, ?_⟩
      refine s_iload_n (nx := 109) hO rfl rfl rfl ?_
      refine s_iload_n (nx := 110) hO rfl rfl rfl ?_
      refine s_bipush (x := (nI 31)) (nx := 112) hO rfl (by decide) rfl ?_
      refine s_iand (nx := 113) hO rfl rfl ?_
      refine s_ishl (nx := 114) hO rfl rfl ?_
      exact s_iret hO rfl rfl rfl ⟨rfl, _, rfl, rfl, H⟩
    · replace H := H.2.2.2.2.2.2.2.2.2.2.1 c1
      refine ⟨115, by rw [c1]; rfl, ?_⟩
      refine s_iload_n (nx := 116) hO rfl rfl rfl ?_
      refine s_iload_n (nx := 117) hO rfl rfl rfl ?_
      refine s_bipush (x := (nI 31)) (nx := 119) hO rfl (by decide) rfl ?_
      refine s_iand (nx := 120) hO rfl rfl ?_
      refine s_ishr (nx := 121) hO rfl rfl ?_
      exact s_iret hO rfl rfl rfl ⟨rfl, _, rfl, rfl, H⟩
    · replace H := H.2.2.2.2.2.2.2.2.2.2.2 c1
      refine ⟨122, by rw [c1]; rfl, ?_⟩
      refine s_iload_n (nx := 123) hO rfl rfl rfl ?_
      refine s_iload_n (nx := 124) hO rfl rfl rfl ?_
      refine s_icmp_ge (nx := 127) hO rfl rfl (fun c124 => ?_) (fun c124 => ?_)
      · replace H := H.1 c124
        refine s_iconst (x := 0) (nx := 132) hO rfl (by decide) rfl ?_
        exact s_iret hO rfl rfl rfl ⟨rfl, _, rfl, rfl, H⟩
      · replace H := H.2 c124
        refine s_iconst (x := 1) (nx := 128) hO rfl (by decide) rfl ?_
        refine s_goto hO rfl ?_
        exact s_iret hO rfl rfl rfl ⟨rfl, _, rfl, rfl, H⟩
def W_X2_doInts (s : yS) (v1 : Int32) (Q : yS → Prop) : Prop :=
 W_X2_pop s 
 (fun r1 s2 => W_X2_pop s2 
 (fun r3 s4 => ∀ P34 : Prop, ((W_X2_reckon s4 v1 r3 r1 
  (fun r5 => W_X2_push s4 r5 
  (fun s6 => Q s6))) → P34) → 
 ∀ P22 : Prop, ((((¬ r1 = 0 → P34)
  ∧ (r1 = 0 → W_X2_throwCode s4 1 
   (fun s7 => Q s7)))) → P22) → 
 ((v1 = (nI 9) → P22)
 ∧ (¬ v1 = (nI 9) → ((¬ v1 = (nI 10) → P34)
  ∧ (v1 = (nI 10) → P22))))))
set_option maxRecDepth 100000 in
set_option maxHeartbeats 40000000 in
theorem w_X2_doInts {G : xG} (hG : yG G) {z : Nat} {s : yS} {v1 : Int32} {Q : yS → Prop} (H : W_X2_doInts s v1 Q) : xC G mX2_doInts [.ref (q_b G + 123), .int v1] (hS G s) z 0 0 (yQv G z Q) := by
  have hW := hG.1
  have hcl := hG.2.1
  have hty := hG.2.2.1
  have hO : xO G mX2_doInts tbX2_doInts ptX2_doInts := ⟨tkX2_doInts, pkX2_doInts hcl⟩
  unfold W_X2_doInts at H
  refine xC.of hW (by decide) rfl (Nat.le_of_ble_eq_true rfl) ?_
  refine s_aload_n (nx := 1) hO rfl rfl rfl ?_
  refine s_callV [] (ci := 2) (F := TX2) (N := 18) (nx := 4) hO rfl kX2_doInts_126 (by rw [hcl]; rfl) (hs_o2 kc123) (w_X2_pop hG H) rfl rfl (Nat.le_of_ble_eq_true rfl) (Nat.zero_le _) (Nat.zero_le _) rfl (k_Qi (fun r1 s2 H => ?_))
  refine s_istore_n (nx := 5) (l' := [(2, .int r1), (0, .ref (q_b G + 123)), (1, .int v1)]) hO rfl (by decide) rfl rfl ?_
  refine s_aload_n (nx := 6) hO rfl rfl rfl ?_
  refine s_callV [] (ci := 2) (F := TX2) (N := 18) (nx := 9) hO rfl kX2_doInts_126 (by rw [hcl]; rfl) (hs_o2 kc123) (w_X2_pop hG H) rfl rfl (Nat.le_of_ble_eq_true rfl) (Nat.zero_le _) (Nat.zero_le _) rfl (k_Qi (fun r3 s4 H => ?_))
  refine s_istore_n (nx := 10) (l' := [(3, .int r3), (2, .int r1), (0, .ref (q_b G + 123)), (1, .int v1)]) hO rfl (by decide) rfl rfl ?_
  refine s_iload_n (nx := 11) hO rfl rfl rfl ?_
  refine s_bipush (x := (nI 9)) (nx := 13) hO rfl (by decide) rfl ?_
  refine goK (H (xEx G mX2_doInts 34 [(0, .ref (q_b G + 123)), (1, .int v1), (2, .int r1), (3, .int r3)] [] (hS G s4) z 0 0 (yQv G z Q)) (fun H => ?_)) (fun H => ?_)
  · show xEx G mX2_doInts 34 [(0, .ref (q_b G + 123)), (1, .int v1), (2, .int r1), (3, .int r3)] [] (hS G s4) z 0 0 (yQv G z Q)
    refine s_aload_n (nx := 35) hO rfl rfl rfl ?_
    refine s_iload_n (nx := 36) hO rfl rfl rfl ?_
    refine s_iload_n (nx := 37) hO rfl rfl rfl ?_
    refine s_iload_n (nx := 38) hO rfl rfl rfl ?_
    refine s_callS [.int v1, .int r3, .int r1] (nx := 41) hO rfl kX2_doInts_133 (w_X2_reckon hG H) rfl rfl (Nat.le_of_ble_eq_true rfl) (Nat.zero_le _) (Nat.zero_le _) rfl (k_Pi (fun r5 H => ?_))
    refine s_callV [.int r5] (ci := 2) (F := TX2) (N := 18) (nx := 44) hO rfl kX2_doInts_123 (by rw [hcl]; rfl) (hs_o2 kc123) (w_X2_push hG H) rfl rfl (Nat.le_of_ble_eq_true rfl) (Nat.zero_le _) (Nat.zero_le _) rfl (k_Qv (fun s6 H => ?_))
    exact s_vret hO rfl rfl ⟨rfl, _, rfl, rfl, H⟩
  refine goK (H (xEx G mX2_doInts 22 [(0, .ref (q_b G + 123)), (1, .int v1), (2, .int r1), (3, .int r3)] [] (hS G s4) z 0 0 (yQv G z Q)) (fun H => ?_)) (fun H => ?_)
  · show xEx G mX2_doInts 22 [(0, .ref (q_b G + 123)), (1, .int v1), (2, .int r1), (3, .int r3)] [] (hS G s4) z 0 0 (yQv G z Q)
    refine s_iload_n (nx := 23) hO rfl rfl rfl ?_
    refine s_if_ne (nx := 26) hO rfl rfl (fun c23 => ?_) (fun c23 => ?_)
    · replace H := H.1 c23
      exact xEx.loc (x_sub1 (List.Mem.head _) (x_sub1 (List.Mem.tail _ (List.Mem.head _)) (x_sub1 (List.Mem.tail _ (List.Mem.tail _ (List.Mem.head _))) (x_sub1 (List.Mem.tail _ (List.Mem.tail _ (List.Mem.tail _ (List.Mem.head _)))) x_sub0)))) H
    · replace H := H.2 c23
      refine s_aload_n (nx := 27) hO rfl rfl rfl ?_
      refine s_iconst (x := 1) (nx := 28) hO rfl (by decide) rfl ?_
      refine s_callV [.int 1] (ci := 2) (F := TX2) (N := 18) (nx := 31) hO rfl kX2_doInts_130 (by rw [hcl]; rfl) (hs_o2 kc123) (w_X2_throwCode hG H) rfl rfl (Nat.le_of_ble_eq_true rfl) (Nat.zero_le _) (Nat.zero_le _) rfl (k_Qv (fun s7 H => ?_))
      refine s_goto hO rfl ?_
      exact s_vret hO rfl rfl ⟨rfl, _, rfl, rfl, H⟩
  refine s_icmp_eq (nx := 16) hO rfl rfl (fun c13 => ?_) (fun c13 => ?_)
  · replace H := H.1 c13
    exact xEx.loc (x_sub1 (List.Mem.tail _ (List.Mem.tail _ (List.Mem.head _))) (x_sub1 (List.Mem.tail _ (List.Mem.tail _ (List.Mem.tail _ (List.Mem.head _)))) (x_sub1 (List.Mem.tail _ (List.Mem.head _)) (x_sub1 (List.Mem.head _) x_sub0)))) H
  · replace H := H.2 c13
    refine s_iload_n (nx := 17) hO rfl rfl rfl ?_
    refine s_bipush (x := (nI 10)) (nx := 19) hO rfl (by decide) rfl ?_
    refine s_icmp_ne (nx := 22) hO rfl rfl (fun c19 => ?_) (fun c19 => ?_)
    · replace H := H.1 c19
      exact xEx.loc (x_sub1 (List.Mem.tail _ (List.Mem.tail _ (List.Mem.head _))) (x_sub1 (List.Mem.tail _ (List.Mem.tail _ (List.Mem.tail _ (List.Mem.head _)))) (x_sub1 (List.Mem.tail _ (List.Mem.head _)) (x_sub1 (List.Mem.head _) x_sub0)))) H
    · replace H := H.2 c19
      exact xEx.loc (x_sub1 (List.Mem.tail _ (List.Mem.tail _ (List.Mem.head _))) (x_sub1 (List.Mem.tail _ (List.Mem.tail _ (List.Mem.tail _ (List.Mem.head _)))) (x_sub1 (List.Mem.tail _ (List.Mem.head _)) (x_sub1 (List.Mem.head _) x_sub0)))) H
def W_X2_doJump (s : yS) (v1 : Int32) (v2 : Int32) (Q : yS → Prop) : Prop :=
 ((v1 = (nI 18) → ∀ s1 : yS, s1 = wI s 123 16 v2 → 
  Q s1)
 ∧ (¬ v1 = (nI 18) → W_X2_pop s 
  (fun r2 s3 => ∀ P18 : Int32 → Prop, (∀ (y4 : Int32), (∀ P29 : Int32 → Prop, (∀ (y5 : Int32), (((¬ y4 = y5 → Q s3)
    ∧ (y4 = y5 → ∀ s6 : yS, s6 = wI s3 123 16 v2 → 
     Q s6))) → P29 y5) → 
   ((¬ v1 = (nI 19) → P29 0)
   ∧ (v1 = (nI 19) → P29 1))) → P18 y4) → 
  ((r2 = 0 → P18 0)
  ∧ (¬ r2 = 0 → P18 1)))))
set_option maxRecDepth 100000 in
set_option maxHeartbeats 40000000 in
theorem w_X2_doJump {G : xG} (hG : yG G) {z : Nat} {s : yS} {v1 : Int32} {v2 : Int32} {Q : yS → Prop} (H : W_X2_doJump s v1 v2 Q) : xC G mX2_doJump [.ref (q_b G + 123), .int v1, .int v2] (hS G s) z 0 0 (yQv G z Q) := by
  have hW := hG.1
  have hcl := hG.2.1
  have hty := hG.2.2.1
  have hO : xO G mX2_doJump tbX2_doJump ptX2_doJump := ⟨tkX2_doJump, pkX2_doJump hcl⟩
  unfold W_X2_doJump at H
  refine xC.of hW (by decide) rfl (Nat.le_of_ble_eq_true rfl) ?_
  refine s_iload_n (nx := 1) hO rfl rfl rfl ?_
  refine s_bipush (x := (nI 18)) (nx := 3) hO rfl (by decide) rfl ?_
  refine s_icmp_eq (nx := 6) hO rfl rfl (fun c3 => ?_) (fun c3 => ?_)
  · replace H := H.1 c3
    refine s_aload_n (nx := 33) hO rfl rfl rfl ?_
    refine s_iload_n (nx := 34) hO rfl rfl rfl ?_
    refine goV (wI s 123 16 v2) (fun s1 es1 => ?_)
    replace H := H s1 es1
    refine s_putf (nx := 37) hO rfl rfl (hs_o2 kc123) (Nat.le_of_ble_eq_true rfl) (by rw [hty]; rfl) (by rw [hty]; rfl) pX2_16 rfl ?_
    refine xEx.at (up_oI2 kc123 es1) ?_
    exact s_vret hO rfl rfl ⟨rfl, _, rfl, rfl, H⟩
  · replace H := H.2 c3
    refine s_aload_n (nx := 7) hO rfl rfl rfl ?_
    refine s_callV [] (ci := 2) (F := TX2) (N := 18) (nx := 10) hO rfl kX2_doJump_126 (by rw [hcl]; rfl) (hs_o2 kc123) (w_X2_pop hG H) rfl rfl (Nat.le_of_ble_eq_true rfl) (Nat.zero_le _) (Nat.zero_le _) rfl (k_Qi (fun r2 s3 H => ?_))
    refine goK (H (fun (y4 : Int32) => xEx G mX2_doJump 18 [(0, .ref (q_b G + 123)), (1, .int v1), (2, .int v2)] [.int y4] (hS G s3) z 0 0 (yQv G z Q)) (fun y4 H => ?_)) (fun H => ?_)
    · show xEx G mX2_doJump 18 [(0, .ref (q_b G + 123)), (1, .int v1), (2, .int v2)] [.int y4] (hS G s3) z 0 0 (yQv G z Q)
      refine s_iload_n (nx := 19) hO rfl rfl rfl ?_
      refine s_bipush (x := (nI 19)) (nx := 21) hO rfl (by decide) rfl ?_
      refine goK (H (fun (y5 : Int32) => xEx G mX2_doJump 29 [(0, .ref (q_b G + 123)), (2, .int v2)] [.int y5, .int y4] (hS G s3) z 0 0 (yQv G z Q)) (fun y5 H => ?_)) (fun H => ?_)
      · show xEx G mX2_doJump 29 [(0, .ref (q_b G + 123)), (2, .int v2)] [.int y5, .int y4] (hS G s3) z 0 0 (yQv G z Q)
        refine s_icmp_ne (nx := 32) hO rfl rfl (fun c29 => ?_) (fun c29 => ?_)
        · replace H := H.1 c29
          exact s_vret hO rfl rfl ⟨rfl, _, rfl, rfl, H⟩
        · replace H := H.2 c29
          refine s_aload_n (nx := 33) hO rfl rfl rfl ?_
          refine s_iload_n (nx := 34) hO rfl rfl rfl ?_
          refine goV (wI s3 123 16 v2) (fun s6 es6 => ?_)
          replace H := H s6 es6
          refine s_putf (nx := 37) hO rfl rfl (hs_o2 kc123) (Nat.le_of_ble_eq_true rfl) (by rw [hty]; rfl) (by rw [hty]; rfl) pX2_16 rfl ?_
          refine xEx.at (up_oI2 kc123 es6) ?_
          exact s_vret hO rfl rfl ⟨rfl, _, rfl, rfl, H⟩
      refine s_icmp_ne (nx := 24) hO rfl rfl (fun c21 => ?_) (fun c21 => ?_)
      · replace H := H.1 c21
        refine s_iconst (x := 0) (nx := 29) hO rfl (by decide) rfl ?_
        exact xEx.loc (x_sub1 (List.Mem.head _) (x_sub1 (List.Mem.tail _ (List.Mem.tail _ (List.Mem.head _))) x_sub0)) H
      · replace H := H.2 c21
        refine s_iconst (x := 1) (nx := 25) hO rfl (by decide) rfl ?_
        refine s_goto hO rfl ?_
        exact xEx.loc (x_sub1 (List.Mem.head _) (x_sub1 (List.Mem.tail _ (List.Mem.tail _ (List.Mem.head _))) x_sub0)) H
    refine s_if_eq (nx := 13) hO rfl rfl (fun c10 => ?_) (fun c10 => ?_)
    · replace H := H.1 c10
      refine s_iconst (x := 0) (nx := 18) hO rfl (by decide) rfl ?_
      exact xEx.loc (x_sub1 (List.Mem.head _) (x_sub1 (List.Mem.tail _ (List.Mem.head _)) (x_sub1 (List.Mem.tail _ (List.Mem.tail _ (List.Mem.head _))) x_sub0))) H
    · replace H := H.2 c10
      refine s_iconst (x := 1) (nx := 14) hO rfl (by decide) rfl ?_
      refine s_goto hO rfl ?_
      exact xEx.loc (x_sub1 (List.Mem.head _) (x_sub1 (List.Mem.tail _ (List.Mem.head _)) (x_sub1 (List.Mem.tail _ (List.Mem.tail _ (List.Mem.head _))) x_sub0))) H
def W_X2_makeRow (s : yS) (v1 : Int32) (Q : yS → Prop) : Prop :=
 vp_in (nI 6) 8 ∧ 
 ∀ x2 : Int32, x2 = (sI s 124 (ix (nI 6))) → 
 ∀ P28 : Prop, ((W_X2_throwCode s (nI 3) 
  (fun s3 => Q s3)) → P28) → 
 ((v1 < 0 → P28)
 ∧ (¬ v1 < 0 → (((nI 256) < v1 → P28)
  ∧ (¬ (nI 256) < v1 → ((v1 ≤ ((nI 4096) - x2) → ∀ P36 : Int32 → yS → Prop, (∀ (x4 : Int32) (s5 : yS), ((((x2 + v1) ≤ x4 → vp_in (nI 6) 8 ∧ ∀ s7 : yS, s7 = wI s5 124 (ix (nI 6)) (x2 + v1) → 
      W_X2_push s7 ((x2 <<< ((nI 9) &&& 31)) ||| v1) 
      (fun s8 => Q s8))
     ∧ (¬ (x2 + v1) ≤ x4 → vp_in x4 4096 ∧ ∀ s10 : yS, s10 = wI s5 130 (ix x4) 0 → 
      ∀ x11 : Int32, x11 = (x4 + 1) → 
      P36 x11 s10))) → P36 x4 s5) → 
    P36 x2 s)
   ∧ (¬ v1 ≤ ((nI 4096) - x2) → P28))))))
set_option maxRecDepth 100000 in
set_option maxHeartbeats 40000000 in
theorem w_X2_makeRow {G : xG} (hG : yG G) {z : Nat} {s : yS} {v1 : Int32} {Q : yS → Prop} (H : W_X2_makeRow s v1 Q) : xC G mX2_makeRow [.ref (q_b G + 123), .int v1] (hS G s) z 0 0 (yQv G z Q) := by
  have hW := hG.1
  have hcl := hG.2.1
  have hty := hG.2.2.1
  have hO : xO G mX2_makeRow tbX2_makeRow ptX2_makeRow := ⟨tkX2_makeRow, pkX2_makeRow hcl⟩
  unfold W_X2_makeRow at H
  refine xC.of hW (by decide) rfl (Nat.le_of_ble_eq_true rfl) ?_
  refine s_aload_n (nx := 1) hO rfl rfl rfl ?_
  refine s_getf (v := .ref (q_b G + 124)) (nx := 4) hO rfl rfl (hs_o2 kc123) rfl rfl ?_
  refine s_bipush (x := (nI 6)) (nx := 6) hO rfl (by decide) rfl ?_
  obtain ⟨b1, H⟩ := H
  refine s_iald (nx := 7) hO rfl (hs_I kc124) b1 rfl ?_
  refine goV ((sI s 124 (ix (nI 6)))) (fun x2 ex2 => ?_)
  replace H := H x2 ex2
  refine e_istore_n (nx := 8) (l' := [(2, .int x2), (0, .ref (q_b G + 123)), (1, .int v1)]) ex2 hO rfl (by decide) rfl rfl ?_
  refine s_iload_n (nx := 9) hO rfl rfl rfl ?_
  refine goK (H (xEx G mX2_makeRow 28 [(0, .ref (q_b G + 123))] [] (hS G s) z 0 0 (yQv G z Q)) (fun H => ?_)) (fun H => ?_)
  · show xEx G mX2_makeRow 28 [(0, .ref (q_b G + 123))] [] (hS G s) z 0 0 (yQv G z Q)
    refine s_aload_n (nx := 29) hO rfl rfl rfl ?_
    refine s_iconst (x := (nI 3)) (nx := 30) hO rfl (by decide) rfl ?_
    refine s_callV [.int (nI 3)] (ci := 2) (F := TX2) (N := 18) (nx := 33) hO rfl kX2_makeRow_130 (by rw [hcl]; rfl) (hs_o2 kc123) (w_X2_throwCode hG H) rfl rfl (Nat.le_of_ble_eq_true rfl) (Nat.zero_le _) (Nat.zero_le _) rfl (k_Qv (fun s3 H => ?_))
    exact s_vret hO rfl rfl ⟨rfl, _, rfl, rfl, H⟩
  refine s_if_lt (nx := 12) hO rfl rfl (fun c9 => ?_) (fun c9 => ?_)
  · replace H := H.1 c9
    exact xEx.loc (x_sub1 (List.Mem.tail _ (List.Mem.head _)) x_sub0) H
  · replace H := H.2 c9
    refine s_iload_n (nx := 13) hO rfl rfl rfl ?_
    refine s_sipush (x := (nI 256)) (nx := 16) hO rfl (by decide) rfl ?_
    refine s_icmp_gt (nx := 19) hO rfl rfl (fun c16 => ?_) (fun c16 => ?_)
    · replace H := H.1 c16
      exact xEx.loc (x_sub1 (List.Mem.tail _ (List.Mem.head _)) x_sub0) H
    · replace H := H.2 c16
      refine s_iload_n (nx := 20) hO rfl rfl rfl ?_
      refine s_sipush (x := (nI 4096)) (nx := 23) hO rfl (by decide) rfl ?_
      refine s_iload_n (nx := 24) hO rfl rfl rfl ?_
      refine s_isub (nx := 25) hO rfl rfl ?_
      refine s_icmp_le (nx := 28) hO rfl rfl (fun c25 => ?_) (fun c25 => ?_)
      · replace H := H.1 c25
        refine s_iload_n (nx := 35) hO rfl rfl rfl ?_
        refine goK (H (fun (x4 : Int32) (s5 : yS) => xEx G mX2_makeRow 36 [(0, .ref (q_b G + 123)), (1, .int v1), (2, .int x2), (3, .int x4)] [] (hS G s5) z 0 0 (yQv G z Q)) (fun x4 s5 H => ?_)) (fun H => ?_)
        · show xEx G mX2_makeRow 36 [(0, .ref (q_b G + 123)), (1, .int v1), (2, .int x2), (3, .int x4)] [] (hS G s5) z 0 0 (yQv G z Q)
          refine s_iload_n (nx := 37) hO rfl rfl rfl ?_
          refine s_iload_n (nx := 38) hO rfl rfl rfl ?_
          refine s_iload_n (nx := 39) hO rfl rfl rfl ?_
          refine s_iadd (nx := 40) hO rfl rfl ?_
          refine s_icmp_ge (nx := 43) hO rfl rfl (fun c40 => ?_) (fun c40 => ?_)
          · replace H := H.1 c40
            refine s_aload_n (nx := 57) hO rfl rfl rfl ?_
            refine s_getf (v := .ref (q_b G + 124)) (nx := 60) hO rfl rfl (hs_o2 kc123) rfl rfl ?_
            refine s_bipush (x := (nI 6)) (nx := 62) hO rfl (by decide) rfl ?_
            refine s_iload_n (nx := 63) hO rfl rfl rfl ?_
            refine s_iload_n (nx := 64) hO rfl rfl rfl ?_
            refine s_iadd (nx := 65) hO rfl rfl ?_
            obtain ⟨b6, H⟩ := H
            refine goV (wI s5 124 (ix (nI 6)) (x2 + v1)) (fun s7 es7 => ?_)
            replace H := H s7 es7
            refine s_iast (nx := 66) hO rfl (hs_I kc124) b6 rfl ?_
            refine xEx.at (up_I kc124 es7) ?_
            refine s_aload_n (nx := 67) hO rfl rfl rfl ?_
            refine s_iload_n (nx := 68) hO rfl rfl rfl ?_
            refine s_bipush (x := (nI 9)) (nx := 70) hO rfl (by decide) rfl ?_
            refine s_ishl (nx := 71) hO rfl rfl ?_
            refine s_iload_n (nx := 72) hO rfl rfl rfl ?_
            refine s_ior (nx := 73) hO rfl rfl ?_
            refine s_callV [.int ((x2 <<< ((nI 9) &&& 31)) ||| v1)] (ci := 2) (F := TX2) (N := 18) (nx := 76) hO rfl kX2_makeRow_123 (by rw [hcl]; rfl) (hs_o2 kc123) (w_X2_push hG H) rfl rfl (Nat.le_of_ble_eq_true rfl) (Nat.zero_le _) (Nat.zero_le _) rfl (k_Qv (fun s8 H => ?_))
            exact s_vret hO rfl rfl ⟨rfl, _, rfl, rfl, H⟩
          · replace H := H.2 c40
            refine s_aload_n (nx := 44) hO rfl rfl rfl ?_
            refine s_getf (v := .ref (q_b G + 130)) (nx := 47) hO rfl rfl (hs_o2 kc123) rfl rfl ?_
            refine s_iload_n (nx := 48) hO rfl rfl rfl ?_
            refine s_iconst (x := 0) (nx := 49) hO rfl (by decide) rfl ?_
            obtain ⟨b9, H⟩ := H
            refine goV (wI s5 130 (ix x4) 0) (fun s10 es10 => ?_)
            replace H := H s10 es10
            refine s_iast (nx := 50) hO rfl (hs_I kc130) b9 rfl ?_
            refine xEx.at (up_I kc130 es10) ?_
            refine goV ((x4 + 1)) (fun x11 ex11 => ?_)
            replace H := H x11 ex11
            refine e_iinc (nx := 53) (l' := [(3, .int x11), (0, .ref (q_b G + 123)), (1, .int v1), (2, .int x2)]) ex11 hO rfl (by decide) rfl rfl rfl rfl ?_
            refine s_goto hO rfl ?_
            exact xEx.loc (x_sub1 (List.Mem.tail _ (List.Mem.head _)) (x_sub1 (List.Mem.tail _ (List.Mem.tail _ (List.Mem.head _))) (x_sub1 (List.Mem.tail _ (List.Mem.tail _ (List.Mem.tail _ (List.Mem.head _)))) (x_sub1 (List.Mem.head _) x_sub0)))) H
        refine s_istore_n (nx := 36) (l' := [(3, .int x2), (2, .int x2), (0, .ref (q_b G + 123)), (1, .int v1)]) hO rfl (by decide) rfl rfl ?_
        exact xEx.loc (x_sub1 (List.Mem.tail _ (List.Mem.tail _ (List.Mem.head _))) (x_sub1 (List.Mem.tail _ (List.Mem.tail _ (List.Mem.tail _ (List.Mem.head _)))) (x_sub1 (List.Mem.tail _ (List.Mem.head _)) (x_sub1 (List.Mem.head _) x_sub0)))) H
      · replace H := H.2 c25
        exact xEx.loc (x_sub1 (List.Mem.tail _ (List.Mem.head _)) x_sub0) H
def W_X2_doRow (s : yS) (v1 : Int32) (Q : yS → Prop) : Prop :=
 ((¬ v1 = (nI 21) → ((¬ v1 = (nI 24) → ∀ P52 : Int32 → yS → Prop, (∀ (y1 : Int32) (s2 : yS), (W_X2_pop s2 
    (fun r3 s4 => W_X2_pop s4 
    (fun r5 s6 => ∀ P78 : Prop, ((W_X2_throwCode s6 (nI 2) 
     (fun s7 => Q s7)) → P78) → 
    ((r3 < 0 → P78)
    ∧ (¬ r3 < 0 → ((r3 < (r5 &&& (nI 511)) → ((¬ v1 = (nI 23) → vp_in ((r5 >>> ((nI 9) &&& 31)) + r3) 4096 ∧ 
       W_X2_push s6 (sI s6 130 (ix ((r5 >>> ((nI 9) &&& 31)) + r3))) 
       (fun s9 => Q s9))
      ∧ (v1 = (nI 23) → vp_in ((r5 >>> ((nI 9) &&& 31)) + r3) 4096 ∧ ∀ s11 : yS, s11 = wI s6 130 (ix ((r5 >>> ((nI 9) &&& 31)) + r3)) y1 → 
       Q s11)))
     ∧ (¬ r3 < (r5 &&& (nI 511)) → P78))))))) → P52 y1 s2) → 
   ((¬ v1 = (nI 23) → P52 0 s)
   ∧ (v1 = (nI 23) → W_X2_pop s 
    (fun r12 s13 => P52 r12 s13))))
  ∧ (v1 = (nI 24) → W_X2_pop s 
   (fun r14 s15 => W_X2_push s15 (r14 &&& (nI 511)) 
   (fun s16 => Q s16)))))
 ∧ (v1 = (nI 21) → W_X2_pop s 
  (fun r17 s18 => W_X2_makeRow s18 r17 
  (fun s19 => Q s19))))
set_option maxRecDepth 100000 in
set_option maxHeartbeats 40000000 in
theorem w_X2_doRow {G : xG} (hG : yG G) {z : Nat} {s : yS} {v1 : Int32} {Q : yS → Prop} (H : W_X2_doRow s v1 Q) : xC G mX2_doRow [.ref (q_b G + 123), .int v1] (hS G s) z 0 0 (yQv G z Q) := by
  have hW := hG.1
  have hcl := hG.2.1
  have hty := hG.2.2.1
  have hO : xO G mX2_doRow tbX2_doRow ptX2_doRow := ⟨tkX2_doRow, pkX2_doRow hcl⟩
  unfold W_X2_doRow at H
  refine xC.of hW (by decide) rfl (Nat.le_of_ble_eq_true rfl) ?_
  refine s_iload_n (nx := 1) hO rfl rfl rfl ?_
  refine s_bipush (x := (nI 21)) (nx := 3) hO rfl (by decide) rfl ?_
  refine s_icmp_ne (nx := 6) hO rfl rfl (fun c3 => ?_) (fun c3 => ?_)
  · replace H := H.1 c3
    refine s_iload_n (nx := 18) hO rfl rfl rfl ?_
    refine s_bipush (x := (nI 24)) (nx := 20) hO rfl (by decide) rfl ?_
    refine s_icmp_ne (nx := 23) hO rfl rfl (fun c20 => ?_) (fun c20 => ?_)
    · replace H := H.1 c20
      refine s_iload_n (nx := 39) hO rfl rfl rfl ?_
      refine s_bipush (x := (nI 23)) (nx := 41) hO rfl (by decide) rfl ?_
      refine goK (H (fun (y1 : Int32) (s2 : yS) => xEx G mX2_doRow 52 [(0, .ref (q_b G + 123)), (1, .int v1)] [.int y1] (hS G s2) z 0 0 (yQv G z Q)) (fun y1 s2 H => ?_)) (fun H => ?_)
      · show xEx G mX2_doRow 52 [(0, .ref (q_b G + 123)), (1, .int v1)] [.int y1] (hS G s2) z 0 0 (yQv G z Q)
        refine s_istore_n (nx := 53) (l' := [(2, .int y1), (0, .ref (q_b G + 123)), (1, .int v1)]) hO rfl (by decide) rfl rfl ?_
        refine s_aload_n (nx := 54) hO rfl rfl rfl ?_
        refine s_callV [] (ci := 2) (F := TX2) (N := 18) (nx := 57) hO rfl kX2_doRow_126 (by rw [hcl]; rfl) (hs_o2 kc123) (w_X2_pop hG H) rfl rfl (Nat.le_of_ble_eq_true rfl) (Nat.zero_le _) (Nat.zero_le _) rfl (k_Qi (fun r3 s4 H => ?_))
        refine s_istore_n (nx := 58) (l' := [(3, .int r3), (2, .int y1), (0, .ref (q_b G + 123)), (1, .int v1)]) hO rfl (by decide) rfl rfl ?_
        refine s_aload_n (nx := 59) hO rfl rfl rfl ?_
        refine s_callV [] (ci := 2) (F := TX2) (N := 18) (nx := 62) hO rfl kX2_doRow_126 (by rw [hcl]; rfl) (hs_o2 kc123) (w_X2_pop hG H) rfl rfl (Nat.le_of_ble_eq_true rfl) (Nat.zero_le _) (Nat.zero_le _) rfl (k_Qi (fun r5 s6 H => ?_))
        refine s_istore (nx := 64) (l' := [(4, .int r5), (3, .int r3), (2, .int y1), (0, .ref (q_b G + 123)), (1, .int v1)]) hO rfl (by decide) rfl rfl ?_
        refine s_iload_n (nx := 65) hO rfl rfl rfl ?_
        refine goK (H (xEx G mX2_doRow 78 [(0, .ref (q_b G + 123))] [] (hS G s6) z 0 0 (yQv G z Q)) (fun H => ?_)) (fun H => ?_)
        · show xEx G mX2_doRow 78 [(0, .ref (q_b G + 123))] [] (hS G s6) z 0 0 (yQv G z Q)
          refine s_aload_n (nx := 79) hO rfl rfl rfl ?_
          refine s_iconst (x := (nI 2)) (nx := 80) hO rfl (by decide) rfl ?_
          refine s_callV [.int (nI 2)] (ci := 2) (F := TX2) (N := 18) (nx := 83) hO rfl kX2_doRow_130 (by rw [hcl]; rfl) (hs_o2 kc123) (w_X2_throwCode hG H) rfl rfl (Nat.le_of_ble_eq_true rfl) (Nat.zero_le _) (Nat.zero_le _) rfl (k_Qv (fun s7 H => ?_))
          refine s_goto hO rfl ?_
          exact s_vret hO rfl rfl ⟨rfl, _, rfl, rfl, H⟩
        refine s_if_lt (nx := 68) hO rfl rfl (fun c65 => ?_) (fun c65 => ?_)
        · replace H := H.1 c65
          exact xEx.loc (x_sub1 (List.Mem.tail _ (List.Mem.tail _ (List.Mem.tail _ (List.Mem.head _)))) x_sub0) H
        · replace H := H.2 c65
          refine s_iload_n (nx := 69) hO rfl rfl rfl ?_
          refine s_iload (nx := 71) hO rfl rfl rfl ?_
          refine s_sipush (x := (nI 511)) (nx := 74) hO rfl (by decide) rfl ?_
          refine s_iand (nx := 75) hO rfl rfl ?_
          refine s_icmp_lt (nx := 78) hO rfl rfl (fun c75 => ?_) (fun c75 => ?_)
          · replace H := H.1 c75
            refine s_iload_n (nx := 87) hO rfl rfl rfl ?_
            refine s_bipush (x := (nI 23)) (nx := 89) hO rfl (by decide) rfl ?_
            refine s_icmp_ne (nx := 92) hO rfl rfl (fun c89 => ?_) (fun c89 => ?_)
            · replace H := H.1 c89
              refine s_aload_n (nx := 109) hO rfl rfl rfl ?_
              refine s_aload_n (nx := 110) hO rfl rfl rfl ?_
              refine s_getf (v := .ref (q_b G + 130)) (nx := 113) hO rfl rfl (hs_o2 kc123) rfl rfl ?_
              refine s_iload (nx := 115) hO rfl rfl rfl ?_
              refine s_bipush (x := (nI 9)) (nx := 117) hO rfl (by decide) rfl ?_
              refine s_ishr (nx := 118) hO rfl rfl ?_
              refine s_iload_n (nx := 119) hO rfl rfl rfl ?_
              refine s_iadd (nx := 120) hO rfl rfl ?_
              obtain ⟨b8, H⟩ := H
              refine s_iald (nx := 121) hO rfl (hs_I kc130) b8 rfl ?_
              refine s_callV [.int (sI s6 130 (ix ((r5 >>> ((nI 9) &&& 31)) + r3)))] (ci := 2) (F := TX2) (N := 18) (nx := 124) hO rfl kX2_doRow_123 (by rw [hcl]; rfl) (hs_o2 kc123) (w_X2_push hG H) rfl rfl (Nat.le_of_ble_eq_true rfl) (Nat.zero_le _) (Nat.zero_le _) rfl (k_Qv (fun s9 H => ?_))
              exact s_vret hO rfl rfl ⟨rfl, _, rfl, rfl, H⟩
            · replace H := H.2 c89
              refine s_aload_n (nx := 93) hO rfl rfl rfl ?_
              refine s_getf (v := .ref (q_b G + 130)) (nx := 96) hO rfl rfl (hs_o2 kc123) rfl rfl ?_
              refine s_iload (nx := 98) hO rfl rfl rfl ?_
              refine s_bipush (x := (nI 9)) (nx := 100) hO rfl (by decide) rfl ?_
              refine s_ishr (nx := 101) hO rfl rfl ?_
              refine s_iload_n (nx := 102) hO rfl rfl rfl ?_
              refine s_iadd (nx := 103) hO rfl rfl ?_
              refine s_iload_n (nx := 104) hO rfl rfl rfl ?_
              obtain ⟨b10, H⟩ := H
              refine goV (wI s6 130 (ix ((r5 >>> ((nI 9) &&& 31)) + r3)) y1) (fun s11 es11 => ?_)
              replace H := H s11 es11
              refine s_iast (nx := 105) hO rfl (hs_I kc130) b10 rfl ?_
              refine xEx.at (up_I kc130 es11) ?_
              refine s_goto hO rfl ?_
              exact s_vret hO rfl rfl ⟨rfl, _, rfl, rfl, H⟩
          · replace H := H.2 c75
            exact xEx.loc (x_sub1 (List.Mem.tail _ (List.Mem.tail _ (List.Mem.tail _ (List.Mem.head _)))) x_sub0) H
      refine s_icmp_ne (nx := 44) hO rfl rfl (fun c41 => ?_) (fun c41 => ?_)
      · replace H := H.1 c41
        refine s_iconst (x := 0) (nx := 52) hO rfl (by decide) rfl ?_
        exact xEx.loc (x_sub1 (List.Mem.head _) (x_sub1 (List.Mem.tail _ (List.Mem.head _)) x_sub0)) H
      · replace H := H.2 c41
        refine s_aload_n (nx := 45) hO rfl rfl rfl ?_
        refine s_callV [] (ci := 2) (F := TX2) (N := 18) (nx := 48) hO rfl kX2_doRow_126 (by rw [hcl]; rfl) (hs_o2 kc123) (w_X2_pop hG H) rfl rfl (Nat.le_of_ble_eq_true rfl) (Nat.zero_le _) (Nat.zero_le _) rfl (k_Qi (fun r12 s13 H => ?_))
        refine s_goto hO rfl ?_
        exact xEx.loc (x_sub1 (List.Mem.head _) (x_sub1 (List.Mem.tail _ (List.Mem.head _)) x_sub0)) H
    · replace H := H.2 c20
      refine s_aload_n (nx := 24) hO rfl rfl rfl ?_
      refine s_aload_n (nx := 25) hO rfl rfl rfl ?_
      refine s_callV [] (ci := 2) (F := TX2) (N := 18) (nx := 28) hO rfl kX2_doRow_126 (by rw [hcl]; rfl) (hs_o2 kc123) (w_X2_pop hG H) rfl rfl (Nat.le_of_ble_eq_true rfl) (Nat.zero_le _) (Nat.zero_le _) rfl (k_Qi (fun r14 s15 H => ?_))
      refine s_sipush (x := (nI 511)) (nx := 31) hO rfl (by decide) rfl ?_
      refine s_iand (nx := 32) hO rfl rfl ?_
      refine s_callV [.int (r14 &&& (nI 511))] (ci := 2) (F := TX2) (N := 18) (nx := 35) hO rfl kX2_doRow_123 (by rw [hcl]; rfl) (hs_o2 kc123) (w_X2_push hG H) rfl rfl (Nat.le_of_ble_eq_true rfl) (Nat.zero_le _) (Nat.zero_le _) rfl (k_Qv (fun s16 H => ?_))
      refine s_goto hO rfl ?_
      exact s_vret hO rfl rfl ⟨rfl, _, rfl, rfl, H⟩
  · replace H := H.2 c3
    refine s_aload_n (nx := 7) hO rfl rfl rfl ?_
    refine s_aload_n (nx := 8) hO rfl rfl rfl ?_
    refine s_callV [] (ci := 2) (F := TX2) (N := 18) (nx := 11) hO rfl kX2_doRow_126 (by rw [hcl]; rfl) (hs_o2 kc123) (w_X2_pop hG H) rfl rfl (Nat.le_of_ble_eq_true rfl) (Nat.zero_le _) (Nat.zero_le _) rfl (k_Qi (fun r17 s18 H => ?_))
    refine s_callV [.int r17] (ci := 2) (F := TX2) (N := 18) (nx := 14) hO rfl kX2_doRow_137 (by rw [hcl]; rfl) (hs_o2 kc123) (w_X2_makeRow hG H) rfl rfl (Nat.le_of_ble_eq_true rfl) (Nat.zero_le _) (Nat.zero_le _) rfl (k_Qv (fun s19 H => ?_))
    refine s_goto hO rfl ?_
    exact s_vret hO rfl rfl ⟨rfl, _, rfl, rfl, H⟩
def W_X2_callOutside (s : yS) (v1 : Int32) (Q : yS → Prop) : Prop :=
 vp_in (nI 3) 8 ∧ 
 ∀ x2 : Int32, x2 = (sI s 124 (ix (nI 3))) → 
 ∀ P25 : Int32 → Prop, (∀ (y3 : Int32), (∀ P88 : yS → Prop, (∀ (s4 : yS), (vp_in (nI 3) 8 ∧ 
   vp_in (nI 3) 8 ∧ ∀ s7 : yS, s7 = wI s4 124 (ix (nI 3)) ((sI s4 124 (ix (nI 3))) + 1) → 
   ∀ s8 : yS, s8 = wI s7 123 17 ((sI s7 123 17) - (v1 - v1 / (nI 4) * (nI 4))) → 
   W_X2_push s8 y3 
   (fun s9 => Q s9)) → P88 s4) → 
  (((nI 256) ≤ x2 → P88 s)
  ∧ (¬ (nI 256) ≤ x2 → vp_in (x2 * (nI 5)) 1280 ∧ ∀ s11 : yS, s11 = wI s 129 (ix (x2 * (nI 5))) v1 → 
   ∀ P45 : Int32 → yS → Prop, (∀ (x12 : Int32) (s13 : yS), ((((nI 3) ≤ x12 → vp_in ((x2 * (nI 5)) + (nI 4)) 1280 ∧ ∀ s15 : yS, s15 = wI s13 129 (ix ((x2 * (nI 5)) + (nI 4))) y3 → 
     P88 s15)
    ∧ (¬ (nI 3) ≤ x12 → W_X2_argument s13 v1 x12 
     (fun r16 => vp_in (((x2 * (nI 5)) + 1) + x12) 1280 ∧ ∀ s18 : yS, s18 = wI s13 129 (ix (((x2 * (nI 5)) + 1) + x12)) r16 → 
     ∀ x19 : Int32, x19 = (x12 + 1) → 
     P45 x19 s18)))) → P45 x12 s13) → 
   P45 0 s11))) → P25 y3) → 
 (((sI s 123 2) ≤ x2 → P25 0)
 ∧ (¬ (sI s 123 2) ≤ x2 → vp_in x2 256 ∧ 
  P25 (sI s 128 (ix x2))))
set_option maxRecDepth 100000 in
set_option maxHeartbeats 40000000 in
theorem w_X2_callOutside {G : xG} (hG : yG G) {z : Nat} {s : yS} {v1 : Int32} {Q : yS → Prop} (H : W_X2_callOutside s v1 Q) : xC G mX2_callOutside [.ref (q_b G + 123), .int v1] (hS G s) z 0 0 (yQv G z Q) := by
  have hW := hG.1
  have hcl := hG.2.1
  have hty := hG.2.2.1
  have hO : xO G mX2_callOutside tbX2_callOutside ptX2_callOutside := ⟨tkX2_callOutside, pkX2_callOutside hcl⟩
  unfold W_X2_callOutside at H
  refine xC.of hW (by decide) rfl (Nat.le_of_ble_eq_true rfl) ?_
  refine s_aload_n (nx := 1) hO rfl rfl rfl ?_
  refine s_getf (v := .ref (q_b G + 124)) (nx := 4) hO rfl rfl (hs_o2 kc123) rfl rfl ?_
  refine s_iconst (x := (nI 3)) (nx := 5) hO rfl (by decide) rfl ?_
  obtain ⟨b1, H⟩ := H
  refine s_iald (nx := 6) hO rfl (hs_I kc124) b1 rfl ?_
  refine goV ((sI s 124 (ix (nI 3)))) (fun x2 ex2 => ?_)
  replace H := H x2 ex2
  refine e_istore_n (nx := 7) (l' := [(2, .int x2), (0, .ref (q_b G + 123)), (1, .int v1)]) ex2 hO rfl (by decide) rfl rfl ?_
  refine s_iload_n (nx := 8) hO rfl rfl rfl ?_
  refine s_aload_n (nx := 9) hO rfl rfl rfl ?_
  refine s_getf (v := .int (sI s 123 2)) (nx := 12) hO rfl rfl (hs_o2 kc123) rfl rfl ?_
  refine goK (H (fun (y3 : Int32) => xEx G mX2_callOutside 25 [(0, .ref (q_b G + 123)), (1, .int v1), (2, .int x2)] [.int y3] (hS G s) z 0 0 (yQv G z Q)) (fun y3 H => ?_)) (fun H => ?_)
  · show xEx G mX2_callOutside 25 [(0, .ref (q_b G + 123)), (1, .int v1), (2, .int x2)] [.int y3] (hS G s) z 0 0 (yQv G z Q)
    refine s_istore_n (nx := 26) (l' := [(3, .int y3), (0, .ref (q_b G + 123)), (1, .int v1), (2, .int x2)]) hO rfl (by decide) rfl rfl ?_
    refine s_iload_n (nx := 27) hO rfl rfl rfl ?_
    refine s_sipush (x := (nI 256)) (nx := 30) hO rfl (by decide) rfl ?_
    refine goK (H (fun (s4 : yS) => xEx G mX2_callOutside 88 [(0, .ref (q_b G + 123)), (1, .int v1), (3, .int y3)] [] (hS G s4) z 0 0 (yQv G z Q)) (fun s4 H => ?_)) (fun H => ?_)
    · show xEx G mX2_callOutside 88 [(0, .ref (q_b G + 123)), (1, .int v1), (3, .int y3)] [] (hS G s4) z 0 0 (yQv G z Q)
      refine s_aload_n (nx := 89) hO rfl rfl rfl ?_
      refine s_getf (v := .ref (q_b G + 124)) (nx := 92) hO rfl rfl (hs_o2 kc123) rfl rfl ?_
      refine s_iconst (x := (nI 3)) (nx := 93) hO rfl (by decide) rfl ?_
      refine s_dup2 (nx := 94) hO rfl rfl rfl rfl ?_
      obtain ⟨b5, H⟩ := H
      refine s_iald (nx := 95) hO rfl (hs_I kc124) b5 rfl ?_
      refine s_iconst (x := 1) (nx := 96) hO rfl (by decide) rfl ?_
      refine s_iadd (nx := 97) hO rfl rfl ?_
      obtain ⟨b6, H⟩ := H
      refine goV (wI s4 124 (ix (nI 3)) ((sI s4 124 (ix (nI 3))) + 1)) (fun s7 es7 => ?_)
      replace H := H s7 es7
      refine s_iast (nx := 98) hO rfl (hs_I kc124) b6 rfl ?_
      refine xEx.at (up_I kc124 es7) ?_
      refine s_aload_n (nx := 99) hO rfl rfl rfl ?_
      refine s_dup (nx := 100) hO rfl rfl rfl ?_
      refine s_getf (v := .int (sI s7 123 17)) (nx := 103) hO rfl rfl (hs_o2 kc123) rfl rfl ?_
      refine s_iload_n (nx := 104) hO rfl rfl rfl ?_
      refine s_iconst (x := (nI 4)) (nx := 105) hO rfl (by decide) rfl ?_
      refine s_irem (nx := 106) hO rfl (by decide) rfl ?_
      refine s_isub (nx := 107) hO rfl rfl ?_
      refine goV (wI s7 123 17 ((sI s7 123 17) - (v1 - v1 / (nI 4) * (nI 4)))) (fun s8 es8 => ?_)
      replace H := H s8 es8
      refine s_putf (nx := 110) hO rfl rfl (hs_o2 kc123) (Nat.le_of_ble_eq_true rfl) (by rw [hty]; rfl) (by rw [hty]; rfl) pX2_17 rfl ?_
      refine xEx.at (up_oI2 kc123 es8) ?_
      refine s_aload_n (nx := 111) hO rfl rfl rfl ?_
      refine s_iload_n (nx := 112) hO rfl rfl rfl ?_
      refine s_callV [.int y3] (ci := 2) (F := TX2) (N := 18) (nx := 115) hO rfl kX2_callOutside_123 (by rw [hcl]; rfl) (hs_o2 kc123) (w_X2_push hG H) rfl rfl (Nat.le_of_ble_eq_true rfl) (Nat.zero_le _) (Nat.zero_le _) rfl (k_Qv (fun s9 H => ?_))
      exact s_vret hO rfl rfl ⟨rfl, _, rfl, rfl, H⟩
    refine s_icmp_ge (nx := 33) hO rfl rfl (fun c30 => ?_) (fun c30 => ?_)
    · replace H := H.1 c30
      exact xEx.loc (x_sub1 (List.Mem.tail _ (List.Mem.head _)) (x_sub1 (List.Mem.tail _ (List.Mem.tail _ (List.Mem.head _))) (x_sub1 (List.Mem.head _) x_sub0))) H
    · replace H := H.2 c30
      refine s_aload_n (nx := 34) hO rfl rfl rfl ?_
      refine s_getf (v := .ref (q_b G + 129)) (nx := 37) hO rfl rfl (hs_o2 kc123) rfl rfl ?_
      refine s_iload_n (nx := 38) hO rfl rfl rfl ?_
      refine s_iconst (x := (nI 5)) (nx := 39) hO rfl (by decide) rfl ?_
      refine s_imul (nx := 40) hO rfl rfl ?_
      refine s_iload_n (nx := 41) hO rfl rfl rfl ?_
      obtain ⟨b10, H⟩ := H
      refine goV (wI s 129 (ix (x2 * (nI 5))) v1) (fun s11 es11 => ?_)
      replace H := H s11 es11
      refine s_iast (nx := 42) hO rfl (hs_I kc129) b10 rfl ?_
      refine xEx.at (up_I kc129 es11) ?_
      refine s_iconst (x := 0) (nx := 43) hO rfl (by decide) rfl ?_
      refine goK (H (fun (x12 : Int32) (s13 : yS) => xEx G mX2_callOutside 45 [(0, .ref (q_b G + 123)), (1, .int v1), (2, .int x2), (3, .int y3), (4, .int x12)] [] (hS G s13) z 0 0 (yQv G z Q)) (fun x12 s13 H => ?_)) (fun H => ?_)
      · show xEx G mX2_callOutside 45 [(0, .ref (q_b G + 123)), (1, .int v1), (2, .int x2), (3, .int y3), (4, .int x12)] [] (hS G s13) z 0 0 (yQv G z Q)
        refine s_iload (nx := 47) hO rfl rfl rfl ?_
        refine s_iconst (x := (nI 3)) (nx := 48) hO rfl (by decide) rfl ?_
        refine s_icmp_ge (nx := 51) hO rfl rfl (fun c48 => ?_) (fun c48 => ?_)
        · replace H := H.1 c48
          refine s_aload_n (nx := 78) hO rfl rfl rfl ?_
          refine s_getf (v := .ref (q_b G + 129)) (nx := 81) hO rfl rfl (hs_o2 kc123) rfl rfl ?_
          refine s_iload_n (nx := 82) hO rfl rfl rfl ?_
          refine s_iconst (x := (nI 5)) (nx := 83) hO rfl (by decide) rfl ?_
          refine s_imul (nx := 84) hO rfl rfl ?_
          refine s_iconst (x := (nI 4)) (nx := 85) hO rfl (by decide) rfl ?_
          refine s_iadd (nx := 86) hO rfl rfl ?_
          refine s_iload_n (nx := 87) hO rfl rfl rfl ?_
          obtain ⟨b14, H⟩ := H
          refine goV (wI s13 129 (ix ((x2 * (nI 5)) + (nI 4))) y3) (fun s15 es15 => ?_)
          replace H := H s15 es15
          refine s_iast (nx := 88) hO rfl (hs_I kc129) b14 rfl ?_
          refine xEx.at (up_I kc129 es15) ?_
          exact xEx.loc (x_sub1 (List.Mem.head _) (x_sub1 (List.Mem.tail _ (List.Mem.head _)) (x_sub1 (List.Mem.tail _ (List.Mem.tail _ (List.Mem.tail _ (List.Mem.head _)))) x_sub0))) H
        · replace H := H.2 c48
          refine s_aload_n (nx := 52) hO rfl rfl rfl ?_
          refine s_getf (v := .ref (q_b G + 129)) (nx := 55) hO rfl rfl (hs_o2 kc123) rfl rfl ?_
          refine s_iload_n (nx := 56) hO rfl rfl rfl ?_
          refine s_iconst (x := (nI 5)) (nx := 57) hO rfl (by decide) rfl ?_
          refine s_imul (nx := 58) hO rfl rfl ?_
          refine s_iconst (x := 1) (nx := 59) hO rfl (by decide) rfl ?_
          refine s_iadd (nx := 60) hO rfl rfl ?_
          refine s_iload (nx := 62) hO rfl rfl rfl ?_
          refine s_iadd (nx := 63) hO rfl rfl ?_
          refine s_aload_n (nx := 64) hO rfl rfl rfl ?_
          refine s_iload_n (nx := 65) hO rfl rfl rfl ?_
          refine s_iload (nx := 67) hO rfl rfl rfl ?_
          refine s_callV [.int v1, .int x12] (ci := 2) (F := TX2) (N := 18) (nx := 70) hO rfl kX2_callOutside_181 (by rw [hcl]; rfl) (hs_o2 kc123) (w_X2_argument hG H) rfl rfl (Nat.le_of_ble_eq_true rfl) (Nat.zero_le _) (Nat.zero_le _) rfl (k_Pi (fun r16 H => ?_))
          obtain ⟨b17, H⟩ := H
          refine goV (wI s13 129 (ix (((x2 * (nI 5)) + 1) + x12)) r16) (fun s18 es18 => ?_)
          replace H := H s18 es18
          refine s_iast (nx := 71) hO rfl (hs_I kc129) b17 rfl ?_
          refine xEx.at (up_I kc129 es18) ?_
          refine goV ((x12 + 1)) (fun x19 ex19 => ?_)
          replace H := H x19 ex19
          refine e_iinc (nx := 74) (l' := [(4, .int x19), (0, .ref (q_b G + 123)), (1, .int v1), (2, .int x2), (3, .int y3)]) ex19 hO rfl (by decide) rfl rfl rfl rfl ?_
          refine s_goto hO rfl ?_
          exact xEx.loc (x_sub1 (List.Mem.tail _ (List.Mem.head _)) (x_sub1 (List.Mem.tail _ (List.Mem.tail _ (List.Mem.head _))) (x_sub1 (List.Mem.tail _ (List.Mem.tail _ (List.Mem.tail _ (List.Mem.head _)))) (x_sub1 (List.Mem.tail _ (List.Mem.tail _ (List.Mem.tail _ (List.Mem.tail _ (List.Mem.head _))))) (x_sub1 (List.Mem.head _) x_sub0))))) H
      refine s_istore (nx := 45) (l' := [(4, .int 0), (3, .int y3), (0, .ref (q_b G + 123)), (1, .int v1), (2, .int x2)]) hO rfl (by decide) rfl rfl ?_
      exact xEx.loc (x_sub1 (List.Mem.tail _ (List.Mem.tail _ (List.Mem.head _))) (x_sub1 (List.Mem.tail _ (List.Mem.tail _ (List.Mem.tail _ (List.Mem.head _)))) (x_sub1 (List.Mem.tail _ (List.Mem.tail _ (List.Mem.tail _ (List.Mem.tail _ (List.Mem.head _))))) (x_sub1 (List.Mem.tail _ (List.Mem.head _)) (x_sub1 (List.Mem.head _) x_sub0))))) H
  refine s_icmp_ge (nx := 15) hO rfl rfl (fun c12 => ?_) (fun c12 => ?_)
  · replace H := H.1 c12
    refine s_iconst (x := 0) (nx := 25) hO rfl (by decide) rfl ?_
    exact xEx.loc (x_sub1 (List.Mem.tail _ (List.Mem.head _)) (x_sub1 (List.Mem.tail _ (List.Mem.tail _ (List.Mem.head _))) (x_sub1 (List.Mem.head _) x_sub0))) H
  · replace H := H.2 c12
    refine s_aload_n (nx := 16) hO rfl rfl rfl ?_
    refine s_getf (v := .ref (q_b G + 128)) (nx := 19) hO rfl rfl (hs_o2 kc123) rfl rfl ?_
    refine s_iload_n (nx := 20) hO rfl rfl rfl ?_
    obtain ⟨b20, H⟩ := H
    refine s_iald (nx := 21) hO rfl (hs_I kc128) b20 rfl ?_
    refine s_goto hO rfl ?_
    exact xEx.loc (x_sub1 (List.Mem.tail _ (List.Mem.head _)) (x_sub1 (List.Mem.tail _ (List.Mem.tail _ (List.Mem.head _))) (x_sub1 (List.Mem.head _) x_sub0))) H
def W_X2_leave (s : yS) (Q : yS → Prop) : Prop :=
 ∃ p1 : Nat, sR s 123 11 = p1 + 1 ∧ kd p1 = some (9, 0) ∧ 
 vp_in (sI s 123 15) 12 ∧ 
 ∀ P20 : Int32 → Prop, (∀ (y3 : Int32), (∀ P33 : Int32 → yS → Prop, (∀ (y4 : Int32) (s5 : yS), (((¬ (sI s5 123 14) = 0 → W_X2_backToCaller s5 
    (fun s6 => ((y3 = 0 → Q s6)
    ∧ (¬ y3 = 0 → W_X2_push s6 y4 
     (fun s7 => Q s7)))))
   ∧ ((sI s5 123 14) = 0 → W_X2_end s5 0 y4 
    (fun s8 => Q s8)))) → P33 y4 s5) → 
  ((y3 = 0 → P33 0 s)
  ∧ (¬ y3 = 0 → W_X2_pop s 
   (fun r9 s10 => P33 r9 s10)))) → P20 y3) → 
 (((sI s (p1 + 4) (ix (sI s 123 15))) = 0 → P20 0)
 ∧ (¬ (sI s (p1 + 4) (ix (sI s 123 15))) = 0 → P20 1))
set_option maxRecDepth 100000 in
set_option maxHeartbeats 40000000 in
theorem w_X2_leave {G : xG} (hG : yG G) {z : Nat} {s : yS} {Q : yS → Prop} (H : W_X2_leave s Q) : xC G mX2_leave [.ref (q_b G + 123)] (hS G s) z 0 0 (yQv G z Q) := by
  have hW := hG.1
  have hcl := hG.2.1
  have hty := hG.2.2.1
  have hO : xO G mX2_leave tbX2_leave ptX2_leave := ⟨tkX2_leave, pkX2_leave hcl⟩
  unfold W_X2_leave at H
  refine xC.of hW (by decide) rfl (Nat.le_of_ble_eq_true rfl) ?_
  refine s_aload_n (nx := 1) hO rfl rfl rfl ?_
  obtain ⟨p1, ep1, kp1, H⟩ := H
  refine s_getf (v := .ref (q_b G + p1)) (nx := 4) hO rfl rfl (hs_o2 kc123) (congrArg some (rv_at ep1)) rfl ?_
  refine s_getf (v := .ref (q_b G + (p1 + 4))) (nx := 7) hO rfl rfl (hs_o5 kp1) rfl rfl ?_
  refine s_aload_n (nx := 8) hO rfl rfl rfl ?_
  refine s_getf (v := .int (sI s 123 15)) (nx := 11) hO rfl rfl (hs_o2 kc123) rfl rfl ?_
  obtain ⟨b2, H⟩ := H
  refine s_iald (nx := 12) hO rfl (hs_I (kf5_4 kp1)) b2 rfl ?_
  refine goK (H (fun (y3 : Int32) => xEx G mX2_leave 20 [(0, .ref (q_b G + 123))] [.int y3] (hS G s) z 0 0 (yQv G z Q)) (fun y3 H => ?_)) (fun H => ?_)
  · show xEx G mX2_leave 20 [(0, .ref (q_b G + 123))] [.int y3] (hS G s) z 0 0 (yQv G z Q)
    refine s_istore_n (nx := 21) (l' := [(1, .int y3), (0, .ref (q_b G + 123))]) hO rfl (by decide) rfl rfl ?_
    refine s_iload_n (nx := 22) hO rfl rfl rfl ?_
    refine goK (H (fun (y4 : Int32) (s5 : yS) => xEx G mX2_leave 33 [(0, .ref (q_b G + 123)), (1, .int y3)] [.int y4] (hS G s5) z 0 0 (yQv G z Q)) (fun y4 s5 H => ?_)) (fun H => ?_)
    · show xEx G mX2_leave 33 [(0, .ref (q_b G + 123)), (1, .int y3)] [.int y4] (hS G s5) z 0 0 (yQv G z Q)
      refine s_istore_n (nx := 34) (l' := [(2, .int y4), (0, .ref (q_b G + 123)), (1, .int y3)]) hO rfl (by decide) rfl rfl ?_
      refine s_aload_n (nx := 35) hO rfl rfl rfl ?_
      refine s_getf (v := .int (sI s5 123 14)) (nx := 38) hO rfl rfl (hs_o2 kc123) rfl rfl ?_
      refine s_if_ne (nx := 41) hO rfl rfl (fun c38 => ?_) (fun c38 => ?_)
      · replace H := H.1 c38
        refine s_aload_n (nx := 49) hO rfl rfl rfl ?_
        refine s_callV [] (ci := 2) (F := TX2) (N := 18) (nx := 52) hO rfl kX2_leave_158 (by rw [hcl]; rfl) (hs_o2 kc123) (w_X2_backToCaller hG H) rfl rfl (Nat.le_of_ble_eq_true rfl) (Nat.zero_le _) (Nat.zero_le _) rfl (k_Qv (fun s6 H => ?_))
        refine s_iload_n (nx := 53) hO rfl rfl rfl ?_
        refine s_if_eq (nx := 56) hO rfl rfl (fun c53 => ?_) (fun c53 => ?_)
        · replace H := H.1 c53
          exact s_vret hO rfl rfl ⟨rfl, _, rfl, rfl, H⟩
        · replace H := H.2 c53
          refine s_aload_n (nx := 57) hO rfl rfl rfl ?_
          refine s_iload_n (nx := 58) hO rfl rfl rfl ?_
          refine s_callV [.int y4] (ci := 2) (F := TX2) (N := 18) (nx := 61) hO rfl kX2_leave_123 (by rw [hcl]; rfl) (hs_o2 kc123) (w_X2_push hG H) rfl rfl (Nat.le_of_ble_eq_true rfl) (Nat.zero_le _) (Nat.zero_le _) rfl (k_Qv (fun s7 H => ?_))
          exact s_vret hO rfl rfl ⟨rfl, _, rfl, rfl, H⟩
      · replace H := H.2 c38
        refine s_aload_n (nx := 42) hO rfl rfl rfl ?_
        refine s_iconst (x := 0) (nx := 43) hO rfl (by decide) rfl ?_
        refine s_iload_n (nx := 44) hO rfl rfl rfl ?_
        refine s_callV [.int 0, .int y4] (ci := 2) (F := TX2) (N := 18) (nx := 47) hO rfl kX2_leave_87 (by rw [hcl]; rfl) (hs_o2 kc123) (w_X2_end hG H) rfl rfl (Nat.le_of_ble_eq_true rfl) (Nat.zero_le _) (Nat.zero_le _) rfl (k_Qv (fun s8 H => ?_))
        exact s_vret hO rfl rfl ⟨rfl, _, rfl, rfl, H⟩
    refine s_if_eq (nx := 25) hO rfl rfl (fun c22 => ?_) (fun c22 => ?_)
    · replace H := H.1 c22
      refine s_iconst (x := 0) (nx := 33) hO rfl (by decide) rfl ?_
      exact xEx.loc (x_sub1 (List.Mem.tail _ (List.Mem.head _)) (x_sub1 (List.Mem.head _) x_sub0)) H
    · replace H := H.2 c22
      refine s_aload_n (nx := 26) hO rfl rfl rfl ?_
      refine s_callV [] (ci := 2) (F := TX2) (N := 18) (nx := 29) hO rfl kX2_leave_126 (by rw [hcl]; rfl) (hs_o2 kc123) (w_X2_pop hG H) rfl rfl (Nat.le_of_ble_eq_true rfl) (Nat.zero_le _) (Nat.zero_le _) rfl (k_Qi (fun r9 s10 H => ?_))
      refine s_goto hO rfl ?_
      exact xEx.loc (x_sub1 (List.Mem.tail _ (List.Mem.head _)) (x_sub1 (List.Mem.head _) x_sub0)) H
  refine s_if_eq (nx := 15) hO rfl rfl (fun c12 => ?_) (fun c12 => ?_)
  · replace H := H.1 c12
    refine s_iconst (x := 0) (nx := 20) hO rfl (by decide) rfl ?_
    exact xEx.loc (x_sub1 (List.Mem.head _) x_sub0) H
  · replace H := H.2 c12
    refine s_iconst (x := 1) (nx := 16) hO rfl (by decide) rfl ?_
    refine s_goto hO rfl ?_
    exact xEx.loc (x_sub1 (List.Mem.head _) x_sub0) H
def W_X2_doOther (s : yS) (v1 : Int32) (v2 : Int32) (Q : yS → Prop) : Prop :=
 ((¬ v1 = (nI 25) → ((¬ v1 = (nI 26) → ((¬ v1 = (nI 27) → W_X2_pop s 
    (fun r1 s2 => W_X2_throwCode s2 r1 
    (fun s3 => Q s3)))
   ∧ (v1 = (nI 27) → W_X2_leave s 
    (fun s4 => Q s4))))
  ∧ (v1 = (nI 26) → W_X2_callOutside s v2 
   (fun s5 => Q s5))))
 ∧ (v1 = (nI 25) → ((¬ ((sI s 123 14) + 1) = (nI 40) → W_X2_enter s v2 
   (fun s6 => Q s6))
  ∧ (((sI s 123 14) + 1) = (nI 40) → W_X2_throwCode s (nI 4) 
   (fun s7 => Q s7)))))
set_option maxRecDepth 100000 in
set_option maxHeartbeats 40000000 in
theorem w_X2_doOther {G : xG} (hG : yG G) {z : Nat} {s : yS} {v1 : Int32} {v2 : Int32} {Q : yS → Prop} (H : W_X2_doOther s v1 v2 Q) : xC G mX2_doOther [.ref (q_b G + 123), .int v1, .int v2] (hS G s) z 0 0 (yQv G z Q) := by
  have hW := hG.1
  have hcl := hG.2.1
  have hty := hG.2.2.1
  have hO : xO G mX2_doOther tbX2_doOther ptX2_doOther := ⟨tkX2_doOther, pkX2_doOther hcl⟩
  unfold W_X2_doOther at H
  refine xC.of hW (by decide) rfl (Nat.le_of_ble_eq_true rfl) ?_
  refine s_iload_n (nx := 1) hO rfl rfl rfl ?_
  refine s_bipush (x := (nI 25)) (nx := 3) hO rfl (by decide) rfl ?_
  refine s_icmp_ne (nx := 6) hO rfl rfl (fun c3 => ?_) (fun c3 => ?_)
  · replace H := H.1 c3
    refine s_iload_n (nx := 34) hO rfl rfl rfl ?_
    refine s_bipush (x := (nI 26)) (nx := 36) hO rfl (by decide) rfl ?_
    refine s_icmp_ne (nx := 39) hO rfl rfl (fun c36 => ?_) (fun c36 => ?_)
    · replace H := H.1 c36
      refine s_iload_n (nx := 48) hO rfl rfl rfl ?_
      refine s_bipush (x := (nI 27)) (nx := 50) hO rfl (by decide) rfl ?_
      refine s_icmp_ne (nx := 53) hO rfl rfl (fun c50 => ?_) (fun c50 => ?_)
      · replace H := H.1 c50
        refine s_aload_n (nx := 61) hO rfl rfl rfl ?_
        refine s_aload_n (nx := 62) hO rfl rfl rfl ?_
        refine s_callV [] (ci := 2) (F := TX2) (N := 18) (nx := 65) hO rfl kX2_doOther_126 (by rw [hcl]; rfl) (hs_o2 kc123) (w_X2_pop hG H) rfl rfl (Nat.le_of_ble_eq_true rfl) (Nat.zero_le _) (Nat.zero_le _) rfl (k_Qi (fun r1 s2 H => ?_))
        refine s_callV [.int r1] (ci := 2) (F := TX2) (N := 18) (nx := 68) hO rfl kX2_doOther_130 (by rw [hcl]; rfl) (hs_o2 kc123) (w_X2_throwCode hG H) rfl rfl (Nat.le_of_ble_eq_true rfl) (Nat.zero_le _) (Nat.zero_le _) rfl (k_Qv (fun s3 H => ?_))
        exact s_vret hO rfl rfl ⟨rfl, _, rfl, rfl, H⟩
      · replace H := H.2 c50
        refine s_aload_n (nx := 54) hO rfl rfl rfl ?_
        refine s_callV [] (ci := 2) (F := TX2) (N := 18) (nx := 57) hO rfl kX2_doOther_143 (by rw [hcl]; rfl) (hs_o2 kc123) (w_X2_leave hG H) rfl rfl (Nat.le_of_ble_eq_true rfl) (Nat.zero_le _) (Nat.zero_le _) rfl (k_Qv (fun s4 H => ?_))
        refine s_goto hO rfl ?_
        exact s_vret hO rfl rfl ⟨rfl, _, rfl, rfl, H⟩
    · replace H := H.2 c36
      refine s_aload_n (nx := 40) hO rfl rfl rfl ?_
      refine s_iload_n (nx := 41) hO rfl rfl rfl ?_
      refine s_callV [.int v2] (ci := 2) (F := TX2) (N := 18) (nx := 44) hO rfl kX2_doOther_140 (by rw [hcl]; rfl) (hs_o2 kc123) (w_X2_callOutside hG H) rfl rfl (Nat.le_of_ble_eq_true rfl) (Nat.zero_le _) (Nat.zero_le _) rfl (k_Qv (fun s5 H => ?_))
      refine s_goto hO rfl ?_
      exact s_vret hO rfl rfl ⟨rfl, _, rfl, rfl, H⟩
  · replace H := H.2 c3
    refine s_aload_n (nx := 7) hO rfl rfl rfl ?_
    refine s_getf (v := .int (sI s 123 14)) (nx := 10) hO rfl rfl (hs_o2 kc123) rfl rfl ?_
    refine s_iconst (x := 1) (nx := 11) hO rfl (by decide) rfl ?_
    refine s_iadd (nx := 12) hO rfl rfl ?_
    refine s_bipush (x := (nI 40)) (nx := 14) hO rfl (by decide) rfl ?_
    refine s_icmp_ne (nx := 17) hO rfl rfl (fun c14 => ?_) (fun c14 => ?_)
    · replace H := H.1 c14
      refine s_aload_n (nx := 26) hO rfl rfl rfl ?_
      refine s_iload_n (nx := 27) hO rfl rfl rfl ?_
      refine s_callV [.int v2] (ci := 2) (F := TX2) (N := 18) (nx := 30) hO rfl kX2_doOther_76 (by rw [hcl]; rfl) (hs_o2 kc123) (w_X2_enter hG H) rfl rfl (Nat.le_of_ble_eq_true rfl) (Nat.zero_le _) (Nat.zero_le _) rfl (k_Qv (fun s6 H => ?_))
      refine s_goto hO rfl ?_
      exact s_vret hO rfl rfl ⟨rfl, _, rfl, rfl, H⟩
    · replace H := H.2 c14
      refine s_aload_n (nx := 18) hO rfl rfl rfl ?_
      refine s_iconst (x := (nI 4)) (nx := 19) hO rfl (by decide) rfl ?_
      refine s_callV [.int (nI 4)] (ci := 2) (F := TX2) (N := 18) (nx := 22) hO rfl kX2_doOther_130 (by rw [hcl]; rfl) (hs_o2 kc123) (w_X2_throwCode hG H) rfl rfl (Nat.le_of_ble_eq_true rfl) (Nat.zero_le _) (Nat.zero_le _) rfl (k_Qv (fun s7 H => ?_))
      refine s_goto hO rfl ?_
      exact s_vret hO rfl rfl ⟨rfl, _, rfl, rfl, H⟩
def W_X2_step (s : yS) (Q : yS → Prop) : Prop :=
 vp_in (nI 2) 8 ∧ 
 ((¬ (sI s 124 (ix (nI 2))) = (sI s 123 13) → ∀ x2 : Int32, x2 = (((sI s 123 15) * (nI 400)) + (sI s 123 16)) → 
  ∃ p3 : Nat, sR s 123 11 = p3 + 1 ∧ kd p3 = some (9, 0) ∧ 
  vp_in x2 4800 ∧ 
  ∀ x5 : Int32, x5 = (sI s (p3 + 7) (ix x2)) → 
  ∃ p6 : Nat, sR s 123 11 = p6 + 1 ∧ kd p6 = some (9, 0) ∧ 
  vp_in x2 4800 ∧ 
  ∀ x8 : Int32, x8 = (sI s (p6 + 8) (ix x2)) → 
  ∀ s9 : yS, s9 = wI s 123 16 ((sI s 123 16) + 1) → 
  ((¬ x5 = (nI 29) → vp_in (nI 2) 8 ∧ 
   vp_in (nI 2) 8 ∧ ∀ s12 : yS, s12 = wI s9 124 (ix (nI 2)) ((sI s9 124 (ix (nI 2))) + 1) → 
   (((nI 5) < x5 → (((nI 17) < x5 → (((nI 20) < x5 → (((nI 24) < x5 → W_X2_doOther s12 x5 x8 
       (fun s13 => Q s13))
      ∧ (¬ (nI 24) < x5 → W_X2_doRow s12 x5 
       (fun s14 => Q s14))))
     ∧ (¬ (nI 20) < x5 → W_X2_doJump s12 x5 x8 
      (fun s15 => Q s15))))
    ∧ (¬ (nI 17) < x5 → W_X2_doInts s12 x5 
     (fun s16 => Q s16))))
   ∧ (¬ (nI 5) < x5 → W_X2_doMove s12 x5 x8 
    (fun s17 => Q s17))))
  ∧ (x5 = (nI 29) → W_X2_guard s9 x8 
   (fun s18 => Q s18))))
 ∧ ((sI s 124 (ix (nI 2))) = (sI s 123 13) → W_X2_end s (nI 3) 0 
  (fun s19 => Q s19)))
set_option maxRecDepth 100000 in
set_option maxHeartbeats 40000000 in
theorem w_X2_step {G : xG} (hG : yG G) {z : Nat} {s : yS} {Q : yS → Prop} (H : W_X2_step s Q) : xC G mX2_step [.ref (q_b G + 123)] (hS G s) z 0 0 (yQv G z Q) := by
  have hW := hG.1
  have hcl := hG.2.1
  have hty := hG.2.2.1
  have hO : xO G mX2_step tbX2_step ptX2_step := ⟨tkX2_step, pkX2_step hcl⟩
  unfold W_X2_step at H
  refine xC.of hW (by decide) rfl (Nat.le_of_ble_eq_true rfl) ?_
  refine s_aload_n (nx := 1) hO rfl rfl rfl ?_
  refine s_getf (v := .ref (q_b G + 124)) (nx := 4) hO rfl rfl (hs_o2 kc123) rfl rfl ?_
  refine s_iconst (x := (nI 2)) (nx := 5) hO rfl (by decide) rfl ?_
  obtain ⟨b1, H⟩ := H
  refine s_iald (nx := 6) hO rfl (hs_I kc124) b1 rfl ?_
  refine s_aload_n (nx := 7) hO rfl rfl rfl ?_
  refine s_getf (v := .int (sI s 123 13)) (nx := 10) hO rfl rfl (hs_o2 kc123) rfl rfl ?_
  refine s_icmp_ne (nx := 13) hO rfl rfl (fun c10 => ?_) (fun c10 => ?_)
  · replace H := H.1 c10
    refine s_aload_n (nx := 21) hO rfl rfl rfl ?_
    refine s_getf (v := .int (sI s 123 15)) (nx := 24) hO rfl rfl (hs_o2 kc123) rfl rfl ?_
    refine s_sipush (x := (nI 400)) (nx := 27) hO rfl (by decide) rfl ?_
    refine s_imul (nx := 28) hO rfl rfl ?_
    refine s_aload_n (nx := 29) hO rfl rfl rfl ?_
    refine s_getf (v := .int (sI s 123 16)) (nx := 32) hO rfl rfl (hs_o2 kc123) rfl rfl ?_
    refine s_iadd (nx := 33) hO rfl rfl ?_
    refine goV ((((sI s 123 15) * (nI 400)) + (sI s 123 16))) (fun x2 ex2 => ?_)
    replace H := H x2 ex2
    refine e_istore_n (nx := 34) (l' := [(1, .int x2), (0, .ref (q_b G + 123))]) ex2 hO rfl (by decide) rfl rfl ?_
    refine s_aload_n (nx := 35) hO rfl rfl rfl ?_
    obtain ⟨p3, ep3, kp3, H⟩ := H
    refine s_getf (v := .ref (q_b G + p3)) (nx := 38) hO rfl rfl (hs_o2 kc123) (congrArg some (rv_at ep3)) rfl ?_
    refine s_getf (v := .ref (q_b G + (p3 + 7))) (nx := 41) hO rfl rfl (hs_o5 kp3) rfl rfl ?_
    refine s_iload_n (nx := 42) hO rfl rfl rfl ?_
    obtain ⟨b4, H⟩ := H
    refine s_iald (nx := 43) hO rfl (hs_I (kf5_7 kp3)) b4 rfl ?_
    refine goV ((sI s (p3 + 7) (ix x2))) (fun x5 ex5 => ?_)
    replace H := H x5 ex5
    refine e_istore_n (nx := 44) (l' := [(2, .int x5), (1, .int x2), (0, .ref (q_b G + 123))]) ex5 hO rfl (by decide) rfl rfl ?_
    refine s_aload_n (nx := 45) hO rfl rfl rfl ?_
    obtain ⟨p6, ep6, kp6, H⟩ := H
    refine s_getf (v := .ref (q_b G + p6)) (nx := 48) hO rfl rfl (hs_o2 kc123) (congrArg some (rv_at ep6)) rfl ?_
    refine s_getf (v := .ref (q_b G + (p6 + 8))) (nx := 51) hO rfl rfl (hs_o5 kp6) rfl rfl ?_
    refine s_iload_n (nx := 52) hO rfl rfl rfl ?_
    obtain ⟨b7, H⟩ := H
    refine s_iald (nx := 53) hO rfl (hs_I (kf5_8 kp6)) b7 rfl ?_
    refine goV ((sI s (p6 + 8) (ix x2))) (fun x8 ex8 => ?_)
    replace H := H x8 ex8
    refine e_istore_n (nx := 54) (l' := [(3, .int x8), (2, .int x5), (1, .int x2), (0, .ref (q_b G + 123))]) ex8 hO rfl (by decide) rfl rfl ?_
    refine s_aload_n (nx := 55) hO rfl rfl rfl ?_
    refine s_dup (nx := 56) hO rfl rfl rfl ?_
    refine s_getf (v := .int (sI s 123 16)) (nx := 59) hO rfl rfl (hs_o2 kc123) rfl rfl ?_
    refine s_iconst (x := 1) (nx := 60) hO rfl (by decide) rfl ?_
    refine s_iadd (nx := 61) hO rfl rfl ?_
    refine goV (wI s 123 16 ((sI s 123 16) + 1)) (fun s9 es9 => ?_)
    replace H := H s9 es9
    refine s_putf (nx := 64) hO rfl rfl (hs_o2 kc123) (Nat.le_of_ble_eq_true rfl) (by rw [hty]; rfl) (by rw [hty]; rfl) pX2_16 rfl ?_
    refine xEx.at (up_oI2 kc123 es9) ?_
    refine s_iload_n (nx := 65) hO rfl rfl rfl ?_
    refine s_bipush (x := (nI 29)) (nx := 67) hO rfl (by decide) rfl ?_
    refine s_icmp_ne (nx := 70) hO rfl rfl (fun c67 => ?_) (fun c67 => ?_)
    · replace H := H.1 c67
      refine s_aload_n (nx := 77) hO rfl rfl rfl ?_
      refine s_getf (v := .ref (q_b G + 124)) (nx := 80) hO rfl rfl (hs_o2 kc123) rfl rfl ?_
      refine s_iconst (x := (nI 2)) (nx := 81) hO rfl (by decide) rfl ?_
      refine s_dup2 (nx := 82) hO rfl rfl rfl rfl ?_
      obtain ⟨b10, H⟩ := H
      refine s_iald (nx := 83) hO rfl (hs_I kc124) b10 rfl ?_
      refine s_iconst (x := 1) (nx := 84) hO rfl (by decide) rfl ?_
      refine s_iadd (nx := 85) hO rfl rfl ?_
      obtain ⟨b11, H⟩ := H
      refine goV (wI s9 124 (ix (nI 2)) ((sI s9 124 (ix (nI 2))) + 1)) (fun s12 es12 => ?_)
      replace H := H s12 es12
      refine s_iast (nx := 86) hO rfl (hs_I kc124) b11 rfl ?_
      refine xEx.at (up_I kc124 es12) ?_
      refine s_iload_n (nx := 87) hO rfl rfl rfl ?_
      refine s_iconst (x := (nI 5)) (nx := 88) hO rfl (by decide) rfl ?_
      refine s_icmp_gt (nx := 91) hO rfl rfl (fun c88 => ?_) (fun c88 => ?_)
      · replace H := H.1 c88
        refine s_iload_n (nx := 101) hO rfl rfl rfl ?_
        refine s_bipush (x := (nI 17)) (nx := 103) hO rfl (by decide) rfl ?_
        refine s_icmp_gt (nx := 106) hO rfl rfl (fun c103 => ?_) (fun c103 => ?_)
        · replace H := H.1 c103
          refine s_iload_n (nx := 115) hO rfl rfl rfl ?_
          refine s_bipush (x := (nI 20)) (nx := 117) hO rfl (by decide) rfl ?_
          refine s_icmp_gt (nx := 120) hO rfl rfl (fun c117 => ?_) (fun c117 => ?_)
          · replace H := H.1 c117
            refine s_iload_n (nx := 130) hO rfl rfl rfl ?_
            refine s_bipush (x := (nI 24)) (nx := 132) hO rfl (by decide) rfl ?_
            refine s_icmp_gt (nx := 135) hO rfl rfl (fun c132 => ?_) (fun c132 => ?_)
            · replace H := H.1 c132
              refine s_aload_n (nx := 144) hO rfl rfl rfl ?_
              refine s_iload_n (nx := 145) hO rfl rfl rfl ?_
              refine s_iload_n (nx := 146) hO rfl rfl rfl ?_
              refine s_callV [.int x5, .int x8] (ci := 2) (F := TX2) (N := 18) (nx := 149) hO rfl kX2_step_120 (by rw [hcl]; rfl) (hs_o2 kc123) (w_X2_doOther hG H) rfl rfl (Nat.le_of_ble_eq_true rfl) (Nat.zero_le _) (Nat.zero_le _) rfl (k_Qv (fun s13 H => ?_))
              exact s_vret hO rfl rfl ⟨rfl, _, rfl, rfl, H⟩
            · replace H := H.2 c132
              refine s_aload_n (nx := 136) hO rfl rfl rfl ?_
              refine s_iload_n (nx := 137) hO rfl rfl rfl ?_
              refine s_callV [.int x5] (ci := 2) (F := TX2) (N := 18) (nx := 140) hO rfl kX2_step_117 (by rw [hcl]; rfl) (hs_o2 kc123) (w_X2_doRow hG H) rfl rfl (Nat.le_of_ble_eq_true rfl) (Nat.zero_le _) (Nat.zero_le _) rfl (k_Qv (fun s14 H => ?_))
              refine s_goto hO rfl ?_
              exact s_vret hO rfl rfl ⟨rfl, _, rfl, rfl, H⟩
          · replace H := H.2 c117
            refine s_aload_n (nx := 121) hO rfl rfl rfl ?_
            refine s_iload_n (nx := 122) hO rfl rfl rfl ?_
            refine s_iload_n (nx := 123) hO rfl rfl rfl ?_
            refine s_callV [.int x5, .int x8] (ci := 2) (F := TX2) (N := 18) (nx := 126) hO rfl kX2_step_114 (by rw [hcl]; rfl) (hs_o2 kc123) (w_X2_doJump hG H) rfl rfl (Nat.le_of_ble_eq_true rfl) (Nat.zero_le _) (Nat.zero_le _) rfl (k_Qv (fun s15 H => ?_))
            refine s_goto hO rfl ?_
            exact s_vret hO rfl rfl ⟨rfl, _, rfl, rfl, H⟩
        · replace H := H.2 c103
          refine s_aload_n (nx := 107) hO rfl rfl rfl ?_
          refine s_iload_n (nx := 108) hO rfl rfl rfl ?_
          refine s_callV [.int x5] (ci := 2) (F := TX2) (N := 18) (nx := 111) hO rfl kX2_step_111 (by rw [hcl]; rfl) (hs_o2 kc123) (w_X2_doInts hG H) rfl rfl (Nat.le_of_ble_eq_true rfl) (Nat.zero_le _) (Nat.zero_le _) rfl (k_Qv (fun s16 H => ?_))
          refine s_goto hO rfl ?_
          exact s_vret hO rfl rfl ⟨rfl, _, rfl, rfl, H⟩
      · replace H := H.2 c88
        refine s_aload_n (nx := 92) hO rfl rfl rfl ?_
        refine s_iload_n (nx := 93) hO rfl rfl rfl ?_
        refine s_iload_n (nx := 94) hO rfl rfl rfl ?_
        refine s_callV [.int x5, .int x8] (ci := 2) (F := TX2) (N := 18) (nx := 97) hO rfl kX2_step_108 (by rw [hcl]; rfl) (hs_o2 kc123) (w_X2_doMove hG H) rfl rfl (Nat.le_of_ble_eq_true rfl) (Nat.zero_le _) (Nat.zero_le _) rfl (k_Qv (fun s17 H => ?_))
        refine s_goto hO rfl ?_
        exact s_vret hO rfl rfl ⟨rfl, _, rfl, rfl, H⟩
    · replace H := H.2 c67
      refine s_aload_n (nx := 71) hO rfl rfl rfl ?_
      refine s_iload_n (nx := 72) hO rfl rfl rfl ?_
      refine s_callV [.int x8] (ci := 2) (F := TX2) (N := 18) (nx := 75) hO rfl kX2_step_105 (by rw [hcl]; rfl) (hs_o2 kc123) (w_X2_guard hG H) rfl rfl (Nat.le_of_ble_eq_true rfl) (Nat.zero_le _) (Nat.zero_le _) rfl (k_Qv (fun s18 H => ?_))
      exact s_vret hO rfl rfl ⟨rfl, _, rfl, rfl, H⟩
  · replace H := H.2 c10
    refine s_aload_n (nx := 14) hO rfl rfl rfl ?_
    refine s_iconst (x := (nI 3)) (nx := 15) hO rfl (by decide) rfl ?_
    refine s_iconst (x := 0) (nx := 16) hO rfl (by decide) rfl ?_
    refine s_callV [.int (nI 3), .int 0] (ci := 2) (F := TX2) (N := 18) (nx := 19) hO rfl kX2_step_87 (by rw [hcl]; rfl) (hs_o2 kc123) (w_X2_end hG H) rfl rfl (Nat.le_of_ble_eq_true rfl) (Nat.zero_le _) (Nat.zero_le _) rfl (k_Qv (fun s19 H => ?_))
    exact s_vret hO rfl rfl ⟨rfl, _, rfl, rfl, H⟩

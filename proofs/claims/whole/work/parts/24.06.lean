def W_X11_functionOf (s : yS) (v1 : Int32) (v2 : Int32) (v3 : Int32) (Q : Int32 → Prop) : Prop :=
 W_X11_hasFunction s v1 v2 
 (fun r1 => ((¬ r1 = 0 → W_X11_pick s v1 
  (fun r2 => kd r2 = some (9, 0) ∧ ((((v3).toInt < 0 ∨ 4 < (v3).toInt) → Q (-1))
  ∧ ((v3).toInt = 0 → vp_in v2 12 ∧ 
    Q (sI s (r2 + 1) (ix v2)))
  ∧ ((v3).toInt = 1 → vp_in v2 12 ∧ 
    Q (sI s (r2 + 2) (ix v2)))
  ∧ ((v3).toInt = 2 → vp_in v2 12 ∧ 
    Q (sI s (r2 + 4) (ix v2)))
  ∧ ((v3).toInt = 3 → vp_in v2 12 ∧ 
    Q (sI s (r2 + 5) (ix v2)))
  ∧ ((v3).toInt = 4 → vp_in v2 12 ∧ 
    Q (sI s (r2 + 6) (ix v2))))))
 ∧ (r1 = 0 → Q (-1))))
set_option maxRecDepth 100000 in
set_option maxHeartbeats 40000000 in
theorem w_X11_functionOf {G : xG} (hG : yG G) {z : Nat} {s : yS} {v1 : Int32} {v2 : Int32} {v3 : Int32} {Q : Int32 → Prop} (H : W_X11_functionOf s v1 v2 v3 Q) : xC G mX11_functionOf [.ref (q_b G + 0), .int v1, .int v2, .int v3] (hS G s) z 0 0 (yPi G z s Q) := by
  have hW := hG.1
  have hcl := hG.2.1
  have hty := hG.2.2.1
  have hO : xO G mX11_functionOf tbX11_functionOf ptX11_functionOf := ⟨tkX11_functionOf, pkX11_functionOf hcl⟩
  unfold W_X11_functionOf at H
  refine xC.of hW (by decide) rfl (Nat.le_of_ble_eq_true rfl) ?_
  refine s_aload_n (nx := 1) hO rfl rfl rfl ?_
  refine s_iload_n (nx := 2) hO rfl rfl rfl ?_
  refine s_iload_n (nx := 3) hO rfl rfl rfl ?_
  refine s_callV [.int v1, .int v2] (ci := 11) (F := TX11) (N := 20) (nx := 6) hO rfl kX11_functionOf_268 (by rw [hcl]; rfl) (hs_o11 kc0) (w_X11_hasFunction hG H) rfl rfl (Nat.le_of_ble_eq_true rfl) (Nat.zero_le _) (Nat.zero_le _) rfl (k_Pi (fun r1 H => ?_))
  refine s_if_ne (nx := 9) hO rfl rfl (fun c6 => ?_) (fun c6 => ?_)
  · replace H := H.1 c6
    refine s_aload_n (nx := 12) hO rfl rfl rfl ?_
    refine s_iload_n (nx := 13) hO rfl rfl rfl ?_
    refine s_callV [.int v1] (ci := 11) (F := TX11) (N := 20) (nx := 16) hO rfl kX11_functionOf_160 (by rw [hcl]; rfl) (hs_o11 kc0) (w_X11_pick hG H) rfl rfl (Nat.le_of_ble_eq_true rfl) (Nat.zero_le _) (Nat.zero_le _) rfl (k_Pa (fun r2 H => ?_))
    obtain ⟨kr2, H⟩ := H
    refine s_astore (nx := 18) (l' := [(4, .ref (q_b G + r2)), (0, .ref (q_b G + 0)), (1, .int v1), (2, .int v2), (3, .int v3)]) hO rfl (by decide) rfl rfl ?_
    refine s_iload_n (nx := 19) hO rfl rfl rfl ?_
    refine s_switch hO rfl (fun c19 => ?_) (fun dc19 fc19 => ?_)
    · replace H := H.1 c19
      refine s_iconst (x := (-1)) (nx := 93) hO rfl (by decide) rfl ?_
      exact s_iret hO rfl rfl rfl ⟨rfl, _, rfl, rfl, H⟩
    · obtain c19 | c19 | c19 | c19 | c19 : (v3).toInt = 0 ∨ (v3).toInt = 1 ∨ (v3).toInt = 2 ∨ (v3).toInt = 3 ∨ (v3).toInt = 4 := by omega
      · replace H := H.2.1 c19
        refine ⟨52, by rw [c19]; rfl, ?_⟩
        refine s_aload (nx := 54) hO rfl rfl rfl ?_
        refine s_getf (v := .ref (q_b G + (r2 + 1))) (nx := 57) hO rfl rfl (hs_o5 kr2) rfl rfl ?_
        refine s_iload_n (nx := 58) hO rfl rfl rfl ?_
        obtain ⟨b3, H⟩ := H
        refine s_iald (nx := 59) hO rfl (hs_I (kf5_1 kr2)) b3 rfl ?_
        exact s_iret hO rfl rfl rfl ⟨rfl, _, rfl, rfl, H⟩
      · replace H := H.2.2.1 c19
        refine ⟨60, by rw [c19]; rfl, ?_⟩
        refine s_aload (nx := 62) hO rfl rfl rfl ?_
        refine s_getf (v := .ref (q_b G + (r2 + 2))) (nx := 65) hO rfl rfl (hs_o5 kr2) rfl rfl ?_
        refine s_iload_n (nx := 66) hO rfl rfl rfl ?_
        obtain ⟨b4, H⟩ := H
        refine s_iald (nx := 67) hO rfl (hs_I (kf5_2 kr2)) b4 rfl ?_
        exact s_iret hO rfl rfl rfl ⟨rfl, _, rfl, rfl, H⟩
      · replace H := H.2.2.2.1 c19
        refine ⟨68, by rw [c19]; rfl, ?_⟩
        refine s_aload (nx := 70) hO rfl rfl rfl ?_
        refine s_getf (v := .ref (q_b G + (r2 + 4))) (nx := 73) hO rfl rfl (hs_o5 kr2) rfl rfl ?_
        refine s_iload_n (nx := 74) hO rfl rfl rfl ?_
        obtain ⟨b5, H⟩ := H
        refine s_iald (nx := 75) hO rfl (hs_I (kf5_4 kr2)) b5 rfl ?_
        exact s_iret hO rfl rfl rfl ⟨rfl, _, rfl, rfl, H⟩
      · replace H := H.2.2.2.2.1 c19
        refine ⟨76, by rw [c19]; rfl, ?_⟩
        refine s_aload (nx := 78) hO rfl rfl rfl ?_
        refine s_getf (v := .ref (q_b G + (r2 + 5))) (nx := 81) hO rfl rfl (hs_o5 kr2) rfl rfl ?_
        refine s_iload_n (nx := 82) hO rfl rfl rfl ?_
        obtain ⟨b6, H⟩ := H
        refine s_iald (nx := 83) hO rfl (hs_I (kf5_5 kr2)) b6 rfl ?_
        exact s_iret hO rfl rfl rfl ⟨rfl, _, rfl, rfl, H⟩
      · replace H := H.2.2.2.2.2 c19
        refine ⟨84, by rw [c19]; rfl, ?_⟩
        refine s_aload (nx := 86) hO rfl rfl rfl ?_
        refine s_getf (v := .ref (q_b G + (r2 + 6))) (nx := 89) hO rfl rfl (hs_o5 kr2) rfl rfl ?_
        refine s_iload_n (nx := 90) hO rfl rfl rfl ?_
        obtain ⟨b7, H⟩ := H
        refine s_iald (nx := 91) hO rfl (hs_I (kf5_6 kr2)) b7 rfl ?_
        exact s_iret hO rfl rfl rfl ⟨rfl, _, rfl, rfl, H⟩
  · replace H := H.2 c6
    refine s_iconst (x := (-1)) (nx := 10) hO rfl (by decide) rfl ?_
    exact s_iret hO rfl rfl rfl ⟨rfl, _, rfl, rfl, H⟩
def W_X11_byteOf (s : yS) (v1 : Int32) (v2 : Int32) (Q : Int32 → Prop) : Prop :=
 ((v1 < 0 → Q (-1))
 ∧ (¬ v1 < 0 → ∀ P20 : Int32 → Int32 → Prop, (∀ (y1 : Int32) (y2 : Int32), (((y2 < y1 → ((v2 = 0 → vp_in v1 8192 ∧ 
     Q ((sI s 2 (ix v1)) &&& (nI 255)))
    ∧ (¬ v2 = 0 → vp_in v1 8192 ∧ 
     Q ((sI s 1 (ix v1)) &&& (nI 255)))))
   ∧ (¬ y2 < y1 → Q (-1)))) → P20 y1 y2) → 
  ((v2 = 0 → P20 (sI s 0 3) v1)
  ∧ (¬ v2 = 0 → P20 (sI s 0 2) v1))))
set_option maxRecDepth 100000 in
set_option maxHeartbeats 40000000 in
theorem w_X11_byteOf {G : xG} (hG : yG G) {z : Nat} {s : yS} {v1 : Int32} {v2 : Int32} {Q : Int32 → Prop} (H : W_X11_byteOf s v1 v2 Q) : xC G mX11_byteOf [.ref (q_b G + 0), .int v1, .int v2] (hS G s) z 0 0 (yPi G z s Q) := by
  have hW := hG.1
  have hcl := hG.2.1
  have hty := hG.2.2.1
  have hO : xO G mX11_byteOf tbX11_byteOf ptX11_byteOf := ⟨tkX11_byteOf, pkX11_byteOf hcl⟩
  unfold W_X11_byteOf at H
  refine xC.of hW (by decide) rfl (Nat.le_of_ble_eq_true rfl) ?_
  refine s_iload_n (nx := 1) hO rfl rfl rfl ?_
  refine s_if_lt (nx := 4) hO rfl rfl (fun c1 => ?_) (fun c1 => ?_)
  · replace H := H.1 c1
    refine s_iconst (x := (-1)) (nx := 24) hO rfl (by decide) rfl ?_
    exact s_iret hO rfl rfl rfl ⟨rfl, _, rfl, rfl, H⟩
  · replace H := H.2 c1
    refine s_iload_n (nx := 5) hO rfl rfl rfl ?_
    refine s_iload_n (nx := 6) hO rfl rfl rfl ?_
    refine goK (H (fun (y1 : Int32) (y2 : Int32) => xEx G mX11_byteOf 20 [(0, .ref (q_b G + 0)), (1, .int v1), (2, .int v2)] [.int y1, .int y2] (hS G s) z 0 0 (yPi G z s Q)) (fun y1 y2 H => ?_)) (fun H => ?_)
    · show xEx G mX11_byteOf 20 [(0, .ref (q_b G + 0)), (1, .int v1), (2, .int v2)] [.int y1, .int y2] (hS G s) z 0 0 (yPi G z s Q)
      refine s_icmp_lt (nx := 23) hO rfl rfl (fun c20 => ?_) (fun c20 => ?_)
      · replace H := H.1 c20
        refine s_iload_n (nx := 26) hO rfl rfl rfl ?_
        refine s_if_eq (nx := 29) hO rfl rfl (fun c26 => ?_) (fun c26 => ?_)
        · replace H := H.1 c26
          refine s_aload_n (nx := 39) hO rfl rfl rfl ?_
          refine s_getf (v := .ref (q_b G + 2)) (nx := 42) hO rfl rfl (hs_o11 kc0) rfl rfl ?_
          refine s_iload_n (nx := 43) hO rfl rfl rfl ?_
          obtain ⟨b3, H⟩ := H
          refine s_bald (nx := 44) hO rfl (hs_B kc2) b3 rfl ?_
          refine s_sipush (x := (nI 255)) (nx := 47) hO rfl (by decide) rfl ?_
          refine s_iand (nx := 48) hO rfl rfl ?_
          exact s_iret hO rfl rfl rfl ⟨rfl, _, rfl, rfl, H⟩
        · replace H := H.2 c26
          refine s_aload_n (nx := 30) hO rfl rfl rfl ?_
          refine s_getf (v := .ref (q_b G + 1)) (nx := 33) hO rfl rfl (hs_o11 kc0) rfl rfl ?_
          refine s_iload_n (nx := 34) hO rfl rfl rfl ?_
          obtain ⟨b4, H⟩ := H
          refine s_bald (nx := 35) hO rfl (hs_B kc1) b4 rfl ?_
          refine s_goto hO rfl ?_
          refine s_sipush (x := (nI 255)) (nx := 47) hO rfl (by decide) rfl ?_
          refine s_iand (nx := 48) hO rfl rfl ?_
          exact s_iret hO rfl rfl rfl ⟨rfl, _, rfl, rfl, H⟩
      · replace H := H.2 c20
        refine s_iconst (x := (-1)) (nx := 24) hO rfl (by decide) rfl ?_
        exact s_iret hO rfl rfl rfl ⟨rfl, _, rfl, rfl, H⟩
    refine s_if_eq (nx := 9) hO rfl rfl (fun c6 => ?_) (fun c6 => ?_)
    · replace H := H.1 c6
      refine s_aload_n (nx := 17) hO rfl rfl rfl ?_
      refine s_getf (v := .int (sI s 0 3)) (nx := 20) hO rfl rfl (hs_o11 kc0) rfl rfl ?_
      exact xEx.loc (x_sub1 (List.Mem.head _) (x_sub1 (List.Mem.tail _ (List.Mem.head _)) (x_sub1 (List.Mem.tail _ (List.Mem.tail _ (List.Mem.head _))) x_sub0))) H
    · replace H := H.2 c6
      refine s_aload_n (nx := 10) hO rfl rfl rfl ?_
      refine s_getf (v := .int (sI s 0 2)) (nx := 13) hO rfl rfl (hs_o11 kc0) rfl rfl ?_
      refine s_goto hO rfl ?_
      exact xEx.loc (x_sub1 (List.Mem.head _) (x_sub1 (List.Mem.tail _ (List.Mem.head _)) (x_sub1 (List.Mem.tail _ (List.Mem.tail _ (List.Mem.head _))) x_sub0))) H
def W_X11_lookAt (s : yS) (v1 : Int32) (Q : Int32 → Prop) : Prop :=
 ((((v1).toInt < 0 ∨ 13 < (v1).toInt) → Q (-1))
 ∧ ((v1).toInt = 0 → ∃ p1 : Nat, sR s 0 6 = p1 + 1 ∧ kd p1 = some (7, 0) ∧ 
   Q (sI s p1 0))
 ∧ ((v1).toInt = 1 → ∃ p2 : Nat, sR s 0 6 = p2 + 1 ∧ kd p2 = some (7, 0) ∧ 
   Q (sI s p2 1))
 ∧ ((v1).toInt = 2 → ∃ p3 : Nat, sR s 0 6 = p3 + 1 ∧ kd p3 = some (7, 0) ∧ 
   W_X1_count s (p3 + 10) 
   (fun r4 => Q r4))
 ∧ ((v1).toInt = 3 → ∃ p5 : Nat, sR s 0 6 = p5 + 1 ∧ kd p5 = some (7, 0) ∧ 
   Q (sI s p5 2))
 ∧ ((v1).toInt = 4 → ∃ p6 : Nat, sR s 0 6 = p6 + 1 ∧ kd p6 = some (7, 0) ∧ 
   Q (sI s p6 3))
 ∧ ((v1).toInt = 5 → (((sI s 0 11) = 0 → Q (-1))
   ∧ (¬ (sI s 0 11) = 0 → ∃ p7 : Nat, sR s 0 8 = p7 + 1 ∧ kd p7 = some (9, 0) ∧ 
    Q (sI s p7 0))))
 ∧ ((v1).toInt = 6 → (((sI s 0 11) = 0 → Q (-1))
   ∧ (¬ (sI s 0 11) = 0 → ∃ p8 : Nat, sR s 0 8 = p8 + 1 ∧ kd p8 = some (9, 0) ∧ 
    W_X5_codeCount s p8 
    (fun r9 => Q r9))))
 ∧ ((v1).toInt = 7 → (((sI s 0 12) = 0 → Q (-1))
   ∧ (¬ (sI s 0 12) = 0 → ∃ p10 : Nat, sR s 0 9 = p10 + 1 ∧ kd p10 = some (9, 0) ∧ 
    W_X5_codeCount s p10 
    (fun r11 => Q r11))))
 ∧ ((v1).toInt = 8 → Q (sI s 123 2))
 ∧ ((v1).toInt = 9 → Q (sI s 0 2))
 ∧ ((v1).toInt = 10 → Q (sI s 0 3))
 ∧ ((v1).toInt = 11 → Q (sI s 0 4))
 ∧ ((v1).toInt = 12 → Q (sI s 0 5))
 ∧ ((v1).toInt = 13 → Q (sI s 136 0)))
set_option maxRecDepth 100000 in
set_option maxHeartbeats 40000000 in
theorem w_X11_lookAt {G : xG} (hG : yG G) {z : Nat} {s : yS} {v1 : Int32} {Q : Int32 → Prop} (H : W_X11_lookAt s v1 Q) : xC G mX11_lookAt [.ref (q_b G + 0), .int v1] (hS G s) z 0 0 (yPi G z s Q) := by
  have hW := hG.1
  have hcl := hG.2.1
  have hty := hG.2.2.1
  have hO : xO G mX11_lookAt tbX11_lookAt ptX11_lookAt := ⟨tkX11_lookAt, pkX11_lookAt hcl⟩
  unfold W_X11_lookAt at H
  refine xC.of hW (by decide) rfl (Nat.le_of_ble_eq_true rfl) ?_
  refine s_iload_n (nx := 1) hO rfl rfl rfl ?_
  refine s_switch hO rfl (fun c1 => ?_) (fun dc1 fc1 => ?_)
  · replace H := H.1 c1
    refine s_iconst (x := (-1)) (nx := 209) hO rfl (by decide) rfl ?_
    exact s_iret hO rfl rfl rfl ⟨rfl, _, rfl, rfl, H⟩
  · obtain c1 | c1 | c1 | c1 | c1 | c1 | c1 | c1 | c1 | c1 | c1 | c1 | c1 | c1 : (v1).toInt = 0 ∨ (v1).toInt = 1 ∨ (v1).toInt = 2 ∨ (v1).toInt = 3 ∨ (v1).toInt = 4 ∨ (v1).toInt = 5 ∨ (v1).toInt = 6 ∨ (v1).toInt = 7 ∨ (v1).toInt = 8 ∨ (v1).toInt = 9 ∨ (v1).toInt = 10 ∨ (v1).toInt = 11 ∨ (v1).toInt = 12 ∨ (v1).toInt = 13 := by omega
    · replace H := H.2.1 c1
      refine ⟨72, by rw [c1]; rfl, ?_⟩
      refine s_aload_n (nx := 73) hO rfl rfl rfl ?_
      obtain ⟨p1, ep1, kp1, H⟩ := H
      refine s_getf (v := .ref (q_b G + p1)) (nx := 76) hO rfl rfl (hs_o11 kc0) (congrArg (fun q => some (Value.ref q)) (hv_11 ep1)) rfl ?_
      refine s_getf (v := .int (sI s p1 0)) (nx := 79) hO rfl rfl (hs_o3 kp1) rfl rfl ?_
      exact s_iret hO rfl rfl rfl ⟨rfl, _, rfl, rfl, H⟩
    · replace H := H.2.2.1 c1
      refine ⟨80, by rw [c1]; rfl, ?_⟩
      refine s_aload_n (nx := 81) hO rfl rfl rfl ?_
      obtain ⟨p2, ep2, kp2, H⟩ := H
      refine s_getf (v := .ref (q_b G + p2)) (nx := 84) hO rfl rfl (hs_o11 kc0) (congrArg (fun q => some (Value.ref q)) (hv_11 ep2)) rfl ?_
      refine s_getf (v := .int (sI s p2 1)) (nx := 87) hO rfl rfl (hs_o3 kp2) rfl rfl ?_
      exact s_iret hO rfl rfl rfl ⟨rfl, _, rfl, rfl, H⟩
    · replace H := H.2.2.2.1 c1
      refine ⟨88, by rw [c1]; rfl, ?_⟩
      refine s_aload_n (nx := 89) hO rfl rfl rfl ?_
      obtain ⟨p3, ep3, kp3, H⟩ := H
      refine s_getf (v := .ref (q_b G + p3)) (nx := 92) hO rfl rfl (hs_o11 kc0) (congrArg (fun q => some (Value.ref q)) (hv_11 ep3)) rfl ?_
      refine s_getf (v := .ref (q_b G + (p3 + 10))) (nx := 95) hO rfl rfl (hs_o3 kp3) rfl rfl ?_
      refine s_callV [] (ci := 1) (F := TX1) (N := 3) (nx := 98) hO rfl kX11_lookAt_228 (by rw [hcl]; rfl) (hs_o1 (kf3_16 kp3)) (w_X1_count hG (kf3_16 kp3) H) rfl rfl (Nat.le_of_ble_eq_true rfl) (Nat.zero_le _) (Nat.zero_le _) rfl (k_Pi (fun r4 H => ?_))
      exact s_iret hO rfl rfl rfl ⟨rfl, _, rfl, rfl, H⟩
    · replace H := H.2.2.2.2.1 c1
      refine ⟨99, by rw [c1]; rfl, ?_⟩
      refine s_aload_n (nx := 100) hO rfl rfl rfl ?_
      obtain ⟨p5, ep5, kp5, H⟩ := H
      refine s_getf (v := .ref (q_b G + p5)) (nx := 103) hO rfl rfl (hs_o11 kc0) (congrArg (fun q => some (Value.ref q)) (hv_11 ep5)) rfl ?_
      refine s_getf (v := .int (sI s p5 2)) (nx := 106) hO rfl rfl (hs_o3 kp5) rfl rfl ?_
      exact s_iret hO rfl rfl rfl ⟨rfl, _, rfl, rfl, H⟩
    · replace H := H.2.2.2.2.2.1 c1
      refine ⟨107, by rw [c1]; rfl, ?_⟩
      refine s_aload_n (nx := 108) hO rfl rfl rfl ?_
      obtain ⟨p6, ep6, kp6, H⟩ := H
      refine s_getf (v := .ref (q_b G + p6)) (nx := 111) hO rfl rfl (hs_o11 kc0) (congrArg (fun q => some (Value.ref q)) (hv_11 ep6)) rfl ?_
      refine s_getf (v := .int (sI s p6 3)) (nx := 114) hO rfl rfl (hs_o3 kp6) rfl rfl ?_
      exact s_iret hO rfl rfl rfl ⟨rfl, _, rfl, rfl, H⟩
    · replace H := H.2.2.2.2.2.2.1 c1
      refine ⟨115, by rw [c1]; rfl, ?_⟩
      refine s_aload_n (nx := 116) hO rfl rfl rfl ?_
      refine s_getf (v := .int (sI s 0 11)) (nx := 119) hO rfl rfl (hs_o11 kc0) rfl rfl ?_
      refine s_if_eq (nx := 122) hO rfl rfl (fun c119 => ?_) (fun c119 => ?_)
      · replace H := H.1 c119
        refine s_iconst (x := (-1)) (nx := 133) hO rfl (by decide) rfl ?_
        exact s_iret hO rfl rfl rfl ⟨rfl, _, rfl, rfl, H⟩
      · replace H := H.2 c119
        refine s_aload_n (nx := 123) hO rfl rfl rfl ?_
        obtain ⟨p7, ep7, kp7, H⟩ := H
        refine s_getf (v := .ref (q_b G + p7)) (nx := 126) hO rfl rfl (hs_o11 kc0) (congrArg (fun q => some (Value.ref q)) (hv_11 ep7)) rfl ?_
        refine s_getf (v := .int (sI s p7 0)) (nx := 129) hO rfl rfl (hs_o5 kp7) rfl rfl ?_
        refine s_goto hO rfl ?_
        exact s_iret hO rfl rfl rfl ⟨rfl, _, rfl, rfl, H⟩
    · replace H := H.2.2.2.2.2.2.2.1 c1
      refine ⟨134, by rw [c1]; rfl, ?_⟩
      refine s_aload_n (nx := 135) hO rfl rfl rfl ?_
      refine s_getf (v := .int (sI s 0 11)) (nx := 138) hO rfl rfl (hs_o11 kc0) rfl rfl ?_
      refine s_if_eq (nx := 141) hO rfl rfl (fun c138 => ?_) (fun c138 => ?_)
      · replace H := H.1 c138
        refine s_iconst (x := (-1)) (nx := 152) hO rfl (by decide) rfl ?_
        exact s_iret hO rfl rfl rfl ⟨rfl, _, rfl, rfl, H⟩
      · replace H := H.2 c138
        refine s_aload_n (nx := 142) hO rfl rfl rfl ?_
        obtain ⟨p8, ep8, kp8, H⟩ := H
        refine s_getf (v := .ref (q_b G + p8)) (nx := 145) hO rfl rfl (hs_o11 kc0) (congrArg (fun q => some (Value.ref q)) (hv_11 ep8)) rfl ?_
        refine s_callV [] (ci := 5) (F := TX5) (N := 19) (nx := 148) hO rfl kX11_lookAt_290 (by rw [hcl]; rfl) (hs_o5 kp8) (w_X5_codeCount hG kp8 H) rfl rfl (Nat.le_of_ble_eq_true rfl) (Nat.zero_le _) (Nat.zero_le _) rfl (k_Pi (fun r9 H => ?_))
        refine s_goto hO rfl ?_
        exact s_iret hO rfl rfl rfl ⟨rfl, _, rfl, rfl, H⟩
    · replace H := H.2.2.2.2.2.2.2.2.1 c1
      refine ⟨153, by rw [c1]; rfl, ?_⟩
      refine s_aload_n (nx := 154) hO rfl rfl rfl ?_
      refine s_getf (v := .int (sI s 0 12)) (nx := 157) hO rfl rfl (hs_o11 kc0) rfl rfl ?_
      refine s_if_eq (nx := 160) hO rfl rfl (fun c157 => ?_) (fun c157 => ?_)
      · replace H := H.1 c157
        refine s_iconst (x := (-1)) (nx := 171) hO rfl (by decide) rfl ?_
        exact s_iret hO rfl rfl rfl ⟨rfl, _, rfl, rfl, H⟩
      · replace H := H.2 c157
        refine s_aload_n (nx := 161) hO rfl rfl rfl ?_
        obtain ⟨p10, ep10, kp10, H⟩ := H
        refine s_getf (v := .ref (q_b G + p10)) (nx := 164) hO rfl rfl (hs_o11 kc0) (congrArg (fun q => some (Value.ref q)) (hv_11 ep10)) rfl ?_
        refine s_callV [] (ci := 5) (F := TX5) (N := 19) (nx := 167) hO rfl kX11_lookAt_290 (by rw [hcl]; rfl) (hs_o5 kp10) (w_X5_codeCount hG kp10 H) rfl rfl (Nat.le_of_ble_eq_true rfl) (Nat.zero_le _) (Nat.zero_le _) rfl (k_Pi (fun r11 H => ?_))
        refine s_goto hO rfl ?_
        exact s_iret hO rfl rfl rfl ⟨rfl, _, rfl, rfl, H⟩
    · replace H := H.2.2.2.2.2.2.2.2.2.1 c1
      refine ⟨172, by rw [c1]; rfl, ?_⟩
      refine s_aload_n (nx := 173) hO rfl rfl rfl ?_
      refine s_getf (v := .ref (q_b G + 123)) (nx := 176) hO rfl rfl (hs_o11 kc0) rfl rfl ?_
      refine s_getf (v := .int (sI s 123 2)) (nx := 179) hO rfl rfl (hs_o2 kc123) rfl rfl ?_
      exact s_iret hO rfl rfl rfl ⟨rfl, _, rfl, rfl, H⟩
    · replace H := H.2.2.2.2.2.2.2.2.2.2.1 c1
      refine ⟨180, by rw [c1]; rfl, ?_⟩
      refine s_aload_n (nx := 181) hO rfl rfl rfl ?_
      refine s_getf (v := .int (sI s 0 2)) (nx := 184) hO rfl rfl (hs_o11 kc0) rfl rfl ?_
      exact s_iret hO rfl rfl rfl ⟨rfl, _, rfl, rfl, H⟩
    · replace H := H.2.2.2.2.2.2.2.2.2.2.2.1 c1
      refine ⟨185, by rw [c1]; rfl, ?_⟩
      refine s_aload_n (nx := 186) hO rfl rfl rfl ?_
      refine s_getf (v := .int (sI s 0 3)) (nx := 189) hO rfl rfl (hs_o11 kc0) rfl rfl ?_
      exact s_iret hO rfl rfl rfl ⟨rfl, _, rfl, rfl, H⟩
    · replace H := H.2.2.2.2.2.2.2.2.2.2.2.2.1 c1
      refine ⟨190, by rw [c1]; rfl, ?_⟩
      refine s_aload_n (nx := 191) hO rfl rfl rfl ?_
      refine s_getf (v := .int (sI s 0 4)) (nx := 194) hO rfl rfl (hs_o11 kc0) rfl rfl ?_
      exact s_iret hO rfl rfl rfl ⟨rfl, _, rfl, rfl, H⟩
    · replace H := H.2.2.2.2.2.2.2.2.2.2.2.2.2.1 c1
      refine ⟨195, by rw [c1]; rfl, ?_⟩
      refine s_aload_n (nx := 196) hO rfl rfl rfl ?_
      refine s_getf (v := .int (sI s 0 5)) (nx := 199) hO rfl rfl (hs_o11 kc0) rfl rfl ?_
      exact s_iret hO rfl rfl rfl ⟨rfl, _, rfl, rfl, H⟩
    · replace H := H.2.2.2.2.2.2.2.2.2.2.2.2.2.2 c1
      refine ⟨200, by rw [c1]; rfl, ?_⟩
      refine s_aload_n (nx := 201) hO rfl rfl rfl ?_
      refine s_getf (v := .ref (q_b G + 136)) (nx := 204) hO rfl rfl (hs_o11 kc0) rfl rfl ?_
      refine s_getf (v := .int (sI s 136 0)) (nx := 207) hO rfl rfl (hs_o10 kc136) rfl rfl ?_
      exact s_iret hO rfl rfl rfl ⟨rfl, _, rfl, rfl, H⟩
def W_X12_letterAt (s : yS) (v1 : Int32) (Q : Int32 → Prop) : Prop :=
 (((sI s 139 9) ≤ v1 → Q 0)
 ∧ (¬ (sI s 139 9) ≤ v1 → vp_in v1 8192 ∧ 
  Q (sI s 143 (ix v1))))
set_option maxRecDepth 100000 in
set_option maxHeartbeats 40000000 in
theorem w_X12_letterAt {G : xG} (hG : yG G) {z : Nat} {s : yS} {v1 : Int32} {Q : Int32 → Prop} (H : W_X12_letterAt s v1 Q) : xC G mX12_letterAt [.ref (q_b G + 139), .int v1] (hS G s) z 0 0 (yPi G z s Q) := by
  have hW := hG.1
  have hcl := hG.2.1
  have hty := hG.2.2.1
  have hO : xO G mX12_letterAt tbX12_letterAt ptX12_letterAt := ⟨tkX12_letterAt, pkX12_letterAt hcl⟩
  unfold W_X12_letterAt at H
  refine xC.of hW (by decide) rfl (Nat.le_of_ble_eq_true rfl) ?_
  refine s_iload_n (nx := 1) hO rfl rfl rfl ?_
  refine s_aload_n (nx := 2) hO rfl rfl rfl ?_
  refine s_getf (v := .int (sI s 139 9)) (nx := 5) hO rfl rfl (hs_o12 kc139) rfl rfl ?_
  refine s_icmp_ge (nx := 8) hO rfl rfl (fun c5 => ?_) (fun c5 => ?_)
  · replace H := H.1 c5
    refine s_iconst (x := 0) (nx := 18) hO rfl (by decide) rfl ?_
    exact s_iret hO rfl rfl rfl ⟨rfl, _, rfl, rfl, H⟩
  · replace H := H.2 c5
    refine s_aload_n (nx := 9) hO rfl rfl rfl ?_
    refine s_getf (v := .ref (q_b G + 143)) (nx := 12) hO rfl rfl (hs_o12 kc139) rfl rfl ?_
    refine s_iload_n (nx := 13) hO rfl rfl rfl ?_
    obtain ⟨b1, H⟩ := H
    refine s_iald (nx := 14) hO rfl (hs_I kc143) b1 rfl ?_
    refine s_goto hO rfl ?_
    exact s_iret hO rfl rfl rfl ⟨rfl, _, rfl, rfl, H⟩
def W_X12_isDigit (s : yS) (v1 : Int32) (Q : Int32 → Prop) : Prop :=
 ((v1 < (nI 48) → Q 0)
 ∧ (¬ v1 < (nI 48) → (((nI 57) < v1 → Q 0)
  ∧ (¬ (nI 57) < v1 → Q 1))))
set_option maxRecDepth 100000 in
set_option maxHeartbeats 40000000 in
theorem w_X12_isDigit {G : xG} (hG : yG G) {z : Nat} {s : yS} {v1 : Int32} {Q : Int32 → Prop} (H : W_X12_isDigit s v1 Q) : xC G mX12_isDigit [.int v1] (hS G s) z 0 0 (yPi G z s Q) := by
  have hW := hG.1
  have hcl := hG.2.1
  have hty := hG.2.2.1
  have hO : xO G mX12_isDigit tbX12_isDigit ptX12_isDigit := ⟨tkX12_isDigit, pkX12_isDigit hcl⟩
  unfold W_X12_isDigit at H
  refine xC.of hW (by decide) rfl (Nat.le_of_ble_eq_true rfl) ?_
  refine s_iload_n (nx := 1) hO rfl rfl rfl ?_
  refine s_bipush (x := (nI 48)) (nx := 3) hO rfl (by decide) rfl ?_
  refine s_icmp_lt (nx := 6) hO rfl rfl (fun c3 => ?_) (fun c3 => ?_)
  · replace H := H.1 c3
    refine s_iconst (x := 0) (nx := 17) hO rfl (by decide) rfl ?_
    exact s_iret hO rfl rfl rfl ⟨rfl, _, rfl, rfl, H⟩
  · replace H := H.2 c3
    refine s_iload_n (nx := 7) hO rfl rfl rfl ?_
    refine s_bipush (x := (nI 57)) (nx := 9) hO rfl (by decide) rfl ?_
    refine s_icmp_gt (nx := 12) hO rfl rfl (fun c9 => ?_) (fun c9 => ?_)
    · replace H := H.1 c9
      refine s_iconst (x := 0) (nx := 17) hO rfl (by decide) rfl ?_
      exact s_iret hO rfl rfl rfl ⟨rfl, _, rfl, rfl, H⟩
    · replace H := H.2 c9
      refine s_iconst (x := 1) (nx := 13) hO rfl (by decide) rfl ?_
      refine s_goto hO rfl ?_
      exact s_iret hO rfl rfl rfl ⟨rfl, _, rfl, rfl, H⟩
def W_X12_isSmall (s : yS) (v1 : Int32) (Q : Int32 → Prop) : Prop :=
 ((v1 < (nI 97) → Q 0)
 ∧ (¬ v1 < (nI 97) → (((nI 122) < v1 → Q 0)
  ∧ (¬ (nI 122) < v1 → Q 1))))
set_option maxRecDepth 100000 in
set_option maxHeartbeats 40000000 in
theorem w_X12_isSmall {G : xG} (hG : yG G) {z : Nat} {s : yS} {v1 : Int32} {Q : Int32 → Prop} (H : W_X12_isSmall s v1 Q) : xC G mX12_isSmall [.int v1] (hS G s) z 0 0 (yPi G z s Q) := by
  have hW := hG.1
  have hcl := hG.2.1
  have hty := hG.2.2.1
  have hO : xO G mX12_isSmall tbX12_isSmall ptX12_isSmall := ⟨tkX12_isSmall, pkX12_isSmall hcl⟩
  unfold W_X12_isSmall at H
  refine xC.of hW (by decide) rfl (Nat.le_of_ble_eq_true rfl) ?_
  refine s_iload_n (nx := 1) hO rfl rfl rfl ?_
  refine s_bipush (x := (nI 97)) (nx := 3) hO rfl (by decide) rfl ?_
  refine s_icmp_lt (nx := 6) hO rfl rfl (fun c3 => ?_) (fun c3 => ?_)
  · replace H := H.1 c3
    refine s_iconst (x := 0) (nx := 17) hO rfl (by decide) rfl ?_
    exact s_iret hO rfl rfl rfl ⟨rfl, _, rfl, rfl, H⟩
  · replace H := H.2 c3
    refine s_iload_n (nx := 7) hO rfl rfl rfl ?_
    refine s_bipush (x := (nI 122)) (nx := 9) hO rfl (by decide) rfl ?_
    refine s_icmp_gt (nx := 12) hO rfl rfl (fun c9 => ?_) (fun c9 => ?_)
    · replace H := H.1 c9
      refine s_iconst (x := 0) (nx := 17) hO rfl (by decide) rfl ?_
      exact s_iret hO rfl rfl rfl ⟨rfl, _, rfl, rfl, H⟩
    · replace H := H.2 c9
      refine s_iconst (x := 1) (nx := 13) hO rfl (by decide) rfl ?_
      refine s_goto hO rfl ?_
      exact s_iret hO rfl rfl rfl ⟨rfl, _, rfl, rfl, H⟩
def W_X12_isOfWord (s : yS) (v1 : Int32) (Q : Int32 → Prop) : Prop :=
 W_X12_isDigit s v1 
 (fun r1 => ((¬ r1 = 0 → Q 1)
 ∧ (r1 = 0 → W_X12_isSmall s v1 
  (fun r2 => ((¬ r2 = 0 → Q 1)
  ∧ (r2 = 0 → ((¬ v1 = (nI 45) → Q 0)
   ∧ (v1 = (nI 45) → Q 1))))))))
set_option maxRecDepth 100000 in
set_option maxHeartbeats 40000000 in
theorem w_X12_isOfWord {G : xG} (hG : yG G) {z : Nat} {s : yS} {v1 : Int32} {Q : Int32 → Prop} (H : W_X12_isOfWord s v1 Q) : xC G mX12_isOfWord [.int v1] (hS G s) z 0 0 (yPi G z s Q) := by
  have hW := hG.1
  have hcl := hG.2.1
  have hty := hG.2.2.1
  have hO : xO G mX12_isOfWord tbX12_isOfWord ptX12_isOfWord := ⟨tkX12_isOfWord, pkX12_isOfWord hcl⟩
  unfold W_X12_isOfWord at H
  refine xC.of hW (by decide) rfl (Nat.le_of_ble_eq_true rfl) ?_
  refine s_iload_n (nx := 1) hO rfl rfl rfl ?_
  refine s_callS [.int v1] (nx := 4) hO rfl kX12_isOfWord_280 (w_X12_isDigit hG H) rfl rfl (Nat.le_of_ble_eq_true rfl) (Nat.zero_le _) (Nat.zero_le _) rfl (k_Pi (fun r1 H => ?_))
  refine s_if_ne (nx := 7) hO rfl rfl (fun c4 => ?_) (fun c4 => ?_)
  · replace H := H.1 c4
    refine s_iconst (x := 1) (nx := 21) hO rfl (by decide) rfl ?_
    refine s_goto hO rfl ?_
    exact s_iret hO rfl rfl rfl ⟨rfl, _, rfl, rfl, H⟩
  · replace H := H.2 c4
    refine s_iload_n (nx := 8) hO rfl rfl rfl ?_
    refine s_callS [.int v1] (nx := 11) hO rfl kX12_isOfWord_284 (w_X12_isSmall hG H) rfl rfl (Nat.le_of_ble_eq_true rfl) (Nat.zero_le _) (Nat.zero_le _) rfl (k_Pi (fun r2 H => ?_))
    refine s_if_ne (nx := 14) hO rfl rfl (fun c11 => ?_) (fun c11 => ?_)
    · replace H := H.1 c11
      refine s_iconst (x := 1) (nx := 21) hO rfl (by decide) rfl ?_
      refine s_goto hO rfl ?_
      exact s_iret hO rfl rfl rfl ⟨rfl, _, rfl, rfl, H⟩
    · replace H := H.2 c11
      refine s_iload_n (nx := 15) hO rfl rfl rfl ?_
      refine s_bipush (x := (nI 45)) (nx := 17) hO rfl (by decide) rfl ?_
      refine s_icmp_ne (nx := 20) hO rfl rfl (fun c17 => ?_) (fun c17 => ?_)
      · replace H := H.1 c17
        refine s_iconst (x := 0) (nx := 25) hO rfl (by decide) rfl ?_
        exact s_iret hO rfl rfl rfl ⟨rfl, _, rfl, rfl, H⟩
      · replace H := H.2 c17
        refine s_iconst (x := 1) (nx := 21) hO rfl (by decide) rfl ?_
        refine s_goto hO rfl ?_
        exact s_iret hO rfl rfl rfl ⟨rfl, _, rfl, rfl, H⟩
def W_X12_wrong (s : yS) (v1 : Int32) (v2 : Int32) (Q : yS → Prop) : Prop :=
 ((¬ (sI s 139 15) = 0 → Q s)
 ∧ ((sI s 139 15) = 0 → ∀ s1 : yS, s1 = wI s 139 15 v1 → 
  ∀ s2 : yS, s2 = wI s1 139 16 v2 → 
  Q s2))
set_option maxRecDepth 100000 in
set_option maxHeartbeats 40000000 in
theorem w_X12_wrong {G : xG} (hG : yG G) {z : Nat} {s : yS} {v1 : Int32} {v2 : Int32} {Q : yS → Prop} (H : W_X12_wrong s v1 v2 Q) : xC G mX12_wrong [.ref (q_b G + 139), .int v1, .int v2] (hS G s) z 0 0 (yQv G z Q) := by
  have hW := hG.1
  have hcl := hG.2.1
  have hty := hG.2.2.1
  have hO : xO G mX12_wrong tbX12_wrong ptX12_wrong := ⟨tkX12_wrong, pkX12_wrong hcl⟩
  unfold W_X12_wrong at H
  refine xC.of hW (by decide) rfl (Nat.le_of_ble_eq_true rfl) ?_
  refine s_aload_n (nx := 1) hO rfl rfl rfl ?_
  refine s_getf (v := .int (sI s 139 15)) (nx := 4) hO rfl rfl (hs_o12 kc139) rfl rfl ?_
  refine s_if_ne (nx := 7) hO rfl rfl (fun c4 => ?_) (fun c4 => ?_)
  · replace H := H.1 c4
    exact s_vret hO rfl rfl ⟨rfl, _, rfl, rfl, H⟩
  · replace H := H.2 c4
    refine s_aload_n (nx := 8) hO rfl rfl rfl ?_
    refine s_iload_n (nx := 9) hO rfl rfl rfl ?_
    refine goV (wI s 139 15 v1) (fun s1 es1 => ?_)
    replace H := H s1 es1
    refine s_putf (nx := 12) hO rfl rfl (hs_o12 kc139) (Nat.le_of_ble_eq_true rfl) (by rw [hty]; rfl) (by rw [hty]; rfl) pX12_15 rfl ?_
    refine xEx.at (up_oI12 kc139 es1) ?_
    refine s_aload_n (nx := 13) hO rfl rfl rfl ?_
    refine s_iload_n (nx := 14) hO rfl rfl rfl ?_
    refine goV (wI s1 139 16 v2) (fun s2 es2 => ?_)
    replace H := H s2 es2
    refine s_putf (nx := 17) hO rfl rfl (hs_o12 kc139) (Nat.le_of_ble_eq_true rfl) (by rw [hty]; rfl) (by rw [hty]; rfl) pX12_16 rfl ?_
    refine xEx.at (up_oI12 kc139 es2) ?_
    exact s_vret hO rfl rfl ⟨rfl, _, rfl, rfl, H⟩
def W_X12_takeName (s : yS) (v1 : Int32) (Q : yS → Prop) : Prop :=
 ∀ s1 : yS, s1 = wI s 139 11 (nI 2) → 
 ∀ s2 : yS, s2 = wJ s1 139 13 0 → 
 ∀ P26 : Int32 → Prop, (∀ (y3 : Int32), (∀ P32 : Int32 → Int32 → yS → Prop, (∀ (x4 : Int32) (x5 : Int32) (s6 : yS), (∀ P81 : Prop, ((((¬ x4 = 0 → Q s6)
    ∧ (x4 = 0 → W_X12_wrong s6 1 (sI s6 139 10) 
     (fun s7 => Q s7)))) → P81) → 
   ((v1 ≤ x5 → P81)
   ∧ (¬ v1 ≤ x5 → ((x4 = 0 → P81)
    ∧ (¬ x4 = 0 → vp_in x5 8192 ∧ 
     W_X12_isSmall s6 (sI s6 143 (ix x5)) 
     (fun r9 => vp_in x5 8192 ∧ 
     ∀ s11 : yS, s11 = wJ s6 139 13 (((((27)) * (sJ s6 139 13)) + ((sI s6 143 (ix x5))).toInt64) - ((96))) → 
     ∀ x12 : Int32, x12 = (x5 + 1) → 
     P32 r9 x12 s11)))))) → P32 x4 x5 s6) → 
  ∀ x13 : Int32, x13 = (sI s2 139 10) → 
  P32 y3 x13 s2) → P26 y3) → 
 (((nI 13) ≤ (v1 - (sI s2 139 10)) → P26 0)
 ∧ (¬ (nI 13) ≤ (v1 - (sI s2 139 10)) → P26 1))
set_option maxRecDepth 100000 in
set_option maxHeartbeats 40000000 in
theorem w_X12_takeName {G : xG} (hG : yG G) {z : Nat} {s : yS} {v1 : Int32} {Q : yS → Prop} (H : W_X12_takeName s v1 Q) : xC G mX12_takeName [.ref (q_b G + 139), .int v1] (hS G s) z 0 0 (yQv G z Q) := by
  have hW := hG.1
  have hcl := hG.2.1
  have hty := hG.2.2.1
  have hO : xO G mX12_takeName tbX12_takeName ptX12_takeName := ⟨tkX12_takeName, pkX12_takeName hcl⟩
  unfold W_X12_takeName at H
  refine xC.of hW (by decide) rfl (Nat.le_of_ble_eq_true rfl) ?_
  refine s_aload_n (nx := 1) hO rfl rfl rfl ?_
  refine s_iconst (x := (nI 2)) (nx := 2) hO rfl (by decide) rfl ?_
  refine goV (wI s 139 11 (nI 2)) (fun s1 es1 => ?_)
  replace H := H s1 es1
  refine s_putf (nx := 5) hO rfl rfl (hs_o12 kc139) (Nat.le_of_ble_eq_true rfl) (by rw [hty]; rfl) (by rw [hty]; rfl) pX12_11 rfl ?_
  refine xEx.at (up_oI12 kc139 es1) ?_
  refine s_aload_n (nx := 6) hO rfl rfl rfl ?_
  refine s_lconst (x := 0) (nx := 7) hO rfl (by decide) rfl ?_
  refine goV (wJ s1 139 13 0) (fun s2 es2 => ?_)
  replace H := H s2 es2
  refine s_putf (nx := 10) hO rfl rfl (hs_o12 kc139) (Nat.le_of_ble_eq_true rfl) (by rw [hty]; rfl) (by rw [hty]; rfl) pX12_13 rfl ?_
  refine xEx.at (up_oJ12 kc139 es2) ?_
  refine s_iload_n (nx := 11) hO rfl rfl rfl ?_
  refine s_aload_n (nx := 12) hO rfl rfl rfl ?_
  refine s_getf (v := .int (sI s2 139 10)) (nx := 15) hO rfl rfl (hs_o12 kc139) rfl rfl ?_
  refine s_isub (nx := 16) hO rfl rfl ?_
  refine s_bipush (x := (nI 13)) (nx := 18) hO rfl (by decide) rfl ?_
  refine goK (H (fun (y3 : Int32) => xEx G mX12_takeName 26 [(0, .ref (q_b G + 139)), (1, .int v1)] [.int y3] (hS G s2) z 0 0 (yQv G z Q)) (fun y3 H => ?_)) (fun H => ?_)
  · show xEx G mX12_takeName 26 [(0, .ref (q_b G + 139)), (1, .int v1)] [.int y3] (hS G s2) z 0 0 (yQv G z Q)
    refine s_istore_n (nx := 27) (l' := [(2, .int y3), (0, .ref (q_b G + 139)), (1, .int v1)]) hO rfl (by decide) rfl rfl ?_
    refine s_aload_n (nx := 28) hO rfl rfl rfl ?_
    refine s_getf (v := .int (sI s2 139 10)) (nx := 31) hO rfl rfl (hs_o12 kc139) rfl rfl ?_
    refine goK (H (fun (x4 : Int32) (x5 : Int32) (s6 : yS) => xEx G mX12_takeName 32 [(0, .ref (q_b G + 139)), (1, .int v1), (2, .int x4), (3, .int x5)] [] (hS G s6) z 0 0 (yQv G z Q)) (fun x4 x5 s6 H => ?_)) (fun H => ?_)
    · show xEx G mX12_takeName 32 [(0, .ref (q_b G + 139)), (1, .int v1), (2, .int x4), (3, .int x5)] [] (hS G s6) z 0 0 (yQv G z Q)
      refine s_iload_n (nx := 33) hO rfl rfl rfl ?_
      refine s_iload_n (nx := 34) hO rfl rfl rfl ?_
      refine goK (H (xEx G mX12_takeName 81 [(0, .ref (q_b G + 139)), (2, .int x4)] [] (hS G s6) z 0 0 (yQv G z Q)) (fun H => ?_)) (fun H => ?_)
      · show xEx G mX12_takeName 81 [(0, .ref (q_b G + 139)), (2, .int x4)] [] (hS G s6) z 0 0 (yQv G z Q)
        refine s_iload_n (nx := 82) hO rfl rfl rfl ?_
        refine s_if_ne (nx := 85) hO rfl rfl (fun c82 => ?_) (fun c82 => ?_)
        · replace H := H.1 c82
          exact s_vret hO rfl rfl ⟨rfl, _, rfl, rfl, H⟩
        · replace H := H.2 c82
          refine s_aload_n (nx := 86) hO rfl rfl rfl ?_
          refine s_iconst (x := 1) (nx := 87) hO rfl (by decide) rfl ?_
          refine s_aload_n (nx := 88) hO rfl rfl rfl ?_
          refine s_getf (v := .int (sI s6 139 10)) (nx := 91) hO rfl rfl (hs_o12 kc139) rfl rfl ?_
          refine s_callV [.int 1, .int (sI s6 139 10)] (ci := 12) (F := TX12) (N := 116) (nx := 94) hO rfl kX12_takeName_303 (by rw [hcl]; rfl) (hs_o12 kc139) (w_X12_wrong hG H) rfl rfl (Nat.le_of_ble_eq_true rfl) (Nat.zero_le _) (Nat.zero_le _) rfl (k_Qv (fun s7 H => ?_))
          exact s_vret hO rfl rfl ⟨rfl, _, rfl, rfl, H⟩
      refine s_icmp_ge (nx := 37) hO rfl rfl (fun c34 => ?_) (fun c34 => ?_)
      · replace H := H.1 c34
        exact xEx.loc (x_sub1 (List.Mem.head _) (x_sub1 (List.Mem.tail _ (List.Mem.tail _ (List.Mem.head _))) x_sub0)) H
      · replace H := H.2 c34
        refine s_iload_n (nx := 38) hO rfl rfl rfl ?_
        refine s_if_eq (nx := 41) hO rfl rfl (fun c38 => ?_) (fun c38 => ?_)
        · replace H := H.1 c38
          exact xEx.loc (x_sub1 (List.Mem.head _) (x_sub1 (List.Mem.tail _ (List.Mem.tail _ (List.Mem.head _))) x_sub0)) H
        · replace H := H.2 c38
          refine s_aload_n (nx := 42) hO rfl rfl rfl ?_
          refine s_getf (v := .ref (q_b G + 143)) (nx := 45) hO rfl rfl (hs_o12 kc139) rfl rfl ?_
          refine s_iload_n (nx := 46) hO rfl rfl rfl ?_
          obtain ⟨b8, H⟩ := H
          refine s_iald (nx := 47) hO rfl (hs_I kc143) b8 rfl ?_
          refine s_callS [.int (sI s6 143 (ix x5))] (nx := 50) hO rfl kX12_takeName_284 (w_X12_isSmall hG H) rfl rfl (Nat.le_of_ble_eq_true rfl) (Nat.zero_le _) (Nat.zero_le _) rfl (k_Pi (fun r9 H => ?_))
          refine s_istore_n (nx := 51) (l' := [(2, .int r9), (0, .ref (q_b G + 139)), (1, .int v1), (3, .int x5)]) hO rfl (by decide) rfl rfl ?_
          refine s_aload_n (nx := 52) hO rfl rfl rfl ?_
          refine s_ldc2_w (x := ((27))) (nx := 55) hO rfl rfl rfl ?_
          refine s_aload_n (nx := 56) hO rfl rfl rfl ?_
          refine s_getf (v := .long (sJ s6 139 13)) (nx := 59) hO rfl rfl (hs_o12 kc139) rfl rfl ?_
          refine s_lmul (nx := 60) hO rfl rfl ?_
          refine s_aload_n (nx := 61) hO rfl rfl rfl ?_
          refine s_getf (v := .ref (q_b G + 143)) (nx := 64) hO rfl rfl (hs_o12 kc139) rfl rfl ?_
          refine s_iload_n (nx := 65) hO rfl rfl rfl ?_
          obtain ⟨b10, H⟩ := H
          refine s_iald (nx := 66) hO rfl (hs_I kc143) b10 rfl ?_
          refine s_i2l (nx := 67) hO rfl rfl ?_
          refine s_ladd (nx := 68) hO rfl rfl ?_
          refine s_ldc2_w (x := ((96))) (nx := 71) hO rfl rfl rfl ?_
          refine s_lsub (nx := 72) hO rfl rfl ?_
          refine goV (wJ s6 139 13 (((((27)) * (sJ s6 139 13)) + ((sI s6 143 (ix x5))).toInt64) - ((96)))) (fun s11 es11 => ?_)
          replace H := H s11 es11
          refine s_putf (nx := 75) hO rfl rfl (hs_o12 kc139) (Nat.le_of_ble_eq_true rfl) (by rw [hty]; rfl) (by rw [hty]; rfl) pX12_13 rfl ?_
          refine xEx.at (up_oJ12 kc139 es11) ?_
          refine goV ((x5 + 1)) (fun x12 ex12 => ?_)
          replace H := H x12 ex12
          refine e_iinc (nx := 78) (l' := [(3, .int x12), (2, .int r9), (0, .ref (q_b G + 139)), (1, .int v1)]) ex12 hO rfl (by decide) rfl rfl rfl rfl ?_
          refine s_goto hO rfl ?_
          exact xEx.loc (x_sub1 (List.Mem.tail _ (List.Mem.tail _ (List.Mem.head _))) (x_sub1 (List.Mem.tail _ (List.Mem.tail _ (List.Mem.tail _ (List.Mem.head _)))) (x_sub1 (List.Mem.tail _ (List.Mem.head _)) (x_sub1 (List.Mem.head _) x_sub0)))) H
    refine goV ((sI s2 139 10)) (fun x13 ex13 => ?_)
    replace H := H x13 ex13
    refine e_istore_n (nx := 32) (l' := [(3, .int x13), (2, .int y3), (0, .ref (q_b G + 139)), (1, .int v1)]) ex13 hO rfl (by decide) rfl rfl ?_
    exact xEx.loc (x_sub1 (List.Mem.tail _ (List.Mem.tail _ (List.Mem.head _))) (x_sub1 (List.Mem.tail _ (List.Mem.tail _ (List.Mem.tail _ (List.Mem.head _)))) (x_sub1 (List.Mem.tail _ (List.Mem.head _)) (x_sub1 (List.Mem.head _) x_sub0)))) H
  refine s_icmp_ge (nx := 21) hO rfl rfl (fun c18 => ?_) (fun c18 => ?_)
  · replace H := H.1 c18
    refine s_iconst (x := 0) (nx := 26) hO rfl (by decide) rfl ?_
    exact xEx.loc (x_sub1 (List.Mem.head _) (x_sub1 (List.Mem.tail _ (List.Mem.head _)) x_sub0)) H
  · replace H := H.2 c18
    refine s_iconst (x := 1) (nx := 22) hO rfl (by decide) rfl ?_
    refine s_goto hO rfl ?_
    exact xEx.loc (x_sub1 (List.Mem.head _) (x_sub1 (List.Mem.tail _ (List.Mem.head _)) x_sub0)) H
def W_X12_takeNumber (s : yS) (v1 : Int32) (Q : yS → Prop) : Prop :=
 ∀ s1 : yS, s1 = wI s 139 11 (nI 3) → 
 vp_in (sI s1 139 10) 8192 ∧ 
 ∀ P24 : Int32 → Prop, (∀ (y3 : Int32), (∀ P44 : Int32 → Prop, (∀ (y4 : Int32), (∀ P65 : Int32 → Prop, (∀ (y5 : Int32), (∀ P67 : Int32 → Int64 → Int32 → Prop, (∀ (x6 : Int32) (x7 : Int64) (x8 : Int32), (∀ P129 : Prop, ((((y3 = 0 → ∀ s9 : yS, s9 = wJ s1 139 14 x7 → 
       ∀ P176 : Int32 → Prop, (∀ (y10 : Int32), (((¬ y10 = 0 → Q s9)
        ∧ (y10 = 0 → W_X12_wrong s9 1 (sI s9 139 10) 
         (fun s11 => Q s11)))) → P176 y10) → 
       ((x6 = 0 → P176 0)
       ∧ (¬ x6 = 0 → (((lg_cmp (sJ s9 139 14) ((-2147483648))) < 0 → P176 0)
        ∧ (¬ (lg_cmp (sJ s9 139 14) ((-2147483648))) < 0 → ((0 < (lg_cmp (sJ s9 139 14) ((2147483647))) → P176 0)
         ∧ (¬ 0 < (lg_cmp (sJ s9 139 14) ((2147483647))) → P176 1)))))))
      ∧ (¬ y3 = 0 → ∀ s12 : yS, s12 = wJ s1 139 14 (-x7) → 
       ∀ P176_14 : Int32 → Prop, (∀ (y13 : Int32), (((¬ y13 = 0 → Q s12)
        ∧ (y13 = 0 → W_X12_wrong s12 1 (sI s12 139 10) 
         (fun s15 => Q s15)))) → P176_14 y13) → 
       ((x6 = 0 → P176_14 0)
       ∧ (¬ x6 = 0 → (((lg_cmp (sJ s12 139 14) ((-2147483648))) < 0 → P176_14 0)
        ∧ (¬ (lg_cmp (sJ s12 139 14) ((-2147483648))) < 0 → ((0 < (lg_cmp (sJ s12 139 14) ((2147483647))) → P176_14 0)
         ∧ (¬ 0 < (lg_cmp (sJ s12 139 14) ((2147483647))) → P176_14 1))))))))) → P129) → 
     ((v1 ≤ x8 → P129)
     ∧ (¬ v1 ≤ x8 → ((x6 = 0 → P129)
      ∧ (¬ x6 = 0 → vp_in x8 8192 ∧ 
       W_X12_isDigit s1 (sI s1 143 (ix x8)) 
       (fun r17 => ∀ P121 : Int64 → Prop, (∀ (y18 : Int64), (∀ x19 : Int32, x19 = (x8 + 1) → 
        P67 r17 y18 x19) → P121 y18) → 
       ((0 ≤ (lg_cmp x7 ((100000000000))) → P121 x7)
       ∧ (¬ 0 ≤ (lg_cmp x7 ((100000000000))) → vp_in x8 8192 ∧ 
        P121 (((((10)) * x7) + ((sI s1 143 (ix x8))).toInt64) - ((48))))))))))) → P67 x6 x7 x8) → 
    P67 y4 0 y5) → P65 y5) → 
   ((y3 = 0 → P65 (sI s1 139 10))
   ∧ (¬ y3 = 0 → P65 ((sI s1 139 10) + 1)))) → P44 y4) → 
  ((y3 = 0 → P44 1)
  ∧ (¬ y3 = 0 → ((v1 ≤ ((sI s1 139 10) + 1) → P44 0)
   ∧ (¬ v1 ≤ ((sI s1 139 10) + 1) → P44 1))))) → P24 y3) → 
 ((¬ (sI s1 143 (ix (sI s1 139 10))) = (nI 45) → P24 0)
 ∧ ((sI s1 143 (ix (sI s1 139 10))) = (nI 45) → P24 1))
set_option maxRecDepth 100000 in
set_option maxHeartbeats 40000000 in
theorem w_X12_takeNumber {G : xG} (hG : yG G) {z : Nat} {s : yS} {v1 : Int32} {Q : yS → Prop} (H : W_X12_takeNumber s v1 Q) : xC G mX12_takeNumber [.ref (q_b G + 139), .int v1] (hS G s) z 0 0 (yQv G z Q) := by
  have hW := hG.1
  have hcl := hG.2.1
  have hty := hG.2.2.1
  have hO : xO G mX12_takeNumber tbX12_takeNumber ptX12_takeNumber := ⟨tkX12_takeNumber, pkX12_takeNumber hcl⟩
  unfold W_X12_takeNumber at H
  refine xC.of hW (by decide) rfl (Nat.le_of_ble_eq_true rfl) ?_
  refine s_aload_n (nx := 1) hO rfl rfl rfl ?_
  refine s_iconst (x := (nI 3)) (nx := 2) hO rfl (by decide) rfl ?_
  refine goV (wI s 139 11 (nI 3)) (fun s1 es1 => ?_)
  replace H := H s1 es1
  refine s_putf (nx := 5) hO rfl rfl (hs_o12 kc139) (Nat.le_of_ble_eq_true rfl) (by rw [hty]; rfl) (by rw [hty]; rfl) pX12_11 rfl ?_
  refine xEx.at (up_oI12 kc139 es1) ?_
  refine s_aload_n (nx := 6) hO rfl rfl rfl ?_
  refine s_getf (v := .ref (q_b G + 143)) (nx := 9) hO rfl rfl (hs_o12 kc139) rfl rfl ?_
  refine s_aload_n (nx := 10) hO rfl rfl rfl ?_
  refine s_getf (v := .int (sI s1 139 10)) (nx := 13) hO rfl rfl (hs_o12 kc139) rfl rfl ?_
  obtain ⟨b2, H⟩ := H
  refine s_iald (nx := 14) hO rfl (hs_I kc143) b2 rfl ?_
  refine s_bipush (x := (nI 45)) (nx := 16) hO rfl (by decide) rfl ?_
  refine goK (H (fun (y3 : Int32) => xEx G mX12_takeNumber 24 [(0, .ref (q_b G + 139)), (1, .int v1)] [.int y3] (hS G s1) z 0 0 (yQv G z Q)) (fun y3 H => ?_)) (fun H => ?_)
  · show xEx G mX12_takeNumber 24 [(0, .ref (q_b G + 139)), (1, .int v1)] [.int y3] (hS G s1) z 0 0 (yQv G z Q)
    refine s_istore_n (nx := 25) (l' := [(2, .int y3), (0, .ref (q_b G + 139)), (1, .int v1)]) hO rfl (by decide) rfl rfl ?_
    refine s_iload_n (nx := 26) hO rfl rfl rfl ?_
    refine goK (H (fun (y4 : Int32) => xEx G mX12_takeNumber 44 [(0, .ref (q_b G + 139)), (1, .int v1), (2, .int y3)] [.int y4] (hS G s1) z 0 0 (yQv G z Q)) (fun y4 H => ?_)) (fun H => ?_)
    · show xEx G mX12_takeNumber 44 [(0, .ref (q_b G + 139)), (1, .int v1), (2, .int y3)] [.int y4] (hS G s1) z 0 0 (yQv G z Q)
      refine s_istore_n (nx := 45) (l' := [(3, .int y4), (0, .ref (q_b G + 139)), (1, .int v1), (2, .int y3)]) hO rfl (by decide) rfl rfl ?_
      refine s_lconst (x := 0) (nx := 46) hO rfl (by decide) rfl ?_
      refine s_lstore (nx := 48) (l' := [(4, .long 0), (3, .int y4), (0, .ref (q_b G + 139)), (1, .int v1), (2, .int y3)]) hO rfl (by decide) rfl rfl ?_
      refine s_iload_n (nx := 49) hO rfl rfl rfl ?_
      refine goK (H (fun (y5 : Int32) => xEx G mX12_takeNumber 65 [(0, .ref (q_b G + 139)), (1, .int v1), (2, .int y3), (3, .int y4), (4, .long 0)] [.int y5] (hS G s1) z 0 0 (yQv G z Q)) (fun y5 H => ?_)) (fun H => ?_)
      · show xEx G mX12_takeNumber 65 [(0, .ref (q_b G + 139)), (1, .int v1), (2, .int y3), (3, .int y4), (4, .long 0)] [.int y5] (hS G s1) z 0 0 (yQv G z Q)
        refine goK (H (fun (x6 : Int32) (x7 : Int64) (x8 : Int32) => xEx G mX12_takeNumber 67 [(0, .ref (q_b G + 139)), (1, .int v1), (2, .int y3), (3, .int x6), (4, .long x7), (6, .int x8)] [] (hS G s1) z 0 0 (yQv G z Q)) (fun x6 x7 x8 H => ?_)) (fun H => ?_)
        · show xEx G mX12_takeNumber 67 [(0, .ref (q_b G + 139)), (1, .int v1), (2, .int y3), (3, .int x6), (4, .long x7), (6, .int x8)] [] (hS G s1) z 0 0 (yQv G z Q)
          refine s_iload (nx := 69) hO rfl rfl rfl ?_
          refine s_iload_n (nx := 70) hO rfl rfl rfl ?_
          refine goK (H (xEx G mX12_takeNumber 129 [(0, .ref (q_b G + 139)), (2, .int y3), (3, .int x6), (4, .long x7)] [] (hS G s1) z 0 0 (yQv G z Q)) (fun H => ?_)) (fun H => ?_)
          · show xEx G mX12_takeNumber 129 [(0, .ref (q_b G + 139)), (2, .int y3), (3, .int x6), (4, .long x7)] [] (hS G s1) z 0 0 (yQv G z Q)
            refine s_aload_n (nx := 130) hO rfl rfl rfl ?_
            refine s_iload_n (nx := 131) hO rfl rfl rfl ?_
            refine s_if_eq (nx := 134) hO rfl rfl (fun c131 => ?_) (fun c131 => ?_)
            · replace H := H.1 c131
              refine s_lload (nx := 142) hO rfl rfl rfl ?_
              refine goV (wJ s1 139 14 x7) (fun s9 es9 => ?_)
              replace H := H s9 es9
              refine s_putf (nx := 145) hO rfl rfl (hs_o12 kc139) (Nat.le_of_ble_eq_true rfl) (by rw [hty]; rfl) (by rw [hty]; rfl) pX12_14 rfl ?_
              refine xEx.at (up_oJ12 kc139 es9) ?_
              refine s_iload_n (nx := 146) hO rfl rfl rfl ?_
              refine goK (H (fun (y10 : Int32) => xEx G mX12_takeNumber 176 [(0, .ref (q_b G + 139))] [.int y10] (hS G s9) z 0 0 (yQv G z Q)) (fun y10 H => ?_)) (fun H => ?_)
              · show xEx G mX12_takeNumber 176 [(0, .ref (q_b G + 139))] [.int y10] (hS G s9) z 0 0 (yQv G z Q)
                refine s_istore_n (nx := 177) (l' := [(3, .int y10), (0, .ref (q_b G + 139))]) hO rfl (by decide) rfl rfl ?_
                refine s_iload_n (nx := 178) hO rfl rfl rfl ?_
                refine s_if_ne (nx := 181) hO rfl rfl (fun c178 => ?_) (fun c178 => ?_)
                · replace H := H.1 c178
                  exact s_vret hO rfl rfl ⟨rfl, _, rfl, rfl, H⟩
                · replace H := H.2 c178
                  refine s_aload_n (nx := 182) hO rfl rfl rfl ?_
                  refine s_iconst (x := 1) (nx := 183) hO rfl (by decide) rfl ?_
                  refine s_aload_n (nx := 184) hO rfl rfl rfl ?_
                  refine s_getf (v := .int (sI s9 139 10)) (nx := 187) hO rfl rfl (hs_o12 kc139) rfl rfl ?_
                  refine s_callV [.int 1, .int (sI s9 139 10)] (ci := 12) (F := TX12) (N := 116) (nx := 190) hO rfl kX12_takeNumber_303 (by rw [hcl]; rfl) (hs_o12 kc139) (w_X12_wrong hG H) rfl rfl (Nat.le_of_ble_eq_true rfl) (Nat.zero_le _) (Nat.zero_le _) rfl (k_Qv (fun s11 H => ?_))
                  exact s_vret hO rfl rfl ⟨rfl, _, rfl, rfl, H⟩
              refine s_if_eq (nx := 149) hO rfl rfl (fun c146 => ?_) (fun c146 => ?_)
              · replace H := H.1 c146
                refine s_iconst (x := 0) (nx := 176) hO rfl (by decide) rfl ?_
                exact xEx.loc (x_sub1 (List.Mem.head _) x_sub0) H
              · replace H := H.2 c146
                refine s_aload_n (nx := 150) hO rfl rfl rfl ?_
                refine s_getf (v := .long (sJ s9 139 14)) (nx := 153) hO rfl rfl (hs_o12 kc139) rfl rfl ?_
                refine s_ldc2_w (x := ((-2147483648))) (nx := 156) hO rfl rfl rfl ?_
                refine s_lcmp (nx := 157) hO rfl rfl ?_
                refine s_if_lt (nx := 160) hO rfl rfl (fun c157 => ?_) (fun c157 => ?_)
                · replace H := H.1 c157
                  refine s_iconst (x := 0) (nx := 176) hO rfl (by decide) rfl ?_
                  exact xEx.loc (x_sub1 (List.Mem.head _) x_sub0) H
                · replace H := H.2 c157
                  refine s_aload_n (nx := 161) hO rfl rfl rfl ?_
                  refine s_getf (v := .long (sJ s9 139 14)) (nx := 164) hO rfl rfl (hs_o12 kc139) rfl rfl ?_
                  refine s_ldc2_w (x := ((2147483647))) (nx := 167) hO rfl rfl rfl ?_
                  refine s_lcmp (nx := 168) hO rfl rfl ?_
                  refine s_if_gt (nx := 171) hO rfl rfl (fun c168 => ?_) (fun c168 => ?_)
                  · replace H := H.1 c168
                    refine s_iconst (x := 0) (nx := 176) hO rfl (by decide) rfl ?_
                    exact xEx.loc (x_sub1 (List.Mem.head _) x_sub0) H
                  · replace H := H.2 c168
                    refine s_iconst (x := 1) (nx := 172) hO rfl (by decide) rfl ?_
                    refine s_goto hO rfl ?_
                    exact xEx.loc (x_sub1 (List.Mem.head _) x_sub0) H
            · replace H := H.2 c131
              refine s_lload (nx := 136) hO rfl rfl rfl ?_
              refine s_lneg (nx := 137) hO rfl rfl ?_
              refine s_goto hO rfl ?_
              refine goV (wJ s1 139 14 (-x7)) (fun s12 es12 => ?_)
              replace H := H s12 es12
              refine s_putf (nx := 145) hO rfl rfl (hs_o12 kc139) (Nat.le_of_ble_eq_true rfl) (by rw [hty]; rfl) (by rw [hty]; rfl) pX12_14 rfl ?_
              refine xEx.at (up_oJ12 kc139 es12) ?_
              refine s_iload_n (nx := 146) hO rfl rfl rfl ?_
              refine goK (H (fun (y13 : Int32) => xEx G mX12_takeNumber 176 [(0, .ref (q_b G + 139))] [.int y13] (hS G s12) z 0 0 (yQv G z Q)) (fun y13 H => ?_)) (fun H => ?_)
              · show xEx G mX12_takeNumber 176 [(0, .ref (q_b G + 139))] [.int y13] (hS G s12) z 0 0 (yQv G z Q)
                refine s_istore_n (nx := 177) (l' := [(3, .int y13), (0, .ref (q_b G + 139))]) hO rfl (by decide) rfl rfl ?_
                refine s_iload_n (nx := 178) hO rfl rfl rfl ?_
                refine s_if_ne (nx := 181) hO rfl rfl (fun c178 => ?_) (fun c178 => ?_)
                · replace H := H.1 c178
                  exact s_vret hO rfl rfl ⟨rfl, _, rfl, rfl, H⟩
                · replace H := H.2 c178
                  refine s_aload_n (nx := 182) hO rfl rfl rfl ?_
                  refine s_iconst (x := 1) (nx := 183) hO rfl (by decide) rfl ?_
                  refine s_aload_n (nx := 184) hO rfl rfl rfl ?_
                  refine s_getf (v := .int (sI s12 139 10)) (nx := 187) hO rfl rfl (hs_o12 kc139) rfl rfl ?_
                  refine s_callV [.int 1, .int (sI s12 139 10)] (ci := 12) (F := TX12) (N := 116) (nx := 190) hO rfl kX12_takeNumber_303 (by rw [hcl]; rfl) (hs_o12 kc139) (w_X12_wrong hG H) rfl rfl (Nat.le_of_ble_eq_true rfl) (Nat.zero_le _) (Nat.zero_le _) rfl (k_Qv (fun s15 H => ?_))
                  exact s_vret hO rfl rfl ⟨rfl, _, rfl, rfl, H⟩
              refine s_if_eq (nx := 149) hO rfl rfl (fun c146 => ?_) (fun c146 => ?_)
              · replace H := H.1 c146
                refine s_iconst (x := 0) (nx := 176) hO rfl (by decide) rfl ?_
                exact xEx.loc (x_sub1 (List.Mem.head _) x_sub0) H
              · replace H := H.2 c146
                refine s_aload_n (nx := 150) hO rfl rfl rfl ?_
                refine s_getf (v := .long (sJ s12 139 14)) (nx := 153) hO rfl rfl (hs_o12 kc139) rfl rfl ?_
                refine s_ldc2_w (x := ((-2147483648))) (nx := 156) hO rfl rfl rfl ?_
                refine s_lcmp (nx := 157) hO rfl rfl ?_
                refine s_if_lt (nx := 160) hO rfl rfl (fun c157 => ?_) (fun c157 => ?_)
                · replace H := H.1 c157
                  refine s_iconst (x := 0) (nx := 176) hO rfl (by decide) rfl ?_
                  exact xEx.loc (x_sub1 (List.Mem.head _) x_sub0) H
                · replace H := H.2 c157
                  refine s_aload_n (nx := 161) hO rfl rfl rfl ?_
                  refine s_getf (v := .long (sJ s12 139 14)) (nx := 164) hO rfl rfl (hs_o12 kc139) rfl rfl ?_
                  refine s_ldc2_w (x := ((2147483647))) (nx := 167) hO rfl rfl rfl ?_
                  refine s_lcmp (nx := 168) hO rfl rfl ?_
                  refine s_if_gt (nx := 171) hO rfl rfl (fun c168 => ?_) (fun c168 => ?_)
                  · replace H := H.1 c168
                    refine s_iconst (x := 0) (nx := 176) hO rfl (by decide) rfl ?_
                    exact xEx.loc (x_sub1 (List.Mem.head _) x_sub0) H
                  · replace H := H.2 c168
                    refine s_iconst (x := 1) (nx := 172) hO rfl (by decide) rfl ?_
                    refine s_goto hO rfl ?_
                    exact xEx.loc (x_sub1 (List.Mem.head _) x_sub0) H
          refine s_icmp_ge (nx := 73) hO rfl rfl (fun c70 => ?_) (fun c70 => ?_)
          · replace H := H.1 c70
            exact xEx.loc (x_sub1 (List.Mem.head _) (x_sub1 (List.Mem.tail _ (List.Mem.tail _ (List.Mem.head _))) (x_sub1 (List.Mem.tail _ (List.Mem.tail _ (List.Mem.tail _ (List.Mem.head _)))) (x_sub1 (List.Mem.tail _ (List.Mem.tail _ (List.Mem.tail _ (List.Mem.tail _ (List.Mem.head _))))) x_sub0)))) H
          · replace H := H.2 c70
            refine s_iload_n (nx := 74) hO rfl rfl rfl ?_
            refine s_if_eq (nx := 77) hO rfl rfl (fun c74 => ?_) (fun c74 => ?_)
            · replace H := H.1 c74
              exact xEx.loc (x_sub1 (List.Mem.head _) (x_sub1 (List.Mem.tail _ (List.Mem.tail _ (List.Mem.head _))) (x_sub1 (List.Mem.tail _ (List.Mem.tail _ (List.Mem.tail _ (List.Mem.head _)))) (x_sub1 (List.Mem.tail _ (List.Mem.tail _ (List.Mem.tail _ (List.Mem.tail _ (List.Mem.head _))))) x_sub0)))) H
            · replace H := H.2 c74
              refine s_aload_n (nx := 78) hO rfl rfl rfl ?_
              refine s_getf (v := .ref (q_b G + 143)) (nx := 81) hO rfl rfl (hs_o12 kc139) rfl rfl ?_
              refine s_iload (nx := 83) hO rfl rfl rfl ?_
              obtain ⟨b16, H⟩ := H
              refine s_iald (nx := 84) hO rfl (hs_I kc143) b16 rfl ?_
              refine s_callS [.int (sI s1 143 (ix x8))] (nx := 87) hO rfl kX12_takeNumber_280 (w_X12_isDigit hG H) rfl rfl (Nat.le_of_ble_eq_true rfl) (Nat.zero_le _) (Nat.zero_le _) rfl (k_Pi (fun r17 H => ?_))
              refine s_istore_n (nx := 88) (l' := [(3, .int r17), (0, .ref (q_b G + 139)), (1, .int v1), (2, .int y3), (4, .long x7), (6, .int x8)]) hO rfl (by decide) rfl rfl ?_
              refine s_lload (nx := 90) hO rfl rfl rfl ?_
              refine s_ldc2_w (x := ((100000000000))) (nx := 93) hO rfl rfl rfl ?_
              refine s_lcmp (nx := 94) hO rfl rfl ?_
              refine goK (H (fun (y18 : Int64) => xEx G mX12_takeNumber 121 [(0, .ref (q_b G + 139)), (1, .int v1), (2, .int y3), (3, .int r17), (6, .int x8)] [.long y18] (hS G s1) z 0 0 (yQv G z Q)) (fun y18 H => ?_)) (fun H => ?_)
              · show xEx G mX12_takeNumber 121 [(0, .ref (q_b G + 139)), (1, .int v1), (2, .int y3), (3, .int r17), (6, .int x8)] [.long y18] (hS G s1) z 0 0 (yQv G z Q)
                refine s_lstore (nx := 123) (l' := [(4, .long y18), (0, .ref (q_b G + 139)), (1, .int v1), (2, .int y3), (3, .int r17), (6, .int x8)]) hO rfl (by decide) rfl rfl ?_
                refine goV ((x8 + 1)) (fun x19 ex19 => ?_)
                replace H := H x19 ex19
                refine e_iinc (nx := 126) (l' := [(6, .int x19), (4, .long y18), (0, .ref (q_b G + 139)), (1, .int v1), (2, .int y3), (3, .int r17)]) ex19 hO rfl (by decide) rfl rfl rfl rfl ?_
                refine s_goto hO rfl ?_
                exact xEx.loc (x_sub1 (List.Mem.tail _ (List.Mem.tail _ (List.Mem.head _))) (x_sub1 (List.Mem.tail _ (List.Mem.tail _ (List.Mem.tail _ (List.Mem.head _)))) (x_sub1 (List.Mem.tail _ (List.Mem.tail _ (List.Mem.tail _ (List.Mem.tail _ (List.Mem.head _))))) (x_sub1 (List.Mem.tail _ (List.Mem.tail _ (List.Mem.tail _ (List.Mem.tail _ (List.Mem.tail _ (List.Mem.head _)))))) (x_sub1 (List.Mem.tail _ (List.Mem.head _)) (x_sub1 (List.Mem.head _) x_sub0)))))) H
              refine s_if_ge (nx := 97) hO rfl rfl (fun c94 => ?_) (fun c94 => ?_)
              · replace H := H.1 c94
                refine s_lload (nx := 121) hO rfl rfl rfl ?_
                exact xEx.loc (x_sub1 (List.Mem.tail _ (List.Mem.head _)) (x_sub1 (List.Mem.tail _ (List.Mem.tail _ (List.Mem.head _))) (x_sub1 (List.Mem.tail _ (List.Mem.tail _ (List.Mem.tail _ (List.Mem.head _)))) (x_sub1 (List.Mem.head _) (x_sub1 (List.Mem.tail _ (List.Mem.tail _ (List.Mem.tail _ (List.Mem.tail _ (List.Mem.tail _ (List.Mem.head _)))))) x_sub0))))) H
              · replace H := H.2 c94
                refine s_ldc2_w (x := ((10))) (nx := 100) hO rfl rfl rfl ?_
                refine s_lload (nx := 102) hO rfl rfl rfl ?_
                refine s_lmul (nx := 103) hO rfl rfl ?_
                refine s_aload_n (nx := 104) hO rfl rfl rfl ?_
                refine s_getf (v := .ref (q_b G + 143)) (nx := 107) hO rfl rfl (hs_o12 kc139) rfl rfl ?_
                refine s_iload (nx := 109) hO rfl rfl rfl ?_
                obtain ⟨b20, H⟩ := H
                refine s_iald (nx := 110) hO rfl (hs_I kc143) b20 rfl ?_
                refine s_i2l (nx := 111) hO rfl rfl ?_
                refine s_ladd (nx := 112) hO rfl rfl ?_
                refine s_ldc2_w (x := ((48))) (nx := 115) hO rfl rfl rfl ?_
                refine s_lsub (nx := 116) hO rfl rfl ?_
                refine s_goto hO rfl ?_
                exact xEx.loc (x_sub1 (List.Mem.tail _ (List.Mem.head _)) (x_sub1 (List.Mem.tail _ (List.Mem.tail _ (List.Mem.head _))) (x_sub1 (List.Mem.tail _ (List.Mem.tail _ (List.Mem.tail _ (List.Mem.head _)))) (x_sub1 (List.Mem.head _) (x_sub1 (List.Mem.tail _ (List.Mem.tail _ (List.Mem.tail _ (List.Mem.tail _ (List.Mem.tail _ (List.Mem.head _)))))) x_sub0))))) H
        refine s_istore (nx := 67) (l' := [(6, .int y5), (0, .ref (q_b G + 139)), (1, .int v1), (2, .int y3), (3, .int y4), (4, .long 0)]) hO rfl (by decide) rfl rfl ?_
        exact xEx.loc (x_sub1 (List.Mem.tail _ (List.Mem.head _)) (x_sub1 (List.Mem.tail _ (List.Mem.tail _ (List.Mem.head _))) (x_sub1 (List.Mem.tail _ (List.Mem.tail _ (List.Mem.tail _ (List.Mem.head _)))) (x_sub1 (List.Mem.tail _ (List.Mem.tail _ (List.Mem.tail _ (List.Mem.tail _ (List.Mem.head _))))) (x_sub1 (List.Mem.tail _ (List.Mem.tail _ (List.Mem.tail _ (List.Mem.tail _ (List.Mem.tail _ (List.Mem.head _)))))) (x_sub1 (List.Mem.head _) x_sub0)))))) H
      refine s_if_eq (nx := 52) hO rfl rfl (fun c49 => ?_) (fun c49 => ?_)
      · replace H := H.1 c49
        refine s_aload_n (nx := 62) hO rfl rfl rfl ?_
        refine s_getf (v := .int (sI s1 139 10)) (nx := 65) hO rfl rfl (hs_o12 kc139) rfl rfl ?_
        exact xEx.loc (x_sub1 (List.Mem.tail _ (List.Mem.tail _ (List.Mem.head _))) (x_sub1 (List.Mem.tail _ (List.Mem.tail _ (List.Mem.tail _ (List.Mem.head _)))) (x_sub1 (List.Mem.tail _ (List.Mem.tail _ (List.Mem.tail _ (List.Mem.tail _ (List.Mem.head _))))) (x_sub1 (List.Mem.tail _ (List.Mem.head _)) (x_sub1 (List.Mem.head _) x_sub0))))) H
      · replace H := H.2 c49
        refine s_aload_n (nx := 53) hO rfl rfl rfl ?_
        refine s_getf (v := .int (sI s1 139 10)) (nx := 56) hO rfl rfl (hs_o12 kc139) rfl rfl ?_
        refine s_iconst (x := 1) (nx := 57) hO rfl (by decide) rfl ?_
        refine s_iadd (nx := 58) hO rfl rfl ?_
        refine s_goto hO rfl ?_
        exact xEx.loc (x_sub1 (List.Mem.tail _ (List.Mem.tail _ (List.Mem.head _))) (x_sub1 (List.Mem.tail _ (List.Mem.tail _ (List.Mem.tail _ (List.Mem.head _)))) (x_sub1 (List.Mem.tail _ (List.Mem.tail _ (List.Mem.tail _ (List.Mem.tail _ (List.Mem.head _))))) (x_sub1 (List.Mem.tail _ (List.Mem.head _)) (x_sub1 (List.Mem.head _) x_sub0))))) H
    refine s_if_eq (nx := 29) hO rfl rfl (fun c26 => ?_) (fun c26 => ?_)
    · replace H := H.1 c26
      refine s_iconst (x := 1) (nx := 40) hO rfl (by decide) rfl ?_
      refine s_goto hO rfl ?_
      exact xEx.loc (x_sub1 (List.Mem.tail _ (List.Mem.head _)) (x_sub1 (List.Mem.tail _ (List.Mem.tail _ (List.Mem.head _))) (x_sub1 (List.Mem.head _) x_sub0))) H
    · replace H := H.2 c26
      refine s_iload_n (nx := 30) hO rfl rfl rfl ?_
      refine s_aload_n (nx := 31) hO rfl rfl rfl ?_
      refine s_getf (v := .int (sI s1 139 10)) (nx := 34) hO rfl rfl (hs_o12 kc139) rfl rfl ?_
      refine s_iconst (x := 1) (nx := 35) hO rfl (by decide) rfl ?_
      refine s_iadd (nx := 36) hO rfl rfl ?_
      refine s_icmp_le (nx := 39) hO rfl rfl (fun c36 => ?_) (fun c36 => ?_)
      · replace H := H.1 c36
        refine s_iconst (x := 0) (nx := 44) hO rfl (by decide) rfl ?_
        exact xEx.loc (x_sub1 (List.Mem.tail _ (List.Mem.head _)) (x_sub1 (List.Mem.tail _ (List.Mem.tail _ (List.Mem.head _))) (x_sub1 (List.Mem.head _) x_sub0))) H
      · replace H := H.2 c36
        refine s_iconst (x := 1) (nx := 40) hO rfl (by decide) rfl ?_
        refine s_goto hO rfl ?_
        exact xEx.loc (x_sub1 (List.Mem.tail _ (List.Mem.head _)) (x_sub1 (List.Mem.tail _ (List.Mem.tail _ (List.Mem.head _))) (x_sub1 (List.Mem.head _) x_sub0))) H
  refine s_icmp_ne (nx := 19) hO rfl rfl (fun c16 => ?_) (fun c16 => ?_)
  · replace H := H.1 c16
    refine s_iconst (x := 0) (nx := 24) hO rfl (by decide) rfl ?_
    exact xEx.loc (x_sub1 (List.Mem.head _) (x_sub1 (List.Mem.tail _ (List.Mem.head _)) x_sub0)) H
  · replace H := H.2 c16
    refine s_iconst (x := 1) (nx := 20) hO rfl (by decide) rfl ?_
    refine s_goto hO rfl ?_
    exact xEx.loc (x_sub1 (List.Mem.head _) (x_sub1 (List.Mem.tail _ (List.Mem.head _)) x_sub0)) H
def W_X12_next (s : yS) (Q : yS → Prop) : Prop :=
 ∀ P0 : yS → Prop, (∀ (s1 : yS), (W_X12_letterAt s1 (sI s1 139 10) 
  (fun r2 => ∀ P26 : Prop, ((∀ s3 : yS, s3 = wI s1 139 10 ((sI s1 139 10) + 1) → 
   P0 s3) → P26) → 
  ((r2 = (nI 32) → P26)
  ∧ (¬ r2 = (nI 32) → W_X12_letterAt s1 (sI s1 139 10) 
   (fun r4 => ((¬ r4 = (nI 10) → ∀ s5 : yS, s5 = wI s1 139 12 (sI s1 139 10) → 
    (((sI s5 139 10) < (sI s5 139 9) → vp_in (sI s5 139 10) 8192 ∧ 
     ∀ x7 : Int32, x7 = (sI s5 143 (ix (sI s5 139 10))) → 
     ∀ P86 : Prop, ((∀ s8 : yS, s8 = wI s5 139 11 (x7 - (nI 40)) → 
      ∀ s9 : yS, s9 = wI s8 139 10 ((sI s8 139 10) + 1) → 
      Q s9) → P86) → 
     ((x7 = (nI 40) → P86)
     ∧ (¬ x7 = (nI 40) → ((¬ x7 = (nI 41) → W_X12_isOfWord s5 x7 
       (fun r10 => ((¬ r10 = 0 → ∀ P132 : Int32 → Prop, (∀ (x11 : Int32), (W_X12_letterAt s5 x11 
         (fun r12 => W_X12_isOfWord s5 r12 
         (fun r13 => ((r13 = 0 → W_X12_isSmall s5 x7 
          (fun r14 => ((r14 = 0 → W_X12_takeNumber s5 x11 
           (fun s15 => ∀ s16 : yS, s16 = wI s15 139 10 x11 → 
           Q s16))
          ∧ (¬ r14 = 0 → W_X12_takeName s5 x11 
           (fun s17 => ∀ s18 : yS, s18 = wI s17 139 10 x11 → 
           Q s18)))))
         ∧ (¬ r13 = 0 → ∀ x19 : Int32, x19 = (x11 + 1) → 
          P132 x19))))) → P132 x11) → 
        ∀ x20 : Int32, x20 = (sI s5 139 10) → 
        P132 x20)
       ∧ (r10 = 0 → W_X12_wrong s5 1 (sI s5 139 10) 
        (fun s21 => ∀ s22 : yS, s22 = wI s21 139 11 (nI 4) → 
        Q s22)))))
      ∧ (x7 = (nI 41) → P86)))))
    ∧ (¬ (sI s5 139 10) < (sI s5 139 9) → ∀ s23 : yS, s23 = wI s5 139 11 (nI 4) → 
     Q s23)))
   ∧ (r4 = (nI 10) → P26))))))) → P0 s1) → 
 P0 s
set_option maxRecDepth 100000 in
set_option maxHeartbeats 40000000 in
theorem w_X12_next {G : xG} (hG : yG G) {z : Nat} {s : yS} {Q : yS → Prop} (H : W_X12_next s Q) : xC G mX12_next [.ref (q_b G + 139)] (hS G s) z 0 0 (yQv G z Q) := by
  have hW := hG.1
  have hcl := hG.2.1
  have hty := hG.2.2.1
  have hO : xO G mX12_next tbX12_next ptX12_next := ⟨tkX12_next, pkX12_next hcl⟩
  unfold W_X12_next at H
  refine xC.of hW (by decide) rfl (Nat.le_of_ble_eq_true rfl) ?_
  refine goK (H (fun (s1 : yS) => xEx G mX12_next 0 [(0, .ref (q_b G + 139))] [] (hS G s1) z 0 0 (yQv G z Q)) (fun s1 H => ?_)) (fun H => ?_)
  · show xEx G mX12_next 0 [(0, .ref (q_b G + 139))] [] (hS G s1) z 0 0 (yQv G z Q)
    refine s_aload_n (nx := 1) hO rfl rfl rfl ?_
    refine s_aload_n (nx := 2) hO rfl rfl rfl ?_
    refine s_getf (v := .int (sI s1 139 10)) (nx := 5) hO rfl rfl (hs_o12 kc139) rfl rfl ?_
    refine s_callV [.int (sI s1 139 10)] (ci := 12) (F := TX12) (N := 116) (nx := 8) hO rfl kX12_next_290 (by rw [hcl]; rfl) (hs_o12 kc139) (w_X12_letterAt hG H) rfl rfl (Nat.le_of_ble_eq_true rfl) (Nat.zero_le _) (Nat.zero_le _) rfl (k_Pi (fun r2 H => ?_))
    refine s_bipush (x := (nI 32)) (nx := 10) hO rfl (by decide) rfl ?_
    refine goK (H (xEx G mX12_next 26 [(0, .ref (q_b G + 139))] [] (hS G s1) z 0 0 (yQv G z Q)) (fun H => ?_)) (fun H => ?_)
    · show xEx G mX12_next 26 [(0, .ref (q_b G + 139))] [] (hS G s1) z 0 0 (yQv G z Q)
      refine s_aload_n (nx := 27) hO rfl rfl rfl ?_
      refine s_dup (nx := 28) hO rfl rfl rfl ?_
      refine s_getf (v := .int (sI s1 139 10)) (nx := 31) hO rfl rfl (hs_o12 kc139) rfl rfl ?_
      refine s_iconst (x := 1) (nx := 32) hO rfl (by decide) rfl ?_
      refine s_iadd (nx := 33) hO rfl rfl ?_
      refine goV (wI s1 139 10 ((sI s1 139 10) + 1)) (fun s3 es3 => ?_)
      replace H := H s3 es3
      refine s_putf (nx := 36) hO rfl rfl (hs_o12 kc139) (Nat.le_of_ble_eq_true rfl) (by rw [hty]; rfl) (by rw [hty]; rfl) pX12_10 rfl ?_
      refine xEx.at (up_oI12 kc139 es3) ?_
      refine s_goto hO rfl ?_
      exact xEx.loc (x_sub1 (List.Mem.head _) x_sub0) H
    refine s_icmp_eq (nx := 13) hO rfl rfl (fun c10 => ?_) (fun c10 => ?_)
    · replace H := H.1 c10
      exact xEx.loc (x_sub1 (List.Mem.head _) x_sub0) H
    · replace H := H.2 c10
      refine s_aload_n (nx := 14) hO rfl rfl rfl ?_
      refine s_aload_n (nx := 15) hO rfl rfl rfl ?_
      refine s_getf (v := .int (sI s1 139 10)) (nx := 18) hO rfl rfl (hs_o12 kc139) rfl rfl ?_
      refine s_callV [.int (sI s1 139 10)] (ci := 12) (F := TX12) (N := 116) (nx := 21) hO rfl kX12_next_290 (by rw [hcl]; rfl) (hs_o12 kc139) (w_X12_letterAt hG H) rfl rfl (Nat.le_of_ble_eq_true rfl) (Nat.zero_le _) (Nat.zero_le _) rfl (k_Pi (fun r4 H => ?_))
      refine s_bipush (x := (nI 10)) (nx := 23) hO rfl (by decide) rfl ?_
      refine s_icmp_ne (nx := 26) hO rfl rfl (fun c23 => ?_) (fun c23 => ?_)
      · replace H := H.1 c23
        refine s_aload_n (nx := 40) hO rfl rfl rfl ?_
        refine s_aload_n (nx := 41) hO rfl rfl rfl ?_
        refine s_getf (v := .int (sI s1 139 10)) (nx := 44) hO rfl rfl (hs_o12 kc139) rfl rfl ?_
        refine goV (wI s1 139 12 (sI s1 139 10)) (fun s5 es5 => ?_)
        replace H := H s5 es5
        refine s_putf (nx := 47) hO rfl rfl (hs_o12 kc139) (Nat.le_of_ble_eq_true rfl) (by rw [hty]; rfl) (by rw [hty]; rfl) pX12_12 rfl ?_
        refine xEx.at (up_oI12 kc139 es5) ?_
        refine s_aload_n (nx := 48) hO rfl rfl rfl ?_
        refine s_getf (v := .int (sI s5 139 10)) (nx := 51) hO rfl rfl (hs_o12 kc139) rfl rfl ?_
        refine s_aload_n (nx := 52) hO rfl rfl rfl ?_
        refine s_getf (v := .int (sI s5 139 9)) (nx := 55) hO rfl rfl (hs_o12 kc139) rfl rfl ?_
        refine s_icmp_lt (nx := 58) hO rfl rfl (fun c55 => ?_) (fun c55 => ?_)
        · replace H := H.1 c55
          refine s_aload_n (nx := 65) hO rfl rfl rfl ?_
          refine s_getf (v := .ref (q_b G + 143)) (nx := 68) hO rfl rfl (hs_o12 kc139) rfl rfl ?_
          refine s_aload_n (nx := 69) hO rfl rfl rfl ?_
          refine s_getf (v := .int (sI s5 139 10)) (nx := 72) hO rfl rfl (hs_o12 kc139) rfl rfl ?_
          obtain ⟨b6, H⟩ := H
          refine s_iald (nx := 73) hO rfl (hs_I kc143) b6 rfl ?_
          refine goV ((sI s5 143 (ix (sI s5 139 10)))) (fun x7 ex7 => ?_)
          replace H := H x7 ex7
          refine e_istore_n (nx := 74) (l' := [(1, .int x7), (0, .ref (q_b G + 139))]) ex7 hO rfl (by decide) rfl rfl ?_
          refine s_iload_n (nx := 75) hO rfl rfl rfl ?_
          refine s_bipush (x := (nI 40)) (nx := 77) hO rfl (by decide) rfl ?_
          refine goK (H (xEx G mX12_next 86 [(0, .ref (q_b G + 139)), (1, .int x7)] [] (hS G s5) z 0 0 (yQv G z Q)) (fun H => ?_)) (fun H => ?_)
          · show xEx G mX12_next 86 [(0, .ref (q_b G + 139)), (1, .int x7)] [] (hS G s5) z 0 0 (yQv G z Q)
            refine s_aload_n (nx := 87) hO rfl rfl rfl ?_
            refine s_iload_n (nx := 88) hO rfl rfl rfl ?_
            refine s_bipush (x := (nI 40)) (nx := 90) hO rfl (by decide) rfl ?_
            refine s_isub (nx := 91) hO rfl rfl ?_
            refine goV (wI s5 139 11 (x7 - (nI 40))) (fun s8 es8 => ?_)
            replace H := H s8 es8
            refine s_putf (nx := 94) hO rfl rfl (hs_o12 kc139) (Nat.le_of_ble_eq_true rfl) (by rw [hty]; rfl) (by rw [hty]; rfl) pX12_11 rfl ?_
            refine xEx.at (up_oI12 kc139 es8) ?_
            refine s_aload_n (nx := 95) hO rfl rfl rfl ?_
            refine s_dup (nx := 96) hO rfl rfl rfl ?_
            refine s_getf (v := .int (sI s8 139 10)) (nx := 99) hO rfl rfl (hs_o12 kc139) rfl rfl ?_
            refine s_iconst (x := 1) (nx := 100) hO rfl (by decide) rfl ?_
            refine s_iadd (nx := 101) hO rfl rfl ?_
            refine goV (wI s8 139 10 ((sI s8 139 10) + 1)) (fun s9 es9 => ?_)
            replace H := H s9 es9
            refine s_putf (nx := 104) hO rfl rfl (hs_o12 kc139) (Nat.le_of_ble_eq_true rfl) (by rw [hty]; rfl) (by rw [hty]; rfl) pX12_10 rfl ?_
            refine xEx.at (up_oI12 kc139 es9) ?_
            exact s_vret hO rfl rfl ⟨rfl, _, rfl, rfl, H⟩
          refine s_icmp_eq (nx := 80) hO rfl rfl (fun c77 => ?_) (fun c77 => ?_)
          · replace H := H.1 c77
            exact xEx.loc (x_sub1 (List.Mem.tail _ (List.Mem.head _)) (x_sub1 (List.Mem.head _) x_sub0)) H
          · replace H := H.2 c77
            refine s_iload_n (nx := 81) hO rfl rfl rfl ?_
            refine s_bipush (x := (nI 41)) (nx := 83) hO rfl (by decide) rfl ?_
            refine s_icmp_ne (nx := 86) hO rfl rfl (fun c83 => ?_) (fun c83 => ?_)
            · replace H := H.1 c83
              refine s_iload_n (nx := 106) hO rfl rfl rfl ?_
              refine s_callS [.int x7] (nx := 109) hO rfl kX12_next_300 (w_X12_isOfWord hG H) rfl rfl (Nat.le_of_ble_eq_true rfl) (Nat.zero_le _) (Nat.zero_le _) rfl (k_Pi (fun r10 H => ?_))
              refine s_if_ne (nx := 112) hO rfl rfl (fun c109 => ?_) (fun c109 => ?_)
              · replace H := H.1 c109
                refine s_aload_n (nx := 128) hO rfl rfl rfl ?_
                refine s_getf (v := .int (sI s5 139 10)) (nx := 131) hO rfl rfl (hs_o12 kc139) rfl rfl ?_
                refine goK (H (fun (x11 : Int32) => xEx G mX12_next 132 [(0, .ref (q_b G + 139)), (1, .int x7), (2, .int x11)] [] (hS G s5) z 0 0 (yQv G z Q)) (fun x11 H => ?_)) (fun H => ?_)
                · show xEx G mX12_next 132 [(0, .ref (q_b G + 139)), (1, .int x7), (2, .int x11)] [] (hS G s5) z 0 0 (yQv G z Q)
                  refine s_aload_n (nx := 133) hO rfl rfl rfl ?_
                  refine s_iload_n (nx := 134) hO rfl rfl rfl ?_
                  refine s_callV [.int x11] (ci := 12) (F := TX12) (N := 116) (nx := 137) hO rfl kX12_next_290 (by rw [hcl]; rfl) (hs_o12 kc139) (w_X12_letterAt hG H) rfl rfl (Nat.le_of_ble_eq_true rfl) (Nat.zero_le _) (Nat.zero_le _) rfl (k_Pi (fun r12 H => ?_))
                  refine s_callS [.int r12] (nx := 140) hO rfl kX12_next_300 (w_X12_isOfWord hG H) rfl rfl (Nat.le_of_ble_eq_true rfl) (Nat.zero_le _) (Nat.zero_le _) rfl (k_Pi (fun r13 H => ?_))
                  refine s_if_eq (nx := 143) hO rfl rfl (fun c140 => ?_) (fun c140 => ?_)
                  · replace H := H.1 c140
                    refine s_iload_n (nx := 150) hO rfl rfl rfl ?_
                    refine s_callS [.int x7] (nx := 153) hO rfl kX12_next_284 (w_X12_isSmall hG H) rfl rfl (Nat.le_of_ble_eq_true rfl) (Nat.zero_le _) (Nat.zero_le _) rfl (k_Pi (fun r14 H => ?_))
                    refine s_if_eq (nx := 156) hO rfl rfl (fun c153 => ?_) (fun c153 => ?_)
                    · replace H := H.1 c153
                      refine s_aload_n (nx := 165) hO rfl rfl rfl ?_
                      refine s_iload_n (nx := 166) hO rfl rfl rfl ?_
                      refine s_callV [.int x11] (ci := 12) (F := TX12) (N := 116) (nx := 169) hO rfl kX12_next_311 (by rw [hcl]; rfl) (hs_o12 kc139) (w_X12_takeNumber hG H) rfl rfl (Nat.le_of_ble_eq_true rfl) (Nat.zero_le _) (Nat.zero_le _) rfl (k_Qv (fun s15 H => ?_))
                      refine s_aload_n (nx := 170) hO rfl rfl rfl ?_
                      refine s_iload_n (nx := 171) hO rfl rfl rfl ?_
                      refine goV (wI s15 139 10 x11) (fun s16 es16 => ?_)
                      replace H := H s16 es16
                      refine s_putf (nx := 174) hO rfl rfl (hs_o12 kc139) (Nat.le_of_ble_eq_true rfl) (by rw [hty]; rfl) (by rw [hty]; rfl) pX12_10 rfl ?_
                      refine xEx.at (up_oI12 kc139 es16) ?_
                      exact s_vret hO rfl rfl ⟨rfl, _, rfl, rfl, H⟩
                    · replace H := H.2 c153
                      refine s_aload_n (nx := 157) hO rfl rfl rfl ?_
                      refine s_iload_n (nx := 158) hO rfl rfl rfl ?_
                      refine s_callV [.int x11] (ci := 12) (F := TX12) (N := 116) (nx := 161) hO rfl kX12_next_307 (by rw [hcl]; rfl) (hs_o12 kc139) (w_X12_takeName hG H) rfl rfl (Nat.le_of_ble_eq_true rfl) (Nat.zero_le _) (Nat.zero_le _) rfl (k_Qv (fun s17 H => ?_))
                      refine s_goto hO rfl ?_
                      refine s_aload_n (nx := 170) hO rfl rfl rfl ?_
                      refine s_iload_n (nx := 171) hO rfl rfl rfl ?_
                      refine goV (wI s17 139 10 x11) (fun s18 es18 => ?_)
                      replace H := H s18 es18
                      refine s_putf (nx := 174) hO rfl rfl (hs_o12 kc139) (Nat.le_of_ble_eq_true rfl) (by rw [hty]; rfl) (by rw [hty]; rfl) pX12_10 rfl ?_
                      refine xEx.at (up_oI12 kc139 es18) ?_
                      exact s_vret hO rfl rfl ⟨rfl, _, rfl, rfl, H⟩
                  · replace H := H.2 c140
                    refine goV ((x11 + 1)) (fun x19 ex19 => ?_)
                    replace H := H x19 ex19
                    refine e_iinc (nx := 146) (l' := [(2, .int x19), (0, .ref (q_b G + 139)), (1, .int x7)]) ex19 hO rfl (by decide) rfl rfl rfl rfl ?_
                    refine s_goto hO rfl ?_
                    exact xEx.loc (x_sub1 (List.Mem.tail _ (List.Mem.head _)) (x_sub1 (List.Mem.tail _ (List.Mem.tail _ (List.Mem.head _))) (x_sub1 (List.Mem.head _) x_sub0))) H
                refine goV ((sI s5 139 10)) (fun x20 ex20 => ?_)
                replace H := H x20 ex20
                refine e_istore_n (nx := 132) (l' := [(2, .int x20), (1, .int x7), (0, .ref (q_b G + 139))]) ex20 hO rfl (by decide) rfl rfl ?_
                exact xEx.loc (x_sub1 (List.Mem.tail _ (List.Mem.tail _ (List.Mem.head _))) (x_sub1 (List.Mem.tail _ (List.Mem.head _)) (x_sub1 (List.Mem.head _) x_sub0))) H
              · replace H := H.2 c109
                refine s_aload_n (nx := 113) hO rfl rfl rfl ?_
                refine s_iconst (x := 1) (nx := 114) hO rfl (by decide) rfl ?_
                refine s_aload_n (nx := 115) hO rfl rfl rfl ?_
                refine s_getf (v := .int (sI s5 139 10)) (nx := 118) hO rfl rfl (hs_o12 kc139) rfl rfl ?_
                refine s_callV [.int 1, .int (sI s5 139 10)] (ci := 12) (F := TX12) (N := 116) (nx := 121) hO rfl kX12_next_303 (by rw [hcl]; rfl) (hs_o12 kc139) (w_X12_wrong hG H) rfl rfl (Nat.le_of_ble_eq_true rfl) (Nat.zero_le _) (Nat.zero_le _) rfl (k_Qv (fun s21 H => ?_))
                refine s_aload_n (nx := 122) hO rfl rfl rfl ?_
                refine s_iconst (x := (nI 4)) (nx := 123) hO rfl (by decide) rfl ?_
                refine goV (wI s21 139 11 (nI 4)) (fun s22 es22 => ?_)
                replace H := H s22 es22
                refine s_putf (nx := 126) hO rfl rfl (hs_o12 kc139) (Nat.le_of_ble_eq_true rfl) (by rw [hty]; rfl) (by rw [hty]; rfl) pX12_11 rfl ?_
                refine xEx.at (up_oI12 kc139 es22) ?_
                exact s_vret hO rfl rfl ⟨rfl, _, rfl, rfl, H⟩
            · replace H := H.2 c83
              exact xEx.loc (x_sub1 (List.Mem.tail _ (List.Mem.head _)) (x_sub1 (List.Mem.head _) x_sub0)) H
        · replace H := H.2 c55
          refine s_aload_n (nx := 59) hO rfl rfl rfl ?_
          refine s_iconst (x := (nI 4)) (nx := 60) hO rfl (by decide) rfl ?_
          refine goV (wI s5 139 11 (nI 4)) (fun s23 es23 => ?_)
          replace H := H s23 es23
          refine s_putf (nx := 63) hO rfl rfl (hs_o12 kc139) (Nat.le_of_ble_eq_true rfl) (by rw [hty]; rfl) (by rw [hty]; rfl) pX12_11 rfl ?_
          refine xEx.at (up_oI12 kc139 es23) ?_
          exact s_vret hO rfl rfl ⟨rfl, _, rfl, rfl, H⟩
      · replace H := H.2 c23
        exact xEx.loc (x_sub1 (List.Mem.head _) x_sub0) H
  exact xEx.loc (x_sub1 (List.Mem.head _) x_sub0) H
def W_X12_isOld (s : yS) (a1 n1 : Nat) (v2 : Int32) (Q : Int32 → Prop) : Prop :=
 ∀ P5 : Int32 → Int32 → Prop, (∀ (x1 : Int32) (x2 : Int32), (((v2 ≤ x2 → zb x1 ∧ Q x1)
  ∧ (¬ v2 ≤ x2 → ∀ P32 : Int32 → Prop, (∀ (y4 : Int32), (∀ x5 : Int32, x5 = (x2 + 1) → 
    P5 y4 x5) → P32 y4) → 
   ((¬ x1 = 0 → P32 1)
   ∧ (x1 = 0 → vp_in x2 n1 ∧ 
    ((¬ (lg_cmp (sJ s a1 (ix x2)) (sJ s 139 13)) = 0 → P32 0)
    ∧ ((lg_cmp (sJ s a1 (ix x2)) (sJ s 139 13)) = 0 → P32 1))))))) → P5 x1 x2) → 
 P5 0 0
set_option maxRecDepth 100000 in
set_option maxHeartbeats 40000000 in
theorem w_X12_isOld {G : xG} (hG : yG G) {z : Nat} {s : yS} {a1 n1 : Nat} {v2 : Int32} {Q : Int32 → Prop} (ha1 : kd a1 = some (3, n1)) (H : W_X12_isOld s a1 n1 v2 Q) : xC G mX12_isOld [.ref (q_b G + 139), .ref (q_b G + a1), .int v2] (hS G s) z 0 0 (yPi G z s Q) := by
  have hW := hG.1
  have hcl := hG.2.1
  have hty := hG.2.2.1
  have hO : xO G mX12_isOld tbX12_isOld ptX12_isOld := ⟨tkX12_isOld, pkX12_isOld hcl⟩
  unfold W_X12_isOld at H
  refine xC.of hW (by decide) rfl (Nat.le_of_ble_eq_true rfl) ?_
  refine s_iconst (x := 0) (nx := 1) hO rfl (by decide) rfl ?_
  refine s_istore_n (nx := 2) (l' := [(3, .int 0), (0, .ref (q_b G + 139)), (1, .ref (q_b G + a1)), (2, .int v2)]) hO rfl (by decide) rfl rfl ?_
  refine s_iconst (x := 0) (nx := 3) hO rfl (by decide) rfl ?_
  refine goK (H (fun (x1 : Int32) (x2 : Int32) => xEx G mX12_isOld 5 [(0, .ref (q_b G + 139)), (1, .ref (q_b G + a1)), (2, .int v2), (3, .int x1), (4, .int x2)] [] (hS G s) z 0 0 (yPi G z s Q)) (fun x1 x2 H => ?_)) (fun H => ?_)
  · show xEx G mX12_isOld 5 [(0, .ref (q_b G + 139)), (1, .ref (q_b G + a1)), (2, .int v2), (3, .int x1), (4, .int x2)] [] (hS G s) z 0 0 (yPi G z s Q)
    refine s_iload (nx := 7) hO rfl rfl rfl ?_
    refine s_iload_n (nx := 8) hO rfl rfl rfl ?_
    refine s_icmp_ge (nx := 11) hO rfl rfl (fun c8 => ?_) (fun c8 => ?_)
    · replace H := H.1 c8
      refine s_iload_n (nx := 40) hO rfl rfl rfl ?_
      obtain ⟨b3, H⟩ := H
      exact s_iret hO rfl rfl (zb_n b3) ⟨rfl, _, rfl, rfl, H⟩
    · replace H := H.2 c8
      refine s_iload_n (nx := 12) hO rfl rfl rfl ?_
      refine goK (H (fun (y4 : Int32) => xEx G mX12_isOld 32 [(0, .ref (q_b G + 139)), (1, .ref (q_b G + a1)), (2, .int v2), (4, .int x2)] [.int y4] (hS G s) z 0 0 (yPi G z s Q)) (fun y4 H => ?_)) (fun H => ?_)
      · show xEx G mX12_isOld 32 [(0, .ref (q_b G + 139)), (1, .ref (q_b G + a1)), (2, .int v2), (4, .int x2)] [.int y4] (hS G s) z 0 0 (yPi G z s Q)
        refine s_istore_n (nx := 33) (l' := [(3, .int y4), (0, .ref (q_b G + 139)), (1, .ref (q_b G + a1)), (2, .int v2), (4, .int x2)]) hO rfl (by decide) rfl rfl ?_
        refine goV ((x2 + 1)) (fun x5 ex5 => ?_)
        replace H := H x5 ex5
        refine e_iinc (nx := 36) (l' := [(4, .int x5), (3, .int y4), (0, .ref (q_b G + 139)), (1, .ref (q_b G + a1)), (2, .int v2)]) ex5 hO rfl (by decide) rfl rfl rfl rfl ?_
        refine s_goto hO rfl ?_
        exact xEx.loc (x_sub1 (List.Mem.tail _ (List.Mem.tail _ (List.Mem.head _))) (x_sub1 (List.Mem.tail _ (List.Mem.tail _ (List.Mem.tail _ (List.Mem.head _)))) (x_sub1 (List.Mem.tail _ (List.Mem.tail _ (List.Mem.tail _ (List.Mem.tail _ (List.Mem.head _))))) (x_sub1 (List.Mem.tail _ (List.Mem.head _)) (x_sub1 (List.Mem.head _) x_sub0))))) H
      refine s_if_ne (nx := 15) hO rfl rfl (fun c12 => ?_) (fun c12 => ?_)
      · replace H := H.1 c12
        refine s_iconst (x := 1) (nx := 28) hO rfl (by decide) rfl ?_
        refine s_goto hO rfl ?_
        exact xEx.loc (x_sub1 (List.Mem.head _) (x_sub1 (List.Mem.tail _ (List.Mem.head _)) (x_sub1 (List.Mem.tail _ (List.Mem.tail _ (List.Mem.head _))) (x_sub1 (List.Mem.tail _ (List.Mem.tail _ (List.Mem.tail _ (List.Mem.tail _ (List.Mem.head _))))) x_sub0)))) H
      · replace H := H.2 c12
        refine s_aload_n (nx := 16) hO rfl rfl rfl ?_
        refine s_iload (nx := 18) hO rfl rfl rfl ?_
        obtain ⟨b6, H⟩ := H
        refine s_lald (nx := 19) hO rfl (hs_J ha1) b6 rfl ?_
        refine s_aload_n (nx := 20) hO rfl rfl rfl ?_
        refine s_getf (v := .long (sJ s 139 13)) (nx := 23) hO rfl rfl (hs_o12 kc139) rfl rfl ?_
        refine s_lcmp (nx := 24) hO rfl rfl ?_
        refine s_if_ne (nx := 27) hO rfl rfl (fun c24 => ?_) (fun c24 => ?_)
        · replace H := H.1 c24
          refine s_iconst (x := 0) (nx := 32) hO rfl (by decide) rfl ?_
          exact xEx.loc (x_sub1 (List.Mem.head _) (x_sub1 (List.Mem.tail _ (List.Mem.head _)) (x_sub1 (List.Mem.tail _ (List.Mem.tail _ (List.Mem.head _))) (x_sub1 (List.Mem.tail _ (List.Mem.tail _ (List.Mem.tail _ (List.Mem.tail _ (List.Mem.head _))))) x_sub0)))) H
        · replace H := H.2 c24
          refine s_iconst (x := 1) (nx := 28) hO rfl (by decide) rfl ?_
          refine s_goto hO rfl ?_
          exact xEx.loc (x_sub1 (List.Mem.head _) (x_sub1 (List.Mem.tail _ (List.Mem.head _)) (x_sub1 (List.Mem.tail _ (List.Mem.tail _ (List.Mem.head _))) (x_sub1 (List.Mem.tail _ (List.Mem.tail _ (List.Mem.tail _ (List.Mem.tail _ (List.Mem.head _))))) x_sub0)))) H
  refine s_istore (nx := 5) (l' := [(4, .int 0), (3, .int 0), (0, .ref (q_b G + 139)), (1, .ref (q_b G + a1)), (2, .int v2)]) hO rfl (by decide) rfl rfl ?_
  exact xEx.loc (x_sub1 (List.Mem.tail _ (List.Mem.tail _ (List.Mem.head _))) (x_sub1 (List.Mem.tail _ (List.Mem.tail _ (List.Mem.tail _ (List.Mem.head _)))) (x_sub1 (List.Mem.tail _ (List.Mem.tail _ (List.Mem.tail _ (List.Mem.tail _ (List.Mem.head _))))) (x_sub1 (List.Mem.tail _ (List.Mem.head _)) (x_sub1 (List.Mem.head _) x_sub0))))) H
def W_X12_must (s : yS) (v1 : Int32) (Q : Int32 → yS → Prop) : Prop :=
 ∀ P47 : yS → Prop, (∀ (s1 : yS), (((¬ (sI s1 139 15) = 0 → Q 0 s1)
  ∧ ((sI s1 139 15) = 0 → Q 1 s1))) → P47 s1) → 
 ((¬ v1 = 0 → P47 s)
 ∧ (v1 = 0 → ((¬ (sI s 139 15) = 0 → P47 s)
  ∧ ((sI s 139 15) = 0 → ((¬ (sI s 139 11) = (nI 4) → ((¬ (sI s 139 11) = (nI 4) → W_X12_wrong s (nI 2) (sI s 139 12) 
     (fun s2 => P47 s2))
    ∧ ((sI s 139 11) = (nI 4) → W_X12_wrong s (nI 2) (sI s 139 9) 
     (fun s3 => P47 s3))))
   ∧ ((sI s 139 11) = (nI 4) → ((¬ (sI s 139 11) = (nI 4) → W_X12_wrong s (nI 3) (sI s 139 12) 
     (fun s4 => P47 s4))
    ∧ ((sI s 139 11) = (nI 4) → W_X12_wrong s (nI 3) (sI s 139 9) 
     (fun s5 => P47 s5)))))))))
set_option maxRecDepth 100000 in
set_option maxHeartbeats 40000000 in
theorem w_X12_must {G : xG} (hG : yG G) {z : Nat} {s : yS} {v1 : Int32} {Q : Int32 → yS → Prop} (H : W_X12_must s v1 Q) : xC G mX12_must [.ref (q_b G + 139), .int v1] (hS G s) z 0 0 (yQi G z Q) := by
  have hW := hG.1
  have hcl := hG.2.1
  have hty := hG.2.2.1
  have hO : xO G mX12_must tbX12_must ptX12_must := ⟨tkX12_must, pkX12_must hcl⟩
  unfold W_X12_must at H
  refine xC.of hW (by decide) rfl (Nat.le_of_ble_eq_true rfl) ?_
  refine s_iload_n (nx := 1) hO rfl rfl rfl ?_
  refine goK (H (fun (s1 : yS) => xEx G mX12_must 47 [(0, .ref (q_b G + 139))] [] (hS G s1) z 0 0 (yQi G z Q)) (fun s1 H => ?_)) (fun H => ?_)
  · show xEx G mX12_must 47 [(0, .ref (q_b G + 139))] [] (hS G s1) z 0 0 (yQi G z Q)
    refine s_aload_n (nx := 48) hO rfl rfl rfl ?_
    refine s_getf (v := .int (sI s1 139 15)) (nx := 51) hO rfl rfl (hs_o12 kc139) rfl rfl ?_
    refine s_if_ne (nx := 54) hO rfl rfl (fun c51 => ?_) (fun c51 => ?_)
    · replace H := H.1 c51
      refine s_iconst (x := 0) (nx := 59) hO rfl (by decide) rfl ?_
      exact s_iret hO rfl rfl rfl ⟨rfl, _, _, rfl, rfl, H⟩
    · replace H := H.2 c51
      refine s_iconst (x := 1) (nx := 55) hO rfl (by decide) rfl ?_
      refine s_goto hO rfl ?_
      exact s_iret hO rfl rfl rfl ⟨rfl, _, _, rfl, rfl, H⟩
  refine s_if_ne (nx := 4) hO rfl rfl (fun c1 => ?_) (fun c1 => ?_)
  · replace H := H.1 c1
    exact xEx.loc (x_sub1 (List.Mem.head _) x_sub0) H
  · replace H := H.2 c1
    refine s_aload_n (nx := 5) hO rfl rfl rfl ?_
    refine s_getf (v := .int (sI s 139 15)) (nx := 8) hO rfl rfl (hs_o12 kc139) rfl rfl ?_
    refine s_if_ne (nx := 11) hO rfl rfl (fun c8 => ?_) (fun c8 => ?_)
    · replace H := H.1 c8
      exact xEx.loc (x_sub1 (List.Mem.head _) x_sub0) H
    · replace H := H.2 c8
      refine s_aload_n (nx := 12) hO rfl rfl rfl ?_
      refine s_aload_n (nx := 13) hO rfl rfl rfl ?_
      refine s_getf (v := .int (sI s 139 11)) (nx := 16) hO rfl rfl (hs_o12 kc139) rfl rfl ?_
      refine s_iconst (x := (nI 4)) (nx := 17) hO rfl (by decide) rfl ?_
      refine s_icmp_ne (nx := 20) hO rfl rfl (fun c17 => ?_) (fun c17 => ?_)
      · replace H := H.1 c17
        refine s_iconst (x := (nI 2)) (nx := 25) hO rfl (by decide) rfl ?_
        refine s_aload_n (nx := 26) hO rfl rfl rfl ?_
        refine s_getf (v := .int (sI s 139 11)) (nx := 29) hO rfl rfl (hs_o12 kc139) rfl rfl ?_
        refine s_iconst (x := (nI 4)) (nx := 30) hO rfl (by decide) rfl ?_
        refine s_icmp_ne (nx := 33) hO rfl rfl (fun c30 => ?_) (fun c30 => ?_)
        · replace H := H.1 c30
          refine s_aload_n (nx := 41) hO rfl rfl rfl ?_
          refine s_getf (v := .int (sI s 139 12)) (nx := 44) hO rfl rfl (hs_o12 kc139) rfl rfl ?_
          refine s_callV [.int (nI 2), .int (sI s 139 12)] (ci := 12) (F := TX12) (N := 116) (nx := 47) hO rfl kX12_must_303 (by rw [hcl]; rfl) (hs_o12 kc139) (w_X12_wrong hG H) rfl rfl (Nat.le_of_ble_eq_true rfl) (Nat.zero_le _) (Nat.zero_le _) rfl (k_Qv (fun s2 H => ?_))
          exact xEx.loc (x_sub1 (List.Mem.head _) x_sub0) H
        · replace H := H.2 c30
          refine s_aload_n (nx := 34) hO rfl rfl rfl ?_
          refine s_getf (v := .int (sI s 139 9)) (nx := 37) hO rfl rfl (hs_o12 kc139) rfl rfl ?_
          refine s_goto hO rfl ?_
          refine s_callV [.int (nI 2), .int (sI s 139 9)] (ci := 12) (F := TX12) (N := 116) (nx := 47) hO rfl kX12_must_303 (by rw [hcl]; rfl) (hs_o12 kc139) (w_X12_wrong hG H) rfl rfl (Nat.le_of_ble_eq_true rfl) (Nat.zero_le _) (Nat.zero_le _) rfl (k_Qv (fun s3 H => ?_))
          exact xEx.loc (x_sub1 (List.Mem.head _) x_sub0) H
      · replace H := H.2 c17
        refine s_iconst (x := (nI 3)) (nx := 21) hO rfl (by decide) rfl ?_
        refine s_goto hO rfl ?_
        refine s_aload_n (nx := 26) hO rfl rfl rfl ?_
        refine s_getf (v := .int (sI s 139 11)) (nx := 29) hO rfl rfl (hs_o12 kc139) rfl rfl ?_
        refine s_iconst (x := (nI 4)) (nx := 30) hO rfl (by decide) rfl ?_
        refine s_icmp_ne (nx := 33) hO rfl rfl (fun c30 => ?_) (fun c30 => ?_)
        · replace H := H.1 c30
          refine s_aload_n (nx := 41) hO rfl rfl rfl ?_
          refine s_getf (v := .int (sI s 139 12)) (nx := 44) hO rfl rfl (hs_o12 kc139) rfl rfl ?_
          refine s_callV [.int (nI 3), .int (sI s 139 12)] (ci := 12) (F := TX12) (N := 116) (nx := 47) hO rfl kX12_must_303 (by rw [hcl]; rfl) (hs_o12 kc139) (w_X12_wrong hG H) rfl rfl (Nat.le_of_ble_eq_true rfl) (Nat.zero_le _) (Nat.zero_le _) rfl (k_Qv (fun s4 H => ?_))
          exact xEx.loc (x_sub1 (List.Mem.head _) x_sub0) H
        · replace H := H.2 c30
          refine s_aload_n (nx := 34) hO rfl rfl rfl ?_
          refine s_getf (v := .int (sI s 139 9)) (nx := 37) hO rfl rfl (hs_o12 kc139) rfl rfl ?_
          refine s_goto hO rfl ?_
          refine s_callV [.int (nI 3), .int (sI s 139 9)] (ci := 12) (F := TX12) (N := 116) (nx := 47) hO rfl kX12_must_303 (by rw [hcl]; rfl) (hs_o12 kc139) (w_X12_wrong hG H) rfl rfl (Nat.le_of_ble_eq_true rfl) (Nat.zero_le _) (Nat.zero_le _) rfl (k_Qv (fun s5 H => ?_))
          exact xEx.loc (x_sub1 (List.Mem.head _) x_sub0) H
def W_X12_expect (s : yS) (v1 : Int32) (Q : yS → Prop) : Prop :=
 ((¬ (sI s 139 11) = v1 → W_X12_must s 0 
  (fun r1 s2 => ((r1 = 0 → Q s2)
  ∧ (¬ r1 = 0 → W_X12_next s2 
   (fun s3 => Q s3)))))
 ∧ ((sI s 139 11) = v1 → W_X12_must s 1 
  (fun r4 s5 => ((r4 = 0 → Q s5)
  ∧ (¬ r4 = 0 → W_X12_next s5 
   (fun s6 => Q s6))))))
set_option maxRecDepth 100000 in
set_option maxHeartbeats 40000000 in
theorem w_X12_expect {G : xG} (hG : yG G) {z : Nat} {s : yS} {v1 : Int32} {Q : yS → Prop} (H : W_X12_expect s v1 Q) : xC G mX12_expect [.ref (q_b G + 139), .int v1] (hS G s) z 0 0 (yQv G z Q) := by
  have hW := hG.1
  have hcl := hG.2.1
  have hty := hG.2.2.1
  have hO : xO G mX12_expect tbX12_expect ptX12_expect := ⟨tkX12_expect, pkX12_expect hcl⟩
  unfold W_X12_expect at H
  refine xC.of hW (by decide) rfl (Nat.le_of_ble_eq_true rfl) ?_
  refine s_aload_n (nx := 1) hO rfl rfl rfl ?_
  refine s_aload_n (nx := 2) hO rfl rfl rfl ?_
  refine s_getf (v := .int (sI s 139 11)) (nx := 5) hO rfl rfl (hs_o12 kc139) rfl rfl ?_
  refine s_iload_n (nx := 6) hO rfl rfl rfl ?_
  refine s_icmp_ne (nx := 9) hO rfl rfl (fun c6 => ?_) (fun c6 => ?_)
  · replace H := H.1 c6
    refine s_iconst (x := 0) (nx := 14) hO rfl (by decide) rfl ?_
    refine s_callV [.int 0] (ci := 12) (F := TX12) (N := 116) (nx := 17) hO rfl kX12_expect_367 (by rw [hcl]; rfl) (hs_o12 kc139) (w_X12_must hG H) rfl rfl (Nat.le_of_ble_eq_true rfl) (Nat.zero_le _) (Nat.zero_le _) rfl (k_Qi (fun r1 s2 H => ?_))
    refine s_if_eq (nx := 20) hO rfl rfl (fun c17 => ?_) (fun c17 => ?_)
    · replace H := H.1 c17
      exact s_vret hO rfl rfl ⟨rfl, _, rfl, rfl, H⟩
    · replace H := H.2 c17
      refine s_aload_n (nx := 21) hO rfl rfl rfl ?_
      refine s_callV [] (ci := 12) (F := TX12) (N := 116) (nx := 24) hO rfl kX12_expect_371 (by rw [hcl]; rfl) (hs_o12 kc139) (w_X12_next hG H) rfl rfl (Nat.le_of_ble_eq_true rfl) (Nat.zero_le _) (Nat.zero_le _) rfl (k_Qv (fun s3 H => ?_))
      exact s_vret hO rfl rfl ⟨rfl, _, rfl, rfl, H⟩
  · replace H := H.2 c6
    refine s_iconst (x := 1) (nx := 10) hO rfl (by decide) rfl ?_
    refine s_goto hO rfl ?_
    refine s_callV [.int 1] (ci := 12) (F := TX12) (N := 116) (nx := 17) hO rfl kX12_expect_367 (by rw [hcl]; rfl) (hs_o12 kc139) (w_X12_must hG H) rfl rfl (Nat.le_of_ble_eq_true rfl) (Nat.zero_le _) (Nat.zero_le _) rfl (k_Qi (fun r4 s5 H => ?_))
    refine s_if_eq (nx := 20) hO rfl rfl (fun c17 => ?_) (fun c17 => ?_)
    · replace H := H.1 c17
      exact s_vret hO rfl rfl ⟨rfl, _, rfl, rfl, H⟩
    · replace H := H.2 c17
      refine s_aload_n (nx := 21) hO rfl rfl rfl ?_
      refine s_callV [] (ci := 12) (F := TX12) (N := 116) (nx := 24) hO rfl kX12_expect_371 (by rw [hcl]; rfl) (hs_o12 kc139) (w_X12_next hG H) rfl rfl (Nat.le_of_ble_eq_true rfl) (Nat.zero_le _) (Nat.zero_le _) rfl (k_Qv (fun s6 H => ?_))
      exact s_vret hO rfl rfl ⟨rfl, _, rfl, rfl, H⟩
def W_X12_look (s : yS) (v1 : Int32) (v2 : Int32) (v3 : Int32) (Q : yS → Prop) : Prop :=
 vp_in ((nI 4) * (sI s 139 43)) 5000 ∧ ∀ s2 : yS, s2 = wI s 164 (ix ((nI 4) * (sI s 139 43))) v1 → 
 vp_in (((nI 4) * (sI s2 139 43)) + 1) 5000 ∧ ∀ s4 : yS, s4 = wI s2 164 (ix (((nI 4) * (sI s2 139 43)) + 1)) v2 → 
 vp_in (((nI 4) * (sI s4 139 43)) + (nI 2)) 5000 ∧ ∀ s6 : yS, s6 = wI s4 164 (ix (((nI 4) * (sI s4 139 43)) + (nI 2))) v3 → 
 vp_in (((nI 4) * (sI s6 139 43)) + (nI 3)) 5000 ∧ ∀ s8 : yS, s8 = wI s6 164 (ix (((nI 4) * (sI s6 139 43)) + (nI 3))) (sI s6 139 12) → 
 ∀ s9 : yS, s9 = wI s8 139 43 ((sI s8 139 43) + 1) → 
 Q s9
set_option maxRecDepth 100000 in
set_option maxHeartbeats 40000000 in
theorem w_X12_look {G : xG} (hG : yG G) {z : Nat} {s : yS} {v1 : Int32} {v2 : Int32} {v3 : Int32} {Q : yS → Prop} (H : W_X12_look s v1 v2 v3 Q) : xC G mX12_look [.ref (q_b G + 139), .int v1, .int v2, .int v3] (hS G s) z 0 0 (yQv G z Q) := by
  have hW := hG.1
  have hcl := hG.2.1
  have hty := hG.2.2.1
  have hO : xO G mX12_look tbX12_look ptX12_look := ⟨tkX12_look, pkX12_look hcl⟩
  unfold W_X12_look at H
  refine xC.of hW (by decide) rfl (Nat.le_of_ble_eq_true rfl) ?_
  refine s_aload_n (nx := 1) hO rfl rfl rfl ?_
  refine s_getf (v := .ref (q_b G + 164)) (nx := 4) hO rfl rfl (hs_o12 kc139) rfl rfl ?_
  refine s_iconst (x := (nI 4)) (nx := 5) hO rfl (by decide) rfl ?_
  refine s_aload_n (nx := 6) hO rfl rfl rfl ?_
  refine s_getf (v := .int (sI s 139 43)) (nx := 9) hO rfl rfl (hs_o12 kc139) rfl rfl ?_
  refine s_imul (nx := 10) hO rfl rfl ?_
  refine s_iload_n (nx := 11) hO rfl rfl rfl ?_
  obtain ⟨b1, H⟩ := H
  refine goV (wI s 164 (ix ((nI 4) * (sI s 139 43))) v1) (fun s2 es2 => ?_)
  replace H := H s2 es2
  refine s_iast (nx := 12) hO rfl (hs_I kc164) b1 rfl ?_
  refine xEx.at (up_I kc164 es2) ?_
  refine s_aload_n (nx := 13) hO rfl rfl rfl ?_
  refine s_getf (v := .ref (q_b G + 164)) (nx := 16) hO rfl rfl (hs_o12 kc139) rfl rfl ?_
  refine s_iconst (x := (nI 4)) (nx := 17) hO rfl (by decide) rfl ?_
  refine s_aload_n (nx := 18) hO rfl rfl rfl ?_
  refine s_getf (v := .int (sI s2 139 43)) (nx := 21) hO rfl rfl (hs_o12 kc139) rfl rfl ?_
  refine s_imul (nx := 22) hO rfl rfl ?_
  refine s_iconst (x := 1) (nx := 23) hO rfl (by decide) rfl ?_
  refine s_iadd (nx := 24) hO rfl rfl ?_
  refine s_iload_n (nx := 25) hO rfl rfl rfl ?_
  obtain ⟨b3, H⟩ := H
  refine goV (wI s2 164 (ix (((nI 4) * (sI s2 139 43)) + 1)) v2) (fun s4 es4 => ?_)
  replace H := H s4 es4
  refine s_iast (nx := 26) hO rfl (hs_I kc164) b3 rfl ?_
  refine xEx.at (up_I kc164 es4) ?_
  refine s_aload_n (nx := 27) hO rfl rfl rfl ?_
  refine s_getf (v := .ref (q_b G + 164)) (nx := 30) hO rfl rfl (hs_o12 kc139) rfl rfl ?_
  refine s_iconst (x := (nI 4)) (nx := 31) hO rfl (by decide) rfl ?_
  refine s_aload_n (nx := 32) hO rfl rfl rfl ?_
  refine s_getf (v := .int (sI s4 139 43)) (nx := 35) hO rfl rfl (hs_o12 kc139) rfl rfl ?_
  refine s_imul (nx := 36) hO rfl rfl ?_
  refine s_iconst (x := (nI 2)) (nx := 37) hO rfl (by decide) rfl ?_
  refine s_iadd (nx := 38) hO rfl rfl ?_
  refine s_iload_n (nx := 39) hO rfl rfl rfl ?_
  obtain ⟨b5, H⟩ := H
  refine goV (wI s4 164 (ix (((nI 4) * (sI s4 139 43)) + (nI 2))) v3) (fun s6 es6 => ?_)
  replace H := H s6 es6
  refine s_iast (nx := 40) hO rfl (hs_I kc164) b5 rfl ?_
  refine xEx.at (up_I kc164 es6) ?_
  refine s_aload_n (nx := 41) hO rfl rfl rfl ?_
  refine s_getf (v := .ref (q_b G + 164)) (nx := 44) hO rfl rfl (hs_o12 kc139) rfl rfl ?_
  refine s_iconst (x := (nI 4)) (nx := 45) hO rfl (by decide) rfl ?_
  refine s_aload_n (nx := 46) hO rfl rfl rfl ?_
  refine s_getf (v := .int (sI s6 139 43)) (nx := 49) hO rfl rfl (hs_o12 kc139) rfl rfl ?_
  refine s_imul (nx := 50) hO rfl rfl ?_
  refine s_iconst (x := (nI 3)) (nx := 51) hO rfl (by decide) rfl ?_
  refine s_iadd (nx := 52) hO rfl rfl ?_
  refine s_aload_n (nx := 53) hO rfl rfl rfl ?_
  refine s_getf (v := .int (sI s6 139 12)) (nx := 56) hO rfl rfl (hs_o12 kc139) rfl rfl ?_
  obtain ⟨b7, H⟩ := H
  refine goV (wI s6 164 (ix (((nI 4) * (sI s6 139 43)) + (nI 3))) (sI s6 139 12)) (fun s8 es8 => ?_)
  replace H := H s8 es8
  refine s_iast (nx := 57) hO rfl (hs_I kc164) b7 rfl ?_
  refine xEx.at (up_I kc164 es8) ?_
  refine s_aload_n (nx := 58) hO rfl rfl rfl ?_
  refine s_dup (nx := 59) hO rfl rfl rfl ?_
  refine s_getf (v := .int (sI s8 139 43)) (nx := 62) hO rfl rfl (hs_o12 kc139) rfl rfl ?_
  refine s_iconst (x := 1) (nx := 63) hO rfl (by decide) rfl ?_
  refine s_iadd (nx := 64) hO rfl rfl ?_
  refine goV (wI s8 139 43 ((sI s8 139 43) + 1)) (fun s9 es9 => ?_)
  replace H := H s9 es9
  refine s_putf (nx := 67) hO rfl rfl (hs_o12 kc139) (Nat.le_of_ble_eq_true rfl) (by rw [hty]; rfl) (by rw [hty]; rfl) pX12_43 rfl ?_
  refine xEx.at (up_oI12 kc139 es9) ?_
  exact s_vret hO rfl rfl ⟨rfl, _, rfl, rfl, H⟩
def W_X12_resolve (s : yS) (Q : yS → Prop) : Prop :=
 ∀ P2 : Int32 → yS → Prop, (∀ (x1 : Int32) (s2 : yS), ((((sI s2 139 43) ≤ x1 → Q s2)
  ∧ (¬ (sI s2 139 43) ≤ x1 → ((¬ (sI s2 139 15) = 0 → Q s2)
   ∧ ((sI s2 139 15) = 0 → vp_in ((nI 4) * x1) 5000 ∧ 
    ∀ x4 : Int32, x4 = (sI s2 164 (ix ((nI 4) * x1))) → 
    vp_in (((nI 4) * x1) + 1) 5000 ∧ 
    ∀ x6 : Int32, x6 = (sI s2 164 (ix (((nI 4) * x1) + 1))) → 
    vp_in (((nI 4) * x1) + (nI 2)) 5000 ∧ 
    ∀ x8 : Int32, x8 = (sI s2 164 (ix (((nI 4) * x1) + (nI 2)))) → 
    ∀ P214 : yS → Prop, (∀ (s9 : yS), (∀ x10 : Int32, x10 = (x1 + 1) → 
     P2 x10 s9) → P214 s9) → 
    ((¬ x4 = (nI 2) → ∀ P97 : Int32 → Int32 → Prop, (∀ (x11 : Int32) (x12 : Int32), (∀ P114 : Int32 → Int32 → Prop, (∀ (y13 : Int32) (y14 : Int32), (((y13 ≤ y14 → ((0 ≤ x11 → ((¬ x4 = 0 → vp_in x6 192 ∧ ∀ s16 : yS, s16 = wI s2 157 (ix x6) x11 → 
          P214 s16)
         ∧ (x4 = 0 → vp_in x6 900 ∧ ∀ s18 : yS, s18 = wI s2 159 (ix x6) x11 → 
          P214 s18)))
        ∧ (¬ 0 ≤ x11 → vp_in (((nI 4) * x1) + (nI 3)) 5000 ∧ 
         W_X12_wrong s2 (nI 5) (sI s2 164 (ix (((nI 4) * x1) + (nI 3)))) 
         (fun s20 => P214 s20))))
       ∧ (¬ y13 ≤ y14 → ∀ P162 : Int32 → Prop, (∀ (x21 : Int32), (∀ x22 : Int32, x22 = (x12 + 1) → 
         P97 x21 x22) → P162 x21) → 
        ∀ P158 : Prop, ((P162 x12) → P158) → 
        ((¬ x4 = 0 → vp_in x12 24 ∧ 
         vp_in x6 192 ∧ 
         ((¬ (lg_cmp (sJ s2 151 (ix x12)) (sJ s2 156 (ix x6))) = 0 → P162 x11)
         ∧ ((lg_cmp (sJ s2 151 (ix x12)) (sJ s2 156 (ix x6))) = 0 → P158)))
        ∧ (x4 = 0 → vp_in x12 6 ∧ 
         vp_in x6 900 ∧ 
         ((¬ (lg_cmp (sJ s2 144 (ix x12)) (sJ s2 160 (ix x6))) = 0 → P162 x11)
         ∧ ((lg_cmp (sJ s2 144 (ix x12)) (sJ s2 160 (ix x6))) = 0 → P158))))))) → P114 y13 y14) → 
      ((¬ x4 = 0 → P114 (sI s2 139 27) x12)
      ∧ (x4 = 0 → P114 (sI s2 139 19) x12))) → P97 x11 x12) → 
     P97 (-1) 0)
    ∧ (x4 = (nI 2) → ((x8 < 0 → P214 s2)
     ∧ (¬ x8 < 0 → vp_in x6 900 ∧ 
      (((sI s2 159 (ix x6)) < (x8 - x8 / (nI 4) * (nI 4)) → P214 s2)
      ∧ (¬ (sI s2 159 (ix x6)) < (x8 - x8 / (nI 4) * (nI 4)) → vp_in (((nI 4) * x1) + (nI 3)) 5000 ∧ 
       W_X12_wrong s2 (nI 6) (sI s2 164 (ix (((nI 4) * x1) + (nI 3)))) 
       (fun s29 => P214 s29)))))))))))) → P2 x1 s2) → 
 P2 0 s
set_option maxRecDepth 100000 in
set_option maxHeartbeats 40000000 in
theorem w_X12_resolve {G : xG} (hG : yG G) {z : Nat} {s : yS} {Q : yS → Prop} (H : W_X12_resolve s Q) : xC G mX12_resolve [.ref (q_b G + 139)] (hS G s) z 0 0 (yQv G z Q) := by
  have hW := hG.1
  have hcl := hG.2.1
  have hty := hG.2.2.1
  have hO : xO G mX12_resolve tbX12_resolve ptX12_resolve := ⟨tkX12_resolve, pkX12_resolve hcl⟩
  unfold W_X12_resolve at H
  refine xC.of hW (by decide) rfl (Nat.le_of_ble_eq_true rfl) ?_
  refine s_iconst (x := 0) (nx := 1) hO rfl (by decide) rfl ?_
  refine goK (H (fun (x1 : Int32) (s2 : yS) => xEx G mX12_resolve 2 [(0, .ref (q_b G + 139)), (1, .int x1)] [] (hS G s2) z 0 0 (yQv G z Q)) (fun x1 s2 H => ?_)) (fun H => ?_)
  · show xEx G mX12_resolve 2 [(0, .ref (q_b G + 139)), (1, .int x1)] [] (hS G s2) z 0 0 (yQv G z Q)
    refine s_iload_n (nx := 3) hO rfl rfl rfl ?_
    refine s_aload_n (nx := 4) hO rfl rfl rfl ?_
    refine s_getf (v := .int (sI s2 139 43)) (nx := 7) hO rfl rfl (hs_o12 kc139) rfl rfl ?_
    refine s_icmp_ge (nx := 10) hO rfl rfl (fun c7 => ?_) (fun c7 => ?_)
    · replace H := H.1 c7
      exact s_vret hO rfl rfl ⟨rfl, _, rfl, rfl, H⟩
    · replace H := H.2 c7
      refine s_aload_n (nx := 11) hO rfl rfl rfl ?_
      refine s_getf (v := .int (sI s2 139 15)) (nx := 14) hO rfl rfl (hs_o12 kc139) rfl rfl ?_
      refine s_if_ne (nx := 17) hO rfl rfl (fun c14 => ?_) (fun c14 => ?_)
      · replace H := H.1 c14
        exact s_vret hO rfl rfl ⟨rfl, _, rfl, rfl, H⟩
      · replace H := H.2 c14
        refine s_aload_n (nx := 18) hO rfl rfl rfl ?_
        refine s_getf (v := .ref (q_b G + 164)) (nx := 21) hO rfl rfl (hs_o12 kc139) rfl rfl ?_
        refine s_iconst (x := (nI 4)) (nx := 22) hO rfl (by decide) rfl ?_
        refine s_iload_n (nx := 23) hO rfl rfl rfl ?_
        refine s_imul (nx := 24) hO rfl rfl ?_
        obtain ⟨b3, H⟩ := H
        refine s_iald (nx := 25) hO rfl (hs_I kc164) b3 rfl ?_
        refine goV ((sI s2 164 (ix ((nI 4) * x1)))) (fun x4 ex4 => ?_)
        replace H := H x4 ex4
        refine e_istore_n (nx := 26) (l' := [(2, .int x4), (0, .ref (q_b G + 139)), (1, .int x1)]) ex4 hO rfl (by decide) rfl rfl ?_
        refine s_aload_n (nx := 27) hO rfl rfl rfl ?_
        refine s_getf (v := .ref (q_b G + 164)) (nx := 30) hO rfl rfl (hs_o12 kc139) rfl rfl ?_
        refine s_iconst (x := (nI 4)) (nx := 31) hO rfl (by decide) rfl ?_
        refine s_iload_n (nx := 32) hO rfl rfl rfl ?_
        refine s_imul (nx := 33) hO rfl rfl ?_
        refine s_iconst (x := 1) (nx := 34) hO rfl (by decide) rfl ?_
        refine s_iadd (nx := 35) hO rfl rfl ?_
        obtain ⟨b5, H⟩ := H
        refine s_iald (nx := 36) hO rfl (hs_I kc164) b5 rfl ?_
        refine goV ((sI s2 164 (ix (((nI 4) * x1) + 1)))) (fun x6 ex6 => ?_)
        replace H := H x6 ex6
        refine e_istore_n (nx := 37) (l' := [(3, .int x6), (2, .int x4), (0, .ref (q_b G + 139)), (1, .int x1)]) ex6 hO rfl (by decide) rfl rfl ?_
        refine s_aload_n (nx := 38) hO rfl rfl rfl ?_
        refine s_getf (v := .ref (q_b G + 164)) (nx := 41) hO rfl rfl (hs_o12 kc139) rfl rfl ?_
        refine s_iconst (x := (nI 4)) (nx := 42) hO rfl (by decide) rfl ?_
        refine s_iload_n (nx := 43) hO rfl rfl rfl ?_
        refine s_imul (nx := 44) hO rfl rfl ?_
        refine s_iconst (x := (nI 2)) (nx := 45) hO rfl (by decide) rfl ?_
        refine s_iadd (nx := 46) hO rfl rfl ?_
        obtain ⟨b7, H⟩ := H
        refine s_iald (nx := 47) hO rfl (hs_I kc164) b7 rfl ?_
        refine goV ((sI s2 164 (ix (((nI 4) * x1) + (nI 2))))) (fun x8 ex8 => ?_)
        replace H := H x8 ex8
        refine e_istore (nx := 49) (l' := [(4, .int x8), (3, .int x6), (2, .int x4), (0, .ref (q_b G + 139)), (1, .int x1)]) ex8 hO rfl (by decide) rfl rfl ?_
        refine s_iload_n (nx := 50) hO rfl rfl rfl ?_
        refine s_iconst (x := (nI 2)) (nx := 51) hO rfl (by decide) rfl ?_
        refine goK (H (fun (s9 : yS) => xEx G mX12_resolve 214 [(0, .ref (q_b G + 139)), (1, .int x1)] [] (hS G s9) z 0 0 (yQv G z Q)) (fun s9 H => ?_)) (fun H => ?_)
        · show xEx G mX12_resolve 214 [(0, .ref (q_b G + 139)), (1, .int x1)] [] (hS G s9) z 0 0 (yQv G z Q)
          refine goV ((x1 + 1)) (fun x10 ex10 => ?_)
          replace H := H x10 ex10
          refine e_iinc (nx := 217) (l' := [(1, .int x10), (0, .ref (q_b G + 139))]) ex10 hO rfl (by decide) rfl rfl rfl rfl ?_
          refine s_goto hO rfl ?_
          exact xEx.loc (x_sub1 (List.Mem.tail _ (List.Mem.head _)) (x_sub1 (List.Mem.head _) x_sub0)) H
        refine s_icmp_ne (nx := 54) hO rfl rfl (fun c51 => ?_) (fun c51 => ?_)
        · replace H := H.1 c51
          refine s_iconst (x := (-1)) (nx := 92) hO rfl (by decide) rfl ?_
          refine s_istore (nx := 94) (l' := [(5, .int (-1)), (4, .int x8), (3, .int x6), (2, .int x4), (0, .ref (q_b G + 139)), (1, .int x1)]) hO rfl (by decide) rfl rfl ?_
          refine s_iconst (x := 0) (nx := 95) hO rfl (by decide) rfl ?_
          refine goK (H (fun (x11 : Int32) (x12 : Int32) => xEx G mX12_resolve 97 [(0, .ref (q_b G + 139)), (1, .int x1), (2, .int x4), (3, .int x6), (5, .int x11), (6, .int x12)] [] (hS G s2) z 0 0 (yQv G z Q)) (fun x11 x12 H => ?_)) (fun H => ?_)
          · show xEx G mX12_resolve 97 [(0, .ref (q_b G + 139)), (1, .int x1), (2, .int x4), (3, .int x6), (5, .int x11), (6, .int x12)] [] (hS G s2) z 0 0 (yQv G z Q)
            refine s_iload (nx := 99) hO rfl rfl rfl ?_
            refine s_iload_n (nx := 100) hO rfl rfl rfl ?_
            refine goK (H (fun (y13 : Int32) (y14 : Int32) => xEx G mX12_resolve 114 [(0, .ref (q_b G + 139)), (1, .int x1), (2, .int x4), (3, .int x6), (5, .int x11), (6, .int x12)] [.int y13, .int y14] (hS G s2) z 0 0 (yQv G z Q)) (fun y13 y14 H => ?_)) (fun H => ?_)
            · show xEx G mX12_resolve 114 [(0, .ref (q_b G + 139)), (1, .int x1), (2, .int x4), (3, .int x6), (5, .int x11), (6, .int x12)] [.int y13, .int y14] (hS G s2) z 0 0 (yQv G z Q)
              refine s_icmp_ge (nx := 117) hO rfl rfl (fun c114 => ?_) (fun c114 => ?_)
              · replace H := H.1 c114
                refine s_iload (nx := 170) hO rfl rfl rfl ?_
                refine s_if_ge (nx := 173) hO rfl rfl (fun c170 => ?_) (fun c170 => ?_)
                · replace H := H.1 c170
                  refine s_iload_n (nx := 192) hO rfl rfl rfl ?_
                  refine s_if_ne (nx := 195) hO rfl rfl (fun c192 => ?_) (fun c192 => ?_)
                  · replace H := H.1 c192
                    refine s_aload_n (nx := 207) hO rfl rfl rfl ?_
                    refine s_getf (v := .ref (q_b G + 157)) (nx := 210) hO rfl rfl (hs_o12 kc139) rfl rfl ?_
                    refine s_iload_n (nx := 211) hO rfl rfl rfl ?_
                    refine s_iload (nx := 213) hO rfl rfl rfl ?_
                    obtain ⟨b15, H⟩ := H
                    refine goV (wI s2 157 (ix x6) x11) (fun s16 es16 => ?_)
                    replace H := H s16 es16
                    refine s_iast (nx := 214) hO rfl (hs_I kc157) b15 rfl ?_
                    refine xEx.at (up_I kc157 es16) ?_
                    exact xEx.loc (x_sub1 (List.Mem.head _) (x_sub1 (List.Mem.tail _ (List.Mem.head _)) x_sub0)) H
                  · replace H := H.2 c192
                    refine s_aload_n (nx := 196) hO rfl rfl rfl ?_
                    refine s_getf (v := .ref (q_b G + 159)) (nx := 199) hO rfl rfl (hs_o12 kc139) rfl rfl ?_
                    refine s_iload_n (nx := 200) hO rfl rfl rfl ?_
                    refine s_iload (nx := 202) hO rfl rfl rfl ?_
                    obtain ⟨b17, H⟩ := H
                    refine goV (wI s2 159 (ix x6) x11) (fun s18 es18 => ?_)
                    replace H := H s18 es18
                    refine s_iast (nx := 203) hO rfl (hs_I kc159) b17 rfl ?_
                    refine xEx.at (up_I kc159 es18) ?_
                    refine s_goto hO rfl ?_
                    exact xEx.loc (x_sub1 (List.Mem.head _) (x_sub1 (List.Mem.tail _ (List.Mem.head _)) x_sub0)) H
                · replace H := H.2 c170
                  refine s_aload_n (nx := 174) hO rfl rfl rfl ?_
                  refine s_iconst (x := (nI 5)) (nx := 175) hO rfl (by decide) rfl ?_
                  refine s_aload_n (nx := 176) hO rfl rfl rfl ?_
                  refine s_getf (v := .ref (q_b G + 164)) (nx := 179) hO rfl rfl (hs_o12 kc139) rfl rfl ?_
                  refine s_iconst (x := (nI 4)) (nx := 180) hO rfl (by decide) rfl ?_
                  refine s_iload_n (nx := 181) hO rfl rfl rfl ?_
                  refine s_imul (nx := 182) hO rfl rfl ?_
                  refine s_iconst (x := (nI 3)) (nx := 183) hO rfl (by decide) rfl ?_
                  refine s_iadd (nx := 184) hO rfl rfl ?_
                  obtain ⟨b19, H⟩ := H
                  refine s_iald (nx := 185) hO rfl (hs_I kc164) b19 rfl ?_
                  refine s_callV [.int (nI 5), .int (sI s2 164 (ix (((nI 4) * x1) + (nI 3))))] (ci := 12) (F := TX12) (N := 116) (nx := 188) hO rfl kX12_resolve_303 (by rw [hcl]; rfl) (hs_o12 kc139) (w_X12_wrong hG H) rfl rfl (Nat.le_of_ble_eq_true rfl) (Nat.zero_le _) (Nat.zero_le _) rfl (k_Qv (fun s20 H => ?_))
                  refine s_goto hO rfl ?_
                  exact xEx.loc (x_sub1 (List.Mem.head _) (x_sub1 (List.Mem.tail _ (List.Mem.head _)) x_sub0)) H
              · replace H := H.2 c114
                refine s_iload_n (nx := 118) hO rfl rfl rfl ?_
                refine goK (H (fun (x21 : Int32) => xEx G mX12_resolve 162 [(0, .ref (q_b G + 139)), (1, .int x1), (2, .int x4), (3, .int x6), (5, .int x21), (6, .int x12)] [] (hS G s2) z 0 0 (yQv G z Q)) (fun x21 H => ?_)) (fun H => ?_)
                · show xEx G mX12_resolve 162 [(0, .ref (q_b G + 139)), (1, .int x1), (2, .int x4), (3, .int x6), (5, .int x21), (6, .int x12)] [] (hS G s2) z 0 0 (yQv G z Q)
                  refine goV ((x12 + 1)) (fun x22 ex22 => ?_)
                  replace H := H x22 ex22
                  refine e_iinc (nx := 165) (l' := [(6, .int x22), (0, .ref (q_b G + 139)), (1, .int x1), (2, .int x4), (3, .int x6), (5, .int x21)]) ex22 hO rfl (by decide) rfl rfl rfl rfl ?_
                  refine s_goto hO rfl ?_
                  exact xEx.loc (x_sub1 (List.Mem.tail _ (List.Mem.head _)) (x_sub1 (List.Mem.tail _ (List.Mem.tail _ (List.Mem.head _))) (x_sub1 (List.Mem.tail _ (List.Mem.tail _ (List.Mem.tail _ (List.Mem.head _)))) (x_sub1 (List.Mem.tail _ (List.Mem.tail _ (List.Mem.tail _ (List.Mem.tail _ (List.Mem.head _))))) (x_sub1 (List.Mem.tail _ (List.Mem.tail _ (List.Mem.tail _ (List.Mem.tail _ (List.Mem.tail _ (List.Mem.head _)))))) (x_sub1 (List.Mem.head _) x_sub0)))))) H
                refine goK (H (xEx G mX12_resolve 158 [(0, .ref (q_b G + 139)), (1, .int x1), (2, .int x4), (3, .int x6), (6, .int x12)] [] (hS G s2) z 0 0 (yQv G z Q)) (fun H => ?_)) (fun H => ?_)
                · show xEx G mX12_resolve 158 [(0, .ref (q_b G + 139)), (1, .int x1), (2, .int x4), (3, .int x6), (6, .int x12)] [] (hS G s2) z 0 0 (yQv G z Q)
                  refine s_iload (nx := 160) hO rfl rfl rfl ?_
                  refine s_istore (nx := 162) (l' := [(5, .int x12), (0, .ref (q_b G + 139)), (1, .int x1), (2, .int x4), (3, .int x6), (6, .int x12)]) hO rfl (by decide) rfl rfl ?_
                  exact xEx.loc (x_sub1 (List.Mem.tail _ (List.Mem.head _)) (x_sub1 (List.Mem.tail _ (List.Mem.tail _ (List.Mem.head _))) (x_sub1 (List.Mem.tail _ (List.Mem.tail _ (List.Mem.tail _ (List.Mem.head _)))) (x_sub1 (List.Mem.tail _ (List.Mem.tail _ (List.Mem.tail _ (List.Mem.tail _ (List.Mem.head _))))) (x_sub1 (List.Mem.head _) (x_sub1 (List.Mem.tail _ (List.Mem.tail _ (List.Mem.tail _ (List.Mem.tail _ (List.Mem.tail _ (List.Mem.head _)))))) x_sub0)))))) H
                refine s_if_ne (nx := 121) hO rfl rfl (fun c118 => ?_) (fun c118 => ?_)
                · replace H := H.1 c118
                  refine s_aload_n (nx := 142) hO rfl rfl rfl ?_
                  refine s_getf (v := .ref (q_b G + 151)) (nx := 145) hO rfl rfl (hs_o12 kc139) rfl rfl ?_
                  refine s_iload (nx := 147) hO rfl rfl rfl ?_
                  obtain ⟨b23, H⟩ := H
                  refine s_lald (nx := 148) hO rfl (hs_J kc151) b23 rfl ?_
                  refine s_aload_n (nx := 149) hO rfl rfl rfl ?_
                  refine s_getf (v := .ref (q_b G + 156)) (nx := 152) hO rfl rfl (hs_o12 kc139) rfl rfl ?_
                  refine s_iload_n (nx := 153) hO rfl rfl rfl ?_
                  obtain ⟨b24, H⟩ := H
                  refine s_lald (nx := 154) hO rfl (hs_J kc156) b24 rfl ?_
                  refine s_lcmp (nx := 155) hO rfl rfl ?_
                  refine s_if_ne (nx := 158) hO rfl rfl (fun c155 => ?_) (fun c155 => ?_)
                  · replace H := H.1 c155
                    exact xEx.loc (x_sub1 (List.Mem.head _) (x_sub1 (List.Mem.tail _ (List.Mem.head _)) (x_sub1 (List.Mem.tail _ (List.Mem.tail _ (List.Mem.head _))) (x_sub1 (List.Mem.tail _ (List.Mem.tail _ (List.Mem.tail _ (List.Mem.head _)))) (x_sub1 (List.Mem.tail _ (List.Mem.tail _ (List.Mem.tail _ (List.Mem.tail _ (List.Mem.head _))))) (x_sub1 (List.Mem.tail _ (List.Mem.tail _ (List.Mem.tail _ (List.Mem.tail _ (List.Mem.tail _ (List.Mem.head _)))))) x_sub0)))))) H
                  · replace H := H.2 c155
                    exact xEx.loc (x_sub1 (List.Mem.head _) (x_sub1 (List.Mem.tail _ (List.Mem.head _)) (x_sub1 (List.Mem.tail _ (List.Mem.tail _ (List.Mem.head _))) (x_sub1 (List.Mem.tail _ (List.Mem.tail _ (List.Mem.tail _ (List.Mem.head _)))) (x_sub1 (List.Mem.tail _ (List.Mem.tail _ (List.Mem.tail _ (List.Mem.tail _ (List.Mem.tail _ (List.Mem.head _)))))) x_sub0))))) H
                · replace H := H.2 c118
                  refine s_aload_n (nx := 122) hO rfl rfl rfl ?_
                  refine s_getf (v := .ref (q_b G + 144)) (nx := 125) hO rfl rfl (hs_o12 kc139) rfl rfl ?_
                  refine s_iload (nx := 127) hO rfl rfl rfl ?_
                  obtain ⟨b25, H⟩ := H
                  refine s_lald (nx := 128) hO rfl (hs_J kc144) b25 rfl ?_
                  refine s_aload_n (nx := 129) hO rfl rfl rfl ?_
                  refine s_getf (v := .ref (q_b G + 160)) (nx := 132) hO rfl rfl (hs_o12 kc139) rfl rfl ?_
                  refine s_iload_n (nx := 133) hO rfl rfl rfl ?_
                  obtain ⟨b26, H⟩ := H
                  refine s_lald (nx := 134) hO rfl (hs_J kc160) b26 rfl ?_
                  refine s_lcmp (nx := 135) hO rfl rfl ?_
                  refine s_if_ne (nx := 138) hO rfl rfl (fun c135 => ?_) (fun c135 => ?_)
                  · replace H := H.1 c135
                    exact xEx.loc (x_sub1 (List.Mem.head _) (x_sub1 (List.Mem.tail _ (List.Mem.head _)) (x_sub1 (List.Mem.tail _ (List.Mem.tail _ (List.Mem.head _))) (x_sub1 (List.Mem.tail _ (List.Mem.tail _ (List.Mem.tail _ (List.Mem.head _)))) (x_sub1 (List.Mem.tail _ (List.Mem.tail _ (List.Mem.tail _ (List.Mem.tail _ (List.Mem.head _))))) (x_sub1 (List.Mem.tail _ (List.Mem.tail _ (List.Mem.tail _ (List.Mem.tail _ (List.Mem.tail _ (List.Mem.head _)))))) x_sub0)))))) H
                  · replace H := H.2 c135
                    refine s_goto hO rfl ?_
                    exact xEx.loc (x_sub1 (List.Mem.head _) (x_sub1 (List.Mem.tail _ (List.Mem.head _)) (x_sub1 (List.Mem.tail _ (List.Mem.tail _ (List.Mem.head _))) (x_sub1 (List.Mem.tail _ (List.Mem.tail _ (List.Mem.tail _ (List.Mem.head _)))) (x_sub1 (List.Mem.tail _ (List.Mem.tail _ (List.Mem.tail _ (List.Mem.tail _ (List.Mem.tail _ (List.Mem.head _)))))) x_sub0))))) H
            refine s_if_ne (nx := 103) hO rfl rfl (fun c100 => ?_) (fun c100 => ?_)
            · replace H := H.1 c100
              refine s_aload_n (nx := 111) hO rfl rfl rfl ?_
              refine s_getf (v := .int (sI s2 139 27)) (nx := 114) hO rfl rfl (hs_o12 kc139) rfl rfl ?_
              exact xEx.loc (x_sub1 (List.Mem.head _) (x_sub1 (List.Mem.tail _ (List.Mem.head _)) (x_sub1 (List.Mem.tail _ (List.Mem.tail _ (List.Mem.head _))) (x_sub1 (List.Mem.tail _ (List.Mem.tail _ (List.Mem.tail _ (List.Mem.head _)))) (x_sub1 (List.Mem.tail _ (List.Mem.tail _ (List.Mem.tail _ (List.Mem.tail _ (List.Mem.head _))))) (x_sub1 (List.Mem.tail _ (List.Mem.tail _ (List.Mem.tail _ (List.Mem.tail _ (List.Mem.tail _ (List.Mem.head _)))))) x_sub0)))))) H
            · replace H := H.2 c100
              refine s_aload_n (nx := 104) hO rfl rfl rfl ?_
              refine s_getf (v := .int (sI s2 139 19)) (nx := 107) hO rfl rfl (hs_o12 kc139) rfl rfl ?_
              refine s_goto hO rfl ?_
              exact xEx.loc (x_sub1 (List.Mem.head _) (x_sub1 (List.Mem.tail _ (List.Mem.head _)) (x_sub1 (List.Mem.tail _ (List.Mem.tail _ (List.Mem.head _))) (x_sub1 (List.Mem.tail _ (List.Mem.tail _ (List.Mem.tail _ (List.Mem.head _)))) (x_sub1 (List.Mem.tail _ (List.Mem.tail _ (List.Mem.tail _ (List.Mem.tail _ (List.Mem.head _))))) (x_sub1 (List.Mem.tail _ (List.Mem.tail _ (List.Mem.tail _ (List.Mem.tail _ (List.Mem.tail _ (List.Mem.head _)))))) x_sub0)))))) H
          refine s_istore (nx := 97) (l' := [(6, .int 0), (5, .int (-1)), (4, .int x8), (3, .int x6), (2, .int x4), (0, .ref (q_b G + 139)), (1, .int x1)]) hO rfl (by decide) rfl rfl ?_
          exact xEx.loc (x_sub1 (List.Mem.tail _ (List.Mem.tail _ (List.Mem.tail _ (List.Mem.tail _ (List.Mem.tail _ (List.Mem.head _)))))) (x_sub1 (List.Mem.tail _ (List.Mem.tail _ (List.Mem.tail _ (List.Mem.tail _ (List.Mem.tail _ (List.Mem.tail _ (List.Mem.head _))))))) (x_sub1 (List.Mem.tail _ (List.Mem.tail _ (List.Mem.tail _ (List.Mem.tail _ (List.Mem.head _))))) (x_sub1 (List.Mem.tail _ (List.Mem.tail _ (List.Mem.tail _ (List.Mem.head _)))) (x_sub1 (List.Mem.tail _ (List.Mem.head _)) (x_sub1 (List.Mem.head _) x_sub0)))))) H
        · replace H := H.2 c51
          refine s_iload (nx := 56) hO rfl rfl rfl ?_
          refine s_if_lt (nx := 59) hO rfl rfl (fun c56 => ?_) (fun c56 => ?_)
          · replace H := H.1 c56
            exact xEx.loc (x_sub1 (List.Mem.tail _ (List.Mem.tail _ (List.Mem.tail _ (List.Mem.head _)))) (x_sub1 (List.Mem.tail _ (List.Mem.tail _ (List.Mem.tail _ (List.Mem.tail _ (List.Mem.head _))))) x_sub0)) H
          · replace H := H.2 c56
            refine s_aload_n (nx := 60) hO rfl rfl rfl ?_
            refine s_getf (v := .ref (q_b G + 159)) (nx := 63) hO rfl rfl (hs_o12 kc139) rfl rfl ?_
            refine s_iload_n (nx := 64) hO rfl rfl rfl ?_
            obtain ⟨b27, H⟩ := H
            refine s_iald (nx := 65) hO rfl (hs_I kc159) b27 rfl ?_
            refine s_iload (nx := 67) hO rfl rfl rfl ?_
            refine s_iconst (x := (nI 4)) (nx := 68) hO rfl (by decide) rfl ?_
            refine s_irem (nx := 69) hO rfl (by decide) rfl ?_
            refine s_icmp_lt (nx := 72) hO rfl rfl (fun c69 => ?_) (fun c69 => ?_)
            · replace H := H.1 c69
              exact xEx.loc (x_sub1 (List.Mem.tail _ (List.Mem.tail _ (List.Mem.tail _ (List.Mem.head _)))) (x_sub1 (List.Mem.tail _ (List.Mem.tail _ (List.Mem.tail _ (List.Mem.tail _ (List.Mem.head _))))) x_sub0)) H
            · replace H := H.2 c69
              refine s_aload_n (nx := 73) hO rfl rfl rfl ?_
              refine s_bipush (x := (nI 6)) (nx := 75) hO rfl (by decide) rfl ?_
              refine s_aload_n (nx := 76) hO rfl rfl rfl ?_
              refine s_getf (v := .ref (q_b G + 164)) (nx := 79) hO rfl rfl (hs_o12 kc139) rfl rfl ?_
              refine s_iconst (x := (nI 4)) (nx := 80) hO rfl (by decide) rfl ?_
              refine s_iload_n (nx := 81) hO rfl rfl rfl ?_
              refine s_imul (nx := 82) hO rfl rfl ?_
              refine s_iconst (x := (nI 3)) (nx := 83) hO rfl (by decide) rfl ?_
              refine s_iadd (nx := 84) hO rfl rfl ?_
              obtain ⟨b28, H⟩ := H
              refine s_iald (nx := 85) hO rfl (hs_I kc164) b28 rfl ?_
              refine s_callV [.int (nI 6), .int (sI s2 164 (ix (((nI 4) * x1) + (nI 3))))] (ci := 12) (F := TX12) (N := 116) (nx := 88) hO rfl kX12_resolve_303 (by rw [hcl]; rfl) (hs_o12 kc139) (w_X12_wrong hG H) rfl rfl (Nat.le_of_ble_eq_true rfl) (Nat.zero_le _) (Nat.zero_le _) rfl (k_Qv (fun s29 H => ?_))
              refine s_goto hO rfl ?_
              exact xEx.loc (x_sub1 (List.Mem.tail _ (List.Mem.tail _ (List.Mem.tail _ (List.Mem.head _)))) (x_sub1 (List.Mem.tail _ (List.Mem.tail _ (List.Mem.tail _ (List.Mem.tail _ (List.Mem.head _))))) x_sub0)) H
  refine s_istore_n (nx := 2) (l' := [(1, .int 0), (0, .ref (q_b G + 139))]) hO rfl (by decide) rfl rfl ?_
  exact xEx.loc (x_sub1 (List.Mem.tail _ (List.Mem.head _)) (x_sub1 (List.Mem.head _) x_sub0)) H
def W_X12_cut (s : yS) (v1 : Int32) (v2 : Int64) (v3 : Int32) (v4 : Int32) (Q : yS → Prop) : Prop :=
 (((lg_cmp v2 (v3).toInt64) ≤ 0 → Q s)
 ∧ (¬ (lg_cmp v2 (v3).toInt64) ≤ 0 → (((lg_cmp v2 (v4).toInt64) ≤ 0 → vp_in v1 9 ∧ 
   ∀ x2 : Int32, x2 = (sI s 169 (ix v1)) → 
   ∀ P28 : Int32 → Prop, (∀ (x3 : Int32), (∀ P60 : Prop, ((∀ P87 : Prop, ((∀ P91 : Int32 → yS → Prop, (∀ (x4 : Int32) (s5 : yS), (((x4 ≤ x3 → vp_in (((nI 2000) * v1) + x3) 18000 ∧ ∀ s7 : yS, s7 = wI s5 168 (ix (((nI 2000) * v1) + x3)) (v2).toInt32 → 
        vp_in v1 9 ∧ 
        vp_in v1 9 ∧ ∀ s10 : yS, s10 = wI s7 169 (ix v1) ((sI s7 169 (ix v1)) + 1) → 
        Q s10)
       ∧ (¬ x4 ≤ x3 → vp_in ((((nI 2000) * v1) + x4) - 1) 18000 ∧ 
        vp_in (((nI 2000) * v1) + x4) 18000 ∧ ∀ s13 : yS, s13 = wI s5 168 (ix (((nI 2000) * v1) + x4)) (sI s5 168 (ix ((((nI 2000) * v1) + x4) - 1))) → 
        ∀ x14 : Int32, x14 = (x4 + (-1)) → 
        P91 x14 s13))) → P91 x4 s5) → 
      P91 x2 s) → P87) → 
     ((x2 ≤ x3 → P87)
     ∧ (¬ x2 ≤ x3 → vp_in (((nI 2000) * v1) + x3) 18000 ∧ 
      ((¬ (lg_cmp ((sI s 168 (ix (((nI 2000) * v1) + x3)))).toInt64 v2) = 0 → P87)
      ∧ ((lg_cmp ((sI s 168 (ix (((nI 2000) * v1) + x3)))).toInt64 v2) = 0 → Q s))))) → P60) → 
    ((x2 ≤ x3 → P60)
    ∧ (¬ x2 ≤ x3 → vp_in (((nI 2000) * v1) + x3) 18000 ∧ 
     ((0 ≤ (lg_cmp ((sI s 168 (ix (((nI 2000) * v1) + x3)))).toInt64 v2) → P60)
     ∧ (¬ 0 ≤ (lg_cmp ((sI s 168 (ix (((nI 2000) * v1) + x3)))).toInt64 v2) → ∀ x17 : Int32, x17 = (x3 + 1) → 
      P28 x17))))) → P28 x3) → 
   P28 0)
  ∧ (¬ (lg_cmp v2 (v4).toInt64) ≤ 0 → Q s))))
set_option maxRecDepth 100000 in
set_option maxHeartbeats 40000000 in
theorem w_X12_cut {G : xG} (hG : yG G) {z : Nat} {s : yS} {v1 : Int32} {v2 : Int64} {v3 : Int32} {v4 : Int32} {Q : yS → Prop} (H : W_X12_cut s v1 v2 v3 v4 Q) : xC G mX12_cut [.ref (q_b G + 139), .int v1, .long v2, .int v3, .int v4] (hS G s) z 0 0 (yQv G z Q) := by
  have hW := hG.1
  have hcl := hG.2.1
  have hty := hG.2.2.1
  have hO : xO G mX12_cut tbX12_cut ptX12_cut := ⟨tkX12_cut, pkX12_cut hcl⟩
  unfold W_X12_cut at H
  refine xC.of hW (by decide) rfl (Nat.le_of_ble_eq_true rfl) ?_
  refine s_lload_n (nx := 1) hO rfl rfl rfl ?_
  refine s_iload (nx := 3) hO rfl rfl rfl ?_
  refine s_i2l (nx := 4) hO rfl rfl ?_
  refine s_lcmp (nx := 5) hO rfl rfl ?_
  refine s_if_le (nx := 8) hO rfl rfl (fun c5 => ?_) (fun c5 => ?_)
  · replace H := H.1 c5
    exact s_vret hO rfl rfl ⟨rfl, _, rfl, rfl, H⟩
  · replace H := H.2 c5
    refine s_lload_n (nx := 9) hO rfl rfl rfl ?_
    refine s_iload (nx := 11) hO rfl rfl rfl ?_
    refine s_i2l (nx := 12) hO rfl rfl ?_
    refine s_lcmp (nx := 13) hO rfl rfl ?_
    refine s_if_le (nx := 16) hO rfl rfl (fun c13 => ?_) (fun c13 => ?_)
    · replace H := H.1 c13
      refine s_aload_n (nx := 18) hO rfl rfl rfl ?_
      refine s_getf (v := .ref (q_b G + 169)) (nx := 21) hO rfl rfl (hs_o12 kc139) rfl rfl ?_
      refine s_iload_n (nx := 22) hO rfl rfl rfl ?_
      obtain ⟨b1, H⟩ := H
      refine s_iald (nx := 23) hO rfl (hs_I kc169) b1 rfl ?_
      refine goV ((sI s 169 (ix v1))) (fun x2 ex2 => ?_)
      replace H := H x2 ex2
      refine e_istore (nx := 25) (l' := [(6, .int x2), (0, .ref (q_b G + 139)), (1, .int v1), (2, .long v2), (4, .int v3), (5, .int v4)]) ex2 hO rfl (by decide) rfl rfl ?_
      refine s_iconst (x := 0) (nx := 26) hO rfl (by decide) rfl ?_
      refine goK (H (fun (x3 : Int32) => xEx G mX12_cut 28 [(0, .ref (q_b G + 139)), (1, .int v1), (2, .long v2), (6, .int x2), (7, .int x3)] [] (hS G s) z 0 0 (yQv G z Q)) (fun x3 H => ?_)) (fun H => ?_)
      · show xEx G mX12_cut 28 [(0, .ref (q_b G + 139)), (1, .int v1), (2, .long v2), (6, .int x2), (7, .int x3)] [] (hS G s) z 0 0 (yQv G z Q)
        refine s_iload (nx := 30) hO rfl rfl rfl ?_
        refine s_iload (nx := 32) hO rfl rfl rfl ?_
        refine goK (H (xEx G mX12_cut 60 [(0, .ref (q_b G + 139)), (1, .int v1), (2, .long v2), (6, .int x2), (7, .int x3)] [] (hS G s) z 0 0 (yQv G z Q)) (fun H => ?_)) (fun H => ?_)
        · show xEx G mX12_cut 60 [(0, .ref (q_b G + 139)), (1, .int v1), (2, .long v2), (6, .int x2), (7, .int x3)] [] (hS G s) z 0 0 (yQv G z Q)
          refine s_iload (nx := 62) hO rfl rfl rfl ?_
          refine s_iload (nx := 64) hO rfl rfl rfl ?_
          refine goK (H (xEx G mX12_cut 87 [(0, .ref (q_b G + 139)), (1, .int v1), (2, .long v2), (6, .int x2), (7, .int x3)] [] (hS G s) z 0 0 (yQv G z Q)) (fun H => ?_)) (fun H => ?_)
          · show xEx G mX12_cut 87 [(0, .ref (q_b G + 139)), (1, .int v1), (2, .long v2), (6, .int x2), (7, .int x3)] [] (hS G s) z 0 0 (yQv G z Q)
            refine s_iload (nx := 89) hO rfl rfl rfl ?_
            refine goK (H (fun (x4 : Int32) (s5 : yS) => xEx G mX12_cut 91 [(0, .ref (q_b G + 139)), (1, .int v1), (2, .long v2), (7, .int x3), (8, .int x4)] [] (hS G s5) z 0 0 (yQv G z Q)) (fun x4 s5 H => ?_)) (fun H => ?_)
            · show xEx G mX12_cut 91 [(0, .ref (q_b G + 139)), (1, .int v1), (2, .long v2), (7, .int x3), (8, .int x4)] [] (hS G s5) z 0 0 (yQv G z Q)
              refine s_iload (nx := 93) hO rfl rfl rfl ?_
              refine s_iload (nx := 95) hO rfl rfl rfl ?_
              refine s_icmp_le (nx := 98) hO rfl rfl (fun c95 => ?_) (fun c95 => ?_)
              · replace H := H.1 c95
                refine s_aload_n (nx := 133) hO rfl rfl rfl ?_
                refine s_getf (v := .ref (q_b G + 168)) (nx := 136) hO rfl rfl (hs_o12 kc139) rfl rfl ?_
                refine s_sipush (x := (nI 2000)) (nx := 139) hO rfl (by decide) rfl ?_
                refine s_iload_n (nx := 140) hO rfl rfl rfl ?_
                refine s_imul (nx := 141) hO rfl rfl ?_
                refine s_iload (nx := 143) hO rfl rfl rfl ?_
                refine s_iadd (nx := 144) hO rfl rfl ?_
                refine s_lload_n (nx := 145) hO rfl rfl rfl ?_
                refine s_l2i (nx := 146) hO rfl rfl ?_
                obtain ⟨b6, H⟩ := H
                refine goV (wI s5 168 (ix (((nI 2000) * v1) + x3)) (v2).toInt32) (fun s7 es7 => ?_)
                replace H := H s7 es7
                refine s_iast (nx := 147) hO rfl (hs_I kc168) b6 rfl ?_
                refine xEx.at (up_I kc168 es7) ?_
                refine s_aload_n (nx := 148) hO rfl rfl rfl ?_
                refine s_getf (v := .ref (q_b G + 169)) (nx := 151) hO rfl rfl (hs_o12 kc139) rfl rfl ?_
                refine s_iload_n (nx := 152) hO rfl rfl rfl ?_
                refine s_dup2 (nx := 153) hO rfl rfl rfl rfl ?_
                obtain ⟨b8, H⟩ := H
                refine s_iald (nx := 154) hO rfl (hs_I kc169) b8 rfl ?_
                refine s_iconst (x := 1) (nx := 155) hO rfl (by decide) rfl ?_
                refine s_iadd (nx := 156) hO rfl rfl ?_
                obtain ⟨b9, H⟩ := H
                refine goV (wI s7 169 (ix v1) ((sI s7 169 (ix v1)) + 1)) (fun s10 es10 => ?_)
                replace H := H s10 es10
                refine s_iast (nx := 157) hO rfl (hs_I kc169) b9 rfl ?_
                refine xEx.at (up_I kc169 es10) ?_
                exact s_vret hO rfl rfl ⟨rfl, _, rfl, rfl, H⟩
              · replace H := H.2 c95
                refine s_aload_n (nx := 99) hO rfl rfl rfl ?_
                refine s_getf (v := .ref (q_b G + 168)) (nx := 102) hO rfl rfl (hs_o12 kc139) rfl rfl ?_
                refine s_sipush (x := (nI 2000)) (nx := 105) hO rfl (by decide) rfl ?_
                refine s_iload_n (nx := 106) hO rfl rfl rfl ?_
                refine s_imul (nx := 107) hO rfl rfl ?_
                refine s_iload (nx := 109) hO rfl rfl rfl ?_
                refine s_iadd (nx := 110) hO rfl rfl ?_
                refine s_aload_n (nx := 111) hO rfl rfl rfl ?_
                refine s_getf (v := .ref (q_b G + 168)) (nx := 114) hO rfl rfl (hs_o12 kc139) rfl rfl ?_
                refine s_sipush (x := (nI 2000)) (nx := 117) hO rfl (by decide) rfl ?_
                refine s_iload_n (nx := 118) hO rfl rfl rfl ?_
                refine s_imul (nx := 119) hO rfl rfl ?_
                refine s_iload (nx := 121) hO rfl rfl rfl ?_
                refine s_iadd (nx := 122) hO rfl rfl ?_
                refine s_iconst (x := 1) (nx := 123) hO rfl (by decide) rfl ?_
                refine s_isub (nx := 124) hO rfl rfl ?_
                obtain ⟨b11, H⟩ := H
                refine s_iald (nx := 125) hO rfl (hs_I kc168) b11 rfl ?_
                obtain ⟨b12, H⟩ := H
                refine goV (wI s5 168 (ix (((nI 2000) * v1) + x4)) (sI s5 168 (ix ((((nI 2000) * v1) + x4) - 1)))) (fun s13 es13 => ?_)
                replace H := H s13 es13
                refine s_iast (nx := 126) hO rfl (hs_I kc168) b12 rfl ?_
                refine xEx.at (up_I kc168 es13) ?_
                refine goV ((x4 + (-1))) (fun x14 ex14 => ?_)
                replace H := H x14 ex14
                refine e_iinc (nx := 129) (l' := [(8, .int x14), (0, .ref (q_b G + 139)), (1, .int v1), (2, .long v2), (7, .int x3)]) ex14 hO rfl (by decide) rfl rfl rfl rfl ?_
                refine s_goto hO rfl ?_
                exact xEx.loc (x_sub1 (List.Mem.tail _ (List.Mem.head _)) (x_sub1 (List.Mem.tail _ (List.Mem.tail _ (List.Mem.head _))) (x_sub1 (List.Mem.tail _ (List.Mem.tail _ (List.Mem.tail _ (List.Mem.head _)))) (x_sub1 (List.Mem.tail _ (List.Mem.tail _ (List.Mem.tail _ (List.Mem.tail _ (List.Mem.head _))))) (x_sub1 (List.Mem.head _) x_sub0))))) H
            refine s_istore (nx := 91) (l' := [(8, .int x2), (0, .ref (q_b G + 139)), (1, .int v1), (2, .long v2), (6, .int x2), (7, .int x3)]) hO rfl (by decide) rfl rfl ?_
            exact xEx.loc (x_sub1 (List.Mem.tail _ (List.Mem.head _)) (x_sub1 (List.Mem.tail _ (List.Mem.tail _ (List.Mem.head _))) (x_sub1 (List.Mem.tail _ (List.Mem.tail _ (List.Mem.tail _ (List.Mem.head _)))) (x_sub1 (List.Mem.tail _ (List.Mem.tail _ (List.Mem.tail _ (List.Mem.tail _ (List.Mem.tail _ (List.Mem.head _)))))) (x_sub1 (List.Mem.head _) x_sub0))))) H
          refine s_icmp_ge (nx := 67) hO rfl rfl (fun c64 => ?_) (fun c64 => ?_)
          · replace H := H.1 c64
            exact xEx.loc (x_sub1 (List.Mem.head _) (x_sub1 (List.Mem.tail _ (List.Mem.head _)) (x_sub1 (List.Mem.tail _ (List.Mem.tail _ (List.Mem.head _))) (x_sub1 (List.Mem.tail _ (List.Mem.tail _ (List.Mem.tail _ (List.Mem.head _)))) (x_sub1 (List.Mem.tail _ (List.Mem.tail _ (List.Mem.tail _ (List.Mem.tail _ (List.Mem.head _))))) x_sub0))))) H
          · replace H := H.2 c64
            refine s_aload_n (nx := 68) hO rfl rfl rfl ?_
            refine s_getf (v := .ref (q_b G + 168)) (nx := 71) hO rfl rfl (hs_o12 kc139) rfl rfl ?_
            refine s_sipush (x := (nI 2000)) (nx := 74) hO rfl (by decide) rfl ?_
            refine s_iload_n (nx := 75) hO rfl rfl rfl ?_
            refine s_imul (nx := 76) hO rfl rfl ?_
            refine s_iload (nx := 78) hO rfl rfl rfl ?_
            refine s_iadd (nx := 79) hO rfl rfl ?_
            obtain ⟨b15, H⟩ := H
            refine s_iald (nx := 80) hO rfl (hs_I kc168) b15 rfl ?_
            refine s_i2l (nx := 81) hO rfl rfl ?_
            refine s_lload_n (nx := 82) hO rfl rfl rfl ?_
            refine s_lcmp (nx := 83) hO rfl rfl ?_
            refine s_if_ne (nx := 86) hO rfl rfl (fun c83 => ?_) (fun c83 => ?_)
            · replace H := H.1 c83
              exact xEx.loc (x_sub1 (List.Mem.head _) (x_sub1 (List.Mem.tail _ (List.Mem.head _)) (x_sub1 (List.Mem.tail _ (List.Mem.tail _ (List.Mem.head _))) (x_sub1 (List.Mem.tail _ (List.Mem.tail _ (List.Mem.tail _ (List.Mem.head _)))) (x_sub1 (List.Mem.tail _ (List.Mem.tail _ (List.Mem.tail _ (List.Mem.tail _ (List.Mem.head _))))) x_sub0))))) H
            · replace H := H.2 c83
              exact s_vret hO rfl rfl ⟨rfl, _, rfl, rfl, H⟩
        refine s_icmp_ge (nx := 35) hO rfl rfl (fun c32 => ?_) (fun c32 => ?_)
        · replace H := H.1 c32
          exact xEx.loc (x_sub1 (List.Mem.head _) (x_sub1 (List.Mem.tail _ (List.Mem.head _)) (x_sub1 (List.Mem.tail _ (List.Mem.tail _ (List.Mem.head _))) (x_sub1 (List.Mem.tail _ (List.Mem.tail _ (List.Mem.tail _ (List.Mem.head _)))) (x_sub1 (List.Mem.tail _ (List.Mem.tail _ (List.Mem.tail _ (List.Mem.tail _ (List.Mem.head _))))) x_sub0))))) H
        · replace H := H.2 c32
          refine s_aload_n (nx := 36) hO rfl rfl rfl ?_
          refine s_getf (v := .ref (q_b G + 168)) (nx := 39) hO rfl rfl (hs_o12 kc139) rfl rfl ?_
          refine s_sipush (x := (nI 2000)) (nx := 42) hO rfl (by decide) rfl ?_
          refine s_iload_n (nx := 43) hO rfl rfl rfl ?_
          refine s_imul (nx := 44) hO rfl rfl ?_
          refine s_iload (nx := 46) hO rfl rfl rfl ?_
          refine s_iadd (nx := 47) hO rfl rfl ?_
          obtain ⟨b16, H⟩ := H
          refine s_iald (nx := 48) hO rfl (hs_I kc168) b16 rfl ?_
          refine s_i2l (nx := 49) hO rfl rfl ?_
          refine s_lload_n (nx := 50) hO rfl rfl rfl ?_
          refine s_lcmp (nx := 51) hO rfl rfl ?_
          refine s_if_ge (nx := 54) hO rfl rfl (fun c51 => ?_) (fun c51 => ?_)
          · replace H := H.1 c51
            exact xEx.loc (x_sub1 (List.Mem.head _) (x_sub1 (List.Mem.tail _ (List.Mem.head _)) (x_sub1 (List.Mem.tail _ (List.Mem.tail _ (List.Mem.head _))) (x_sub1 (List.Mem.tail _ (List.Mem.tail _ (List.Mem.tail _ (List.Mem.head _)))) (x_sub1 (List.Mem.tail _ (List.Mem.tail _ (List.Mem.tail _ (List.Mem.tail _ (List.Mem.head _))))) x_sub0))))) H
          · replace H := H.2 c51
            refine goV ((x3 + 1)) (fun x17 ex17 => ?_)
            replace H := H x17 ex17
            refine e_iinc (nx := 57) (l' := [(7, .int x17), (0, .ref (q_b G + 139)), (1, .int v1), (2, .long v2), (6, .int x2)]) ex17 hO rfl (by decide) rfl rfl rfl rfl ?_
            refine s_goto hO rfl ?_
            exact xEx.loc (x_sub1 (List.Mem.tail _ (List.Mem.head _)) (x_sub1 (List.Mem.tail _ (List.Mem.tail _ (List.Mem.head _))) (x_sub1 (List.Mem.tail _ (List.Mem.tail _ (List.Mem.tail _ (List.Mem.head _)))) (x_sub1 (List.Mem.tail _ (List.Mem.tail _ (List.Mem.tail _ (List.Mem.tail _ (List.Mem.head _))))) (x_sub1 (List.Mem.head _) x_sub0))))) H
      refine s_istore (nx := 28) (l' := [(7, .int 0), (6, .int x2), (0, .ref (q_b G + 139)), (1, .int v1), (2, .long v2), (4, .int v3), (5, .int v4)]) hO rfl (by decide) rfl rfl ?_
      exact xEx.loc (x_sub1 (List.Mem.tail _ (List.Mem.tail _ (List.Mem.head _))) (x_sub1 (List.Mem.tail _ (List.Mem.tail _ (List.Mem.tail _ (List.Mem.head _)))) (x_sub1 (List.Mem.tail _ (List.Mem.tail _ (List.Mem.tail _ (List.Mem.tail _ (List.Mem.head _))))) (x_sub1 (List.Mem.tail _ (List.Mem.head _)) (x_sub1 (List.Mem.head _) x_sub0))))) H
    · replace H := H.2 c13
      exact s_vret hO rfl rfl ⟨rfl, _, rfl, rfl, H⟩
def W_X12_divide (s : yS) (v1 : Int32) (Q : yS → Prop) : Prop :=
 ∀ P2 : Int32 → yS → Prop, (∀ (x1 : Int32) (s2 : yS), ((((nI 9) ≤ x1 → ∀ P45 : Int32 → yS → Prop, (∀ (x3 : Int32) (s4 : yS), ((((sI s4 139 34) ≤ x3 → Q s4)
    ∧ (¬ (sI s4 139 34) ≤ x3 → vp_in x3 192 ∧ 
     ∀ P60 : Int32 → yS → Prop, (∀ (x6 : Int32) (s7 : yS), (vp_in x3 192 ∧ 
      vp_in x3 192 ∧ 
      ((((sI s7 154 (ix x3)) + (sI s7 155 (ix x3))) ≤ x6 → ∀ x10 : Int32, x10 = (x3 + 1) → 
       P45 x10 s7)
      ∧ (¬ ((sI s7 154 (ix x3)) + (sI s7 155 (ix x3))) ≤ x6 → vp_in x3 192 ∧ 
       ∀ P101 : Int32 → Prop, (∀ (y12 : Int32), (∀ P258 : yS → Prop, (∀ (s13 : yS), (∀ x14 : Int32, x14 = (x6 + 1) → 
         P60 x14 s13) → P258 s13) → 
        ((y12 = 0 → P258 s7)
        ∧ (¬ y12 = 0 → vp_in x6 900 ∧ 
         ∀ P129 : Prop, ((vp_in x6 900 ∧ 
          ∀ P155 : Int32 → Prop, (∀ (y17 : Int32), (vp_in x6 900 ∧ 
           ∀ P173 : Int32 → Prop, (∀ (y19 : Int32), (vp_in x6 900 ∧ 
            ∀ P201 : Int32 → Prop, (∀ (y21 : Int32), (vp_in x6 900 ∧ 
             ∀ P230 : yS → Prop, (∀ (s23 : yS), (vp_in x6 900 ∧ 
              (((sI s23 161 (ix x6)) ≤ 0 → P258 s23)
              ∧ (¬ (sI s23 161 (ix x6)) ≤ 0 → vp_in x6 900 ∧ 
               W_X12_cut s23 y17 (((sI s23 162 (ix x6))).toInt64 + 1) y19 y21 
               (fun s26 => P258 s26)))) → P230 s23) → 
             (((nI 2) ≤ (sI s7 161 (ix x6)) → P230 s7)
             ∧ (¬ (nI 2) ≤ (sI s7 161 (ix x6)) → vp_in x6 900 ∧ 
              W_X12_cut s7 y17 ((sI s7 162 (ix x6))).toInt64 y19 y21 
              (fun s28 => P230 s28)))) → P201 y21) → 
            (((sI s7 158 (ix x6)) = 0 → P201 ((2147483647)))
            ∧ (¬ (sI s7 158 (ix x6)) = 0 → vp_in x6 900 ∧ 
             vp_in (sI s7 159 (ix x6)) 6 ∧ 
             P201 (sI s7 145 (ix (sI s7 159 (ix x6))))))) → P173 y19) → 
           (((sI s7 158 (ix x6)) = 0 → P173 ((-2147483648)))
           ∧ (¬ (sI s7 158 (ix x6)) = 0 → P173 0))) → P155 y17) → 
          (((sI s7 158 (ix x6)) = 0 → vp_in x6 900 ∧ 
           P155 (sI s7 159 (ix x6)))
          ∧ (¬ (sI s7 158 (ix x6)) = 0 → vp_in x6 900 ∧ 
           P155 ((nI 3) + (sI s7 159 (ix x6)))))) → P129) → 
         ((¬ (sI s7 158 (ix x6)) = 0 → P129)
         ∧ ((sI s7 158 (ix x6)) = 0 → vp_in x6 900 ∧ 
          (((v1 - v1 / (nI 4) * (nI 4)) ≤ (sI s7 159 (ix x6)) → P258 s7)
          ∧ (¬ (v1 - v1 / (nI 4) * (nI 4)) ≤ (sI s7 159 (ix x6)) → P129))))))) → P101 y12) → 
       (((sI s7 153 (ix x3)) < 0 → P101 1)
       ∧ (¬ (sI s7 153 (ix x3)) < 0 → vp_in x3 192 ∧ 
        ((¬ (sI s7 153 (ix x3)) = v1 → P101 0)
        ∧ ((sI s7 153 (ix x3)) = v1 → P101 1))))))) → P60 x6 s7) → 
     ∀ x35 : Int32, x35 = (sI s4 154 (ix x3)) → 
     P60 x35 s4))) → P45 x3 s4) → 
   P45 0 s2)
  ∧ (¬ (nI 9) ≤ x1 → vp_in x1 9 ∧ ∀ s37 : yS, s37 = wI s2 169 (ix x1) 1 → 
   (((nI 3) ≤ x1 → vp_in ((nI 2000) * x1) 18000 ∧ ∀ s39 : yS, s39 = wI s37 168 (ix ((nI 2000) * x1)) 0 → 
    ∀ x40 : Int32, x40 = (x1 + 1) → 
    P2 x40 s39)
   ∧ (¬ (nI 3) ≤ x1 → vp_in ((nI 2000) * x1) 18000 ∧ ∀ s42 : yS, s42 = wI s37 168 (ix ((nI 2000) * x1)) ((-2147483648)) → 
    ∀ x43 : Int32, x43 = (x1 + 1) → 
    P2 x43 s42))))) → P2 x1 s2) → 
 P2 0 s
set_option maxRecDepth 100000 in
set_option maxHeartbeats 40000000 in
theorem w_X12_divide {G : xG} (hG : yG G) {z : Nat} {s : yS} {v1 : Int32} {Q : yS → Prop} (H : W_X12_divide s v1 Q) : xC G mX12_divide [.ref (q_b G + 139), .int v1] (hS G s) z 0 0 (yQv G z Q) := by
  have hW := hG.1
  have hcl := hG.2.1
  have hty := hG.2.2.1
  have hO : xO G mX12_divide tbX12_divide ptX12_divide := ⟨tkX12_divide, pkX12_divide hcl⟩
  unfold W_X12_divide at H
  refine xC.of hW (by decide) rfl (Nat.le_of_ble_eq_true rfl) ?_
  refine s_iconst (x := 0) (nx := 1) hO rfl (by decide) rfl ?_
  refine goK (H (fun (x1 : Int32) (s2 : yS) => xEx G mX12_divide 2 [(0, .ref (q_b G + 139)), (1, .int v1), (2, .int x1)] [] (hS G s2) z 0 0 (yQv G z Q)) (fun x1 s2 H => ?_)) (fun H => ?_)
  · show xEx G mX12_divide 2 [(0, .ref (q_b G + 139)), (1, .int v1), (2, .int x1)] [] (hS G s2) z 0 0 (yQv G z Q)
    refine s_iload_n (nx := 3) hO rfl rfl rfl ?_
    refine s_bipush (x := (nI 9)) (nx := 5) hO rfl (by decide) rfl ?_
    refine s_icmp_ge (nx := 8) hO rfl rfl (fun c5 => ?_) (fun c5 => ?_)
    · replace H := H.1 c5
      refine s_iconst (x := 0) (nx := 44) hO rfl (by decide) rfl ?_
      refine goK (H (fun (x3 : Int32) (s4 : yS) => xEx G mX12_divide 45 [(0, .ref (q_b G + 139)), (1, .int v1), (2, .int x3)] [] (hS G s4) z 0 0 (yQv G z Q)) (fun x3 s4 H => ?_)) (fun H => ?_)
      · show xEx G mX12_divide 45 [(0, .ref (q_b G + 139)), (1, .int v1), (2, .int x3)] [] (hS G s4) z 0 0 (yQv G z Q)
        refine s_iload_n (nx := 46) hO rfl rfl rfl ?_
        refine s_aload_n (nx := 47) hO rfl rfl rfl ?_
        refine s_getf (v := .int (sI s4 139 34)) (nx := 50) hO rfl rfl (hs_o12 kc139) rfl rfl ?_
        refine s_icmp_ge (nx := 53) hO rfl rfl (fun c50 => ?_) (fun c50 => ?_)
        · replace H := H.1 c50
          exact s_vret hO rfl rfl ⟨rfl, _, rfl, rfl, H⟩
        · replace H := H.2 c50
          refine s_aload_n (nx := 54) hO rfl rfl rfl ?_
          refine s_getf (v := .ref (q_b G + 154)) (nx := 57) hO rfl rfl (hs_o12 kc139) rfl rfl ?_
          refine s_iload_n (nx := 58) hO rfl rfl rfl ?_
          obtain ⟨b5, H⟩ := H
          refine s_iald (nx := 59) hO rfl (hs_I kc154) b5 rfl ?_
          refine goK (H (fun (x6 : Int32) (s7 : yS) => xEx G mX12_divide 60 [(0, .ref (q_b G + 139)), (1, .int v1), (2, .int x3), (3, .int x6)] [] (hS G s7) z 0 0 (yQv G z Q)) (fun x6 s7 H => ?_)) (fun H => ?_)
          · show xEx G mX12_divide 60 [(0, .ref (q_b G + 139)), (1, .int v1), (2, .int x3), (3, .int x6)] [] (hS G s7) z 0 0 (yQv G z Q)
            refine s_iload_n (nx := 61) hO rfl rfl rfl ?_
            refine s_aload_n (nx := 62) hO rfl rfl rfl ?_
            refine s_getf (v := .ref (q_b G + 154)) (nx := 65) hO rfl rfl (hs_o12 kc139) rfl rfl ?_
            refine s_iload_n (nx := 66) hO rfl rfl rfl ?_
            obtain ⟨b8, H⟩ := H
            refine s_iald (nx := 67) hO rfl (hs_I kc154) b8 rfl ?_
            refine s_aload_n (nx := 68) hO rfl rfl rfl ?_
            refine s_getf (v := .ref (q_b G + 155)) (nx := 71) hO rfl rfl (hs_o12 kc139) rfl rfl ?_
            refine s_iload_n (nx := 72) hO rfl rfl rfl ?_
            obtain ⟨b9, H⟩ := H
            refine s_iald (nx := 73) hO rfl (hs_I kc155) b9 rfl ?_
            refine s_iadd (nx := 74) hO rfl rfl ?_
            refine s_icmp_ge (nx := 77) hO rfl rfl (fun c74 => ?_) (fun c74 => ?_)
            · replace H := H.1 c74
              refine goV ((x3 + 1)) (fun x10 ex10 => ?_)
              replace H := H x10 ex10
              refine e_iinc (nx := 267) (l' := [(2, .int x10), (0, .ref (q_b G + 139)), (1, .int v1), (3, .int x6)]) ex10 hO rfl (by decide) rfl rfl rfl rfl ?_
              refine s_goto hO rfl ?_
              exact xEx.loc (x_sub1 (List.Mem.tail _ (List.Mem.head _)) (x_sub1 (List.Mem.tail _ (List.Mem.tail _ (List.Mem.head _))) (x_sub1 (List.Mem.head _) x_sub0))) H
            · replace H := H.2 c74
              refine s_aload_n (nx := 78) hO rfl rfl rfl ?_
              refine s_getf (v := .ref (q_b G + 153)) (nx := 81) hO rfl rfl (hs_o12 kc139) rfl rfl ?_
              refine s_iload_n (nx := 82) hO rfl rfl rfl ?_
              obtain ⟨b11, H⟩ := H
              refine s_iald (nx := 83) hO rfl (hs_I kc153) b11 rfl ?_
              refine goK (H (fun (y12 : Int32) => xEx G mX12_divide 101 [(0, .ref (q_b G + 139)), (1, .int v1), (2, .int x3), (3, .int x6)] [.int y12] (hS G s7) z 0 0 (yQv G z Q)) (fun y12 H => ?_)) (fun H => ?_)
              · show xEx G mX12_divide 101 [(0, .ref (q_b G + 139)), (1, .int v1), (2, .int x3), (3, .int x6)] [.int y12] (hS G s7) z 0 0 (yQv G z Q)
                refine s_istore (nx := 103) (l' := [(4, .int y12), (0, .ref (q_b G + 139)), (1, .int v1), (2, .int x3), (3, .int x6)]) hO rfl (by decide) rfl rfl ?_
                refine s_iload (nx := 105) hO rfl rfl rfl ?_
                refine goK (H (fun (s13 : yS) => xEx G mX12_divide 258 [(0, .ref (q_b G + 139)), (1, .int v1), (2, .int x3), (3, .int x6)] [] (hS G s13) z 0 0 (yQv G z Q)) (fun s13 H => ?_)) (fun H => ?_)
                · show xEx G mX12_divide 258 [(0, .ref (q_b G + 139)), (1, .int v1), (2, .int x3), (3, .int x6)] [] (hS G s13) z 0 0 (yQv G z Q)
                  refine goV ((x6 + 1)) (fun x14 ex14 => ?_)
                  replace H := H x14 ex14
                  refine e_iinc (nx := 261) (l' := [(3, .int x14), (0, .ref (q_b G + 139)), (1, .int v1), (2, .int x3)]) ex14 hO rfl (by decide) rfl rfl rfl rfl ?_
                  refine s_goto hO rfl ?_
                  exact xEx.loc (x_sub1 (List.Mem.tail _ (List.Mem.head _)) (x_sub1 (List.Mem.tail _ (List.Mem.tail _ (List.Mem.head _))) (x_sub1 (List.Mem.tail _ (List.Mem.tail _ (List.Mem.tail _ (List.Mem.head _)))) (x_sub1 (List.Mem.head _) x_sub0)))) H
                refine s_if_eq (nx := 108) hO rfl rfl (fun c105 => ?_) (fun c105 => ?_)
                · replace H := H.1 c105
                  exact xEx.loc (x_sub1 (List.Mem.tail _ (List.Mem.head _)) (x_sub1 (List.Mem.tail _ (List.Mem.tail _ (List.Mem.head _))) (x_sub1 (List.Mem.tail _ (List.Mem.tail _ (List.Mem.tail _ (List.Mem.head _)))) (x_sub1 (List.Mem.tail _ (List.Mem.tail _ (List.Mem.tail _ (List.Mem.tail _ (List.Mem.head _))))) x_sub0)))) H
                · replace H := H.2 c105
                  refine s_aload_n (nx := 109) hO rfl rfl rfl ?_
                  refine s_getf (v := .ref (q_b G + 158)) (nx := 112) hO rfl rfl (hs_o12 kc139) rfl rfl ?_
                  refine s_iload_n (nx := 113) hO rfl rfl rfl ?_
                  obtain ⟨b15, H⟩ := H
                  refine s_zald (nx := 114) hO rfl (hs_Z kc158) b15 rfl ?_
                  refine goK (H (xEx G mX12_divide 129 [(0, .ref (q_b G + 139)), (1, .int v1), (2, .int x3), (3, .int x6)] [] (hS G s7) z 0 0 (yQv G z Q)) (fun H => ?_)) (fun H => ?_)
                  · show xEx G mX12_divide 129 [(0, .ref (q_b G + 139)), (1, .int v1), (2, .int x3), (3, .int x6)] [] (hS G s7) z 0 0 (yQv G z Q)
                    refine s_aload_n (nx := 130) hO rfl rfl rfl ?_
                    refine s_getf (v := .ref (q_b G + 158)) (nx := 133) hO rfl rfl (hs_o12 kc139) rfl rfl ?_
                    refine s_iload_n (nx := 134) hO rfl rfl rfl ?_
                    obtain ⟨b16, H⟩ := H
                    refine s_zald (nx := 135) hO rfl (hs_Z kc158) b16 rfl ?_
                    refine goK (H (fun (y17 : Int32) => xEx G mX12_divide 155 [(0, .ref (q_b G + 139)), (1, .int v1), (2, .int x3), (3, .int x6)] [.int y17] (hS G s7) z 0 0 (yQv G z Q)) (fun y17 H => ?_)) (fun H => ?_)
                    · show xEx G mX12_divide 155 [(0, .ref (q_b G + 139)), (1, .int v1), (2, .int x3), (3, .int x6)] [.int y17] (hS G s7) z 0 0 (yQv G z Q)
                      refine s_istore (nx := 157) (l' := [(5, .int y17), (0, .ref (q_b G + 139)), (1, .int v1), (2, .int x3), (3, .int x6)]) hO rfl (by decide) rfl rfl ?_
                      refine s_aload_n (nx := 158) hO rfl rfl rfl ?_
                      refine s_getf (v := .ref (q_b G + 158)) (nx := 161) hO rfl rfl (hs_o12 kc139) rfl rfl ?_
                      refine s_iload_n (nx := 162) hO rfl rfl rfl ?_
                      obtain ⟨b18, H⟩ := H
                      refine s_zald (nx := 163) hO rfl (hs_Z kc158) b18 rfl ?_
                      refine goK (H (fun (y19 : Int32) => xEx G mX12_divide 173 [(0, .ref (q_b G + 139)), (1, .int v1), (2, .int x3), (3, .int x6), (5, .int y17)] [.int y19] (hS G s7) z 0 0 (yQv G z Q)) (fun y19 H => ?_)) (fun H => ?_)
                      · show xEx G mX12_divide 173 [(0, .ref (q_b G + 139)), (1, .int v1), (2, .int x3), (3, .int x6), (5, .int y17)] [.int y19] (hS G s7) z 0 0 (yQv G z Q)
                        refine s_istore (nx := 175) (l' := [(6, .int y19), (0, .ref (q_b G + 139)), (1, .int v1), (2, .int x3), (3, .int x6), (5, .int y17)]) hO rfl (by decide) rfl rfl ?_
                        refine s_aload_n (nx := 176) hO rfl rfl rfl ?_
                        refine s_getf (v := .ref (q_b G + 158)) (nx := 179) hO rfl rfl (hs_o12 kc139) rfl rfl ?_
                        refine s_iload_n (nx := 180) hO rfl rfl rfl ?_
                        obtain ⟨b20, H⟩ := H
                        refine s_zald (nx := 181) hO rfl (hs_Z kc158) b20 rfl ?_
                        refine goK (H (fun (y21 : Int32) => xEx G mX12_divide 201 [(0, .ref (q_b G + 139)), (1, .int v1), (2, .int x3), (3, .int x6), (5, .int y17), (6, .int y19)] [.int y21] (hS G s7) z 0 0 (yQv G z Q)) (fun y21 H => ?_)) (fun H => ?_)
                        · show xEx G mX12_divide 201 [(0, .ref (q_b G + 139)), (1, .int v1), (2, .int x3), (3, .int x6), (5, .int y17), (6, .int y19)] [.int y21] (hS G s7) z 0 0 (yQv G z Q)
                          refine s_istore (nx := 203) (l' := [(7, .int y21), (0, .ref (q_b G + 139)), (1, .int v1), (2, .int x3), (3, .int x6), (5, .int y17), (6, .int y19)]) hO rfl (by decide) rfl rfl ?_
                          refine s_aload_n (nx := 204) hO rfl rfl rfl ?_
                          refine s_getf (v := .ref (q_b G + 161)) (nx := 207) hO rfl rfl (hs_o12 kc139) rfl rfl ?_
                          refine s_iload_n (nx := 208) hO rfl rfl rfl ?_
                          obtain ⟨b22, H⟩ := H
                          refine s_iald (nx := 209) hO rfl (hs_I kc161) b22 rfl ?_
                          refine s_iconst (x := (nI 2)) (nx := 210) hO rfl (by decide) rfl ?_
                          refine goK (H (fun (s23 : yS) => xEx G mX12_divide 230 [(0, .ref (q_b G + 139)), (1, .int v1), (2, .int x3), (3, .int x6), (5, .int y17), (6, .int y19), (7, .int y21)] [] (hS G s23) z 0 0 (yQv G z Q)) (fun s23 H => ?_)) (fun H => ?_)
                          · show xEx G mX12_divide 230 [(0, .ref (q_b G + 139)), (1, .int v1), (2, .int x3), (3, .int x6), (5, .int y17), (6, .int y19), (7, .int y21)] [] (hS G s23) z 0 0 (yQv G z Q)
                            refine s_aload_n (nx := 231) hO rfl rfl rfl ?_
                            refine s_getf (v := .ref (q_b G + 161)) (nx := 234) hO rfl rfl (hs_o12 kc139) rfl rfl ?_
                            refine s_iload_n (nx := 235) hO rfl rfl rfl ?_
                            obtain ⟨b24, H⟩ := H
                            refine s_iald (nx := 236) hO rfl (hs_I kc161) b24 rfl ?_
                            refine s_if_le (nx := 239) hO rfl rfl (fun c236 => ?_) (fun c236 => ?_)
                            · replace H := H.1 c236
                              exact xEx.loc (x_sub1 (List.Mem.head _) (x_sub1 (List.Mem.tail _ (List.Mem.head _)) (x_sub1 (List.Mem.tail _ (List.Mem.tail _ (List.Mem.head _))) (x_sub1 (List.Mem.tail _ (List.Mem.tail _ (List.Mem.tail _ (List.Mem.head _)))) x_sub0)))) H
                            · replace H := H.2 c236
                              refine s_aload_n (nx := 240) hO rfl rfl rfl ?_
                              refine s_iload (nx := 242) hO rfl rfl rfl ?_
                              refine s_aload_n (nx := 243) hO rfl rfl rfl ?_
                              refine s_getf (v := .ref (q_b G + 162)) (nx := 246) hO rfl rfl (hs_o12 kc139) rfl rfl ?_
                              refine s_iload_n (nx := 247) hO rfl rfl rfl ?_
                              obtain ⟨b25, H⟩ := H
                              refine s_iald (nx := 248) hO rfl (hs_I kc162) b25 rfl ?_
                              refine s_i2l (nx := 249) hO rfl rfl ?_
                              refine s_lconst (x := 1) (nx := 250) hO rfl (by decide) rfl ?_
                              refine s_ladd (nx := 251) hO rfl rfl ?_
                              refine s_iload (nx := 253) hO rfl rfl rfl ?_
                              refine s_iload (nx := 255) hO rfl rfl rfl ?_
                              refine s_callV [.int y17, .long (((sI s23 162 (ix x6))).toInt64 + 1), .int y19, .int y21] (ci := 12) (F := TX12) (N := 116) (nx := 258) hO rfl kX12_divide_455 (by rw [hcl]; rfl) (hs_o12 kc139) (w_X12_cut hG H) rfl rfl (Nat.le_of_ble_eq_true rfl) (Nat.zero_le _) (Nat.zero_le _) rfl (k_Qv (fun s26 H => ?_))
                              exact xEx.loc (x_sub1 (List.Mem.head _) (x_sub1 (List.Mem.tail _ (List.Mem.head _)) (x_sub1 (List.Mem.tail _ (List.Mem.tail _ (List.Mem.head _))) (x_sub1 (List.Mem.tail _ (List.Mem.tail _ (List.Mem.tail _ (List.Mem.head _)))) x_sub0)))) H
                          refine s_icmp_ge (nx := 213) hO rfl rfl (fun c210 => ?_) (fun c210 => ?_)
                          · replace H := H.1 c210
                            exact xEx.loc (x_sub1 (List.Mem.tail _ (List.Mem.head _)) (x_sub1 (List.Mem.tail _ (List.Mem.tail _ (List.Mem.head _))) (x_sub1 (List.Mem.tail _ (List.Mem.tail _ (List.Mem.tail _ (List.Mem.head _)))) (x_sub1 (List.Mem.tail _ (List.Mem.tail _ (List.Mem.tail _ (List.Mem.tail _ (List.Mem.head _))))) (x_sub1 (List.Mem.tail _ (List.Mem.tail _ (List.Mem.tail _ (List.Mem.tail _ (List.Mem.tail _ (List.Mem.head _)))))) (x_sub1 (List.Mem.tail _ (List.Mem.tail _ (List.Mem.tail _ (List.Mem.tail _ (List.Mem.tail _ (List.Mem.tail _ (List.Mem.head _))))))) (x_sub1 (List.Mem.head _) x_sub0))))))) H
                          · replace H := H.2 c210
                            refine s_aload_n (nx := 214) hO rfl rfl rfl ?_
                            refine s_iload (nx := 216) hO rfl rfl rfl ?_
                            refine s_aload_n (nx := 217) hO rfl rfl rfl ?_
                            refine s_getf (v := .ref (q_b G + 162)) (nx := 220) hO rfl rfl (hs_o12 kc139) rfl rfl ?_
                            refine s_iload_n (nx := 221) hO rfl rfl rfl ?_
                            obtain ⟨b27, H⟩ := H
                            refine s_iald (nx := 222) hO rfl (hs_I kc162) b27 rfl ?_
                            refine s_i2l (nx := 223) hO rfl rfl ?_
                            refine s_iload (nx := 225) hO rfl rfl rfl ?_
                            refine s_iload (nx := 227) hO rfl rfl rfl ?_
                            refine s_callV [.int y17, .long ((sI s7 162 (ix x6))).toInt64, .int y19, .int y21] (ci := 12) (F := TX12) (N := 116) (nx := 230) hO rfl kX12_divide_455 (by rw [hcl]; rfl) (hs_o12 kc139) (w_X12_cut hG H) rfl rfl (Nat.le_of_ble_eq_true rfl) (Nat.zero_le _) (Nat.zero_le _) rfl (k_Qv (fun s28 H => ?_))
                            exact xEx.loc (x_sub1 (List.Mem.tail _ (List.Mem.head _)) (x_sub1 (List.Mem.tail _ (List.Mem.tail _ (List.Mem.head _))) (x_sub1 (List.Mem.tail _ (List.Mem.tail _ (List.Mem.tail _ (List.Mem.head _)))) (x_sub1 (List.Mem.tail _ (List.Mem.tail _ (List.Mem.tail _ (List.Mem.tail _ (List.Mem.head _))))) (x_sub1 (List.Mem.tail _ (List.Mem.tail _ (List.Mem.tail _ (List.Mem.tail _ (List.Mem.tail _ (List.Mem.head _)))))) (x_sub1 (List.Mem.tail _ (List.Mem.tail _ (List.Mem.tail _ (List.Mem.tail _ (List.Mem.tail _ (List.Mem.tail _ (List.Mem.head _))))))) (x_sub1 (List.Mem.head _) x_sub0))))))) H
                        refine s_if_eq (nx := 184) hO rfl rfl (fun c181 => ?_) (fun c181 => ?_)
                        · replace H := H.1 c181
                          refine s_ldc_w (x := ((2147483647))) (nx := 201) hO rfl rfl rfl ?_
                          exact xEx.loc (x_sub1 (List.Mem.tail _ (List.Mem.head _)) (x_sub1 (List.Mem.tail _ (List.Mem.tail _ (List.Mem.head _))) (x_sub1 (List.Mem.tail _ (List.Mem.tail _ (List.Mem.tail _ (List.Mem.head _)))) (x_sub1 (List.Mem.tail _ (List.Mem.tail _ (List.Mem.tail _ (List.Mem.tail _ (List.Mem.head _))))) (x_sub1 (List.Mem.tail _ (List.Mem.tail _ (List.Mem.tail _ (List.Mem.tail _ (List.Mem.tail _ (List.Mem.head _)))))) (x_sub1 (List.Mem.head _) x_sub0)))))) H
                        · replace H := H.2 c181
                          refine s_aload_n (nx := 185) hO rfl rfl rfl ?_
                          refine s_getf (v := .ref (q_b G + 145)) (nx := 188) hO rfl rfl (hs_o12 kc139) rfl rfl ?_
                          refine s_aload_n (nx := 189) hO rfl rfl rfl ?_
                          refine s_getf (v := .ref (q_b G + 159)) (nx := 192) hO rfl rfl (hs_o12 kc139) rfl rfl ?_
                          refine s_iload_n (nx := 193) hO rfl rfl rfl ?_
                          obtain ⟨b29, H⟩ := H
                          refine s_iald (nx := 194) hO rfl (hs_I kc159) b29 rfl ?_
                          obtain ⟨b30, H⟩ := H
                          refine s_iald (nx := 195) hO rfl (hs_I kc145) b30 rfl ?_
                          refine s_goto hO rfl ?_
                          exact xEx.loc (x_sub1 (List.Mem.tail _ (List.Mem.head _)) (x_sub1 (List.Mem.tail _ (List.Mem.tail _ (List.Mem.head _))) (x_sub1 (List.Mem.tail _ (List.Mem.tail _ (List.Mem.tail _ (List.Mem.head _)))) (x_sub1 (List.Mem.tail _ (List.Mem.tail _ (List.Mem.tail _ (List.Mem.tail _ (List.Mem.head _))))) (x_sub1 (List.Mem.tail _ (List.Mem.tail _ (List.Mem.tail _ (List.Mem.tail _ (List.Mem.tail _ (List.Mem.head _)))))) (x_sub1 (List.Mem.head _) x_sub0)))))) H
                      refine s_if_eq (nx := 166) hO rfl rfl (fun c163 => ?_) (fun c163 => ?_)
                      · replace H := H.1 c163
                        refine s_ldc_w (x := ((-2147483648))) (nx := 173) hO rfl rfl rfl ?_
                        exact xEx.loc (x_sub1 (List.Mem.tail _ (List.Mem.head _)) (x_sub1 (List.Mem.tail _ (List.Mem.tail _ (List.Mem.head _))) (x_sub1 (List.Mem.tail _ (List.Mem.tail _ (List.Mem.tail _ (List.Mem.head _)))) (x_sub1 (List.Mem.tail _ (List.Mem.tail _ (List.Mem.tail _ (List.Mem.tail _ (List.Mem.head _))))) (x_sub1 (List.Mem.head _) x_sub0))))) H
                      · replace H := H.2 c163
                        refine s_iconst (x := 0) (nx := 167) hO rfl (by decide) rfl ?_
                        refine s_goto hO rfl ?_
                        exact xEx.loc (x_sub1 (List.Mem.tail _ (List.Mem.head _)) (x_sub1 (List.Mem.tail _ (List.Mem.tail _ (List.Mem.head _))) (x_sub1 (List.Mem.tail _ (List.Mem.tail _ (List.Mem.tail _ (List.Mem.head _)))) (x_sub1 (List.Mem.tail _ (List.Mem.tail _ (List.Mem.tail _ (List.Mem.tail _ (List.Mem.head _))))) (x_sub1 (List.Mem.head _) x_sub0))))) H
                    refine s_if_eq (nx := 138) hO rfl rfl (fun c135 => ?_) (fun c135 => ?_)
                    · replace H := H.1 c135
                      refine s_aload_n (nx := 150) hO rfl rfl rfl ?_
                      refine s_getf (v := .ref (q_b G + 159)) (nx := 153) hO rfl rfl (hs_o12 kc139) rfl rfl ?_
                      refine s_iload_n (nx := 154) hO rfl rfl rfl ?_
                      obtain ⟨b31, H⟩ := H
                      refine s_iald (nx := 155) hO rfl (hs_I kc159) b31 rfl ?_
                      exact xEx.loc (x_sub1 (List.Mem.head _) (x_sub1 (List.Mem.tail _ (List.Mem.head _)) (x_sub1 (List.Mem.tail _ (List.Mem.tail _ (List.Mem.head _))) (x_sub1 (List.Mem.tail _ (List.Mem.tail _ (List.Mem.tail _ (List.Mem.head _)))) x_sub0)))) H
                    · replace H := H.2 c135
                      refine s_iconst (x := (nI 3)) (nx := 139) hO rfl (by decide) rfl ?_
                      refine s_aload_n (nx := 140) hO rfl rfl rfl ?_
                      refine s_getf (v := .ref (q_b G + 159)) (nx := 143) hO rfl rfl (hs_o12 kc139) rfl rfl ?_
                      refine s_iload_n (nx := 144) hO rfl rfl rfl ?_
                      obtain ⟨b32, H⟩ := H
                      refine s_iald (nx := 145) hO rfl (hs_I kc159) b32 rfl ?_
                      refine s_iadd (nx := 146) hO rfl rfl ?_
                      refine s_goto hO rfl ?_
                      exact xEx.loc (x_sub1 (List.Mem.head _) (x_sub1 (List.Mem.tail _ (List.Mem.head _)) (x_sub1 (List.Mem.tail _ (List.Mem.tail _ (List.Mem.head _))) (x_sub1 (List.Mem.tail _ (List.Mem.tail _ (List.Mem.tail _ (List.Mem.head _)))) x_sub0)))) H
                  refine s_if_ne (nx := 117) hO rfl rfl (fun c114 => ?_) (fun c114 => ?_)
                  · replace H := H.1 c114
                    exact xEx.loc (x_sub1 (List.Mem.tail _ (List.Mem.head _)) (x_sub1 (List.Mem.tail _ (List.Mem.tail _ (List.Mem.head _))) (x_sub1 (List.Mem.tail _ (List.Mem.tail _ (List.Mem.tail _ (List.Mem.head _)))) (x_sub1 (List.Mem.tail _ (List.Mem.tail _ (List.Mem.tail _ (List.Mem.tail _ (List.Mem.head _))))) x_sub0)))) H
                  · replace H := H.2 c114
                    refine s_aload_n (nx := 118) hO rfl rfl rfl ?_
                    refine s_getf (v := .ref (q_b G + 159)) (nx := 121) hO rfl rfl (hs_o12 kc139) rfl rfl ?_
                    refine s_iload_n (nx := 122) hO rfl rfl rfl ?_
                    obtain ⟨b33, H⟩ := H
                    refine s_iald (nx := 123) hO rfl (hs_I kc159) b33 rfl ?_
                    refine s_iload_n (nx := 124) hO rfl rfl rfl ?_
                    refine s_iconst (x := (nI 4)) (nx := 125) hO rfl (by decide) rfl ?_
                    refine s_irem (nx := 126) hO rfl (by decide) rfl ?_
                    refine s_icmp_ge (nx := 129) hO rfl rfl (fun c126 => ?_) (fun c126 => ?_)
                    · replace H := H.1 c126
                      exact xEx.loc (x_sub1 (List.Mem.tail _ (List.Mem.head _)) (x_sub1 (List.Mem.tail _ (List.Mem.tail _ (List.Mem.head _))) (x_sub1 (List.Mem.tail _ (List.Mem.tail _ (List.Mem.tail _ (List.Mem.head _)))) (x_sub1 (List.Mem.tail _ (List.Mem.tail _ (List.Mem.tail _ (List.Mem.tail _ (List.Mem.head _))))) x_sub0)))) H
                    · replace H := H.2 c126
                      exact xEx.loc (x_sub1 (List.Mem.tail _ (List.Mem.head _)) (x_sub1 (List.Mem.tail _ (List.Mem.tail _ (List.Mem.head _))) (x_sub1 (List.Mem.tail _ (List.Mem.tail _ (List.Mem.tail _ (List.Mem.head _)))) (x_sub1 (List.Mem.tail _ (List.Mem.tail _ (List.Mem.tail _ (List.Mem.tail _ (List.Mem.head _))))) x_sub0)))) H
              refine s_if_lt (nx := 86) hO rfl rfl (fun c83 => ?_) (fun c83 => ?_)
              · replace H := H.1 c83
                refine s_iconst (x := 1) (nx := 97) hO rfl (by decide) rfl ?_
                refine s_goto hO rfl ?_
                exact xEx.loc (x_sub1 (List.Mem.head _) (x_sub1 (List.Mem.tail _ (List.Mem.head _)) (x_sub1 (List.Mem.tail _ (List.Mem.tail _ (List.Mem.head _))) (x_sub1 (List.Mem.tail _ (List.Mem.tail _ (List.Mem.tail _ (List.Mem.head _)))) x_sub0)))) H
              · replace H := H.2 c83
                refine s_aload_n (nx := 87) hO rfl rfl rfl ?_
                refine s_getf (v := .ref (q_b G + 153)) (nx := 90) hO rfl rfl (hs_o12 kc139) rfl rfl ?_
                refine s_iload_n (nx := 91) hO rfl rfl rfl ?_
                obtain ⟨b34, H⟩ := H
                refine s_iald (nx := 92) hO rfl (hs_I kc153) b34 rfl ?_
                refine s_iload_n (nx := 93) hO rfl rfl rfl ?_
                refine s_icmp_ne (nx := 96) hO rfl rfl (fun c93 => ?_) (fun c93 => ?_)
                · replace H := H.1 c93
                  refine s_iconst (x := 0) (nx := 101) hO rfl (by decide) rfl ?_
                  exact xEx.loc (x_sub1 (List.Mem.head _) (x_sub1 (List.Mem.tail _ (List.Mem.head _)) (x_sub1 (List.Mem.tail _ (List.Mem.tail _ (List.Mem.head _))) (x_sub1 (List.Mem.tail _ (List.Mem.tail _ (List.Mem.tail _ (List.Mem.head _)))) x_sub0)))) H
                · replace H := H.2 c93
                  refine s_iconst (x := 1) (nx := 97) hO rfl (by decide) rfl ?_
                  refine s_goto hO rfl ?_
                  exact xEx.loc (x_sub1 (List.Mem.head _) (x_sub1 (List.Mem.tail _ (List.Mem.head _)) (x_sub1 (List.Mem.tail _ (List.Mem.tail _ (List.Mem.head _))) (x_sub1 (List.Mem.tail _ (List.Mem.tail _ (List.Mem.tail _ (List.Mem.head _)))) x_sub0)))) H
          refine goV ((sI s4 154 (ix x3))) (fun x35 ex35 => ?_)
          replace H := H x35 ex35
          refine e_istore_n (nx := 60) (l' := [(3, .int x35), (0, .ref (q_b G + 139)), (1, .int v1), (2, .int x3)]) ex35 hO rfl (by decide) rfl rfl ?_
          exact xEx.loc (x_sub1 (List.Mem.tail _ (List.Mem.head _)) (x_sub1 (List.Mem.tail _ (List.Mem.tail _ (List.Mem.head _))) (x_sub1 (List.Mem.tail _ (List.Mem.tail _ (List.Mem.tail _ (List.Mem.head _)))) (x_sub1 (List.Mem.head _) x_sub0)))) H
      refine s_istore_n (nx := 45) (l' := [(2, .int 0), (0, .ref (q_b G + 139)), (1, .int v1)]) hO rfl (by decide) rfl rfl ?_
      exact xEx.loc (x_sub1 (List.Mem.tail _ (List.Mem.head _)) (x_sub1 (List.Mem.tail _ (List.Mem.tail _ (List.Mem.head _))) (x_sub1 (List.Mem.head _) x_sub0))) H
    · replace H := H.2 c5
      refine s_aload_n (nx := 9) hO rfl rfl rfl ?_
      refine s_getf (v := .ref (q_b G + 169)) (nx := 12) hO rfl rfl (hs_o12 kc139) rfl rfl ?_
      refine s_iload_n (nx := 13) hO rfl rfl rfl ?_
      refine s_iconst (x := 1) (nx := 14) hO rfl (by decide) rfl ?_
      obtain ⟨b36, H⟩ := H
      refine goV (wI s2 169 (ix x1) 1) (fun s37 es37 => ?_)
      replace H := H s37 es37
      refine s_iast (nx := 15) hO rfl (hs_I kc169) b36 rfl ?_
      refine xEx.at (up_I kc169 es37) ?_
      refine s_aload_n (nx := 16) hO rfl rfl rfl ?_
      refine s_getf (v := .ref (q_b G + 168)) (nx := 19) hO rfl rfl (hs_o12 kc139) rfl rfl ?_
      refine s_sipush (x := (nI 2000)) (nx := 22) hO rfl (by decide) rfl ?_
      refine s_iload_n (nx := 23) hO rfl rfl rfl ?_
      refine s_imul (nx := 24) hO rfl rfl ?_
      refine s_iload_n (nx := 25) hO rfl rfl rfl ?_
      refine s_iconst (x := (nI 3)) (nx := 26) hO rfl (by decide) rfl ?_
      refine s_icmp_ge (nx := 29) hO rfl rfl (fun c26 => ?_) (fun c26 => ?_)
      · replace H := H.1 c26
        refine s_iconst (x := 0) (nx := 36) hO rfl (by decide) rfl ?_
        obtain ⟨b38, H⟩ := H
        refine goV (wI s37 168 (ix ((nI 2000) * x1)) 0) (fun s39 es39 => ?_)
        replace H := H s39 es39
        refine s_iast (nx := 37) hO rfl (hs_I kc168) b38 rfl ?_
        refine xEx.at (up_I kc168 es39) ?_
        refine goV ((x1 + 1)) (fun x40 ex40 => ?_)
        replace H := H x40 ex40
        refine e_iinc (nx := 40) (l' := [(2, .int x40), (0, .ref (q_b G + 139)), (1, .int v1)]) ex40 hO rfl (by decide) rfl rfl rfl rfl ?_
        refine s_goto hO rfl ?_
        exact xEx.loc (x_sub1 (List.Mem.tail _ (List.Mem.head _)) (x_sub1 (List.Mem.tail _ (List.Mem.tail _ (List.Mem.head _))) (x_sub1 (List.Mem.head _) x_sub0))) H
      · replace H := H.2 c26
        refine s_ldc_w (x := ((-2147483648))) (nx := 32) hO rfl rfl rfl ?_
        refine s_goto hO rfl ?_
        obtain ⟨b41, H⟩ := H
        refine goV (wI s37 168 (ix ((nI 2000) * x1)) ((-2147483648))) (fun s42 es42 => ?_)
        replace H := H s42 es42
        refine s_iast (nx := 37) hO rfl (hs_I kc168) b41 rfl ?_
        refine xEx.at (up_I kc168 es42) ?_
        refine goV ((x1 + 1)) (fun x43 ex43 => ?_)
        replace H := H x43 ex43
        refine e_iinc (nx := 40) (l' := [(2, .int x43), (0, .ref (q_b G + 139)), (1, .int v1)]) ex43 hO rfl (by decide) rfl rfl rfl rfl ?_
        refine s_goto hO rfl ?_
        exact xEx.loc (x_sub1 (List.Mem.tail _ (List.Mem.head _)) (x_sub1 (List.Mem.tail _ (List.Mem.tail _ (List.Mem.head _))) (x_sub1 (List.Mem.head _) x_sub0))) H
  refine s_istore_n (nx := 2) (l' := [(2, .int 0), (0, .ref (q_b G + 139)), (1, .int v1)]) hO rfl (by decide) rfl rfl ?_
  exact xEx.loc (x_sub1 (List.Mem.tail _ (List.Mem.head _)) (x_sub1 (List.Mem.tail _ (List.Mem.tail _ (List.Mem.head _))) (x_sub1 (List.Mem.head _) x_sub0))) H

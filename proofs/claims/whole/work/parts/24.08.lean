def W_X11_lookAt (s : yS) (v1 : Int32) (Q : Int32 → Prop) : Prop :=
 ((((v1).toInt < 0 ∨ 13 < (v1).toInt) → Q (-1))
 ∧ ((v1).toInt = 0 → ∃ p1 : Nat, sR s 0 6 = p1 + 1 ∧ kd p1 = some (7, 0) ∧ 
   Q (sI s p1 0))
 ∧ ((v1).toInt = 1 → ∃ p2 : Nat, sR s 0 6 = p2 + 1 ∧ kd p2 = some (7, 0) ∧ 
   Q (sI s p2 1))
 ∧ ((v1).toInt = 2 → ∃ p3 : Nat, sR s 0 6 = p3 + 1 ∧ kd p3 = some (7, 0) ∧ 
   W_X1_count s (p3 + 10) 
   (fun r4 => Q r4))
 ∧ ((v1).toInt = 3 → ∃ p5 : Nat, sR s 0 6 = p5 + 1 ∧ kd p5 = some (7, 0) ∧ 
   Q (sI s p5 2))
 ∧ ((v1).toInt = 4 → ∃ p6 : Nat, sR s 0 6 = p6 + 1 ∧ kd p6 = some (7, 0) ∧ 
   Q (sI s p6 3))
 ∧ ((v1).toInt = 5 → (((sI s 0 11) = 0 → Q (-1))
   ∧ (¬ (sI s 0 11) = 0 → ∃ p7 : Nat, sR s 0 8 = p7 + 1 ∧ kd p7 = some (9, 0) ∧ 
    Q (sI s p7 0))))
 ∧ ((v1).toInt = 6 → (((sI s 0 11) = 0 → Q (-1))
   ∧ (¬ (sI s 0 11) = 0 → ∃ p8 : Nat, sR s 0 8 = p8 + 1 ∧ kd p8 = some (9, 0) ∧ 
    W_X5_codeCount s p8 
    (fun r9 => Q r9))))
 ∧ ((v1).toInt = 7 → (((sI s 0 12) = 0 → Q (-1))
   ∧ (¬ (sI s 0 12) = 0 → ∃ p10 : Nat, sR s 0 9 = p10 + 1 ∧ kd p10 = some (9, 0) ∧ 
    W_X5_codeCount s p10 
    (fun r11 => Q r11))))
 ∧ ((v1).toInt = 8 → Q (sI s 123 2))
 ∧ ((v1).toInt = 9 → Q (sI s 0 2))
 ∧ ((v1).toInt = 10 → Q (sI s 0 3))
 ∧ ((v1).toInt = 11 → Q (sI s 0 4))
 ∧ ((v1).toInt = 12 → Q (sI s 0 5))
 ∧ ((v1).toInt = 13 → Q (sI s 136 0)))
set_option maxRecDepth 100000 in
set_option maxHeartbeats 40000000 in
theorem w_X11_lookAt {G : xG} (hG : yG G) {z : Nat} {s : yS} {v1 : Int32} {Q : Int32 → Prop} (H : W_X11_lookAt s v1 Q) : xC G mX11_lookAt [.ref (q_b G + 0), .int v1] (hS G s) z 0 0 (yPi G z s Q) := by
  have hW := hG.1
  have hcl := hG.2.1
  have hty := hG.2.2.1
  have hO : xO G mX11_lookAt tbX11_lookAt ptX11_lookAt := ⟨tkX11_lookAt, pkX11_lookAt hcl⟩
  unfold W_X11_lookAt at H
  refine xC.of hW (by decide) rfl (Nat.le_of_ble_eq_true rfl) ?_
  refine s_iload_n (nx := 1) hO rfl rfl rfl ?_
  refine s_switch hO rfl (fun c1 => ?_) (fun dc1 fc1 => ?_)
  · replace H := H.1 c1
    refine s_iconst (x := (-1)) (nx := 209) hO rfl (by decide) rfl ?_
    exact s_iret hO rfl rfl rfl ⟨rfl, _, rfl, rfl, H⟩
  · obtain c1 | c1 | c1 | c1 | c1 | c1 | c1 | c1 | c1 | c1 | c1 | c1 | c1 | c1 : (v1).toInt = 0 ∨ (v1).toInt = 1 ∨ (v1).toInt = 2 ∨ (v1).toInt = 3 ∨ (v1).toInt = 4 ∨ (v1).toInt = 5 ∨ (v1).toInt = 6 ∨ (v1).toInt = 7 ∨ (v1).toInt = 8 ∨ (v1).toInt = 9 ∨ (v1).toInt = 10 ∨ (v1).toInt = 11 ∨ (v1).toInt = 12 ∨ (v1).toInt = 13 := by omega
    · replace H := H.2.1 c1
      refine ⟨72, by rw [c1]; rfl, ?_⟩
      refine s_aload_n (nx := 73) hO rfl rfl rfl ?_
      obtain ⟨p1, ep1, kp1, H⟩ := H
      refine s_getf (v := .ref (q_b G + p1)) (nx := 76) hO rfl rfl (hs_o11 kc0) (congrArg (fun q => some (Value.ref q)) (hv_11 ep1)) rfl ?_
      refine s_getf (v := .int (sI s p1 0)) (nx := 79) hO rfl rfl (hs_o3 kp1) rfl rfl ?_
      exact s_iret hO rfl rfl rfl ⟨rfl, _, rfl, rfl, H⟩
    · replace H := H.2.2.1 c1
      refine ⟨80, by rw [c1]; rfl, ?_⟩
      refine s_aload_n (nx := 81) hO rfl rfl rfl ?_
      obtain ⟨p2, ep2, kp2, H⟩ := H
      refine s_getf (v := .ref (q_b G + p2)) (nx := 84) hO rfl rfl (hs_o11 kc0) (congrArg (fun q => some (Value.ref q)) (hv_11 ep2)) rfl ?_
      refine s_getf (v := .int (sI s p2 1)) (nx := 87) hO rfl rfl (hs_o3 kp2) rfl rfl ?_
      exact s_iret hO rfl rfl rfl ⟨rfl, _, rfl, rfl, H⟩
    · replace H := H.2.2.2.1 c1
      refine ⟨88, by rw [c1]; rfl, ?_⟩
      refine s_aload_n (nx := 89) hO rfl rfl rfl ?_
      obtain ⟨p3, ep3, kp3, H⟩ := H
      refine s_getf (v := .ref (q_b G + p3)) (nx := 92) hO rfl rfl (hs_o11 kc0) (congrArg (fun q => some (Value.ref q)) (hv_11 ep3)) rfl ?_
      refine s_getf (v := .ref (q_b G + (p3 + 10))) (nx := 95) hO rfl rfl (hs_o3 kp3) rfl rfl ?_
      refine s_callV [] (ci := 1) (F := TX1) (N := 3) (nx := 98) hO rfl kX11_lookAt_228 (by rw [hcl]; rfl) (hs_o1 (kf3_16 kp3)) (w_X1_count hG (kf3_16 kp3) H) rfl rfl (Nat.le_of_ble_eq_true rfl) (Nat.zero_le _) (Nat.zero_le _) rfl (k_Pi (fun r4 H => ?_))
      exact s_iret hO rfl rfl rfl ⟨rfl, _, rfl, rfl, H⟩
    · replace H := H.2.2.2.2.1 c1
      refine ⟨99, by rw [c1]; rfl, ?_⟩
      refine s_aload_n (nx := 100) hO rfl rfl rfl ?_
      obtain ⟨p5, ep5, kp5, H⟩ := H
      refine s_getf (v := .ref (q_b G + p5)) (nx := 103) hO rfl rfl (hs_o11 kc0) (congrArg (fun q => some (Value.ref q)) (hv_11 ep5)) rfl ?_
      refine s_getf (v := .int (sI s p5 2)) (nx := 106) hO rfl rfl (hs_o3 kp5) rfl rfl ?_
      exact s_iret hO rfl rfl rfl ⟨rfl, _, rfl, rfl, H⟩
    · replace H := H.2.2.2.2.2.1 c1
      refine ⟨107, by rw [c1]; rfl, ?_⟩
      refine s_aload_n (nx := 108) hO rfl rfl rfl ?_
      obtain ⟨p6, ep6, kp6, H⟩ := H
      refine s_getf (v := .ref (q_b G + p6)) (nx := 111) hO rfl rfl (hs_o11 kc0) (congrArg (fun q => some (Value.ref q)) (hv_11 ep6)) rfl ?_
      refine s_getf (v := .int (sI s p6 3)) (nx := 114) hO rfl rfl (hs_o3 kp6) rfl rfl ?_
      exact s_iret hO rfl rfl rfl ⟨rfl, _, rfl, rfl, H⟩
    · replace H := H.2.2.2.2.2.2.1 c1
      refine ⟨115, by rw [c1]; rfl, ?_⟩
      refine s_aload_n (nx := 116) hO rfl rfl rfl ?_
      refine s_getf (v := .int (sI s 0 11)) (nx := 119) hO rfl rfl (hs_o11 kc0) rfl rfl ?_
      refine s_if_eq (nx := 122) hO rfl rfl (fun c119 => ?_) (fun c119 => ?_)
      · replace H := H.1 c119
        refine s_iconst (x := (-1)) (nx := 133) hO rfl (by decide) rfl ?_
        exact s_iret hO rfl rfl rfl ⟨rfl, _, rfl, rfl, H⟩
      · replace H := H.2 c119
        refine s_aload_n (nx := 123) hO rfl rfl rfl ?_
        obtain ⟨p7, ep7, kp7, H⟩ := H
        refine s_getf (v := .ref (q_b G + p7)) (nx := 126) hO rfl rfl (hs_o11 kc0) (congrArg (fun q => some (Value.ref q)) (hv_11 ep7)) rfl ?_
        refine s_getf (v := .int (sI s p7 0)) (nx := 129) hO rfl rfl (hs_o5 kp7) rfl rfl ?_
        refine s_goto hO rfl ?_
        exact s_iret hO rfl rfl rfl ⟨rfl, _, rfl, rfl, H⟩
    · replace H := H.2.2.2.2.2.2.2.1 c1
      refine ⟨134, by rw [c1]; rfl, ?_⟩
      refine s_aload_n (nx := 135) hO rfl rfl rfl ?_
      refine s_getf (v := .int (sI s 0 11)) (nx := 138) hO rfl rfl (hs_o11 kc0) rfl rfl ?_
      refine s_if_eq (nx := 141) hO rfl rfl (fun c138 => ?_) (fun c138 => ?_)
      · replace H := H.1 c138
        refine s_iconst (x := (-1)) (nx := 152) hO rfl (by decide) rfl ?_
        exact s_iret hO rfl rfl rfl ⟨rfl, _, rfl, rfl, H⟩
      · replace H := H.2 c138
        refine s_aload_n (nx := 142) hO rfl rfl rfl ?_
        obtain ⟨p8, ep8, kp8, H⟩ := H
        refine s_getf (v := .ref (q_b G + p8)) (nx := 145) hO rfl rfl (hs_o11 kc0) (congrArg (fun q => some (Value.ref q)) (hv_11 ep8)) rfl ?_
        refine s_callV [] (ci := 5) (F := TX5) (N := 19) (nx := 148) hO rfl kX11_lookAt_290 (by rw [hcl]; rfl) (hs_o5 kp8) (w_X5_codeCount hG kp8 H) rfl rfl (Nat.le_of_ble_eq_true rfl) (Nat.zero_le _) (Nat.zero_le _) rfl (k_Pi (fun r9 H => ?_))
        refine s_goto hO rfl ?_
        exact s_iret hO rfl rfl rfl ⟨rfl, _, rfl, rfl, H⟩
    · replace H := H.2.2.2.2.2.2.2.2.1 c1
      refine ⟨153, by rw [c1]; rfl, ?_⟩
      refine s_aload_n (nx := 154) hO rfl rfl rfl ?_
      refine s_getf (v := .int (sI s 0 12)) (nx := 157) hO rfl rfl (hs_o11 kc0) rfl rfl ?_
      refine s_if_eq (nx := 160) hO rfl rfl (fun c157 => ?_) (fun c157 => ?_)
      · replace H := H.1 c157
        refine s_iconst (x := (-1)) (nx := 171) hO rfl (by decide) rfl ?_
        exact s_iret hO rfl rfl rfl ⟨rfl, _, rfl, rfl, H⟩
      · replace H := H.2 c157
        refine s_aload_n (nx := 161) hO rfl rfl rfl ?_
        obtain ⟨p10, ep10, kp10, H⟩ := H
        refine s_getf (v := .ref (q_b G + p10)) (nx := 164) hO rfl rfl (hs_o11 kc0) (congrArg (fun q => some (Value.ref q)) (hv_11 ep10)) rfl ?_
        refine s_callV [] (ci := 5) (F := TX5) (N := 19) (nx := 167) hO rfl kX11_lookAt_290 (by rw [hcl]; rfl) (hs_o5 kp10) (w_X5_codeCount hG kp10 H) rfl rfl (Nat.le_of_ble_eq_true rfl) (Nat.zero_le _) (Nat.zero_le _) rfl (k_Pi (fun r11 H => ?_))
        refine s_goto hO rfl ?_
        exact s_iret hO rfl rfl rfl ⟨rfl, _, rfl, rfl, H⟩
    · replace H := H.2.2.2.2.2.2.2.2.2.1 c1
      refine ⟨172, by rw [c1]; rfl, ?_⟩
      refine s_aload_n (nx := 173) hO rfl rfl rfl ?_
      refine s_getf (v := .ref (q_b G + 123)) (nx := 176) hO rfl rfl (hs_o11 kc0) rfl rfl ?_
      refine s_getf (v := .int (sI s 123 2)) (nx := 179) hO rfl rfl (hs_o2 kc123) rfl rfl ?_
      exact s_iret hO rfl rfl rfl ⟨rfl, _, rfl, rfl, H⟩
    · replace H := H.2.2.2.2.2.2.2.2.2.2.1 c1
      refine ⟨180, by rw [c1]; rfl, ?_⟩
      refine s_aload_n (nx := 181) hO rfl rfl rfl ?_
      refine s_getf (v := .int (sI s 0 2)) (nx := 184) hO rfl rfl (hs_o11 kc0) rfl rfl ?_
      exact s_iret hO rfl rfl rfl ⟨rfl, _, rfl, rfl, H⟩
    · replace H := H.2.2.2.2.2.2.2.2.2.2.2.1 c1
      refine ⟨185, by rw [c1]; rfl, ?_⟩
      refine s_aload_n (nx := 186) hO rfl rfl rfl ?_
      refine s_getf (v := .int (sI s 0 3)) (nx := 189) hO rfl rfl (hs_o11 kc0) rfl rfl ?_
      exact s_iret hO rfl rfl rfl ⟨rfl, _, rfl, rfl, H⟩
    · replace H := H.2.2.2.2.2.2.2.2.2.2.2.2.1 c1
      refine ⟨190, by rw [c1]; rfl, ?_⟩
      refine s_aload_n (nx := 191) hO rfl rfl rfl ?_
      refine s_getf (v := .int (sI s 0 4)) (nx := 194) hO rfl rfl (hs_o11 kc0) rfl rfl ?_
      exact s_iret hO rfl rfl rfl ⟨rfl, _, rfl, rfl, H⟩
    · replace H := H.2.2.2.2.2.2.2.2.2.2.2.2.2.1 c1
      refine ⟨195, by rw [c1]; rfl, ?_⟩
      refine s_aload_n (nx := 196) hO rfl rfl rfl ?_
      refine s_getf (v := .int (sI s 0 5)) (nx := 199) hO rfl rfl (hs_o11 kc0) rfl rfl ?_
      exact s_iret hO rfl rfl rfl ⟨rfl, _, rfl, rfl, H⟩
    · replace H := H.2.2.2.2.2.2.2.2.2.2.2.2.2.2 c1
      refine ⟨200, by rw [c1]; rfl, ?_⟩
      refine s_aload_n (nx := 201) hO rfl rfl rfl ?_
      refine s_getf (v := .ref (q_b G + 136)) (nx := 204) hO rfl rfl (hs_o11 kc0) rfl rfl ?_
      refine s_getf (v := .int (sI s 136 0)) (nx := 207) hO rfl rfl (hs_o10 kc136) rfl rfl ?_
      exact s_iret hO rfl rfl rfl ⟨rfl, _, rfl, rfl, H⟩
def W_X12_letterAt (s : yS) (v1 : Int32) (Q : Int32 → Prop) : Prop :=
 (((sI s 139 9) ≤ v1 → Q 0)
 ∧ (¬ (sI s 139 9) ≤ v1 → vp_in v1 8192 ∧ 
  Q (sI s 143 (ix v1))))
set_option maxRecDepth 100000 in
set_option maxHeartbeats 40000000 in
theorem w_X12_letterAt {G : xG} (hG : yG G) {z : Nat} {s : yS} {v1 : Int32} {Q : Int32 → Prop} (H : W_X12_letterAt s v1 Q) : xC G mX12_letterAt [.ref (q_b G + 139), .int v1] (hS G s) z 0 0 (yPi G z s Q) := by
  have hW := hG.1
  have hcl := hG.2.1
  have hty := hG.2.2.1
  have hO : xO G mX12_letterAt tbX12_letterAt ptX12_letterAt := ⟨tkX12_letterAt, pkX12_letterAt hcl⟩
  unfold W_X12_letterAt at H
  refine xC.of hW (by decide) rfl (Nat.le_of_ble_eq_true rfl) ?_
  refine s_iload_n (nx := 1) hO rfl rfl rfl ?_
  refine s_aload_n (nx := 2) hO rfl rfl rfl ?_
  refine s_getf (v := .int (sI s 139 9)) (nx := 5) hO rfl rfl (hs_o12 kc139) rfl rfl ?_
  refine s_icmp_ge (nx := 8) hO rfl rfl (fun c5 => ?_) (fun c5 => ?_)
  · replace H := H.1 c5
    refine s_iconst (x := 0) (nx := 18) hO rfl (by decide) rfl ?_
    exact s_iret hO rfl rfl rfl ⟨rfl, _, rfl, rfl, H⟩
  · replace H := H.2 c5
    refine s_aload_n (nx := 9) hO rfl rfl rfl ?_
    refine s_getf (v := .ref (q_b G + 143)) (nx := 12) hO rfl rfl (hs_o12 kc139) rfl rfl ?_
    refine s_iload_n (nx := 13) hO rfl rfl rfl ?_
    obtain ⟨b1, H⟩ := H
    refine s_iald (nx := 14) hO rfl (hs_I kc143) b1 rfl ?_
    refine s_goto hO rfl ?_
    exact s_iret hO rfl rfl rfl ⟨rfl, _, rfl, rfl, H⟩
def W_X12_isDigit (s : yS) (v1 : Int32) (Q : Int32 → Prop) : Prop :=
 ((v1 < (nI 48) → Q 0)
 ∧ (¬ v1 < (nI 48) → (((nI 57) < v1 → Q 0)
  ∧ (¬ (nI 57) < v1 → Q 1))))
set_option maxRecDepth 100000 in
set_option maxHeartbeats 40000000 in
theorem w_X12_isDigit {G : xG} (hG : yG G) {z : Nat} {s : yS} {v1 : Int32} {Q : Int32 → Prop} (H : W_X12_isDigit s v1 Q) : xC G mX12_isDigit [.int v1] (hS G s) z 0 0 (yPi G z s Q) := by
  have hW := hG.1
  have hcl := hG.2.1
  have hty := hG.2.2.1
  have hO : xO G mX12_isDigit tbX12_isDigit ptX12_isDigit := ⟨tkX12_isDigit, pkX12_isDigit hcl⟩
  unfold W_X12_isDigit at H
  refine xC.of hW (by decide) rfl (Nat.le_of_ble_eq_true rfl) ?_
  refine s_iload_n (nx := 1) hO rfl rfl rfl ?_
  refine s_bipush (x := (nI 48)) (nx := 3) hO rfl (by decide) rfl ?_
  refine s_icmp_lt (nx := 6) hO rfl rfl (fun c3 => ?_) (fun c3 => ?_)
  · replace H := H.1 c3
    refine s_iconst (x := 0) (nx := 17) hO rfl (by decide) rfl ?_
    exact s_iret hO rfl rfl rfl ⟨rfl, _, rfl, rfl, H⟩
  · replace H := H.2 c3
    refine s_iload_n (nx := 7) hO rfl rfl rfl ?_
    refine s_bipush (x := (nI 57)) (nx := 9) hO rfl (by decide) rfl ?_
    refine s_icmp_gt (nx := 12) hO rfl rfl (fun c9 => ?_) (fun c9 => ?_)
    · replace H := H.1 c9
      refine s_iconst (x := 0) (nx := 17) hO rfl (by decide) rfl ?_
      exact s_iret hO rfl rfl rfl ⟨rfl, _, rfl, rfl, H⟩
    · replace H := H.2 c9
      refine s_iconst (x := 1) (nx := 13) hO rfl (by decide) rfl ?_
      refine s_goto hO rfl ?_
      exact s_iret hO rfl rfl rfl ⟨rfl, _, rfl, rfl, H⟩
def W_X12_isSmall (s : yS) (v1 : Int32) (Q : Int32 → Prop) : Prop :=
 ((v1 < (nI 97) → Q 0)
 ∧ (¬ v1 < (nI 97) → (((nI 122) < v1 → Q 0)
  ∧ (¬ (nI 122) < v1 → Q 1))))
set_option maxRecDepth 100000 in
set_option maxHeartbeats 40000000 in
theorem w_X12_isSmall {G : xG} (hG : yG G) {z : Nat} {s : yS} {v1 : Int32} {Q : Int32 → Prop} (H : W_X12_isSmall s v1 Q) : xC G mX12_isSmall [.int v1] (hS G s) z 0 0 (yPi G z s Q) := by
  have hW := hG.1
  have hcl := hG.2.1
  have hty := hG.2.2.1
  have hO : xO G mX12_isSmall tbX12_isSmall ptX12_isSmall := ⟨tkX12_isSmall, pkX12_isSmall hcl⟩
  unfold W_X12_isSmall at H
  refine xC.of hW (by decide) rfl (Nat.le_of_ble_eq_true rfl) ?_
  refine s_iload_n (nx := 1) hO rfl rfl rfl ?_
  refine s_bipush (x := (nI 97)) (nx := 3) hO rfl (by decide) rfl ?_
  refine s_icmp_lt (nx := 6) hO rfl rfl (fun c3 => ?_) (fun c3 => ?_)
  · replace H := H.1 c3
    refine s_iconst (x := 0) (nx := 17) hO rfl (by decide) rfl ?_
    exact s_iret hO rfl rfl rfl ⟨rfl, _, rfl, rfl, H⟩
  · replace H := H.2 c3
    refine s_iload_n (nx := 7) hO rfl rfl rfl ?_
    refine s_bipush (x := (nI 122)) (nx := 9) hO rfl (by decide) rfl ?_
    refine s_icmp_gt (nx := 12) hO rfl rfl (fun c9 => ?_) (fun c9 => ?_)
    · replace H := H.1 c9
      refine s_iconst (x := 0) (nx := 17) hO rfl (by decide) rfl ?_
      exact s_iret hO rfl rfl rfl ⟨rfl, _, rfl, rfl, H⟩
    · replace H := H.2 c9
      refine s_iconst (x := 1) (nx := 13) hO rfl (by decide) rfl ?_
      refine s_goto hO rfl ?_
      exact s_iret hO rfl rfl rfl ⟨rfl, _, rfl, rfl, H⟩
def W_X12_isOfWord (s : yS) (v1 : Int32) (Q : Int32 → Prop) : Prop :=
 W_X12_isDigit s v1 
 (fun r1 => ((¬ r1 = 0 → Q 1)
 ∧ (r1 = 0 → W_X12_isSmall s v1 
  (fun r2 => ((¬ r2 = 0 → Q 1)
  ∧ (r2 = 0 → ((¬ v1 = (nI 45) → Q 0)
   ∧ (v1 = (nI 45) → Q 1))))))))
set_option maxRecDepth 100000 in
set_option maxHeartbeats 40000000 in
theorem w_X12_isOfWord {G : xG} (hG : yG G) {z : Nat} {s : yS} {v1 : Int32} {Q : Int32 → Prop} (H : W_X12_isOfWord s v1 Q) : xC G mX12_isOfWord [.int v1] (hS G s) z 0 0 (yPi G z s Q) := by
  have hW := hG.1
  have hcl := hG.2.1
  have hty := hG.2.2.1
  have hO : xO G mX12_isOfWord tbX12_isOfWord ptX12_isOfWord := ⟨tkX12_isOfWord, pkX12_isOfWord hcl⟩
  unfold W_X12_isOfWord at H
  refine xC.of hW (by decide) rfl (Nat.le_of_ble_eq_true rfl) ?_
  refine s_iload_n (nx := 1) hO rfl rfl rfl ?_
  refine s_callS [.int v1] (nx := 4) hO rfl kX12_isOfWord_280 (w_X12_isDigit hG H) rfl rfl (Nat.le_of_ble_eq_true rfl) (Nat.zero_le _) (Nat.zero_le _) rfl (k_Pi (fun r1 H => ?_))
  refine s_if_ne (nx := 7) hO rfl rfl (fun c4 => ?_) (fun c4 => ?_)
  · replace H := H.1 c4
    refine s_iconst (x := 1) (nx := 21) hO rfl (by decide) rfl ?_
    refine s_goto hO rfl ?_
    exact s_iret hO rfl rfl rfl ⟨rfl, _, rfl, rfl, H⟩
  · replace H := H.2 c4
    refine s_iload_n (nx := 8) hO rfl rfl rfl ?_
    refine s_callS [.int v1] (nx := 11) hO rfl kX12_isOfWord_284 (w_X12_isSmall hG H) rfl rfl (Nat.le_of_ble_eq_true rfl) (Nat.zero_le _) (Nat.zero_le _) rfl (k_Pi (fun r2 H => ?_))
    refine s_if_ne (nx := 14) hO rfl rfl (fun c11 => ?_) (fun c11 => ?_)
    · replace H := H.1 c11
      refine s_iconst (x := 1) (nx := 21) hO rfl (by decide) rfl ?_
      refine s_goto hO rfl ?_
      exact s_iret hO rfl rfl rfl ⟨rfl, _, rfl, rfl, H⟩
    · replace H := H.2 c11
      refine s_iload_n (nx := 15) hO rfl rfl rfl ?_
      refine s_bipush (x := (nI 45)) (nx := 17) hO rfl (by decide) rfl ?_
      refine s_icmp_ne (nx := 20) hO rfl rfl (fun c17 => ?_) (fun c17 => ?_)
      · replace H := H.1 c17
        refine s_iconst (x := 0) (nx := 25) hO rfl (by decide) rfl ?_
        exact s_iret hO rfl rfl rfl ⟨rfl, _, rfl, rfl, H⟩
      · replace H := H.2 c17
        refine s_iconst (x := 1) (nx := 21) hO rfl (by decide) rfl ?_
        refine s_goto hO rfl ?_
        exact s_iret hO rfl rfl rfl ⟨rfl, _, rfl, rfl, H⟩
def W_X12_wrong (s : yS) (v1 : Int32) (v2 : Int32) (Q : yS → Prop) : Prop :=
 ((¬ (sI s 139 15) = 0 → Q s)
 ∧ ((sI s 139 15) = 0 → ∀ s1 : yS, s1 = wI s 139 15 v1 → 
  ∀ s2 : yS, s2 = wI s1 139 16 v2 → 
  Q s2))
set_option maxRecDepth 100000 in
set_option maxHeartbeats 40000000 in
theorem w_X12_wrong {G : xG} (hG : yG G) {z : Nat} {s : yS} {v1 : Int32} {v2 : Int32} {Q : yS → Prop} (H : W_X12_wrong s v1 v2 Q) : xC G mX12_wrong [.ref (q_b G + 139), .int v1, .int v2] (hS G s) z 0 0 (yQv G z Q) := by
  have hW := hG.1
  have hcl := hG.2.1
  have hty := hG.2.2.1
  have hO : xO G mX12_wrong tbX12_wrong ptX12_wrong := ⟨tkX12_wrong, pkX12_wrong hcl⟩
  unfold W_X12_wrong at H
  refine xC.of hW (by decide) rfl (Nat.le_of_ble_eq_true rfl) ?_
  refine s_aload_n (nx := 1) hO rfl rfl rfl ?_
  refine s_getf (v := .int (sI s 139 15)) (nx := 4) hO rfl rfl (hs_o12 kc139) rfl rfl ?_
  refine s_if_ne (nx := 7) hO rfl rfl (fun c4 => ?_) (fun c4 => ?_)
  · replace H := H.1 c4
    exact s_vret hO rfl rfl ⟨rfl, _, rfl, rfl, H⟩
  · replace H := H.2 c4
    refine s_aload_n (nx := 8) hO rfl rfl rfl ?_
    refine s_iload_n (nx := 9) hO rfl rfl rfl ?_
    refine goV (wI s 139 15 v1) (fun s1 es1 => ?_)
    replace H := H s1 es1
    refine s_putf (nx := 12) hO rfl rfl (hs_o12 kc139) (Nat.le_of_ble_eq_true rfl) (by rw [hty]; rfl) (by rw [hty]; rfl) pX12_15 rfl ?_
    refine xEx.at (up_oI12 kc139 es1) ?_
    refine s_aload_n (nx := 13) hO rfl rfl rfl ?_
    refine s_iload_n (nx := 14) hO rfl rfl rfl ?_
    refine goV (wI s1 139 16 v2) (fun s2 es2 => ?_)
    replace H := H s2 es2
    refine s_putf (nx := 17) hO rfl rfl (hs_o12 kc139) (Nat.le_of_ble_eq_true rfl) (by rw [hty]; rfl) (by rw [hty]; rfl) pX12_16 rfl ?_
    refine xEx.at (up_oI12 kc139 es2) ?_
    exact s_vret hO rfl rfl ⟨rfl, _, rfl, rfl, H⟩
def W_X12_takeName (s : yS) (v1 : Int32) (Q : yS → Prop) : Prop :=
 ∀ s1 : yS, s1 = wI s 139 11 (nI 2) → 
 ∀ s2 : yS, s2 = wJ s1 139 13 0 → 
 ∀ P26 : Int32 → Prop, (∀ (y3 : Int32), (∀ P32 : Int32 → Int32 → yS → Prop, (∀ (x4 : Int32) (x5 : Int32) (s6 : yS), (∀ P81 : Prop, ((((¬ x4 = 0 → Q s6)
    ∧ (x4 = 0 → W_X12_wrong s6 1 (sI s6 139 10) 
     (fun s7 => Q s7)))) → P81) → 
   ((v1 ≤ x5 → P81)
   ∧ (¬ v1 ≤ x5 → ((x4 = 0 → P81)
    ∧ (¬ x4 = 0 → vp_in x5 8192 ∧ 
     W_X12_isSmall s6 (sI s6 143 (ix x5)) 
     (fun r9 => vp_in x5 8192 ∧ 
     ∀ s11 : yS, s11 = wJ s6 139 13 (((((27)) * (sJ s6 139 13)) + ((sI s6 143 (ix x5))).toInt64) - ((96))) → 
     ∀ x12 : Int32, x12 = (x5 + 1) → 
     P32 r9 x12 s11)))))) → P32 x4 x5 s6) → 
  ∀ x13 : Int32, x13 = (sI s2 139 10) → 
  P32 y3 x13 s2) → P26 y3) → 
 (((nI 13) ≤ (v1 - (sI s2 139 10)) → P26 0)
 ∧ (¬ (nI 13) ≤ (v1 - (sI s2 139 10)) → P26 1))
set_option maxRecDepth 100000 in
set_option maxHeartbeats 40000000 in
theorem w_X12_takeName {G : xG} (hG : yG G) {z : Nat} {s : yS} {v1 : Int32} {Q : yS → Prop} (H : W_X12_takeName s v1 Q) : xC G mX12_takeName [.ref (q_b G + 139), .int v1] (hS G s) z 0 0 (yQv G z Q) := by
  have hW := hG.1
  have hcl := hG.2.1
  have hty := hG.2.2.1
  have hO : xO G mX12_takeName tbX12_takeName ptX12_takeName := ⟨tkX12_takeName, pkX12_takeName hcl⟩
  unfold W_X12_takeName at H
  refine xC.of hW (by decide) rfl (Nat.le_of_ble_eq_true rfl) ?_
  refine s_aload_n (nx := 1) hO rfl rfl rfl ?_
  refine s_iconst (x := (nI 2)) (nx := 2) hO rfl (by decide) rfl ?_
  refine goV (wI s 139 11 (nI 2)) (fun s1 es1 => ?_)
  replace H := H s1 es1
  refine s_putf (nx := 5) hO rfl rfl (hs_o12 kc139) (Nat.le_of_ble_eq_true rfl) (by rw [hty]; rfl) (by rw [hty]; rfl) pX12_11 rfl ?_
  refine xEx.at (up_oI12 kc139 es1) ?_
  refine s_aload_n (nx := 6) hO rfl rfl rfl ?_
  refine s_lconst (x := 0) (nx := 7) hO rfl (by decide) rfl ?_
  refine goV (wJ s1 139 13 0) (fun s2 es2 => ?_)
  replace H := H s2 es2
  refine s_putf (nx := 10) hO rfl rfl (hs_o12 kc139) (Nat.le_of_ble_eq_true rfl) (by rw [hty]; rfl) (by rw [hty]; rfl) pX12_13 rfl ?_
  refine xEx.at (up_oJ12 kc139 es2) ?_
  refine s_iload_n (nx := 11) hO rfl rfl rfl ?_
  refine s_aload_n (nx := 12) hO rfl rfl rfl ?_
  refine s_getf (v := .int (sI s2 139 10)) (nx := 15) hO rfl rfl (hs_o12 kc139) rfl rfl ?_
  refine s_isub (nx := 16) hO rfl rfl ?_
  refine s_bipush (x := (nI 13)) (nx := 18) hO rfl (by decide) rfl ?_
  refine goK (H (fun (y3 : Int32) => xEx G mX12_takeName 26 [(0, .ref (q_b G + 139)), (1, .int v1)] [.int y3] (hS G s2) z 0 0 (yQv G z Q)) (fun y3 H => ?_)) (fun H => ?_)
  · show xEx G mX12_takeName 26 [(0, .ref (q_b G + 139)), (1, .int v1)] [.int y3] (hS G s2) z 0 0 (yQv G z Q)
    refine s_istore_n (nx := 27) (l' := [(2, .int y3), (0, .ref (q_b G + 139)), (1, .int v1)]) hO rfl (by decide) rfl rfl ?_
    refine s_aload_n (nx := 28) hO rfl rfl rfl ?_
    refine s_getf (v := .int (sI s2 139 10)) (nx := 31) hO rfl rfl (hs_o12 kc139) rfl rfl ?_
    refine goK (H (fun (x4 : Int32) (x5 : Int32) (s6 : yS) => xEx G mX12_takeName 32 [(0, .ref (q_b G + 139)), (1, .int v1), (2, .int x4), (3, .int x5)] [] (hS G s6) z 0 0 (yQv G z Q)) (fun x4 x5 s6 H => ?_)) (fun H => ?_)
    · show xEx G mX12_takeName 32 [(0, .ref (q_b G + 139)), (1, .int v1), (2, .int x4), (3, .int x5)] [] (hS G s6) z 0 0 (yQv G z Q)
      refine s_iload_n (nx := 33) hO rfl rfl rfl ?_
      refine s_iload_n (nx := 34) hO rfl rfl rfl ?_
      refine goK (H (xEx G mX12_takeName 81 [(0, .ref (q_b G + 139)), (2, .int x4)] [] (hS G s6) z 0 0 (yQv G z Q)) (fun H => ?_)) (fun H => ?_)
      · show xEx G mX12_takeName 81 [(0, .ref (q_b G + 139)), (2, .int x4)] [] (hS G s6) z 0 0 (yQv G z Q)
        refine s_iload_n (nx := 82) hO rfl rfl rfl ?_
        refine s_if_ne (nx := 85) hO rfl rfl (fun c82 => ?_) (fun c82 => ?_)
        · replace H := H.1 c82
          exact s_vret hO rfl rfl ⟨rfl, _, rfl, rfl, H⟩
        · replace H := H.2 c82
          refine s_aload_n (nx := 86) hO rfl rfl rfl ?_
          refine s_iconst (x := 1) (nx := 87) hO rfl (by decide) rfl ?_
          refine s_aload_n (nx := 88) hO rfl rfl rfl ?_
          refine s_getf (v := .int (sI s6 139 10)) (nx := 91) hO rfl rfl (hs_o12 kc139) rfl rfl ?_
          refine s_callV [.int 1, .int (sI s6 139 10)] (ci := 12) (F := TX12) (N := 116) (nx := 94) hO rfl kX12_takeName_303 (by rw [hcl]; rfl) (hs_o12 kc139) (w_X12_wrong hG H) rfl rfl (Nat.le_of_ble_eq_true rfl) (Nat.zero_le _) (Nat.zero_le _) rfl (k_Qv (fun s7 H => ?_))
          exact s_vret hO rfl rfl ⟨rfl, _, rfl, rfl, H⟩
      refine s_icmp_ge (nx := 37) hO rfl rfl (fun c34 => ?_) (fun c34 => ?_)
      · replace H := H.1 c34
        exact xEx.loc (x_sub1 (List.Mem.head _) (x_sub1 (List.Mem.tail _ (List.Mem.tail _ (List.Mem.head _))) x_sub0)) H
      · replace H := H.2 c34
        refine s_iload_n (nx := 38) hO rfl rfl rfl ?_
        refine s_if_eq (nx := 41) hO rfl rfl (fun c38 => ?_) (fun c38 => ?_)
        · replace H := H.1 c38
          exact xEx.loc (x_sub1 (List.Mem.head _) (x_sub1 (List.Mem.tail _ (List.Mem.tail _ (List.Mem.head _))) x_sub0)) H
        · replace H := H.2 c38
          refine s_aload_n (nx := 42) hO rfl rfl rfl ?_
          refine s_getf (v := .ref (q_b G + 143)) (nx := 45) hO rfl rfl (hs_o12 kc139) rfl rfl ?_
          refine s_iload_n (nx := 46) hO rfl rfl rfl ?_
          obtain ⟨b8, H⟩ := H
          refine s_iald (nx := 47) hO rfl (hs_I kc143) b8 rfl ?_
          refine s_callS [.int (sI s6 143 (ix x5))] (nx := 50) hO rfl kX12_takeName_284 (w_X12_isSmall hG H) rfl rfl (Nat.le_of_ble_eq_true rfl) (Nat.zero_le _) (Nat.zero_le _) rfl (k_Pi (fun r9 H => ?_))
          refine s_istore_n (nx := 51) (l' := [(2, .int r9), (0, .ref (q_b G + 139)), (1, .int v1), (3, .int x5)]) hO rfl (by decide) rfl rfl ?_
          refine s_aload_n (nx := 52) hO rfl rfl rfl ?_
          refine s_ldc2_w (x := ((27))) (nx := 55) hO rfl rfl rfl ?_
          refine s_aload_n (nx := 56) hO rfl rfl rfl ?_
          refine s_getf (v := .long (sJ s6 139 13)) (nx := 59) hO rfl rfl (hs_o12 kc139) rfl rfl ?_
          refine s_lmul (nx := 60) hO rfl rfl ?_
          refine s_aload_n (nx := 61) hO rfl rfl rfl ?_
          refine s_getf (v := .ref (q_b G + 143)) (nx := 64) hO rfl rfl (hs_o12 kc139) rfl rfl ?_
          refine s_iload_n (nx := 65) hO rfl rfl rfl ?_
          obtain ⟨b10, H⟩ := H
          refine s_iald (nx := 66) hO rfl (hs_I kc143) b10 rfl ?_
          refine s_i2l (nx := 67) hO rfl rfl ?_
          refine s_ladd (nx := 68) hO rfl rfl ?_
          refine s_ldc2_w (x := ((96))) (nx := 71) hO rfl rfl rfl ?_
          refine s_lsub (nx := 72) hO rfl rfl ?_
          refine goV (wJ s6 139 13 (((((27)) * (sJ s6 139 13)) + ((sI s6 143 (ix x5))).toInt64) - ((96)))) (fun s11 es11 => ?_)
          replace H := H s11 es11
          refine s_putf (nx := 75) hO rfl rfl (hs_o12 kc139) (Nat.le_of_ble_eq_true rfl) (by rw [hty]; rfl) (by rw [hty]; rfl) pX12_13 rfl ?_
          refine xEx.at (up_oJ12 kc139 es11) ?_
          refine goV ((x5 + 1)) (fun x12 ex12 => ?_)
          replace H := H x12 ex12
          refine e_iinc (nx := 78) (l' := [(3, .int x12), (2, .int r9), (0, .ref (q_b G + 139)), (1, .int v1)]) ex12 hO rfl (by decide) rfl rfl rfl rfl ?_
          refine s_goto hO rfl ?_
          exact xEx.loc (x_sub1 (List.Mem.tail _ (List.Mem.tail _ (List.Mem.head _))) (x_sub1 (List.Mem.tail _ (List.Mem.tail _ (List.Mem.tail _ (List.Mem.head _)))) (x_sub1 (List.Mem.tail _ (List.Mem.head _)) (x_sub1 (List.Mem.head _) x_sub0)))) H
    refine goV ((sI s2 139 10)) (fun x13 ex13 => ?_)
    replace H := H x13 ex13
    refine e_istore_n (nx := 32) (l' := [(3, .int x13), (2, .int y3), (0, .ref (q_b G + 139)), (1, .int v1)]) ex13 hO rfl (by decide) rfl rfl ?_
    exact xEx.loc (x_sub1 (List.Mem.tail _ (List.Mem.tail _ (List.Mem.head _))) (x_sub1 (List.Mem.tail _ (List.Mem.tail _ (List.Mem.tail _ (List.Mem.head _)))) (x_sub1 (List.Mem.tail _ (List.Mem.head _)) (x_sub1 (List.Mem.head _) x_sub0)))) H
  refine s_icmp_ge (nx := 21) hO rfl rfl (fun c18 => ?_) (fun c18 => ?_)
  · replace H := H.1 c18
    refine s_iconst (x := 0) (nx := 26) hO rfl (by decide) rfl ?_
    exact xEx.loc (x_sub1 (List.Mem.head _) (x_sub1 (List.Mem.tail _ (List.Mem.head _)) x_sub0)) H
  · replace H := H.2 c18
    refine s_iconst (x := 1) (nx := 22) hO rfl (by decide) rfl ?_
    refine s_goto hO rfl ?_
    exact xEx.loc (x_sub1 (List.Mem.head _) (x_sub1 (List.Mem.tail _ (List.Mem.head _)) x_sub0)) H
def W_X12_takeNumber (s : yS) (v1 : Int32) (Q : yS → Prop) : Prop :=
 ∀ s1 : yS, s1 = wI s 139 11 (nI 3) → 
 vp_in (sI s1 139 10) 8192 ∧ 
 ∀ P24 : Int32 → Prop, (∀ (y3 : Int32), (∀ P44 : Int32 → Prop, (∀ (y4 : Int32), (∀ P65 : Int32 → Prop, (∀ (y5 : Int32), (∀ P67 : Int32 → Int64 → Int32 → Prop, (∀ (x6 : Int32) (x7 : Int64) (x8 : Int32), (∀ P129 : Prop, ((∀ P142 : Int64 → Prop, (∀ (y9 : Int64), (∀ s10 : yS, s10 = wJ s1 139 14 y9 → 
       ∀ P176 : Int32 → Prop, (∀ (y11 : Int32), (((¬ y11 = 0 → Q s10)
        ∧ (y11 = 0 → W_X12_wrong s10 1 (sI s10 139 10) 
         (fun s12 => Q s12)))) → P176 y11) → 
       ((x6 = 0 → P176 0)
       ∧ (¬ x6 = 0 → (((lg_cmp (sJ s10 139 14) ((-2147483648))) < 0 → P176 0)
        ∧ (¬ (lg_cmp (sJ s10 139 14) ((-2147483648))) < 0 → ((0 < (lg_cmp (sJ s10 139 14) ((2147483647))) → P176 0)
         ∧ (¬ 0 < (lg_cmp (sJ s10 139 14) ((2147483647))) → P176 1))))))) → P142 y9) → 
      ((y3 = 0 → P142 x7)
      ∧ (¬ y3 = 0 → P142 (-x7)))) → P129) → 
     ((v1 ≤ x8 → P129)
     ∧ (¬ v1 ≤ x8 → ((x6 = 0 → P129)
      ∧ (¬ x6 = 0 → vp_in x8 8192 ∧ 
       W_X12_isDigit s1 (sI s1 143 (ix x8)) 
       (fun r14 => ∀ P121 : Int64 → Prop, (∀ (y15 : Int64), (∀ x16 : Int32, x16 = (x8 + 1) → 
        P67 r14 y15 x16) → P121 y15) → 
       ((0 ≤ (lg_cmp x7 ((100000000000))) → P121 x7)
       ∧ (¬ 0 ≤ (lg_cmp x7 ((100000000000))) → vp_in x8 8192 ∧ 
        P121 (((((10)) * x7) + ((sI s1 143 (ix x8))).toInt64) - ((48))))))))))) → P67 x6 x7 x8) → 
    P67 y4 0 y5) → P65 y5) → 
   ((y3 = 0 → P65 (sI s1 139 10))
   ∧ (¬ y3 = 0 → P65 ((sI s1 139 10) + 1)))) → P44 y4) → 
  ((y3 = 0 → P44 1)
  ∧ (¬ y3 = 0 → ((v1 ≤ ((sI s1 139 10) + 1) → P44 0)
   ∧ (¬ v1 ≤ ((sI s1 139 10) + 1) → P44 1))))) → P24 y3) → 
 ((¬ (sI s1 143 (ix (sI s1 139 10))) = (nI 45) → P24 0)
 ∧ ((sI s1 143 (ix (sI s1 139 10))) = (nI 45) → P24 1))
set_option maxRecDepth 100000 in
set_option maxHeartbeats 40000000 in
theorem w_X12_takeNumber {G : xG} (hG : yG G) {z : Nat} {s : yS} {v1 : Int32} {Q : yS → Prop} (H : W_X12_takeNumber s v1 Q) : xC G mX12_takeNumber [.ref (q_b G + 139), .int v1] (hS G s) z 0 0 (yQv G z Q) := by
  have hW := hG.1
  have hcl := hG.2.1
  have hty := hG.2.2.1
  have hO : xO G mX12_takeNumber tbX12_takeNumber ptX12_takeNumber := ⟨tkX12_takeNumber, pkX12_takeNumber hcl⟩
  unfold W_X12_takeNumber at H
  refine xC.of hW (by decide) rfl (Nat.le_of_ble_eq_true rfl) ?_
  refine s_aload_n (nx := 1) hO rfl rfl rfl ?_
  refine s_iconst (x := (nI 3)) (nx := 2) hO rfl (by decide) rfl ?_
  refine goV (wI s 139 11 (nI 3)) (fun s1 es1 => ?_)
  replace H := H s1 es1
  refine s_putf (nx := 5) hO rfl rfl (hs_o12 kc139) (Nat.le_of_ble_eq_true rfl) (by rw [hty]; rfl) (by rw [hty]; rfl) pX12_11 rfl ?_
  refine xEx.at (up_oI12 kc139 es1) ?_
  refine s_aload_n (nx := 6) hO rfl rfl rfl ?_
  refine s_getf (v := .ref (q_b G + 143)) (nx := 9) hO rfl rfl (hs_o12 kc139) rfl rfl ?_
  refine s_aload_n (nx := 10) hO rfl rfl rfl ?_
  refine s_getf (v := .int (sI s1 139 10)) (nx := 13) hO rfl rfl (hs_o12 kc139) rfl rfl ?_
  obtain ⟨b2, H⟩ := H
  refine s_iald (nx := 14) hO rfl (hs_I kc143) b2 rfl ?_
  refine s_bipush (x := (nI 45)) (nx := 16) hO rfl (by decide) rfl ?_
  refine goK (H (fun (y3 : Int32) => xEx G mX12_takeNumber 24 [(0, .ref (q_b G + 139)), (1, .int v1)] [.int y3] (hS G s1) z 0 0 (yQv G z Q)) (fun y3 H => ?_)) (fun H => ?_)
  · show xEx G mX12_takeNumber 24 [(0, .ref (q_b G + 139)), (1, .int v1)] [.int y3] (hS G s1) z 0 0 (yQv G z Q)
    refine s_istore_n (nx := 25) (l' := [(2, .int y3), (0, .ref (q_b G + 139)), (1, .int v1)]) hO rfl (by decide) rfl rfl ?_
    refine s_iload_n (nx := 26) hO rfl rfl rfl ?_
    refine goK (H (fun (y4 : Int32) => xEx G mX12_takeNumber 44 [(0, .ref (q_b G + 139)), (1, .int v1), (2, .int y3)] [.int y4] (hS G s1) z 0 0 (yQv G z Q)) (fun y4 H => ?_)) (fun H => ?_)
    · show xEx G mX12_takeNumber 44 [(0, .ref (q_b G + 139)), (1, .int v1), (2, .int y3)] [.int y4] (hS G s1) z 0 0 (yQv G z Q)
      refine s_istore_n (nx := 45) (l' := [(3, .int y4), (0, .ref (q_b G + 139)), (1, .int v1), (2, .int y3)]) hO rfl (by decide) rfl rfl ?_
      refine s_lconst (x := 0) (nx := 46) hO rfl (by decide) rfl ?_
      refine s_lstore (nx := 48) (l' := [(4, .long 0), (3, .int y4), (0, .ref (q_b G + 139)), (1, .int v1), (2, .int y3)]) hO rfl (by decide) rfl rfl ?_
      refine s_iload_n (nx := 49) hO rfl rfl rfl ?_
      refine goK (H (fun (y5 : Int32) => xEx G mX12_takeNumber 65 [(0, .ref (q_b G + 139)), (1, .int v1), (2, .int y3), (3, .int y4), (4, .long 0)] [.int y5] (hS G s1) z 0 0 (yQv G z Q)) (fun y5 H => ?_)) (fun H => ?_)
      · show xEx G mX12_takeNumber 65 [(0, .ref (q_b G + 139)), (1, .int v1), (2, .int y3), (3, .int y4), (4, .long 0)] [.int y5] (hS G s1) z 0 0 (yQv G z Q)
        refine goK (H (fun (x6 : Int32) (x7 : Int64) (x8 : Int32) => xEx G mX12_takeNumber 67 [(0, .ref (q_b G + 139)), (1, .int v1), (2, .int y3), (3, .int x6), (4, .long x7), (6, .int x8)] [] (hS G s1) z 0 0 (yQv G z Q)) (fun x6 x7 x8 H => ?_)) (fun H => ?_)
        · show xEx G mX12_takeNumber 67 [(0, .ref (q_b G + 139)), (1, .int v1), (2, .int y3), (3, .int x6), (4, .long x7), (6, .int x8)] [] (hS G s1) z 0 0 (yQv G z Q)
          refine s_iload (nx := 69) hO rfl rfl rfl ?_
          refine s_iload_n (nx := 70) hO rfl rfl rfl ?_
          refine goK (H (xEx G mX12_takeNumber 129 [(0, .ref (q_b G + 139)), (2, .int y3), (3, .int x6), (4, .long x7)] [] (hS G s1) z 0 0 (yQv G z Q)) (fun H => ?_)) (fun H => ?_)
          · show xEx G mX12_takeNumber 129 [(0, .ref (q_b G + 139)), (2, .int y3), (3, .int x6), (4, .long x7)] [] (hS G s1) z 0 0 (yQv G z Q)
            refine s_aload_n (nx := 130) hO rfl rfl rfl ?_
            refine s_iload_n (nx := 131) hO rfl rfl rfl ?_
            refine goK (H (fun (y9 : Int64) => xEx G mX12_takeNumber 142 [(0, .ref (q_b G + 139)), (3, .int x6)] [.long y9, .ref (q_b G + 139)] (hS G s1) z 0 0 (yQv G z Q)) (fun y9 H => ?_)) (fun H => ?_)
            · show xEx G mX12_takeNumber 142 [(0, .ref (q_b G + 139)), (3, .int x6)] [.long y9, .ref (q_b G + 139)] (hS G s1) z 0 0 (yQv G z Q)
              refine goV (wJ s1 139 14 y9) (fun s10 es10 => ?_)
              replace H := H s10 es10
              refine s_putf (nx := 145) hO rfl rfl (hs_o12 kc139) (Nat.le_of_ble_eq_true rfl) (by rw [hty]; rfl) (by rw [hty]; rfl) pX12_14 rfl ?_
              refine xEx.at (up_oJ12 kc139 es10) ?_
              refine s_iload_n (nx := 146) hO rfl rfl rfl ?_
              refine goK (H (fun (y11 : Int32) => xEx G mX12_takeNumber 176 [(0, .ref (q_b G + 139))] [.int y11] (hS G s10) z 0 0 (yQv G z Q)) (fun y11 H => ?_)) (fun H => ?_)
              · show xEx G mX12_takeNumber 176 [(0, .ref (q_b G + 139))] [.int y11] (hS G s10) z 0 0 (yQv G z Q)
                refine s_istore_n (nx := 177) (l' := [(3, .int y11), (0, .ref (q_b G + 139))]) hO rfl (by decide) rfl rfl ?_
                refine s_iload_n (nx := 178) hO rfl rfl rfl ?_
                refine s_if_ne (nx := 181) hO rfl rfl (fun c178 => ?_) (fun c178 => ?_)
                · replace H := H.1 c178
                  exact s_vret hO rfl rfl ⟨rfl, _, rfl, rfl, H⟩
                · replace H := H.2 c178
                  refine s_aload_n (nx := 182) hO rfl rfl rfl ?_
                  refine s_iconst (x := 1) (nx := 183) hO rfl (by decide) rfl ?_
                  refine s_aload_n (nx := 184) hO rfl rfl rfl ?_
                  refine s_getf (v := .int (sI s10 139 10)) (nx := 187) hO rfl rfl (hs_o12 kc139) rfl rfl ?_
                  refine s_callV [.int 1, .int (sI s10 139 10)] (ci := 12) (F := TX12) (N := 116) (nx := 190) hO rfl kX12_takeNumber_303 (by rw [hcl]; rfl) (hs_o12 kc139) (w_X12_wrong hG H) rfl rfl (Nat.le_of_ble_eq_true rfl) (Nat.zero_le _) (Nat.zero_le _) rfl (k_Qv (fun s12 H => ?_))
                  exact s_vret hO rfl rfl ⟨rfl, _, rfl, rfl, H⟩
              refine s_if_eq (nx := 149) hO rfl rfl (fun c146 => ?_) (fun c146 => ?_)
              · replace H := H.1 c146
                refine s_iconst (x := 0) (nx := 176) hO rfl (by decide) rfl ?_
                exact xEx.loc (x_sub1 (List.Mem.head _) x_sub0) H
              · replace H := H.2 c146
                refine s_aload_n (nx := 150) hO rfl rfl rfl ?_
                refine s_getf (v := .long (sJ s10 139 14)) (nx := 153) hO rfl rfl (hs_o12 kc139) rfl rfl ?_
                refine s_ldc2_w (x := ((-2147483648))) (nx := 156) hO rfl rfl rfl ?_
                refine s_lcmp (nx := 157) hO rfl rfl ?_
                refine s_if_lt (nx := 160) hO rfl rfl (fun c157 => ?_) (fun c157 => ?_)
                · replace H := H.1 c157
                  refine s_iconst (x := 0) (nx := 176) hO rfl (by decide) rfl ?_
                  exact xEx.loc (x_sub1 (List.Mem.head _) x_sub0) H
                · replace H := H.2 c157
                  refine s_aload_n (nx := 161) hO rfl rfl rfl ?_
                  refine s_getf (v := .long (sJ s10 139 14)) (nx := 164) hO rfl rfl (hs_o12 kc139) rfl rfl ?_
                  refine s_ldc2_w (x := ((2147483647))) (nx := 167) hO rfl rfl rfl ?_
                  refine s_lcmp (nx := 168) hO rfl rfl ?_
                  refine s_if_gt (nx := 171) hO rfl rfl (fun c168 => ?_) (fun c168 => ?_)
                  · replace H := H.1 c168
                    refine s_iconst (x := 0) (nx := 176) hO rfl (by decide) rfl ?_
                    exact xEx.loc (x_sub1 (List.Mem.head _) x_sub0) H
                  · replace H := H.2 c168
                    refine s_iconst (x := 1) (nx := 172) hO rfl (by decide) rfl ?_
                    refine s_goto hO rfl ?_
                    exact xEx.loc (x_sub1 (List.Mem.head _) x_sub0) H
            refine s_if_eq (nx := 134) hO rfl rfl (fun c131 => ?_) (fun c131 => ?_)
            · replace H := H.1 c131
              refine s_lload (nx := 142) hO rfl rfl rfl ?_
              exact xEx.loc (x_sub1 (List.Mem.head _) (x_sub1 (List.Mem.tail _ (List.Mem.tail _ (List.Mem.head _))) x_sub0)) H
            · replace H := H.2 c131
              refine s_lload (nx := 136) hO rfl rfl rfl ?_
              refine s_lneg (nx := 137) hO rfl rfl ?_
              refine s_goto hO rfl ?_
              exact xEx.loc (x_sub1 (List.Mem.head _) (x_sub1 (List.Mem.tail _ (List.Mem.tail _ (List.Mem.head _))) x_sub0)) H
          refine s_icmp_ge (nx := 73) hO rfl rfl (fun c70 => ?_) (fun c70 => ?_)
          · replace H := H.1 c70
            exact xEx.loc (x_sub1 (List.Mem.head _) (x_sub1 (List.Mem.tail _ (List.Mem.tail _ (List.Mem.head _))) (x_sub1 (List.Mem.tail _ (List.Mem.tail _ (List.Mem.tail _ (List.Mem.head _)))) (x_sub1 (List.Mem.tail _ (List.Mem.tail _ (List.Mem.tail _ (List.Mem.tail _ (List.Mem.head _))))) x_sub0)))) H
          · replace H := H.2 c70
            refine s_iload_n (nx := 74) hO rfl rfl rfl ?_
            refine s_if_eq (nx := 77) hO rfl rfl (fun c74 => ?_) (fun c74 => ?_)
            · replace H := H.1 c74
              exact xEx.loc (x_sub1 (List.Mem.head _) (x_sub1 (List.Mem.tail _ (List.Mem.tail _ (List.Mem.head _))) (x_sub1 (List.Mem.tail _ (List.Mem.tail _ (List.Mem.tail _ (List.Mem.head _)))) (x_sub1 (List.Mem.tail _ (List.Mem.tail _ (List.Mem.tail _ (List.Mem.tail _ (List.Mem.head _))))) x_sub0)))) H
            · replace H := H.2 c74
              refine s_aload_n (nx := 78) hO rfl rfl rfl ?_
              refine s_getf (v := .ref (q_b G + 143)) (nx := 81) hO rfl rfl (hs_o12 kc139) rfl rfl ?_
              refine s_iload (nx := 83) hO rfl rfl rfl ?_
              obtain ⟨b13, H⟩ := H
              refine s_iald (nx := 84) hO rfl (hs_I kc143) b13 rfl ?_
              refine s_callS [.int (sI s1 143 (ix x8))] (nx := 87) hO rfl kX12_takeNumber_280 (w_X12_isDigit hG H) rfl rfl (Nat.le_of_ble_eq_true rfl) (Nat.zero_le _) (Nat.zero_le _) rfl (k_Pi (fun r14 H => ?_))
              refine s_istore_n (nx := 88) (l' := [(3, .int r14), (0, .ref (q_b G + 139)), (1, .int v1), (2, .int y3), (4, .long x7), (6, .int x8)]) hO rfl (by decide) rfl rfl ?_
              refine s_lload (nx := 90) hO rfl rfl rfl ?_
              refine s_ldc2_w (x := ((100000000000))) (nx := 93) hO rfl rfl rfl ?_
              refine s_lcmp (nx := 94) hO rfl rfl ?_
              refine goK (H (fun (y15 : Int64) => xEx G mX12_takeNumber 121 [(0, .ref (q_b G + 139)), (1, .int v1), (2, .int y3), (3, .int r14), (6, .int x8)] [.long y15] (hS G s1) z 0 0 (yQv G z Q)) (fun y15 H => ?_)) (fun H => ?_)
              · show xEx G mX12_takeNumber 121 [(0, .ref (q_b G + 139)), (1, .int v1), (2, .int y3), (3, .int r14), (6, .int x8)] [.long y15] (hS G s1) z 0 0 (yQv G z Q)
                refine s_lstore (nx := 123) (l' := [(4, .long y15), (0, .ref (q_b G + 139)), (1, .int v1), (2, .int y3), (3, .int r14), (6, .int x8)]) hO rfl (by decide) rfl rfl ?_
                refine goV ((x8 + 1)) (fun x16 ex16 => ?_)
                replace H := H x16 ex16
                refine e_iinc (nx := 126) (l' := [(6, .int x16), (4, .long y15), (0, .ref (q_b G + 139)), (1, .int v1), (2, .int y3), (3, .int r14)]) ex16 hO rfl (by decide) rfl rfl rfl rfl ?_
                refine s_goto hO rfl ?_
                exact xEx.loc (x_sub1 (List.Mem.tail _ (List.Mem.tail _ (List.Mem.head _))) (x_sub1 (List.Mem.tail _ (List.Mem.tail _ (List.Mem.tail _ (List.Mem.head _)))) (x_sub1 (List.Mem.tail _ (List.Mem.tail _ (List.Mem.tail _ (List.Mem.tail _ (List.Mem.head _))))) (x_sub1 (List.Mem.tail _ (List.Mem.tail _ (List.Mem.tail _ (List.Mem.tail _ (List.Mem.tail _ (List.Mem.head _)))))) (x_sub1 (List.Mem.tail _ (List.Mem.head _)) (x_sub1 (List.Mem.head _) x_sub0)))))) H
              refine s_if_ge (nx := 97) hO rfl rfl (fun c94 => ?_) (fun c94 => ?_)
              · replace H := H.1 c94
                refine s_lload (nx := 121) hO rfl rfl rfl ?_
                exact xEx.loc (x_sub1 (List.Mem.tail _ (List.Mem.head _)) (x_sub1 (List.Mem.tail _ (List.Mem.tail _ (List.Mem.head _))) (x_sub1 (List.Mem.tail _ (List.Mem.tail _ (List.Mem.tail _ (List.Mem.head _)))) (x_sub1 (List.Mem.head _) (x_sub1 (List.Mem.tail _ (List.Mem.tail _ (List.Mem.tail _ (List.Mem.tail _ (List.Mem.tail _ (List.Mem.head _)))))) x_sub0))))) H
              · replace H := H.2 c94
                refine s_ldc2_w (x := ((10))) (nx := 100) hO rfl rfl rfl ?_
                refine s_lload (nx := 102) hO rfl rfl rfl ?_
                refine s_lmul (nx := 103) hO rfl rfl ?_
                refine s_aload_n (nx := 104) hO rfl rfl rfl ?_
                refine s_getf (v := .ref (q_b G + 143)) (nx := 107) hO rfl rfl (hs_o12 kc139) rfl rfl ?_
                refine s_iload (nx := 109) hO rfl rfl rfl ?_
                obtain ⟨b17, H⟩ := H
                refine s_iald (nx := 110) hO rfl (hs_I kc143) b17 rfl ?_
                refine s_i2l (nx := 111) hO rfl rfl ?_
                refine s_ladd (nx := 112) hO rfl rfl ?_
                refine s_ldc2_w (x := ((48))) (nx := 115) hO rfl rfl rfl ?_
                refine s_lsub (nx := 116) hO rfl rfl ?_
                refine s_goto hO rfl ?_
                exact xEx.loc (x_sub1 (List.Mem.tail _ (List.Mem.head _)) (x_sub1 (List.Mem.tail _ (List.Mem.tail _ (List.Mem.head _))) (x_sub1 (List.Mem.tail _ (List.Mem.tail _ (List.Mem.tail _ (List.Mem.head _)))) (x_sub1 (List.Mem.head _) (x_sub1 (List.Mem.tail _ (List.Mem.tail _ (List.Mem.tail _ (List.Mem.tail _ (List.Mem.tail _ (List.Mem.head _)))))) x_sub0))))) H
        refine s_istore (nx := 67) (l' := [(6, .int y5), (0, .ref (q_b G + 139)), (1, .int v1), (2, .int y3), (3, .int y4), (4, .long 0)]) hO rfl (by decide) rfl rfl ?_
        exact xEx.loc (x_sub1 (List.Mem.tail _ (List.Mem.head _)) (x_sub1 (List.Mem.tail _ (List.Mem.tail _ (List.Mem.head _))) (x_sub1 (List.Mem.tail _ (List.Mem.tail _ (List.Mem.tail _ (List.Mem.head _)))) (x_sub1 (List.Mem.tail _ (List.Mem.tail _ (List.Mem.tail _ (List.Mem.tail _ (List.Mem.head _))))) (x_sub1 (List.Mem.tail _ (List.Mem.tail _ (List.Mem.tail _ (List.Mem.tail _ (List.Mem.tail _ (List.Mem.head _)))))) (x_sub1 (List.Mem.head _) x_sub0)))))) H
      refine s_if_eq (nx := 52) hO rfl rfl (fun c49 => ?_) (fun c49 => ?_)
      · replace H := H.1 c49
        refine s_aload_n (nx := 62) hO rfl rfl rfl ?_
        refine s_getf (v := .int (sI s1 139 10)) (nx := 65) hO rfl rfl (hs_o12 kc139) rfl rfl ?_
        exact xEx.loc (x_sub1 (List.Mem.tail _ (List.Mem.tail _ (List.Mem.head _))) (x_sub1 (List.Mem.tail _ (List.Mem.tail _ (List.Mem.tail _ (List.Mem.head _)))) (x_sub1 (List.Mem.tail _ (List.Mem.tail _ (List.Mem.tail _ (List.Mem.tail _ (List.Mem.head _))))) (x_sub1 (List.Mem.tail _ (List.Mem.head _)) (x_sub1 (List.Mem.head _) x_sub0))))) H
      · replace H := H.2 c49
        refine s_aload_n (nx := 53) hO rfl rfl rfl ?_
        refine s_getf (v := .int (sI s1 139 10)) (nx := 56) hO rfl rfl (hs_o12 kc139) rfl rfl ?_
        refine s_iconst (x := 1) (nx := 57) hO rfl (by decide) rfl ?_
        refine s_iadd (nx := 58) hO rfl rfl ?_
        refine s_goto hO rfl ?_
        exact xEx.loc (x_sub1 (List.Mem.tail _ (List.Mem.tail _ (List.Mem.head _))) (x_sub1 (List.Mem.tail _ (List.Mem.tail _ (List.Mem.tail _ (List.Mem.head _)))) (x_sub1 (List.Mem.tail _ (List.Mem.tail _ (List.Mem.tail _ (List.Mem.tail _ (List.Mem.head _))))) (x_sub1 (List.Mem.tail _ (List.Mem.head _)) (x_sub1 (List.Mem.head _) x_sub0))))) H
    refine s_if_eq (nx := 29) hO rfl rfl (fun c26 => ?_) (fun c26 => ?_)
    · replace H := H.1 c26
      refine s_iconst (x := 1) (nx := 40) hO rfl (by decide) rfl ?_
      refine s_goto hO rfl ?_
      exact xEx.loc (x_sub1 (List.Mem.tail _ (List.Mem.head _)) (x_sub1 (List.Mem.tail _ (List.Mem.tail _ (List.Mem.head _))) (x_sub1 (List.Mem.head _) x_sub0))) H
    · replace H := H.2 c26
      refine s_iload_n (nx := 30) hO rfl rfl rfl ?_
      refine s_aload_n (nx := 31) hO rfl rfl rfl ?_
      refine s_getf (v := .int (sI s1 139 10)) (nx := 34) hO rfl rfl (hs_o12 kc139) rfl rfl ?_
      refine s_iconst (x := 1) (nx := 35) hO rfl (by decide) rfl ?_
      refine s_iadd (nx := 36) hO rfl rfl ?_
      refine s_icmp_le (nx := 39) hO rfl rfl (fun c36 => ?_) (fun c36 => ?_)
      · replace H := H.1 c36
        refine s_iconst (x := 0) (nx := 44) hO rfl (by decide) rfl ?_
        exact xEx.loc (x_sub1 (List.Mem.tail _ (List.Mem.head _)) (x_sub1 (List.Mem.tail _ (List.Mem.tail _ (List.Mem.head _))) (x_sub1 (List.Mem.head _) x_sub0))) H
      · replace H := H.2 c36
        refine s_iconst (x := 1) (nx := 40) hO rfl (by decide) rfl ?_
        refine s_goto hO rfl ?_
        exact xEx.loc (x_sub1 (List.Mem.tail _ (List.Mem.head _)) (x_sub1 (List.Mem.tail _ (List.Mem.tail _ (List.Mem.head _))) (x_sub1 (List.Mem.head _) x_sub0))) H
  refine s_icmp_ne (nx := 19) hO rfl rfl (fun c16 => ?_) (fun c16 => ?_)
  · replace H := H.1 c16
    refine s_iconst (x := 0) (nx := 24) hO rfl (by decide) rfl ?_
    exact xEx.loc (x_sub1 (List.Mem.head _) (x_sub1 (List.Mem.tail _ (List.Mem.head _)) x_sub0)) H
  · replace H := H.2 c16
    refine s_iconst (x := 1) (nx := 20) hO rfl (by decide) rfl ?_
    refine s_goto hO rfl ?_
    exact xEx.loc (x_sub1 (List.Mem.head _) (x_sub1 (List.Mem.tail _ (List.Mem.head _)) x_sub0)) H
def W_X12_next (s : yS) (Q : yS → Prop) : Prop :=
 ∀ P0 : yS → Prop, (∀ (s1 : yS), (W_X12_letterAt s1 (sI s1 139 10) 
  (fun r2 => ∀ P26 : Prop, ((∀ s3 : yS, s3 = wI s1 139 10 ((sI s1 139 10) + 1) → 
   P0 s3) → P26) → 
  ((r2 = (nI 32) → P26)
  ∧ (¬ r2 = (nI 32) → W_X12_letterAt s1 (sI s1 139 10) 
   (fun r4 => ((¬ r4 = (nI 10) → ∀ s5 : yS, s5 = wI s1 139 12 (sI s1 139 10) → 
    (((sI s5 139 10) < (sI s5 139 9) → vp_in (sI s5 139 10) 8192 ∧ 
     ∀ x7 : Int32, x7 = (sI s5 143 (ix (sI s5 139 10))) → 
     ∀ P86 : Prop, ((∀ s8 : yS, s8 = wI s5 139 11 (x7 - (nI 40)) → 
      ∀ s9 : yS, s9 = wI s8 139 10 ((sI s8 139 10) + 1) → 
      Q s9) → P86) → 
     ((x7 = (nI 40) → P86)
     ∧ (¬ x7 = (nI 40) → ((¬ x7 = (nI 41) → W_X12_isOfWord s5 x7 
       (fun r10 => ((¬ r10 = 0 → ∀ P132 : Int32 → Prop, (∀ (x11 : Int32), (W_X12_letterAt s5 x11 
         (fun r12 => W_X12_isOfWord s5 r12 
         (fun r13 => ((r13 = 0 → W_X12_isSmall s5 x7 
          (fun r14 => ((r14 = 0 → W_X12_takeNumber s5 x11 
           (fun s15 => ∀ s16 : yS, s16 = wI s15 139 10 x11 → 
           Q s16))
          ∧ (¬ r14 = 0 → W_X12_takeName s5 x11 
           (fun s17 => ∀ s18 : yS, s18 = wI s17 139 10 x11 → 
           Q s18)))))
         ∧ (¬ r13 = 0 → ∀ x19 : Int32, x19 = (x11 + 1) → 
          P132 x19))))) → P132 x11) → 
        ∀ x20 : Int32, x20 = (sI s5 139 10) → 
        P132 x20)
       ∧ (r10 = 0 → W_X12_wrong s5 1 (sI s5 139 10) 
        (fun s21 => ∀ s22 : yS, s22 = wI s21 139 11 (nI 4) → 
        Q s22)))))
      ∧ (x7 = (nI 41) → P86)))))
    ∧ (¬ (sI s5 139 10) < (sI s5 139 9) → ∀ s23 : yS, s23 = wI s5 139 11 (nI 4) → 
     Q s23)))
   ∧ (r4 = (nI 10) → P26))))))) → P0 s1) → 
 P0 s
set_option maxRecDepth 100000 in
set_option maxHeartbeats 40000000 in
theorem w_X12_next {G : xG} (hG : yG G) {z : Nat} {s : yS} {Q : yS → Prop} (H : W_X12_next s Q) : xC G mX12_next [.ref (q_b G + 139)] (hS G s) z 0 0 (yQv G z Q) := by
  have hW := hG.1
  have hcl := hG.2.1
  have hty := hG.2.2.1
  have hO : xO G mX12_next tbX12_next ptX12_next := ⟨tkX12_next, pkX12_next hcl⟩
  unfold W_X12_next at H
  refine xC.of hW (by decide) rfl (Nat.le_of_ble_eq_true rfl) ?_
  refine goK (H (fun (s1 : yS) => xEx G mX12_next 0 [(0, .ref (q_b G + 139))] [] (hS G s1) z 0 0 (yQv G z Q)) (fun s1 H => ?_)) (fun H => ?_)
  · show xEx G mX12_next 0 [(0, .ref (q_b G + 139))] [] (hS G s1) z 0 0 (yQv G z Q)
    refine s_aload_n (nx := 1) hO rfl rfl rfl ?_
    refine s_aload_n (nx := 2) hO rfl rfl rfl ?_
    refine s_getf (v := .int (sI s1 139 10)) (nx := 5) hO rfl rfl (hs_o12 kc139) rfl rfl ?_
    refine s_callV [.int (sI s1 139 10)] (ci := 12) (F := TX12) (N := 116) (nx := 8) hO rfl kX12_next_290 (by rw [hcl]; rfl) (hs_o12 kc139) (w_X12_letterAt hG H) rfl rfl (Nat.le_of_ble_eq_true rfl) (Nat.zero_le _) (Nat.zero_le _) rfl (k_Pi (fun r2 H => ?_))
    refine s_bipush (x := (nI 32)) (nx := 10) hO rfl (by decide) rfl ?_
    refine goK (H (xEx G mX12_next 26 [(0, .ref (q_b G + 139))] [] (hS G s1) z 0 0 (yQv G z Q)) (fun H => ?_)) (fun H => ?_)
    · show xEx G mX12_next 26 [(0, .ref (q_b G + 139))] [] (hS G s1) z 0 0 (yQv G z Q)
      refine s_aload_n (nx := 27) hO rfl rfl rfl ?_
      refine s_dup (nx := 28) hO rfl rfl rfl ?_
      refine s_getf (v := .int (sI s1 139 10)) (nx := 31) hO rfl rfl (hs_o12 kc139) rfl rfl ?_
      refine s_iconst (x := 1) (nx := 32) hO rfl (by decide) rfl ?_
      refine s_iadd (nx := 33) hO rfl rfl ?_
      refine goV (wI s1 139 10 ((sI s1 139 10) + 1)) (fun s3 es3 => ?_)
      replace H := H s3 es3
      refine s_putf (nx := 36) hO rfl rfl (hs_o12 kc139) (Nat.le_of_ble_eq_true rfl) (by rw [hty]; rfl) (by rw [hty]; rfl) pX12_10 rfl ?_
      refine xEx.at (up_oI12 kc139 es3) ?_
      refine s_goto hO rfl ?_
      exact xEx.loc (x_sub1 (List.Mem.head _) x_sub0) H
    refine s_icmp_eq (nx := 13) hO rfl rfl (fun c10 => ?_) (fun c10 => ?_)
    · replace H := H.1 c10
      exact xEx.loc (x_sub1 (List.Mem.head _) x_sub0) H
    · replace H := H.2 c10
      refine s_aload_n (nx := 14) hO rfl rfl rfl ?_
      refine s_aload_n (nx := 15) hO rfl rfl rfl ?_
      refine s_getf (v := .int (sI s1 139 10)) (nx := 18) hO rfl rfl (hs_o12 kc139) rfl rfl ?_
      refine s_callV [.int (sI s1 139 10)] (ci := 12) (F := TX12) (N := 116) (nx := 21) hO rfl kX12_next_290 (by rw [hcl]; rfl) (hs_o12 kc139) (w_X12_letterAt hG H) rfl rfl (Nat.le_of_ble_eq_true rfl) (Nat.zero_le _) (Nat.zero_le _) rfl (k_Pi (fun r4 H => ?_))
      refine s_bipush (x := (nI 10)) (nx := 23) hO rfl (by decide) rfl ?_
      refine s_icmp_ne (nx := 26) hO rfl rfl (fun c23 => ?_) (fun c23 => ?_)
      · replace H := H.1 c23
        refine s_aload_n (nx := 40) hO rfl rfl rfl ?_
        refine s_aload_n (nx := 41) hO rfl rfl rfl ?_
        refine s_getf (v := .int (sI s1 139 10)) (nx := 44) hO rfl rfl (hs_o12 kc139) rfl rfl ?_
        refine goV (wI s1 139 12 (sI s1 139 10)) (fun s5 es5 => ?_)
        replace H := H s5 es5
        refine s_putf (nx := 47) hO rfl rfl (hs_o12 kc139) (Nat.le_of_ble_eq_true rfl) (by rw [hty]; rfl) (by rw [hty]; rfl) pX12_12 rfl ?_
        refine xEx.at (up_oI12 kc139 es5) ?_
        refine s_aload_n (nx := 48) hO rfl rfl rfl ?_
        refine s_getf (v := .int (sI s5 139 10)) (nx := 51) hO rfl rfl (hs_o12 kc139) rfl rfl ?_
        refine s_aload_n (nx := 52) hO rfl rfl rfl ?_
        refine s_getf (v := .int (sI s5 139 9)) (nx := 55) hO rfl rfl (hs_o12 kc139) rfl rfl ?_
        refine s_icmp_lt (nx := 58) hO rfl rfl (fun c55 => ?_) (fun c55 => ?_)
        · replace H := H.1 c55
          refine s_aload_n (nx := 65) hO rfl rfl rfl ?_
          refine s_getf (v := .ref (q_b G + 143)) (nx := 68) hO rfl rfl (hs_o12 kc139) rfl rfl ?_
          refine s_aload_n (nx := 69) hO rfl rfl rfl ?_
          refine s_getf (v := .int (sI s5 139 10)) (nx := 72) hO rfl rfl (hs_o12 kc139) rfl rfl ?_
          obtain ⟨b6, H⟩ := H
          refine s_iald (nx := 73) hO rfl (hs_I kc143) b6 rfl ?_
          refine goV ((sI s5 143 (ix (sI s5 139 10)))) (fun x7 ex7 => ?_)
          replace H := H x7 ex7
          refine e_istore_n (nx := 74) (l' := [(1, .int x7), (0, .ref (q_b G + 139))]) ex7 hO rfl (by decide) rfl rfl ?_
          refine s_iload_n (nx := 75) hO rfl rfl rfl ?_
          refine s_bipush (x := (nI 40)) (nx := 77) hO rfl (by decide) rfl ?_
          refine goK (H (xEx G mX12_next 86 [(0, .ref (q_b G + 139)), (1, .int x7)] [] (hS G s5) z 0 0 (yQv G z Q)) (fun H => ?_)) (fun H => ?_)
          · show xEx G mX12_next 86 [(0, .ref (q_b G + 139)), (1, .int x7)] [] (hS G s5) z 0 0 (yQv G z Q)
            refine s_aload_n (nx := 87) hO rfl rfl rfl ?_
            refine s_iload_n (nx := 88) hO rfl rfl rfl ?_
            refine s_bipush (x := (nI 40)) (nx := 90) hO rfl (by decide) rfl ?_
            refine s_isub (nx := 91) hO rfl rfl ?_
            refine goV (wI s5 139 11 (x7 - (nI 40))) (fun s8 es8 => ?_)
            replace H := H s8 es8
            refine s_putf (nx := 94) hO rfl rfl (hs_o12 kc139) (Nat.le_of_ble_eq_true rfl) (by rw [hty]; rfl) (by rw [hty]; rfl) pX12_11 rfl ?_
            refine xEx.at (up_oI12 kc139 es8) ?_
            refine s_aload_n (nx := 95) hO rfl rfl rfl ?_
            refine s_dup (nx := 96) hO rfl rfl rfl ?_
            refine s_getf (v := .int (sI s8 139 10)) (nx := 99) hO rfl rfl (hs_o12 kc139) rfl rfl ?_
            refine s_iconst (x := 1) (nx := 100) hO rfl (by decide) rfl ?_
            refine s_iadd (nx := 101) hO rfl rfl ?_
            refine goV (wI s8 139 10 ((sI s8 139 10) + 1)) (fun s9 es9 => ?_)
            replace H := H s9 es9
            refine s_putf (nx := 104) hO rfl rfl (hs_o12 kc139) (Nat.le_of_ble_eq_true rfl) (by rw [hty]; rfl) (by rw [hty]; rfl) pX12_10 rfl ?_
            refine xEx.at (up_oI12 kc139 es9) ?_
            exact s_vret hO rfl rfl ⟨rfl, _, rfl, rfl, H⟩
          refine s_icmp_eq (nx := 80) hO rfl rfl (fun c77 => ?_) (fun c77 => ?_)
          · replace H := H.1 c77
            exact xEx.loc (x_sub1 (List.Mem.tail _ (List.Mem.head _)) (x_sub1 (List.Mem.head _) x_sub0)) H
          · replace H := H.2 c77
            refine s_iload_n (nx := 81) hO rfl rfl rfl ?_
            refine s_bipush (x := (nI 41)) (nx := 83) hO rfl (by decide) rfl ?_
            refine s_icmp_ne (nx := 86) hO rfl rfl (fun c83 => ?_) (fun c83 => ?_)
            · replace H := H.1 c83
              refine s_iload_n (nx := 106) hO rfl rfl rfl ?_
              refine s_callS [.int x7] (nx := 109) hO rfl kX12_next_300 (w_X12_isOfWord hG H) rfl rfl (Nat.le_of_ble_eq_true rfl) (Nat.zero_le _) (Nat.zero_le _) rfl (k_Pi (fun r10 H => ?_))
              refine s_if_ne (nx := 112) hO rfl rfl (fun c109 => ?_) (fun c109 => ?_)
              · replace H := H.1 c109
                refine s_aload_n (nx := 128) hO rfl rfl rfl ?_
                refine s_getf (v := .int (sI s5 139 10)) (nx := 131) hO rfl rfl (hs_o12 kc139) rfl rfl ?_
                refine goK (H (fun (x11 : Int32) => xEx G mX12_next 132 [(0, .ref (q_b G + 139)), (1, .int x7), (2, .int x11)] [] (hS G s5) z 0 0 (yQv G z Q)) (fun x11 H => ?_)) (fun H => ?_)
                · show xEx G mX12_next 132 [(0, .ref (q_b G + 139)), (1, .int x7), (2, .int x11)] [] (hS G s5) z 0 0 (yQv G z Q)
                  refine s_aload_n (nx := 133) hO rfl rfl rfl ?_
                  refine s_iload_n (nx := 134) hO rfl rfl rfl ?_
                  refine s_callV [.int x11] (ci := 12) (F := TX12) (N := 116) (nx := 137) hO rfl kX12_next_290 (by rw [hcl]; rfl) (hs_o12 kc139) (w_X12_letterAt hG H) rfl rfl (Nat.le_of_ble_eq_true rfl) (Nat.zero_le _) (Nat.zero_le _) rfl (k_Pi (fun r12 H => ?_))
                  refine s_callS [.int r12] (nx := 140) hO rfl kX12_next_300 (w_X12_isOfWord hG H) rfl rfl (Nat.le_of_ble_eq_true rfl) (Nat.zero_le _) (Nat.zero_le _) rfl (k_Pi (fun r13 H => ?_))
                  refine s_if_eq (nx := 143) hO rfl rfl (fun c140 => ?_) (fun c140 => ?_)
                  · replace H := H.1 c140
                    refine s_iload_n (nx := 150) hO rfl rfl rfl ?_
                    refine s_callS [.int x7] (nx := 153) hO rfl kX12_next_284 (w_X12_isSmall hG H) rfl rfl (Nat.le_of_ble_eq_true rfl) (Nat.zero_le _) (Nat.zero_le _) rfl (k_Pi (fun r14 H => ?_))
                    refine s_if_eq (nx := 156) hO rfl rfl (fun c153 => ?_) (fun c153 => ?_)
                    · replace H := H.1 c153
                      refine s_aload_n (nx := 165) hO rfl rfl rfl ?_
                      refine s_iload_n (nx := 166) hO rfl rfl rfl ?_
                      refine s_callV [.int x11] (ci := 12) (F := TX12) (N := 116) (nx := 169) hO rfl kX12_next_311 (by rw [hcl]; rfl) (hs_o12 kc139) (w_X12_takeNumber hG H) rfl rfl (Nat.le_of_ble_eq_true rfl) (Nat.zero_le _) (Nat.zero_le _) rfl (k_Qv (fun s15 H => ?_))
                      refine s_aload_n (nx := 170) hO rfl rfl rfl ?_
                      refine s_iload_n (nx := 171) hO rfl rfl rfl ?_
                      refine goV (wI s15 139 10 x11) (fun s16 es16 => ?_)
                      replace H := H s16 es16
                      refine s_putf (nx := 174) hO rfl rfl (hs_o12 kc139) (Nat.le_of_ble_eq_true rfl) (by rw [hty]; rfl) (by rw [hty]; rfl) pX12_10 rfl ?_
                      refine xEx.at (up_oI12 kc139 es16) ?_
                      exact s_vret hO rfl rfl ⟨rfl, _, rfl, rfl, H⟩
                    · replace H := H.2 c153
                      refine s_aload_n (nx := 157) hO rfl rfl rfl ?_
                      refine s_iload_n (nx := 158) hO rfl rfl rfl ?_
                      refine s_callV [.int x11] (ci := 12) (F := TX12) (N := 116) (nx := 161) hO rfl kX12_next_307 (by rw [hcl]; rfl) (hs_o12 kc139) (w_X12_takeName hG H) rfl rfl (Nat.le_of_ble_eq_true rfl) (Nat.zero_le _) (Nat.zero_le _) rfl (k_Qv (fun s17 H => ?_))
                      refine s_goto hO rfl ?_
                      refine s_aload_n (nx := 170) hO rfl rfl rfl ?_
                      refine s_iload_n (nx := 171) hO rfl rfl rfl ?_
                      refine goV (wI s17 139 10 x11) (fun s18 es18 => ?_)
                      replace H := H s18 es18
                      refine s_putf (nx := 174) hO rfl rfl (hs_o12 kc139) (Nat.le_of_ble_eq_true rfl) (by rw [hty]; rfl) (by rw [hty]; rfl) pX12_10 rfl ?_
                      refine xEx.at (up_oI12 kc139 es18) ?_
                      exact s_vret hO rfl rfl ⟨rfl, _, rfl, rfl, H⟩
                  · replace H := H.2 c140
                    refine goV ((x11 + 1)) (fun x19 ex19 => ?_)
                    replace H := H x19 ex19
                    refine e_iinc (nx := 146) (l' := [(2, .int x19), (0, .ref (q_b G + 139)), (1, .int x7)]) ex19 hO rfl (by decide) rfl rfl rfl rfl ?_
                    refine s_goto hO rfl ?_
                    exact xEx.loc (x_sub1 (List.Mem.tail _ (List.Mem.head _)) (x_sub1 (List.Mem.tail _ (List.Mem.tail _ (List.Mem.head _))) (x_sub1 (List.Mem.head _) x_sub0))) H
                refine goV ((sI s5 139 10)) (fun x20 ex20 => ?_)
                replace H := H x20 ex20
                refine e_istore_n (nx := 132) (l' := [(2, .int x20), (1, .int x7), (0, .ref (q_b G + 139))]) ex20 hO rfl (by decide) rfl rfl ?_
                exact xEx.loc (x_sub1 (List.Mem.tail _ (List.Mem.tail _ (List.Mem.head _))) (x_sub1 (List.Mem.tail _ (List.Mem.head _)) (x_sub1 (List.Mem.head _) x_sub0))) H
              · replace H := H.2 c109
                refine s_aload_n (nx := 113) hO rfl rfl rfl ?_
                refine s_iconst (x := 1) (nx := 114) hO rfl (by decide) rfl ?_
                refine s_aload_n (nx := 115) hO rfl rfl rfl ?_
                refine s_getf (v := .int (sI s5 139 10)) (nx := 118) hO rfl rfl (hs_o12 kc139) rfl rfl ?_
                refine s_callV [.int 1, .int (sI s5 139 10)] (ci := 12) (F := TX12) (N := 116) (nx := 121) hO rfl kX12_next_303 (by rw [hcl]; rfl) (hs_o12 kc139) (w_X12_wrong hG H) rfl rfl (Nat.le_of_ble_eq_true rfl) (Nat.zero_le _) (Nat.zero_le _) rfl (k_Qv (fun s21 H => ?_))
                refine s_aload_n (nx := 122) hO rfl rfl rfl ?_
                refine s_iconst (x := (nI 4)) (nx := 123) hO rfl (by decide) rfl ?_
                refine goV (wI s21 139 11 (nI 4)) (fun s22 es22 => ?_)
                replace H := H s22 es22
                refine s_putf (nx := 126) hO rfl rfl (hs_o12 kc139) (Nat.le_of_ble_eq_true rfl) (by rw [hty]; rfl) (by rw [hty]; rfl) pX12_11 rfl ?_
                refine xEx.at (up_oI12 kc139 es22) ?_
                exact s_vret hO rfl rfl ⟨rfl, _, rfl, rfl, H⟩
            · replace H := H.2 c83
              exact xEx.loc (x_sub1 (List.Mem.tail _ (List.Mem.head _)) (x_sub1 (List.Mem.head _) x_sub0)) H
        · replace H := H.2 c55
          refine s_aload_n (nx := 59) hO rfl rfl rfl ?_
          refine s_iconst (x := (nI 4)) (nx := 60) hO rfl (by decide) rfl ?_
          refine goV (wI s5 139 11 (nI 4)) (fun s23 es23 => ?_)
          replace H := H s23 es23
          refine s_putf (nx := 63) hO rfl rfl (hs_o12 kc139) (Nat.le_of_ble_eq_true rfl) (by rw [hty]; rfl) (by rw [hty]; rfl) pX12_11 rfl ?_
          refine xEx.at (up_oI12 kc139 es23) ?_
          exact s_vret hO rfl rfl ⟨rfl, _, rfl, rfl, H⟩
      · replace H := H.2 c23
        exact xEx.loc (x_sub1 (List.Mem.head _) x_sub0) H
  exact xEx.loc (x_sub1 (List.Mem.head _) x_sub0) H
def W_X12_isWord (s : yS) (w1 : Int64) (Q : Int32 → Prop) : Prop :=
 ((¬ (sI s 139 11) = (nI 2) → Q 0)
 ∧ ((sI s 139 11) = (nI 2) → ((¬ (lg_cmp (sJ s 139 13) w1) = 0 → Q 0)
  ∧ ((lg_cmp (sJ s 139 13) w1) = 0 → Q 1))))
set_option maxRecDepth 100000 in
set_option maxHeartbeats 40000000 in
theorem w_X12_isWord {G : xG} (hG : yG G) {z : Nat} {s : yS} {q1 j1 : Nat} {b1 : List Int32} {Q : Int32 → Prop} (ho1 : y_S G q1 j1 b1) (H : W_X12_isWord s (y_nm b1 0) Q) : xC G mX12_isWord [.ref (q_b G + 139), .ref q1] (hS G s) z 0 0 (yPi G z s Q) := by
  have hW := hG.1
  have hcl := hG.2.1
  have hty := hG.2.2.1
  have hJ := hG.2.2.2.2.1
  have hO : xO G mX12_isWord tbX12_isWord ptX12_isWord := ⟨tkX12_isWord, pkX12_isWord hcl⟩
  unfold W_X12_isWord at H
  refine xC.of hW (by decide) rfl (Nat.le_of_ble_eq_true rfl) ?_
  refine s_aload_n (nx := 1) hO rfl rfl rfl ?_
  refine s_getf (v := .int (sI s 139 11)) (nx := 4) hO rfl rfl (hs_o12 kc139) rfl rfl ?_
  refine s_iconst (x := (nI 2)) (nx := 5) hO rfl (by decide) rfl ?_
  refine s_icmp_ne (nx := 8) hO rfl rfl (fun c5 => ?_) (fun c5 => ?_)
  · replace H := H.1 c5
    refine s_iconst (x := 0) (nx := 25) hO rfl (by decide) rfl ?_
    exact s_iret hO rfl rfl rfl ⟨rfl, _, rfl, rfl, H⟩
  · replace H := H.2 c5
    refine s_aload_n (nx := 9) hO rfl rfl rfl ?_
    refine s_getf (v := .long (sJ s 139 13)) (nx := 12) hO rfl rfl (hs_o12 kc139) rfl rfl ?_
    refine s_aload_n (nx := 13) hO rfl rfl rfl ?_
    refine s_callS [.ref q1] (nx := 16) hO rfl kX12_isWord_335 (c_X12_named hW hcl hJ ho1) rfl rfl (Nat.le_of_ble_eq_true rfl) (Nat.zero_le _) (Nat.zero_le _) rfl (k_named ?_)
    refine s_lcmp (nx := 17) hO rfl rfl ?_
    refine s_if_ne (nx := 20) hO rfl rfl (fun c17 => ?_) (fun c17 => ?_)
    · replace H := H.1 c17
      refine s_iconst (x := 0) (nx := 25) hO rfl (by decide) rfl ?_
      exact s_iret hO rfl rfl rfl ⟨rfl, _, rfl, rfl, H⟩
    · replace H := H.2 c17
      refine s_iconst (x := 1) (nx := 21) hO rfl (by decide) rfl ?_
      refine s_goto hO rfl ?_
      exact s_iret hO rfl rfl rfl ⟨rfl, _, rfl, rfl, H⟩
def W_X12_isReserved (s : yS) (Q : Int32 → Prop) : Prop :=
 W_X12_isWord s (y_nm y_w339 0) 
 (fun r1 => ((¬ r1 = 0 → Q 1)
 ∧ (r1 = 0 → W_X12_isWord s (y_nm y_w345 0) 
  (fun r2 => ((¬ r2 = 0 → Q 1)
  ∧ (r2 = 0 → W_X12_isWord s (y_nm y_w347 0) 
   (fun r3 => ((¬ r3 = 0 → Q 1)
   ∧ (r3 = 0 → W_X12_isWord s (y_nm y_w349 0) 
    (fun r4 => ((¬ r4 = 0 → Q 1)
    ∧ (r4 = 0 → W_X12_isWord s (y_nm y_w351 0) 
     (fun r5 => ((¬ r5 = 0 → Q 1)
     ∧ (r5 = 0 → W_X12_isWord s (y_nm y_w353 0) 
      (fun r6 => ((¬ r6 = 0 → Q 1)
      ∧ (r6 = 0 → W_X12_isWord s (y_nm y_w355 0) 
       (fun r7 => ((¬ r7 = 0 → Q 1)
       ∧ (r7 = 0 → W_X12_isWord s (y_nm y_w357 0) 
        (fun r8 => ((¬ r8 = 0 → Q 1)
        ∧ (r8 = 0 → W_X12_isWord s (y_nm y_w359 0) 
         (fun r9 => ((¬ r9 = 0 → Q 1)
         ∧ (r9 = 0 → W_X12_isWord s (y_nm y_w361 0) 
          (fun r10 => ((¬ r10 = 0 → Q 1)
          ∧ (r10 = 0 → W_X12_isWord s (y_nm y_w363 0) 
           (fun r11 => ((¬ r11 = 0 → Q 1)
           ∧ (r11 = 0 → W_X12_isWord s (y_nm y_w365 0) 
            (fun r12 => ((r12 = 0 → Q 0)
            ∧ (¬ r12 = 0 → Q 1))))))))))))))))))))))))))))))))))))
set_option maxRecDepth 100000 in
set_option maxHeartbeats 40000000 in
theorem w_X12_isReserved {G : xG} (hG : yG G) {z : Nat} {s : yS} {Q : Int32 → Prop} (H : W_X12_isReserved s Q) : xC G mX12_isReserved [.ref (q_b G + 139)] (hS G s) z 0 0 (yPi G z s Q) := by
  have hW := hG.1
  have hcl := hG.2.1
  have hty := hG.2.2.1
  obtain ⟨q, v, hws⟩ := hG.2.2.2.2.2
  have hO : xO G mX12_isReserved tbX12_isReserved ptX12_isReserved := ⟨tkX12_isReserved, pkX12_isReserved hcl⟩
  unfold W_X12_isReserved at H
  refine xC.of hW (by decide) rfl (Nat.le_of_ble_eq_true rfl) ?_
  refine s_aload_n (nx := 1) hO rfl rfl rfl ?_
  refine s_ldcwS (nx := 4) hws.1 hO rfl rfl ?_
  refine s_callV [.ref (q 339)] (ci := 12) (F := TX12) (N := 116) (nx := 7) hO rfl kX12_isReserved_341 (by rw [hcl]; rfl) (hs_o12 kc139) (w_X12_isWord hG hws.2.1 H) rfl rfl (Nat.le_of_ble_eq_true rfl) (Nat.zero_le _) (Nat.zero_le _) rfl (k_Pi (fun r1 H => ?_))
  refine s_if_ne (nx := 10) hO rfl rfl (fun c7 => ?_) (fun c7 => ?_)
  · replace H := H.1 c7
    refine s_iconst (x := 1) (nx := 121) hO rfl (by decide) rfl ?_
    refine s_goto hO rfl ?_
    exact s_iret hO rfl rfl rfl ⟨rfl, _, rfl, rfl, H⟩
  · replace H := H.2 c7
    refine s_aload_n (nx := 11) hO rfl rfl rfl ?_
    refine s_ldcwS (nx := 14) hws.2.2.1 hO rfl rfl ?_
    refine s_callV [.ref (q 345)] (ci := 12) (F := TX12) (N := 116) (nx := 17) hO rfl kX12_isReserved_341 (by rw [hcl]; rfl) (hs_o12 kc139) (w_X12_isWord hG hws.2.2.2.1 H) rfl rfl (Nat.le_of_ble_eq_true rfl) (Nat.zero_le _) (Nat.zero_le _) rfl (k_Pi (fun r2 H => ?_))
    refine s_if_ne (nx := 20) hO rfl rfl (fun c17 => ?_) (fun c17 => ?_)
    · replace H := H.1 c17
      refine s_iconst (x := 1) (nx := 121) hO rfl (by decide) rfl ?_
      refine s_goto hO rfl ?_
      exact s_iret hO rfl rfl rfl ⟨rfl, _, rfl, rfl, H⟩
    · replace H := H.2 c17
      refine s_aload_n (nx := 21) hO rfl rfl rfl ?_
      refine s_ldcwS (nx := 24) hws.2.2.2.2.1 hO rfl rfl ?_
      refine s_callV [.ref (q 347)] (ci := 12) (F := TX12) (N := 116) (nx := 27) hO rfl kX12_isReserved_341 (by rw [hcl]; rfl) (hs_o12 kc139) (w_X12_isWord hG hws.2.2.2.2.2.1 H) rfl rfl (Nat.le_of_ble_eq_true rfl) (Nat.zero_le _) (Nat.zero_le _) rfl (k_Pi (fun r3 H => ?_))
      refine s_if_ne (nx := 30) hO rfl rfl (fun c27 => ?_) (fun c27 => ?_)
      · replace H := H.1 c27
        refine s_iconst (x := 1) (nx := 121) hO rfl (by decide) rfl ?_
        refine s_goto hO rfl ?_
        exact s_iret hO rfl rfl rfl ⟨rfl, _, rfl, rfl, H⟩
      · replace H := H.2 c27
        refine s_aload_n (nx := 31) hO rfl rfl rfl ?_
        refine s_ldcwS (nx := 34) hws.2.2.2.2.2.2.1 hO rfl rfl ?_
        refine s_callV [.ref (q 349)] (ci := 12) (F := TX12) (N := 116) (nx := 37) hO rfl kX12_isReserved_341 (by rw [hcl]; rfl) (hs_o12 kc139) (w_X12_isWord hG hws.2.2.2.2.2.2.2.1 H) rfl rfl (Nat.le_of_ble_eq_true rfl) (Nat.zero_le _) (Nat.zero_le _) rfl (k_Pi (fun r4 H => ?_))
        refine s_if_ne (nx := 40) hO rfl rfl (fun c37 => ?_) (fun c37 => ?_)
        · replace H := H.1 c37
          refine s_iconst (x := 1) (nx := 121) hO rfl (by decide) rfl ?_
          refine s_goto hO rfl ?_
          exact s_iret hO rfl rfl rfl ⟨rfl, _, rfl, rfl, H⟩
        · replace H := H.2 c37
          refine s_aload_n (nx := 41) hO rfl rfl rfl ?_
          refine s_ldcwS (nx := 44) hws.2.2.2.2.2.2.2.2.1 hO rfl rfl ?_
          refine s_callV [.ref (q 351)] (ci := 12) (F := TX12) (N := 116) (nx := 47) hO rfl kX12_isReserved_341 (by rw [hcl]; rfl) (hs_o12 kc139) (w_X12_isWord hG hws.2.2.2.2.2.2.2.2.2.1 H) rfl rfl (Nat.le_of_ble_eq_true rfl) (Nat.zero_le _) (Nat.zero_le _) rfl (k_Pi (fun r5 H => ?_))
          refine s_if_ne (nx := 50) hO rfl rfl (fun c47 => ?_) (fun c47 => ?_)
          · replace H := H.1 c47
            refine s_iconst (x := 1) (nx := 121) hO rfl (by decide) rfl ?_
            refine s_goto hO rfl ?_
            exact s_iret hO rfl rfl rfl ⟨rfl, _, rfl, rfl, H⟩
          · replace H := H.2 c47
            refine s_aload_n (nx := 51) hO rfl rfl rfl ?_
            refine s_ldcwS (nx := 54) hws.2.2.2.2.2.2.2.2.2.2.1 hO rfl rfl ?_
            refine s_callV [.ref (q 353)] (ci := 12) (F := TX12) (N := 116) (nx := 57) hO rfl kX12_isReserved_341 (by rw [hcl]; rfl) (hs_o12 kc139) (w_X12_isWord hG hws.2.2.2.2.2.2.2.2.2.2.2.1 H) rfl rfl (Nat.le_of_ble_eq_true rfl) (Nat.zero_le _) (Nat.zero_le _) rfl (k_Pi (fun r6 H => ?_))
            refine s_if_ne (nx := 60) hO rfl rfl (fun c57 => ?_) (fun c57 => ?_)
            · replace H := H.1 c57
              refine s_iconst (x := 1) (nx := 121) hO rfl (by decide) rfl ?_
              refine s_goto hO rfl ?_
              exact s_iret hO rfl rfl rfl ⟨rfl, _, rfl, rfl, H⟩
            · replace H := H.2 c57
              refine s_aload_n (nx := 61) hO rfl rfl rfl ?_
              refine s_ldcwS (nx := 64) hws.2.2.2.2.2.2.2.2.2.2.2.2.1 hO rfl rfl ?_
              refine s_callV [.ref (q 355)] (ci := 12) (F := TX12) (N := 116) (nx := 67) hO rfl kX12_isReserved_341 (by rw [hcl]; rfl) (hs_o12 kc139) (w_X12_isWord hG hws.2.2.2.2.2.2.2.2.2.2.2.2.2.1 H) rfl rfl (Nat.le_of_ble_eq_true rfl) (Nat.zero_le _) (Nat.zero_le _) rfl (k_Pi (fun r7 H => ?_))
              refine s_if_ne (nx := 70) hO rfl rfl (fun c67 => ?_) (fun c67 => ?_)
              · replace H := H.1 c67
                refine s_iconst (x := 1) (nx := 121) hO rfl (by decide) rfl ?_
                refine s_goto hO rfl ?_
                exact s_iret hO rfl rfl rfl ⟨rfl, _, rfl, rfl, H⟩
              · replace H := H.2 c67
                refine s_aload_n (nx := 71) hO rfl rfl rfl ?_
                refine s_ldcwS (nx := 74) hws.2.2.2.2.2.2.2.2.2.2.2.2.2.2.1 hO rfl rfl ?_
                refine s_callV [.ref (q 357)] (ci := 12) (F := TX12) (N := 116) (nx := 77) hO rfl kX12_isReserved_341 (by rw [hcl]; rfl) (hs_o12 kc139) (w_X12_isWord hG hws.2.2.2.2.2.2.2.2.2.2.2.2.2.2.2.1 H) rfl rfl (Nat.le_of_ble_eq_true rfl) (Nat.zero_le _) (Nat.zero_le _) rfl (k_Pi (fun r8 H => ?_))
                refine s_if_ne (nx := 80) hO rfl rfl (fun c77 => ?_) (fun c77 => ?_)
                · replace H := H.1 c77
                  refine s_iconst (x := 1) (nx := 121) hO rfl (by decide) rfl ?_
                  refine s_goto hO rfl ?_
                  exact s_iret hO rfl rfl rfl ⟨rfl, _, rfl, rfl, H⟩
                · replace H := H.2 c77
                  refine s_aload_n (nx := 81) hO rfl rfl rfl ?_
                  refine s_ldcwS (nx := 84) hws.2.2.2.2.2.2.2.2.2.2.2.2.2.2.2.2.1 hO rfl rfl ?_
                  refine s_callV [.ref (q 359)] (ci := 12) (F := TX12) (N := 116) (nx := 87) hO rfl kX12_isReserved_341 (by rw [hcl]; rfl) (hs_o12 kc139) (w_X12_isWord hG hws.2.2.2.2.2.2.2.2.2.2.2.2.2.2.2.2.2.1 H) rfl rfl (Nat.le_of_ble_eq_true rfl) (Nat.zero_le _) (Nat.zero_le _) rfl (k_Pi (fun r9 H => ?_))
                  refine s_if_ne (nx := 90) hO rfl rfl (fun c87 => ?_) (fun c87 => ?_)
                  · replace H := H.1 c87
                    refine s_iconst (x := 1) (nx := 121) hO rfl (by decide) rfl ?_
                    refine s_goto hO rfl ?_
                    exact s_iret hO rfl rfl rfl ⟨rfl, _, rfl, rfl, H⟩
                  · replace H := H.2 c87
                    refine s_aload_n (nx := 91) hO rfl rfl rfl ?_
                    refine s_ldcwS (nx := 94) hws.2.2.2.2.2.2.2.2.2.2.2.2.2.2.2.2.2.2.1 hO rfl rfl ?_
                    refine s_callV [.ref (q 361)] (ci := 12) (F := TX12) (N := 116) (nx := 97) hO rfl kX12_isReserved_341 (by rw [hcl]; rfl) (hs_o12 kc139) (w_X12_isWord hG hws.2.2.2.2.2.2.2.2.2.2.2.2.2.2.2.2.2.2.2.1 H) rfl rfl (Nat.le_of_ble_eq_true rfl) (Nat.zero_le _) (Nat.zero_le _) rfl (k_Pi (fun r10 H => ?_))
                    refine s_if_ne (nx := 100) hO rfl rfl (fun c97 => ?_) (fun c97 => ?_)
                    · replace H := H.1 c97
                      refine s_iconst (x := 1) (nx := 121) hO rfl (by decide) rfl ?_
                      refine s_goto hO rfl ?_
                      exact s_iret hO rfl rfl rfl ⟨rfl, _, rfl, rfl, H⟩
                    · replace H := H.2 c97
                      refine s_aload_n (nx := 101) hO rfl rfl rfl ?_
                      refine s_ldcwS (nx := 104) hws.2.2.2.2.2.2.2.2.2.2.2.2.2.2.2.2.2.2.2.2.1 hO rfl rfl ?_
                      refine s_callV [.ref (q 363)] (ci := 12) (F := TX12) (N := 116) (nx := 107) hO rfl kX12_isReserved_341 (by rw [hcl]; rfl) (hs_o12 kc139) (w_X12_isWord hG hws.2.2.2.2.2.2.2.2.2.2.2.2.2.2.2.2.2.2.2.2.2.1 H) rfl rfl (Nat.le_of_ble_eq_true rfl) (Nat.zero_le _) (Nat.zero_le _) rfl (k_Pi (fun r11 H => ?_))
                      refine s_if_ne (nx := 110) hO rfl rfl (fun c107 => ?_) (fun c107 => ?_)
                      · replace H := H.1 c107
                        refine s_iconst (x := 1) (nx := 121) hO rfl (by decide) rfl ?_
                        refine s_goto hO rfl ?_
                        exact s_iret hO rfl rfl rfl ⟨rfl, _, rfl, rfl, H⟩
                      · replace H := H.2 c107
                        refine s_aload_n (nx := 111) hO rfl rfl rfl ?_
                        refine s_ldcwS (nx := 114) hws.2.2.2.2.2.2.2.2.2.2.2.2.2.2.2.2.2.2.2.2.2.2.1 hO rfl rfl ?_
                        refine s_callV [.ref (q 365)] (ci := 12) (F := TX12) (N := 116) (nx := 117) hO rfl kX12_isReserved_341 (by rw [hcl]; rfl) (hs_o12 kc139) (w_X12_isWord hG hws.2.2.2.2.2.2.2.2.2.2.2.2.2.2.2.2.2.2.2.2.2.2.2 H) rfl rfl (Nat.le_of_ble_eq_true rfl) (Nat.zero_le _) (Nat.zero_le _) rfl (k_Pi (fun r12 H => ?_))
                        refine s_if_eq (nx := 120) hO rfl rfl (fun c117 => ?_) (fun c117 => ?_)
                        · replace H := H.1 c117
                          refine s_iconst (x := 0) (nx := 125) hO rfl (by decide) rfl ?_
                          exact s_iret hO rfl rfl rfl ⟨rfl, _, rfl, rfl, H⟩
                        · replace H := H.2 c117
                          refine s_iconst (x := 1) (nx := 121) hO rfl (by decide) rfl ?_
                          refine s_goto hO rfl ?_
                          exact s_iret hO rfl rfl rfl ⟨rfl, _, rfl, rfl, H⟩
def W_X12_isOld (s : yS) (a1 n1 : Nat) (v2 : Int32) (Q : Int32 → Prop) : Prop :=
 ∀ P5 : Int32 → Int32 → Prop, (∀ (x1 : Int32) (x2 : Int32), (((v2 ≤ x2 → zb x1 ∧ Q x1)
  ∧ (¬ v2 ≤ x2 → ∀ P32 : Int32 → Prop, (∀ (y4 : Int32), (∀ x5 : Int32, x5 = (x2 + 1) → 
    P5 y4 x5) → P32 y4) → 
   ((¬ x1 = 0 → P32 1)
   ∧ (x1 = 0 → vp_in x2 n1 ∧ 
    ((¬ (lg_cmp (sJ s a1 (ix x2)) (sJ s 139 13)) = 0 → P32 0)
    ∧ ((lg_cmp (sJ s a1 (ix x2)) (sJ s 139 13)) = 0 → P32 1))))))) → P5 x1 x2) → 
 P5 0 0
set_option maxRecDepth 100000 in
set_option maxHeartbeats 40000000 in
theorem w_X12_isOld {G : xG} (hG : yG G) {z : Nat} {s : yS} {a1 n1 : Nat} {v2 : Int32} {Q : Int32 → Prop} (ha1 : kd a1 = some (3, n1)) (H : W_X12_isOld s a1 n1 v2 Q) : xC G mX12_isOld [.ref (q_b G + 139), .ref (q_b G + a1), .int v2] (hS G s) z 0 0 (yPi G z s Q) := by
  have hW := hG.1
  have hcl := hG.2.1
  have hty := hG.2.2.1
  have hO : xO G mX12_isOld tbX12_isOld ptX12_isOld := ⟨tkX12_isOld, pkX12_isOld hcl⟩
  unfold W_X12_isOld at H
  refine xC.of hW (by decide) rfl (Nat.le_of_ble_eq_true rfl) ?_
  refine s_iconst (x := 0) (nx := 1) hO rfl (by decide) rfl ?_
  refine s_istore_n (nx := 2) (l' := [(3, .int 0), (0, .ref (q_b G + 139)), (1, .ref (q_b G + a1)), (2, .int v2)]) hO rfl (by decide) rfl rfl ?_
  refine s_iconst (x := 0) (nx := 3) hO rfl (by decide) rfl ?_
  refine goK (H (fun (x1 : Int32) (x2 : Int32) => xEx G mX12_isOld 5 [(0, .ref (q_b G + 139)), (1, .ref (q_b G + a1)), (2, .int v2), (3, .int x1), (4, .int x2)] [] (hS G s) z 0 0 (yPi G z s Q)) (fun x1 x2 H => ?_)) (fun H => ?_)
  · show xEx G mX12_isOld 5 [(0, .ref (q_b G + 139)), (1, .ref (q_b G + a1)), (2, .int v2), (3, .int x1), (4, .int x2)] [] (hS G s) z 0 0 (yPi G z s Q)
    refine s_iload (nx := 7) hO rfl rfl rfl ?_
    refine s_iload_n (nx := 8) hO rfl rfl rfl ?_
    refine s_icmp_ge (nx := 11) hO rfl rfl (fun c8 => ?_) (fun c8 => ?_)
    · replace H := H.1 c8
      refine s_iload_n (nx := 40) hO rfl rfl rfl ?_
      obtain ⟨b3, H⟩ := H
      exact s_iret hO rfl rfl (zb_n b3) ⟨rfl, _, rfl, rfl, H⟩
    · replace H := H.2 c8
      refine s_iload_n (nx := 12) hO rfl rfl rfl ?_
      refine goK (H (fun (y4 : Int32) => xEx G mX12_isOld 32 [(0, .ref (q_b G + 139)), (1, .ref (q_b G + a1)), (2, .int v2), (4, .int x2)] [.int y4] (hS G s) z 0 0 (yPi G z s Q)) (fun y4 H => ?_)) (fun H => ?_)
      · show xEx G mX12_isOld 32 [(0, .ref (q_b G + 139)), (1, .ref (q_b G + a1)), (2, .int v2), (4, .int x2)] [.int y4] (hS G s) z 0 0 (yPi G z s Q)
        refine s_istore_n (nx := 33) (l' := [(3, .int y4), (0, .ref (q_b G + 139)), (1, .ref (q_b G + a1)), (2, .int v2), (4, .int x2)]) hO rfl (by decide) rfl rfl ?_
        refine goV ((x2 + 1)) (fun x5 ex5 => ?_)
        replace H := H x5 ex5
        refine e_iinc (nx := 36) (l' := [(4, .int x5), (3, .int y4), (0, .ref (q_b G + 139)), (1, .ref (q_b G + a1)), (2, .int v2)]) ex5 hO rfl (by decide) rfl rfl rfl rfl ?_
        refine s_goto hO rfl ?_
        exact xEx.loc (x_sub1 (List.Mem.tail _ (List.Mem.tail _ (List.Mem.head _))) (x_sub1 (List.Mem.tail _ (List.Mem.tail _ (List.Mem.tail _ (List.Mem.head _)))) (x_sub1 (List.Mem.tail _ (List.Mem.tail _ (List.Mem.tail _ (List.Mem.tail _ (List.Mem.head _))))) (x_sub1 (List.Mem.tail _ (List.Mem.head _)) (x_sub1 (List.Mem.head _) x_sub0))))) H
      refine s_if_ne (nx := 15) hO rfl rfl (fun c12 => ?_) (fun c12 => ?_)
      · replace H := H.1 c12
        refine s_iconst (x := 1) (nx := 28) hO rfl (by decide) rfl ?_
        refine s_goto hO rfl ?_
        exact xEx.loc (x_sub1 (List.Mem.head _) (x_sub1 (List.Mem.tail _ (List.Mem.head _)) (x_sub1 (List.Mem.tail _ (List.Mem.tail _ (List.Mem.head _))) (x_sub1 (List.Mem.tail _ (List.Mem.tail _ (List.Mem.tail _ (List.Mem.tail _ (List.Mem.head _))))) x_sub0)))) H
      · replace H := H.2 c12
        refine s_aload_n (nx := 16) hO rfl rfl rfl ?_
        refine s_iload (nx := 18) hO rfl rfl rfl ?_
        obtain ⟨b6, H⟩ := H
        refine s_lald (nx := 19) hO rfl (hs_J ha1) b6 rfl ?_
        refine s_aload_n (nx := 20) hO rfl rfl rfl ?_
        refine s_getf (v := .long (sJ s 139 13)) (nx := 23) hO rfl rfl (hs_o12 kc139) rfl rfl ?_
        refine s_lcmp (nx := 24) hO rfl rfl ?_
        refine s_if_ne (nx := 27) hO rfl rfl (fun c24 => ?_) (fun c24 => ?_)
        · replace H := H.1 c24
          refine s_iconst (x := 0) (nx := 32) hO rfl (by decide) rfl ?_
          exact xEx.loc (x_sub1 (List.Mem.head _) (x_sub1 (List.Mem.tail _ (List.Mem.head _)) (x_sub1 (List.Mem.tail _ (List.Mem.tail _ (List.Mem.head _))) (x_sub1 (List.Mem.tail _ (List.Mem.tail _ (List.Mem.tail _ (List.Mem.tail _ (List.Mem.head _))))) x_sub0)))) H
        · replace H := H.2 c24
          refine s_iconst (x := 1) (nx := 28) hO rfl (by decide) rfl ?_
          refine s_goto hO rfl ?_
          exact xEx.loc (x_sub1 (List.Mem.head _) (x_sub1 (List.Mem.tail _ (List.Mem.head _)) (x_sub1 (List.Mem.tail _ (List.Mem.tail _ (List.Mem.head _))) (x_sub1 (List.Mem.tail _ (List.Mem.tail _ (List.Mem.tail _ (List.Mem.tail _ (List.Mem.head _))))) x_sub0)))) H
  refine s_istore (nx := 5) (l' := [(4, .int 0), (3, .int 0), (0, .ref (q_b G + 139)), (1, .ref (q_b G + a1)), (2, .int v2)]) hO rfl (by decide) rfl rfl ?_
  exact xEx.loc (x_sub1 (List.Mem.tail _ (List.Mem.tail _ (List.Mem.head _))) (x_sub1 (List.Mem.tail _ (List.Mem.tail _ (List.Mem.tail _ (List.Mem.head _)))) (x_sub1 (List.Mem.tail _ (List.Mem.tail _ (List.Mem.tail _ (List.Mem.tail _ (List.Mem.head _))))) (x_sub1 (List.Mem.tail _ (List.Mem.head _)) (x_sub1 (List.Mem.head _) x_sub0))))) H
def W_X12_must (s : yS) (v1 : Int32) (Q : Int32 → yS → Prop) : Prop :=
 ∀ P47 : yS → Prop, (∀ (s1 : yS), (((¬ (sI s1 139 15) = 0 → Q 0 s1)
  ∧ ((sI s1 139 15) = 0 → Q 1 s1))) → P47 s1) → 
 ((¬ v1 = 0 → P47 s)
 ∧ (v1 = 0 → ((¬ (sI s 139 15) = 0 → P47 s)
  ∧ ((sI s 139 15) = 0 → ∀ P25 : Int32 → Prop, (∀ (y2 : Int32), (∀ P44 : Int32 → Prop, (∀ (y3 : Int32), (W_X12_wrong s y2 y3 
     (fun s4 => P47 s4)) → P44 y3) → 
    ((¬ (sI s 139 11) = (nI 4) → P44 (sI s 139 12))
    ∧ ((sI s 139 11) = (nI 4) → P44 (sI s 139 9)))) → P25 y2) → 
   ((¬ (sI s 139 11) = (nI 4) → P25 (nI 2))
   ∧ ((sI s 139 11) = (nI 4) → P25 (nI 3)))))))
set_option maxRecDepth 100000 in
set_option maxHeartbeats 40000000 in
theorem w_X12_must {G : xG} (hG : yG G) {z : Nat} {s : yS} {v1 : Int32} {Q : Int32 → yS → Prop} (H : W_X12_must s v1 Q) : xC G mX12_must [.ref (q_b G + 139), .int v1] (hS G s) z 0 0 (yQi G z Q) := by
  have hW := hG.1
  have hcl := hG.2.1
  have hty := hG.2.2.1
  have hO : xO G mX12_must tbX12_must ptX12_must := ⟨tkX12_must, pkX12_must hcl⟩
  unfold W_X12_must at H
  refine xC.of hW (by decide) rfl (Nat.le_of_ble_eq_true rfl) ?_
  refine s_iload_n (nx := 1) hO rfl rfl rfl ?_
  refine goK (H (fun (s1 : yS) => xEx G mX12_must 47 [(0, .ref (q_b G + 139))] [] (hS G s1) z 0 0 (yQi G z Q)) (fun s1 H => ?_)) (fun H => ?_)
  · show xEx G mX12_must 47 [(0, .ref (q_b G + 139))] [] (hS G s1) z 0 0 (yQi G z Q)
    refine s_aload_n (nx := 48) hO rfl rfl rfl ?_
    refine s_getf (v := .int (sI s1 139 15)) (nx := 51) hO rfl rfl (hs_o12 kc139) rfl rfl ?_
    refine s_if_ne (nx := 54) hO rfl rfl (fun c51 => ?_) (fun c51 => ?_)
    · replace H := H.1 c51
      refine s_iconst (x := 0) (nx := 59) hO rfl (by decide) rfl ?_
      exact s_iret hO rfl rfl rfl ⟨rfl, _, _, rfl, rfl, H⟩
    · replace H := H.2 c51
      refine s_iconst (x := 1) (nx := 55) hO rfl (by decide) rfl ?_
      refine s_goto hO rfl ?_
      exact s_iret hO rfl rfl rfl ⟨rfl, _, _, rfl, rfl, H⟩
  refine s_if_ne (nx := 4) hO rfl rfl (fun c1 => ?_) (fun c1 => ?_)
  · replace H := H.1 c1
    exact xEx.loc (x_sub1 (List.Mem.head _) x_sub0) H
  · replace H := H.2 c1
    refine s_aload_n (nx := 5) hO rfl rfl rfl ?_
    refine s_getf (v := .int (sI s 139 15)) (nx := 8) hO rfl rfl (hs_o12 kc139) rfl rfl ?_
    refine s_if_ne (nx := 11) hO rfl rfl (fun c8 => ?_) (fun c8 => ?_)
    · replace H := H.1 c8
      exact xEx.loc (x_sub1 (List.Mem.head _) x_sub0) H
    · replace H := H.2 c8
      refine s_aload_n (nx := 12) hO rfl rfl rfl ?_
      refine s_aload_n (nx := 13) hO rfl rfl rfl ?_
      refine s_getf (v := .int (sI s 139 11)) (nx := 16) hO rfl rfl (hs_o12 kc139) rfl rfl ?_
      refine s_iconst (x := (nI 4)) (nx := 17) hO rfl (by decide) rfl ?_
      refine goK (H (fun (y2 : Int32) => xEx G mX12_must 25 [(0, .ref (q_b G + 139))] [.int y2, .ref (q_b G + 139)] (hS G s) z 0 0 (yQi G z Q)) (fun y2 H => ?_)) (fun H => ?_)
      · show xEx G mX12_must 25 [(0, .ref (q_b G + 139))] [.int y2, .ref (q_b G + 139)] (hS G s) z 0 0 (yQi G z Q)
        refine s_aload_n (nx := 26) hO rfl rfl rfl ?_
        refine s_getf (v := .int (sI s 139 11)) (nx := 29) hO rfl rfl (hs_o12 kc139) rfl rfl ?_
        refine s_iconst (x := (nI 4)) (nx := 30) hO rfl (by decide) rfl ?_
        refine goK (H (fun (y3 : Int32) => xEx G mX12_must 44 [(0, .ref (q_b G + 139))] [.int y3, .int y2, .ref (q_b G + 139)] (hS G s) z 0 0 (yQi G z Q)) (fun y3 H => ?_)) (fun H => ?_)
        · show xEx G mX12_must 44 [(0, .ref (q_b G + 139))] [.int y3, .int y2, .ref (q_b G + 139)] (hS G s) z 0 0 (yQi G z Q)
          refine s_callV [.int y2, .int y3] (ci := 12) (F := TX12) (N := 116) (nx := 47) hO rfl kX12_must_303 (by rw [hcl]; rfl) (hs_o12 kc139) (w_X12_wrong hG H) rfl rfl (Nat.le_of_ble_eq_true rfl) (Nat.zero_le _) (Nat.zero_le _) rfl (k_Qv (fun s4 H => ?_))
          exact xEx.loc (x_sub1 (List.Mem.head _) x_sub0) H
        refine s_icmp_ne (nx := 33) hO rfl rfl (fun c30 => ?_) (fun c30 => ?_)
        · replace H := H.1 c30
          refine s_aload_n (nx := 41) hO rfl rfl rfl ?_
          refine s_getf (v := .int (sI s 139 12)) (nx := 44) hO rfl rfl (hs_o12 kc139) rfl rfl ?_
          exact xEx.loc (x_sub1 (List.Mem.head _) x_sub0) H
        · replace H := H.2 c30
          refine s_aload_n (nx := 34) hO rfl rfl rfl ?_
          refine s_getf (v := .int (sI s 139 9)) (nx := 37) hO rfl rfl (hs_o12 kc139) rfl rfl ?_
          refine s_goto hO rfl ?_
          exact xEx.loc (x_sub1 (List.Mem.head _) x_sub0) H
      refine s_icmp_ne (nx := 20) hO rfl rfl (fun c17 => ?_) (fun c17 => ?_)
      · replace H := H.1 c17
        refine s_iconst (x := (nI 2)) (nx := 25) hO rfl (by decide) rfl ?_
        exact xEx.loc (x_sub1 (List.Mem.head _) x_sub0) H
      · replace H := H.2 c17
        refine s_iconst (x := (nI 3)) (nx := 21) hO rfl (by decide) rfl ?_
        refine s_goto hO rfl ?_
        exact xEx.loc (x_sub1 (List.Mem.head _) x_sub0) H
def W_X12_readCall (s : yS) (Q : Int32 → yS → Prop) : Prop :=
 W_X12_isWord s (y_nm y_w359 0) 
 (fun r1 => ∀ P46 : Int32 → Prop, (∀ (y2 : Int32), (W_X12_must s y2 
  (fun r3 s4 => ((¬ r3 = 0 → ∀ P67 : Int32 → Prop, (∀ (y5 : Int32), (W_X12_next s4 
    (fun s6 => Q y5 s6)) → P67 y5) → 
   ((r1 = 0 → P67 ((sJ s4 139 14)).toInt32)
   ∧ (¬ r1 = 0 → P67 (-1))))
  ∧ (r3 = 0 → Q 0 s4)))) → P46 y2) → 
 ((¬ r1 = 0 → P46 1)
 ∧ (r1 = 0 → ((¬ (sI s 139 11) = (nI 3) → P46 0)
  ∧ ((sI s 139 11) = (nI 3) → (((lg_cmp (sJ s 139 14) 0) < 0 → P46 0)
   ∧ (¬ (lg_cmp (sJ s 139 14) 0) < 0 → ((0 ≤ (lg_cmp (sJ s 139 14) ((16))) → P46 0)
    ∧ (¬ 0 ≤ (lg_cmp (sJ s 139 14) ((16))) → P46 1)))))))))
set_option maxRecDepth 100000 in
set_option maxHeartbeats 40000000 in
theorem w_X12_readCall {G : xG} (hG : yG G) {z : Nat} {s : yS} {Q : Int32 → yS → Prop} (H : W_X12_readCall s Q) : xC G mX12_readCall [.ref (q_b G + 139)] (hS G s) z 0 0 (yQi G z Q) := by
  have hW := hG.1
  have hcl := hG.2.1
  have hty := hG.2.2.1
  obtain ⟨q, v, hws⟩ := hG.2.2.2.2.2
  have hO : xO G mX12_readCall tbX12_readCall ptX12_readCall := ⟨tkX12_readCall, pkX12_readCall hcl⟩
  unfold W_X12_readCall at H
  refine xC.of hW (by decide) rfl (Nat.le_of_ble_eq_true rfl) ?_
  refine s_aload_n (nx := 1) hO rfl rfl rfl ?_
  refine s_ldcwS (nx := 4) hws.2.2.2.2.2.2.2.2.2.2.2.2.2.2.2.2.1 hO rfl rfl ?_
  refine s_callV [.ref (q 359)] (ci := 12) (F := TX12) (N := 116) (nx := 7) hO rfl kX12_readCall_341 (by rw [hcl]; rfl) (hs_o12 kc139) (w_X12_isWord hG hws.2.2.2.2.2.2.2.2.2.2.2.2.2.2.2.2.2.1 H) rfl rfl (Nat.le_of_ble_eq_true rfl) (Nat.zero_le _) (Nat.zero_le _) rfl (k_Pi (fun r1 H => ?_))
  refine s_istore_n (nx := 8) (l' := [(1, .int r1), (0, .ref (q_b G + 139))]) hO rfl (by decide) rfl rfl ?_
  refine s_aload_n (nx := 9) hO rfl rfl rfl ?_
  refine s_iload_n (nx := 10) hO rfl rfl rfl ?_
  refine goK (H (fun (y2 : Int32) => xEx G mX12_readCall 46 [(0, .ref (q_b G + 139)), (1, .int r1)] [.int y2, .ref (q_b G + 139)] (hS G s) z 0 0 (yQi G z Q)) (fun y2 H => ?_)) (fun H => ?_)
  · show xEx G mX12_readCall 46 [(0, .ref (q_b G + 139)), (1, .int r1)] [.int y2, .ref (q_b G + 139)] (hS G s) z 0 0 (yQi G z Q)
    refine s_callV [.int y2] (ci := 12) (F := TX12) (N := 116) (nx := 49) hO rfl kX12_readCall_367 (by rw [hcl]; rfl) (hs_o12 kc139) (w_X12_must hG H) rfl rfl (Nat.le_of_ble_eq_true rfl) (Nat.zero_le _) (Nat.zero_le _) rfl (k_Qi (fun r3 s4 H => ?_))
    refine s_if_ne (nx := 52) hO rfl rfl (fun c49 => ?_) (fun c49 => ?_)
    · replace H := H.1 c49
      refine s_iload_n (nx := 55) hO rfl rfl rfl ?_
      refine goK (H (fun (y5 : Int32) => xEx G mX12_readCall 67 [(0, .ref (q_b G + 139))] [.int y5] (hS G s4) z 0 0 (yQi G z Q)) (fun y5 H => ?_)) (fun H => ?_)
      · show xEx G mX12_readCall 67 [(0, .ref (q_b G + 139))] [.int y5] (hS G s4) z 0 0 (yQi G z Q)
        refine s_istore_n (nx := 68) (l' := [(2, .int y5), (0, .ref (q_b G + 139))]) hO rfl (by decide) rfl rfl ?_
        refine s_aload_n (nx := 69) hO rfl rfl rfl ?_
        refine s_callV [] (ci := 12) (F := TX12) (N := 116) (nx := 72) hO rfl kX12_readCall_371 (by rw [hcl]; rfl) (hs_o12 kc139) (w_X12_next hG H) rfl rfl (Nat.le_of_ble_eq_true rfl) (Nat.zero_le _) (Nat.zero_le _) rfl (k_Qv (fun s6 H => ?_))
        refine s_iload_n (nx := 73) hO rfl rfl rfl ?_
        exact s_iret hO rfl rfl rfl ⟨rfl, _, _, rfl, rfl, H⟩
      refine s_if_eq (nx := 58) hO rfl rfl (fun c55 => ?_) (fun c55 => ?_)
      · replace H := H.1 c55
        refine s_aload_n (nx := 63) hO rfl rfl rfl ?_
        refine s_getf (v := .long (sJ s4 139 14)) (nx := 66) hO rfl rfl (hs_o12 kc139) rfl rfl ?_
        refine s_l2i (nx := 67) hO rfl rfl ?_
        exact xEx.loc (x_sub1 (List.Mem.head _) x_sub0) H
      · replace H := H.2 c55
        refine s_iconst (x := (-1)) (nx := 59) hO rfl (by decide) rfl ?_
        refine s_goto hO rfl ?_
        exact xEx.loc (x_sub1 (List.Mem.head _) x_sub0) H
    · replace H := H.2 c49
      refine s_iconst (x := 0) (nx := 53) hO rfl (by decide) rfl ?_
      exact s_iret hO rfl rfl rfl ⟨rfl, _, _, rfl, rfl, H⟩
  refine s_if_ne (nx := 13) hO rfl rfl (fun c10 => ?_) (fun c10 => ?_)
  · replace H := H.1 c10
    refine s_iconst (x := 1) (nx := 42) hO rfl (by decide) rfl ?_
    refine s_goto hO rfl ?_
    exact xEx.loc (x_sub1 (List.Mem.tail _ (List.Mem.head _)) (x_sub1 (List.Mem.head _) x_sub0)) H
  · replace H := H.2 c10
    refine s_aload_n (nx := 14) hO rfl rfl rfl ?_
    refine s_getf (v := .int (sI s 139 11)) (nx := 17) hO rfl rfl (hs_o12 kc139) rfl rfl ?_
    refine s_iconst (x := (nI 3)) (nx := 18) hO rfl (by decide) rfl ?_
    refine s_icmp_ne (nx := 21) hO rfl rfl (fun c18 => ?_) (fun c18 => ?_)
    · replace H := H.1 c18
      refine s_iconst (x := 0) (nx := 46) hO rfl (by decide) rfl ?_
      exact xEx.loc (x_sub1 (List.Mem.tail _ (List.Mem.head _)) (x_sub1 (List.Mem.head _) x_sub0)) H
    · replace H := H.2 c18
      refine s_aload_n (nx := 22) hO rfl rfl rfl ?_
      refine s_getf (v := .long (sJ s 139 14)) (nx := 25) hO rfl rfl (hs_o12 kc139) rfl rfl ?_
      refine s_lconst (x := 0) (nx := 26) hO rfl (by decide) rfl ?_
      refine s_lcmp (nx := 27) hO rfl rfl ?_
      refine s_if_lt (nx := 30) hO rfl rfl (fun c27 => ?_) (fun c27 => ?_)
      · replace H := H.1 c27
        refine s_iconst (x := 0) (nx := 46) hO rfl (by decide) rfl ?_
        exact xEx.loc (x_sub1 (List.Mem.tail _ (List.Mem.head _)) (x_sub1 (List.Mem.head _) x_sub0)) H
      · replace H := H.2 c27
        refine s_aload_n (nx := 31) hO rfl rfl rfl ?_
        refine s_getf (v := .long (sJ s 139 14)) (nx := 34) hO rfl rfl (hs_o12 kc139) rfl rfl ?_
        refine s_ldc2_w (x := ((16))) (nx := 37) hO rfl rfl rfl ?_
        refine s_lcmp (nx := 38) hO rfl rfl ?_
        refine s_if_ge (nx := 41) hO rfl rfl (fun c38 => ?_) (fun c38 => ?_)
        · replace H := H.1 c38
          refine s_iconst (x := 0) (nx := 46) hO rfl (by decide) rfl ?_
          exact xEx.loc (x_sub1 (List.Mem.tail _ (List.Mem.head _)) (x_sub1 (List.Mem.head _) x_sub0)) H
        · replace H := H.2 c38
          refine s_iconst (x := 1) (nx := 42) hO rfl (by decide) rfl ?_
          refine s_goto hO rfl ?_
          exact xEx.loc (x_sub1 (List.Mem.tail _ (List.Mem.head _)) (x_sub1 (List.Mem.head _) x_sub0)) H
def W_X12_expect (s : yS) (v1 : Int32) (Q : yS → Prop) : Prop :=
 ∀ P14 : Int32 → Prop, (∀ (y1 : Int32), (W_X12_must s y1 
  (fun r2 s3 => ((r2 = 0 → Q s3)
  ∧ (¬ r2 = 0 → W_X12_next s3 
   (fun s4 => Q s4))))) → P14 y1) → 
 ((¬ (sI s 139 11) = v1 → P14 0)
 ∧ ((sI s 139 11) = v1 → P14 1))
set_option maxRecDepth 100000 in
set_option maxHeartbeats 40000000 in
theorem w_X12_expect {G : xG} (hG : yG G) {z : Nat} {s : yS} {v1 : Int32} {Q : yS → Prop} (H : W_X12_expect s v1 Q) : xC G mX12_expect [.ref (q_b G + 139), .int v1] (hS G s) z 0 0 (yQv G z Q) := by
  have hW := hG.1
  have hcl := hG.2.1
  have hty := hG.2.2.1
  have hO : xO G mX12_expect tbX12_expect ptX12_expect := ⟨tkX12_expect, pkX12_expect hcl⟩
  unfold W_X12_expect at H
  refine xC.of hW (by decide) rfl (Nat.le_of_ble_eq_true rfl) ?_
  refine s_aload_n (nx := 1) hO rfl rfl rfl ?_
  refine s_aload_n (nx := 2) hO rfl rfl rfl ?_
  refine s_getf (v := .int (sI s 139 11)) (nx := 5) hO rfl rfl (hs_o12 kc139) rfl rfl ?_
  refine s_iload_n (nx := 6) hO rfl rfl rfl ?_
  refine goK (H (fun (y1 : Int32) => xEx G mX12_expect 14 [(0, .ref (q_b G + 139))] [.int y1, .ref (q_b G + 139)] (hS G s) z 0 0 (yQv G z Q)) (fun y1 H => ?_)) (fun H => ?_)
  · show xEx G mX12_expect 14 [(0, .ref (q_b G + 139))] [.int y1, .ref (q_b G + 139)] (hS G s) z 0 0 (yQv G z Q)
    refine s_callV [.int y1] (ci := 12) (F := TX12) (N := 116) (nx := 17) hO rfl kX12_expect_367 (by rw [hcl]; rfl) (hs_o12 kc139) (w_X12_must hG H) rfl rfl (Nat.le_of_ble_eq_true rfl) (Nat.zero_le _) (Nat.zero_le _) rfl (k_Qi (fun r2 s3 H => ?_))
    refine s_if_eq (nx := 20) hO rfl rfl (fun c17 => ?_) (fun c17 => ?_)
    · replace H := H.1 c17
      exact s_vret hO rfl rfl ⟨rfl, _, rfl, rfl, H⟩
    · replace H := H.2 c17
      refine s_aload_n (nx := 21) hO rfl rfl rfl ?_
      refine s_callV [] (ci := 12) (F := TX12) (N := 116) (nx := 24) hO rfl kX12_expect_371 (by rw [hcl]; rfl) (hs_o12 kc139) (w_X12_next hG H) rfl rfl (Nat.le_of_ble_eq_true rfl) (Nat.zero_le _) (Nat.zero_le _) rfl (k_Qv (fun s4 H => ?_))
      exact s_vret hO rfl rfl ⟨rfl, _, rfl, rfl, H⟩
  refine s_icmp_ne (nx := 9) hO rfl rfl (fun c6 => ?_) (fun c6 => ?_)
  · replace H := H.1 c6
    refine s_iconst (x := 0) (nx := 14) hO rfl (by decide) rfl ?_
    exact xEx.loc (x_sub1 (List.Mem.head _) x_sub0) H
  · replace H := H.2 c6
    refine s_iconst (x := 1) (nx := 10) hO rfl (by decide) rfl ?_
    refine s_goto hO rfl ?_
    exact xEx.loc (x_sub1 (List.Mem.head _) x_sub0) H
def W_X12_look (s : yS) (v1 : Int32) (v2 : Int32) (v3 : Int32) (Q : yS → Prop) : Prop :=
 vp_in ((nI 4) * (sI s 139 43)) 5000 ∧ ∀ s2 : yS, s2 = wI s 164 (ix ((nI 4) * (sI s 139 43))) v1 → 
 vp_in (((nI 4) * (sI s2 139 43)) + 1) 5000 ∧ ∀ s4 : yS, s4 = wI s2 164 (ix (((nI 4) * (sI s2 139 43)) + 1)) v2 → 
 vp_in (((nI 4) * (sI s4 139 43)) + (nI 2)) 5000 ∧ ∀ s6 : yS, s6 = wI s4 164 (ix (((nI 4) * (sI s4 139 43)) + (nI 2))) v3 → 
 vp_in (((nI 4) * (sI s6 139 43)) + (nI 3)) 5000 ∧ ∀ s8 : yS, s8 = wI s6 164 (ix (((nI 4) * (sI s6 139 43)) + (nI 3))) (sI s6 139 12) → 
 ∀ s9 : yS, s9 = wI s8 139 43 ((sI s8 139 43) + 1) → 
 Q s9
set_option maxRecDepth 100000 in
set_option maxHeartbeats 40000000 in
theorem w_X12_look {G : xG} (hG : yG G) {z : Nat} {s : yS} {v1 : Int32} {v2 : Int32} {v3 : Int32} {Q : yS → Prop} (H : W_X12_look s v1 v2 v3 Q) : xC G mX12_look [.ref (q_b G + 139), .int v1, .int v2, .int v3] (hS G s) z 0 0 (yQv G z Q) := by
  have hW := hG.1
  have hcl := hG.2.1
  have hty := hG.2.2.1
  have hO : xO G mX12_look tbX12_look ptX12_look := ⟨tkX12_look, pkX12_look hcl⟩
  unfold W_X12_look at H
  refine xC.of hW (by decide) rfl (Nat.le_of_ble_eq_true rfl) ?_
  refine s_aload_n (nx := 1) hO rfl rfl rfl ?_
  refine s_getf (v := .ref (q_b G + 164)) (nx := 4) hO rfl rfl (hs_o12 kc139) rfl rfl ?_
  refine s_iconst (x := (nI 4)) (nx := 5) hO rfl (by decide) rfl ?_
  refine s_aload_n (nx := 6) hO rfl rfl rfl ?_
  refine s_getf (v := .int (sI s 139 43)) (nx := 9) hO rfl rfl (hs_o12 kc139) rfl rfl ?_
  refine s_imul (nx := 10) hO rfl rfl ?_
  refine s_iload_n (nx := 11) hO rfl rfl rfl ?_
  obtain ⟨b1, H⟩ := H
  refine goV (wI s 164 (ix ((nI 4) * (sI s 139 43))) v1) (fun s2 es2 => ?_)
  replace H := H s2 es2
  refine s_iast (nx := 12) hO rfl (hs_I kc164) b1 rfl ?_
  refine xEx.at (up_I kc164 es2) ?_
  refine s_aload_n (nx := 13) hO rfl rfl rfl ?_
  refine s_getf (v := .ref (q_b G + 164)) (nx := 16) hO rfl rfl (hs_o12 kc139) rfl rfl ?_
  refine s_iconst (x := (nI 4)) (nx := 17) hO rfl (by decide) rfl ?_
  refine s_aload_n (nx := 18) hO rfl rfl rfl ?_
  refine s_getf (v := .int (sI s2 139 43)) (nx := 21) hO rfl rfl (hs_o12 kc139) rfl rfl ?_
  refine s_imul (nx := 22) hO rfl rfl ?_
  refine s_iconst (x := 1) (nx := 23) hO rfl (by decide) rfl ?_
  refine s_iadd (nx := 24) hO rfl rfl ?_
  refine s_iload_n (nx := 25) hO rfl rfl rfl ?_
  obtain ⟨b3, H⟩ := H
  refine goV (wI s2 164 (ix (((nI 4) * (sI s2 139 43)) + 1)) v2) (fun s4 es4 => ?_)
  replace H := H s4 es4
  refine s_iast (nx := 26) hO rfl (hs_I kc164) b3 rfl ?_
  refine xEx.at (up_I kc164 es4) ?_
  refine s_aload_n (nx := 27) hO rfl rfl rfl ?_
  refine s_getf (v := .ref (q_b G + 164)) (nx := 30) hO rfl rfl (hs_o12 kc139) rfl rfl ?_
  refine s_iconst (x := (nI 4)) (nx := 31) hO rfl (by decide) rfl ?_
  refine s_aload_n (nx := 32) hO rfl rfl rfl ?_
  refine s_getf (v := .int (sI s4 139 43)) (nx := 35) hO rfl rfl (hs_o12 kc139) rfl rfl ?_
  refine s_imul (nx := 36) hO rfl rfl ?_
  refine s_iconst (x := (nI 2)) (nx := 37) hO rfl (by decide) rfl ?_
  refine s_iadd (nx := 38) hO rfl rfl ?_
  refine s_iload_n (nx := 39) hO rfl rfl rfl ?_
  obtain ⟨b5, H⟩ := H
  refine goV (wI s4 164 (ix (((nI 4) * (sI s4 139 43)) + (nI 2))) v3) (fun s6 es6 => ?_)
  replace H := H s6 es6
  refine s_iast (nx := 40) hO rfl (hs_I kc164) b5 rfl ?_
  refine xEx.at (up_I kc164 es6) ?_
  refine s_aload_n (nx := 41) hO rfl rfl rfl ?_
  refine s_getf (v := .ref (q_b G + 164)) (nx := 44) hO rfl rfl (hs_o12 kc139) rfl rfl ?_
  refine s_iconst (x := (nI 4)) (nx := 45) hO rfl (by decide) rfl ?_
  refine s_aload_n (nx := 46) hO rfl rfl rfl ?_
  refine s_getf (v := .int (sI s6 139 43)) (nx := 49) hO rfl rfl (hs_o12 kc139) rfl rfl ?_
  refine s_imul (nx := 50) hO rfl rfl ?_
  refine s_iconst (x := (nI 3)) (nx := 51) hO rfl (by decide) rfl ?_
  refine s_iadd (nx := 52) hO rfl rfl ?_
  refine s_aload_n (nx := 53) hO rfl rfl rfl ?_
  refine s_getf (v := .int (sI s6 139 12)) (nx := 56) hO rfl rfl (hs_o12 kc139) rfl rfl ?_
  obtain ⟨b7, H⟩ := H
  refine goV (wI s6 164 (ix (((nI 4) * (sI s6 139 43)) + (nI 3))) (sI s6 139 12)) (fun s8 es8 => ?_)
  replace H := H s8 es8
  refine s_iast (nx := 57) hO rfl (hs_I kc164) b7 rfl ?_
  refine xEx.at (up_I kc164 es8) ?_
  refine s_aload_n (nx := 58) hO rfl rfl rfl ?_
  refine s_dup (nx := 59) hO rfl rfl rfl ?_
  refine s_getf (v := .int (sI s8 139 43)) (nx := 62) hO rfl rfl (hs_o12 kc139) rfl rfl ?_
  refine s_iconst (x := 1) (nx := 63) hO rfl (by decide) rfl ?_
  refine s_iadd (nx := 64) hO rfl rfl ?_
  refine goV (wI s8 139 43 ((sI s8 139 43) + 1)) (fun s9 es9 => ?_)
  replace H := H s9 es9
  refine s_putf (nx := 67) hO rfl rfl (hs_o12 kc139) (Nat.le_of_ble_eq_true rfl) (by rw [hty]; rfl) (by rw [hty]; rfl) pX12_43 rfl ?_
  refine xEx.at (up_oI12 kc139 es9) ?_
  exact s_vret hO rfl rfl ⟨rfl, _, rfl, rfl, H⟩
def W_X12_readGuard (s : yS) (v1 : Int32) (Q : yS → Prop) : Prop :=
 ∀ P6 : Int32 → yS → Prop, (∀ (x1 : Int32) (s2 : yS), (∀ P38 : Prop, ((W_X12_isWord s2 (y_nm y_w353 0) 
   (fun r3 => ∀ P64 : Int32 → Prop, (∀ (y4 : Int32), (W_X12_must s2 y4 
    (fun r5 s6 => ((¬ r5 = 0 → W_X12_isWord s6 (y_nm y_w355 0) 
     (fun r7 => vp_in (sI s6 139 41) 900 ∧ ∀ s9 : yS, s9 = wI s6 158 (ix (sI s6 139 41)) (vp_nar .boolean r7) → 
     ∀ P107 : Int32 → Prop, (∀ (y10 : Int32), (vp_in (sI s9 139 41) 900 ∧ ∀ s12 : yS, s12 = wI s9 163 (ix (sI s9 139 41)) (vp_nar .boolean y10) → 
      W_X12_next s12 
      (fun s13 => vp_in (sI s13 139 41) 900 ∧ 
      ∀ P195 : yS → Prop, (∀ (s15 : yS), (vp_in (sI s15 139 41) 900 ∧ ∀ s17 : yS, s17 = wJ s15 160 (ix (sI s15 139 41)) (sJ s15 139 13) → 
       vp_in (sI s17 139 41) 900 ∧ 
       ∀ P237 : Int32 → Prop, (∀ (y19 : Int32), (vp_in (sI s17 139 41) 900 ∧ ∀ s21 : yS, s21 = wI s17 159 (ix (sI s17 139 41)) y19 → 
        vp_in (sI s21 139 41) 900 ∧ 
        ∀ P256 : Int32 → Prop, (∀ (y23 : Int32), (W_X12_look s21 y23 (sI s21 139 41) v1 
         (fun s24 => W_X12_next s24 
         (fun s25 => W_X12_isWord s25 (y_nm y_w361 0) 
         (fun r26 => ∀ P304 : Int32 → Prop, (∀ (y27 : Int32), (W_X12_must s25 y27 
          (fun r28 s29 => ((¬ r28 = 0 → W_X12_isWord s29 (y_nm y_w361 0) 
           (fun r30 => ∀ P348 : Int32 → Prop, (∀ (y31 : Int32), (vp_in (sI s29 139 41) 900 ∧ ∀ s33 : yS, s33 = wI s29 161 (ix (sI s29 139 41)) y31 → 
            W_X12_next s33 
            (fun s34 => ∀ P367 : Int32 → Prop, (∀ (y35 : Int32), (W_X12_must s34 y35 
             (fun r36 s37 => ((¬ r36 = 0 → vp_in (sI s37 139 41) 900 ∧ ∀ s39 : yS, s39 = wI s37 162 (ix (sI s37 139 41)) ((sJ s37 139 14)).toInt32 → 
              ∀ s40 : yS, s40 = wI s39 139 41 ((sI s39 139 41) + 1) → 
              W_X12_next s40 
              (fun s41 => ∀ P404 : Int32 → yS → Prop, (∀ (x42 : Int32) (s43 : yS), (((x1 < x42 → Q s43)
               ∧ (¬ x1 < x42 → W_X12_expect s43 1 
                (fun s44 => ∀ x45 : Int32, x45 = (x42 + 1) → 
                P404 x45 s44)))) → P404 x42 s43) → 
              P404 0 s41))
             ∧ (r36 = 0 → Q s37)))) → P367 y35) → 
            ((¬ (sI s34 139 11) = (nI 3) → P367 0)
            ∧ ((sI s34 139 11) = (nI 3) → P367 1)))) → P348 y31) → 
           ((r30 = 0 → W_X12_isWord s29 (y_nm y_w363 0) 
            (fun r46 => ((r46 = 0 → P348 (nI 2))
            ∧ (¬ r46 = 0 → P348 1))))
           ∧ (¬ r30 = 0 → P348 0))))
          ∧ (r28 = 0 → Q s29)))) → P304 y27) → 
         ((¬ r26 = 0 → P304 1)
         ∧ (r26 = 0 → W_X12_isWord s25 (y_nm y_w363 0) 
          (fun r47 => ((¬ r47 = 0 → P304 1)
          ∧ (r47 = 0 → W_X12_isWord s25 (y_nm y_w365 0) 
           (fun r48 => ((r48 = 0 → P304 0)
           ∧ (¬ r48 = 0 → P304 1)))))))))))) → P256 y23) → 
        (((sI s21 158 (ix (sI s21 139 41))) = 0 → P256 (nI 2))
        ∧ (¬ (sI s21 158 (ix (sI s21 139 41))) = 0 → P256 0))) → P237 y19) → 
       (((sI s17 158 (ix (sI s17 139 41))) = 0 → P237 ((sJ s17 139 14)).toInt32)
       ∧ (¬ (sI s17 158 (ix (sI s17 139 41))) = 0 → P237 0))) → P195 s15) → 
      (((sI s13 158 (ix (sI s13 139 41))) = 0 → ∀ P188 : Int32 → Prop, (∀ (y49 : Int32), (W_X12_must s13 y49 
        (fun r50 s51 => ((¬ r50 = 0 → P195 s51)
        ∧ (r50 = 0 → Q s51)))) → P188 y49) → 
       ((¬ (sI s13 139 11) = (nI 3) → P188 0)
       ∧ ((sI s13 139 11) = (nI 3) → (((lg_cmp (sJ s13 139 14) 0) < 0 → P188 0)
        ∧ (¬ (lg_cmp (sJ s13 139 14) 0) < 0 → ((0 ≤ (lg_cmp (sJ s13 139 14) ((3))) → P188 0)
         ∧ (¬ 0 ≤ (lg_cmp (sJ s13 139 14) ((3))) → P188 1)))))))
      ∧ (¬ (sI s13 158 (ix (sI s13 139 41))) = 0 → ∀ P145 : Int32 → Prop, (∀ (y52 : Int32), (W_X12_must s13 y52 
        (fun r53 s54 => ((¬ r53 = 0 → P195 s54)
        ∧ (r53 = 0 → Q s54)))) → P145 y52) → 
       ((¬ (sI s13 139 11) = (nI 2) → P145 0)
       ∧ ((sI s13 139 11) = (nI 2) → W_X12_isReserved s13 
        (fun r55 => ((¬ r55 = 0 → P145 0)
        ∧ (r55 = 0 → P145 1))))))))) → P107 y10) → 
     ((¬ (x1 - x1 / (nI 2) * (nI 2)) = 1 → P107 0)
     ∧ ((x1 - x1 / (nI 2) * (nI 2)) = 1 → P107 1))))
    ∧ (r5 = 0 → Q s6)))) → P64 y4) → 
   ((¬ r3 = 0 → P64 1)
   ∧ (r3 = 0 → W_X12_isWord s2 (y_nm y_w355 0) 
    (fun r56 => ((r56 = 0 → P64 0)
    ∧ (¬ r56 = 0 → P64 1))))))) → P38) → 
  ((¬ (sI s2 139 15) = 0 → P38)
  ∧ ((sI s2 139 15) = 0 → W_X12_isWord s2 (y_nm y_w357 0) 
   (fun r57 => ((r57 = 0 → P38)
   ∧ (¬ r57 = 0 → ∀ x58 : Int32, x58 = (x1 + 1) → 
    W_X12_next s2 
    (fun s59 => W_X12_expect s59 0 
    (fun s60 => P6 x58 s60)))))))) → P6 x1 s2) → 
 W_X12_next s 
 (fun s61 => P6 0 s61)
set_option maxRecDepth 100000 in
set_option maxHeartbeats 40000000 in
theorem w_X12_readGuard {G : xG} (hG : yG G) {z : Nat} {s : yS} {v1 : Int32} {Q : yS → Prop} (H : W_X12_readGuard s v1 Q) : xC G mX12_readGuard [.ref (q_b G + 139), .int v1] (hS G s) z 0 0 (yQv G z Q) := by
  have hW := hG.1
  have hcl := hG.2.1
  have hty := hG.2.2.1
  obtain ⟨q, v, hws⟩ := hG.2.2.2.2.2
  have hO : xO G mX12_readGuard tbX12_readGuard ptX12_readGuard := ⟨tkX12_readGuard, pkX12_readGuard hcl⟩
  unfold W_X12_readGuard at H
  refine xC.of hW (by decide) rfl (Nat.le_of_ble_eq_true rfl) ?_
  refine s_iconst (x := 0) (nx := 1) hO rfl (by decide) rfl ?_
  refine s_istore_n (nx := 2) (l' := [(2, .int 0), (0, .ref (q_b G + 139)), (1, .int v1)]) hO rfl (by decide) rfl rfl ?_
  refine s_aload_n (nx := 3) hO rfl rfl rfl ?_
  refine goK (H (fun (x1 : Int32) (s2 : yS) => xEx G mX12_readGuard 6 [(0, .ref (q_b G + 139)), (1, .int v1), (2, .int x1)] [] (hS G s2) z 0 0 (yQv G z Q)) (fun x1 s2 H => ?_)) (fun H => ?_)
  · show xEx G mX12_readGuard 6 [(0, .ref (q_b G + 139)), (1, .int v1), (2, .int x1)] [] (hS G s2) z 0 0 (yQv G z Q)
    refine s_aload_n (nx := 7) hO rfl rfl rfl ?_
    refine s_getf (v := .int (sI s2 139 15)) (nx := 10) hO rfl rfl (hs_o12 kc139) rfl rfl ?_
    refine goK (H (xEx G mX12_readGuard 38 [(0, .ref (q_b G + 139)), (1, .int v1), (2, .int x1)] [] (hS G s2) z 0 0 (yQv G z Q)) (fun H => ?_)) (fun H => ?_)
    · show xEx G mX12_readGuard 38 [(0, .ref (q_b G + 139)), (1, .int v1), (2, .int x1)] [] (hS G s2) z 0 0 (yQv G z Q)
      refine s_aload_n (nx := 39) hO rfl rfl rfl ?_
      refine s_aload_n (nx := 40) hO rfl rfl rfl ?_
      refine s_ldcwS (nx := 43) hws.2.2.2.2.2.2.2.2.2.2.1 hO rfl rfl ?_
      refine s_callV [.ref (q 353)] (ci := 12) (F := TX12) (N := 116) (nx := 46) hO rfl kX12_readGuard_341 (by rw [hcl]; rfl) (hs_o12 kc139) (w_X12_isWord hG hws.2.2.2.2.2.2.2.2.2.2.2.1 H) rfl rfl (Nat.le_of_ble_eq_true rfl) (Nat.zero_le _) (Nat.zero_le _) rfl (k_Pi (fun r3 H => ?_))
      refine goK (H (fun (y4 : Int32) => xEx G mX12_readGuard 64 [(0, .ref (q_b G + 139)), (1, .int v1), (2, .int x1)] [.int y4, .ref (q_b G + 139)] (hS G s2) z 0 0 (yQv G z Q)) (fun y4 H => ?_)) (fun H => ?_)
      · show xEx G mX12_readGuard 64 [(0, .ref (q_b G + 139)), (1, .int v1), (2, .int x1)] [.int y4, .ref (q_b G + 139)] (hS G s2) z 0 0 (yQv G z Q)
        refine s_callV [.int y4] (ci := 12) (F := TX12) (N := 116) (nx := 67) hO rfl kX12_readGuard_367 (by rw [hcl]; rfl) (hs_o12 kc139) (w_X12_must hG H) rfl rfl (Nat.le_of_ble_eq_true rfl) (Nat.zero_le _) (Nat.zero_le _) rfl (k_Qi (fun r5 s6 H => ?_))
        refine s_if_ne (nx := 70) hO rfl rfl (fun c67 => ?_) (fun c67 => ?_)
        · replace H := H.1 c67
          refine s_aload_n (nx := 72) hO rfl rfl rfl ?_
          refine s_getf (v := .ref (q_b G + 158)) (nx := 75) hO rfl rfl (hs_o12 kc139) rfl rfl ?_
          refine s_aload_n (nx := 76) hO rfl rfl rfl ?_
          refine s_getf (v := .int (sI s6 139 41)) (nx := 79) hO rfl rfl (hs_o12 kc139) rfl rfl ?_
          refine s_aload_n (nx := 80) hO rfl rfl rfl ?_
          refine s_ldcwS (nx := 83) hws.2.2.2.2.2.2.2.2.2.2.2.2.1 hO rfl rfl ?_
          refine s_callV [.ref (q 355)] (ci := 12) (F := TX12) (N := 116) (nx := 86) hO rfl kX12_readGuard_341 (by rw [hcl]; rfl) (hs_o12 kc139) (w_X12_isWord hG hws.2.2.2.2.2.2.2.2.2.2.2.2.2.1 H) rfl rfl (Nat.le_of_ble_eq_true rfl) (Nat.zero_le _) (Nat.zero_le _) rfl (k_Pi (fun r7 H => ?_))
          obtain ⟨b8, H⟩ := H
          refine goV (wI s6 158 (ix (sI s6 139 41)) (vp_nar .boolean r7)) (fun s9 es9 => ?_)
          replace H := H s9 es9
          refine s_zast (nx := 87) hO rfl (hs_Z kc158) b8 rfl ?_
          refine xEx.at (up_Z kc158 es9) ?_
          refine s_aload_n (nx := 88) hO rfl rfl rfl ?_
          refine s_getf (v := .ref (q_b G + 163)) (nx := 91) hO rfl rfl (hs_o12 kc139) rfl rfl ?_
          refine s_aload_n (nx := 92) hO rfl rfl rfl ?_
          refine s_getf (v := .int (sI s9 139 41)) (nx := 95) hO rfl rfl (hs_o12 kc139) rfl rfl ?_
          refine s_iload_n (nx := 96) hO rfl rfl rfl ?_
          refine s_iconst (x := (nI 2)) (nx := 97) hO rfl (by decide) rfl ?_
          refine s_irem (nx := 98) hO rfl (by decide) rfl ?_
          refine s_iconst (x := 1) (nx := 99) hO rfl (by decide) rfl ?_
          refine goK (H (fun (y10 : Int32) => xEx G mX12_readGuard 107 [(0, .ref (q_b G + 139)), (1, .int v1), (2, .int x1)] [.int y10, .int (sI s9 139 41), .ref (q_b G + 163)] (hS G s9) z 0 0 (yQv G z Q)) (fun y10 H => ?_)) (fun H => ?_)
          · show xEx G mX12_readGuard 107 [(0, .ref (q_b G + 139)), (1, .int v1), (2, .int x1)] [.int y10, .int (sI s9 139 41), .ref (q_b G + 163)] (hS G s9) z 0 0 (yQv G z Q)
            obtain ⟨b11, H⟩ := H
            refine goV (wI s9 163 (ix (sI s9 139 41)) (vp_nar .boolean y10)) (fun s12 es12 => ?_)
            replace H := H s12 es12
            refine s_zast (nx := 108) hO rfl (hs_Z kc163) b11 rfl ?_
            refine xEx.at (up_Z kc163 es12) ?_
            refine s_aload_n (nx := 109) hO rfl rfl rfl ?_
            refine s_callV [] (ci := 12) (F := TX12) (N := 116) (nx := 112) hO rfl kX12_readGuard_371 (by rw [hcl]; rfl) (hs_o12 kc139) (w_X12_next hG H) rfl rfl (Nat.le_of_ble_eq_true rfl) (Nat.zero_le _) (Nat.zero_le _) rfl (k_Qv (fun s13 H => ?_))
            refine s_aload_n (nx := 113) hO rfl rfl rfl ?_
            refine s_getf (v := .ref (q_b G + 158)) (nx := 116) hO rfl rfl (hs_o12 kc139) rfl rfl ?_
            refine s_aload_n (nx := 117) hO rfl rfl rfl ?_
            refine s_getf (v := .int (sI s13 139 41)) (nx := 120) hO rfl rfl (hs_o12 kc139) rfl rfl ?_
            obtain ⟨b14, H⟩ := H
            refine s_zald (nx := 121) hO rfl (hs_Z kc158) b14 rfl ?_
            refine goK (H (fun (s15 : yS) => xEx G mX12_readGuard 195 [(0, .ref (q_b G + 139)), (1, .int v1), (2, .int x1)] [] (hS G s15) z 0 0 (yQv G z Q)) (fun s15 H => ?_)) (fun H => ?_)
            · show xEx G mX12_readGuard 195 [(0, .ref (q_b G + 139)), (1, .int v1), (2, .int x1)] [] (hS G s15) z 0 0 (yQv G z Q)
              refine s_aload_n (nx := 196) hO rfl rfl rfl ?_
              refine s_getf (v := .ref (q_b G + 160)) (nx := 199) hO rfl rfl (hs_o12 kc139) rfl rfl ?_
              refine s_aload_n (nx := 200) hO rfl rfl rfl ?_
              refine s_getf (v := .int (sI s15 139 41)) (nx := 203) hO rfl rfl (hs_o12 kc139) rfl rfl ?_
              refine s_aload_n (nx := 204) hO rfl rfl rfl ?_
              refine s_getf (v := .long (sJ s15 139 13)) (nx := 207) hO rfl rfl (hs_o12 kc139) rfl rfl ?_
              obtain ⟨b16, H⟩ := H
              refine goV (wJ s15 160 (ix (sI s15 139 41)) (sJ s15 139 13)) (fun s17 es17 => ?_)
              replace H := H s17 es17
              refine s_last (nx := 208) hO rfl (hs_J kc160) b16 rfl ?_
              refine xEx.at (up_J kc160 es17) ?_
              refine s_aload_n (nx := 209) hO rfl rfl rfl ?_
              refine s_getf (v := .ref (q_b G + 159)) (nx := 212) hO rfl rfl (hs_o12 kc139) rfl rfl ?_
              refine s_aload_n (nx := 213) hO rfl rfl rfl ?_
              refine s_getf (v := .int (sI s17 139 41)) (nx := 216) hO rfl rfl (hs_o12 kc139) rfl rfl ?_
              refine s_aload_n (nx := 217) hO rfl rfl rfl ?_
              refine s_getf (v := .ref (q_b G + 158)) (nx := 220) hO rfl rfl (hs_o12 kc139) rfl rfl ?_
              refine s_aload_n (nx := 221) hO rfl rfl rfl ?_
              refine s_getf (v := .int (sI s17 139 41)) (nx := 224) hO rfl rfl (hs_o12 kc139) rfl rfl ?_
              obtain ⟨b18, H⟩ := H
              refine s_zald (nx := 225) hO rfl (hs_Z kc158) b18 rfl ?_
              refine goK (H (fun (y19 : Int32) => xEx G mX12_readGuard 237 [(0, .ref (q_b G + 139)), (1, .int v1), (2, .int x1)] [.int y19, .int (sI s17 139 41), .ref (q_b G + 159)] (hS G s17) z 0 0 (yQv G z Q)) (fun y19 H => ?_)) (fun H => ?_)
              · show xEx G mX12_readGuard 237 [(0, .ref (q_b G + 139)), (1, .int v1), (2, .int x1)] [.int y19, .int (sI s17 139 41), .ref (q_b G + 159)] (hS G s17) z 0 0 (yQv G z Q)
                obtain ⟨b20, H⟩ := H
                refine goV (wI s17 159 (ix (sI s17 139 41)) y19) (fun s21 es21 => ?_)
                replace H := H s21 es21
                refine s_iast (nx := 238) hO rfl (hs_I kc159) b20 rfl ?_
                refine xEx.at (up_I kc159 es21) ?_
                refine s_aload_n (nx := 239) hO rfl rfl rfl ?_
                refine s_aload_n (nx := 240) hO rfl rfl rfl ?_
                refine s_getf (v := .ref (q_b G + 158)) (nx := 243) hO rfl rfl (hs_o12 kc139) rfl rfl ?_
                refine s_aload_n (nx := 244) hO rfl rfl rfl ?_
                refine s_getf (v := .int (sI s21 139 41)) (nx := 247) hO rfl rfl (hs_o12 kc139) rfl rfl ?_
                obtain ⟨b22, H⟩ := H
                refine s_zald (nx := 248) hO rfl (hs_Z kc158) b22 rfl ?_
                refine goK (H (fun (y23 : Int32) => xEx G mX12_readGuard 256 [(0, .ref (q_b G + 139)), (1, .int v1), (2, .int x1)] [.int y23, .ref (q_b G + 139)] (hS G s21) z 0 0 (yQv G z Q)) (fun y23 H => ?_)) (fun H => ?_)
                · show xEx G mX12_readGuard 256 [(0, .ref (q_b G + 139)), (1, .int v1), (2, .int x1)] [.int y23, .ref (q_b G + 139)] (hS G s21) z 0 0 (yQv G z Q)
                  refine s_aload_n (nx := 257) hO rfl rfl rfl ?_
                  refine s_getf (v := .int (sI s21 139 41)) (nx := 260) hO rfl rfl (hs_o12 kc139) rfl rfl ?_
                  refine s_iload_n (nx := 261) hO rfl rfl rfl ?_
                  refine s_callV [.int y23, .int (sI s21 139 41), .int v1] (ci := 12) (F := TX12) (N := 116) (nx := 264) hO rfl kX12_readGuard_424 (by rw [hcl]; rfl) (hs_o12 kc139) (w_X12_look hG H) rfl rfl (Nat.le_of_ble_eq_true rfl) (Nat.zero_le _) (Nat.zero_le _) rfl (k_Qv (fun s24 H => ?_))
                  refine s_aload_n (nx := 265) hO rfl rfl rfl ?_
                  refine s_callV [] (ci := 12) (F := TX12) (N := 116) (nx := 268) hO rfl kX12_readGuard_371 (by rw [hcl]; rfl) (hs_o12 kc139) (w_X12_next hG H) rfl rfl (Nat.le_of_ble_eq_true rfl) (Nat.zero_le _) (Nat.zero_le _) rfl (k_Qv (fun s25 H => ?_))
                  refine s_aload_n (nx := 269) hO rfl rfl rfl ?_
                  refine s_aload_n (nx := 270) hO rfl rfl rfl ?_
                  refine s_ldcwS (nx := 273) hws.2.2.2.2.2.2.2.2.2.2.2.2.2.2.2.2.2.2.1 hO rfl rfl ?_
                  refine s_callV [.ref (q 361)] (ci := 12) (F := TX12) (N := 116) (nx := 276) hO rfl kX12_readGuard_341 (by rw [hcl]; rfl) (hs_o12 kc139) (w_X12_isWord hG hws.2.2.2.2.2.2.2.2.2.2.2.2.2.2.2.2.2.2.2.1 H) rfl rfl (Nat.le_of_ble_eq_true rfl) (Nat.zero_le _) (Nat.zero_le _) rfl (k_Pi (fun r26 H => ?_))
                  refine goK (H (fun (y27 : Int32) => xEx G mX12_readGuard 304 [(0, .ref (q_b G + 139)), (2, .int x1)] [.int y27, .ref (q_b G + 139)] (hS G s25) z 0 0 (yQv G z Q)) (fun y27 H => ?_)) (fun H => ?_)
                  · show xEx G mX12_readGuard 304 [(0, .ref (q_b G + 139)), (2, .int x1)] [.int y27, .ref (q_b G + 139)] (hS G s25) z 0 0 (yQv G z Q)
                    refine s_callV [.int y27] (ci := 12) (F := TX12) (N := 116) (nx := 307) hO rfl kX12_readGuard_367 (by rw [hcl]; rfl) (hs_o12 kc139) (w_X12_must hG H) rfl rfl (Nat.le_of_ble_eq_true rfl) (Nat.zero_le _) (Nat.zero_le _) rfl (k_Qi (fun r28 s29 H => ?_))
                    refine s_if_ne (nx := 310) hO rfl rfl (fun c307 => ?_) (fun c307 => ?_)
                    · replace H := H.1 c307
                      refine s_aload_n (nx := 312) hO rfl rfl rfl ?_
                      refine s_getf (v := .ref (q_b G + 161)) (nx := 315) hO rfl rfl (hs_o12 kc139) rfl rfl ?_
                      refine s_aload_n (nx := 316) hO rfl rfl rfl ?_
                      refine s_getf (v := .int (sI s29 139 41)) (nx := 319) hO rfl rfl (hs_o12 kc139) rfl rfl ?_
                      refine s_aload_n (nx := 320) hO rfl rfl rfl ?_
                      refine s_ldcwS (nx := 323) hws.2.2.2.2.2.2.2.2.2.2.2.2.2.2.2.2.2.2.1 hO rfl rfl ?_
                      refine s_callV [.ref (q 361)] (ci := 12) (F := TX12) (N := 116) (nx := 326) hO rfl kX12_readGuard_341 (by rw [hcl]; rfl) (hs_o12 kc139) (w_X12_isWord hG hws.2.2.2.2.2.2.2.2.2.2.2.2.2.2.2.2.2.2.2.1 H) rfl rfl (Nat.le_of_ble_eq_true rfl) (Nat.zero_le _) (Nat.zero_le _) rfl (k_Pi (fun r30 H => ?_))
                      refine goK (H (fun (y31 : Int32) => xEx G mX12_readGuard 348 [(0, .ref (q_b G + 139)), (2, .int x1)] [.int y31, .int (sI s29 139 41), .ref (q_b G + 161)] (hS G s29) z 0 0 (yQv G z Q)) (fun y31 H => ?_)) (fun H => ?_)
                      · show xEx G mX12_readGuard 348 [(0, .ref (q_b G + 139)), (2, .int x1)] [.int y31, .int (sI s29 139 41), .ref (q_b G + 161)] (hS G s29) z 0 0 (yQv G z Q)
                        obtain ⟨b32, H⟩ := H
                        refine goV (wI s29 161 (ix (sI s29 139 41)) y31) (fun s33 es33 => ?_)
                        replace H := H s33 es33
                        refine s_iast (nx := 349) hO rfl (hs_I kc161) b32 rfl ?_
                        refine xEx.at (up_I kc161 es33) ?_
                        refine s_aload_n (nx := 350) hO rfl rfl rfl ?_
                        refine s_callV [] (ci := 12) (F := TX12) (N := 116) (nx := 353) hO rfl kX12_readGuard_371 (by rw [hcl]; rfl) (hs_o12 kc139) (w_X12_next hG H) rfl rfl (Nat.le_of_ble_eq_true rfl) (Nat.zero_le _) (Nat.zero_le _) rfl (k_Qv (fun s34 H => ?_))
                        refine s_aload_n (nx := 354) hO rfl rfl rfl ?_
                        refine s_aload_n (nx := 355) hO rfl rfl rfl ?_
                        refine s_getf (v := .int (sI s34 139 11)) (nx := 358) hO rfl rfl (hs_o12 kc139) rfl rfl ?_
                        refine s_iconst (x := (nI 3)) (nx := 359) hO rfl (by decide) rfl ?_
                        refine goK (H (fun (y35 : Int32) => xEx G mX12_readGuard 367 [(0, .ref (q_b G + 139)), (2, .int x1)] [.int y35, .ref (q_b G + 139)] (hS G s34) z 0 0 (yQv G z Q)) (fun y35 H => ?_)) (fun H => ?_)
                        · show xEx G mX12_readGuard 367 [(0, .ref (q_b G + 139)), (2, .int x1)] [.int y35, .ref (q_b G + 139)] (hS G s34) z 0 0 (yQv G z Q)
                          refine s_callV [.int y35] (ci := 12) (F := TX12) (N := 116) (nx := 370) hO rfl kX12_readGuard_367 (by rw [hcl]; rfl) (hs_o12 kc139) (w_X12_must hG H) rfl rfl (Nat.le_of_ble_eq_true rfl) (Nat.zero_le _) (Nat.zero_le _) rfl (k_Qi (fun r36 s37 H => ?_))
                          refine s_if_ne (nx := 373) hO rfl rfl (fun c370 => ?_) (fun c370 => ?_)
                          · replace H := H.1 c370
                            refine s_aload_n (nx := 375) hO rfl rfl rfl ?_
                            refine s_getf (v := .ref (q_b G + 162)) (nx := 378) hO rfl rfl (hs_o12 kc139) rfl rfl ?_
                            refine s_aload_n (nx := 379) hO rfl rfl rfl ?_
                            refine s_getf (v := .int (sI s37 139 41)) (nx := 382) hO rfl rfl (hs_o12 kc139) rfl rfl ?_
                            refine s_aload_n (nx := 383) hO rfl rfl rfl ?_
                            refine s_getf (v := .long (sJ s37 139 14)) (nx := 386) hO rfl rfl (hs_o12 kc139) rfl rfl ?_
                            refine s_l2i (nx := 387) hO rfl rfl ?_
                            obtain ⟨b38, H⟩ := H
                            refine goV (wI s37 162 (ix (sI s37 139 41)) ((sJ s37 139 14)).toInt32) (fun s39 es39 => ?_)
                            replace H := H s39 es39
                            refine s_iast (nx := 388) hO rfl (hs_I kc162) b38 rfl ?_
                            refine xEx.at (up_I kc162 es39) ?_
                            refine s_aload_n (nx := 389) hO rfl rfl rfl ?_
                            refine s_dup (nx := 390) hO rfl rfl rfl ?_
                            refine s_getf (v := .int (sI s39 139 41)) (nx := 393) hO rfl rfl (hs_o12 kc139) rfl rfl ?_
                            refine s_iconst (x := 1) (nx := 394) hO rfl (by decide) rfl ?_
                            refine s_iadd (nx := 395) hO rfl rfl ?_
                            refine goV (wI s39 139 41 ((sI s39 139 41) + 1)) (fun s40 es40 => ?_)
                            replace H := H s40 es40
                            refine s_putf (nx := 398) hO rfl rfl (hs_o12 kc139) (Nat.le_of_ble_eq_true rfl) (by rw [hty]; rfl) (by rw [hty]; rfl) pX12_41 rfl ?_
                            refine xEx.at (up_oI12 kc139 es40) ?_
                            refine s_aload_n (nx := 399) hO rfl rfl rfl ?_
                            refine s_callV [] (ci := 12) (F := TX12) (N := 116) (nx := 402) hO rfl kX12_readGuard_371 (by rw [hcl]; rfl) (hs_o12 kc139) (w_X12_next hG H) rfl rfl (Nat.le_of_ble_eq_true rfl) (Nat.zero_le _) (Nat.zero_le _) rfl (k_Qv (fun s41 H => ?_))
                            refine s_iconst (x := 0) (nx := 403) hO rfl (by decide) rfl ?_
                            refine goK (H (fun (x42 : Int32) (s43 : yS) => xEx G mX12_readGuard 404 [(0, .ref (q_b G + 139)), (2, .int x1), (3, .int x42)] [] (hS G s43) z 0 0 (yQv G z Q)) (fun x42 s43 H => ?_)) (fun H => ?_)
                            · show xEx G mX12_readGuard 404 [(0, .ref (q_b G + 139)), (2, .int x1), (3, .int x42)] [] (hS G s43) z 0 0 (yQv G z Q)
                              refine s_iload_n (nx := 405) hO rfl rfl rfl ?_
                              refine s_iload_n (nx := 406) hO rfl rfl rfl ?_
                              refine s_icmp_gt (nx := 409) hO rfl rfl (fun c406 => ?_) (fun c406 => ?_)
                              · replace H := H.1 c406
                                exact s_vret hO rfl rfl ⟨rfl, _, rfl, rfl, H⟩
                              · replace H := H.2 c406
                                refine s_aload_n (nx := 410) hO rfl rfl rfl ?_
                                refine s_iconst (x := 1) (nx := 411) hO rfl (by decide) rfl ?_
                                refine s_callV [.int 1] (ci := 12) (F := TX12) (N := 116) (nx := 414) hO rfl kX12_readGuard_417 (by rw [hcl]; rfl) (hs_o12 kc139) (w_X12_expect hG H) rfl rfl (Nat.le_of_ble_eq_true rfl) (Nat.zero_le _) (Nat.zero_le _) rfl (k_Qv (fun s44 H => ?_))
                                refine goV ((x42 + 1)) (fun x45 ex45 => ?_)
                                replace H := H x45 ex45
                                refine e_iinc (nx := 417) (l' := [(3, .int x45), (0, .ref (q_b G + 139)), (2, .int x1)]) ex45 hO rfl (by decide) rfl rfl rfl rfl ?_
                                refine s_goto hO rfl ?_
                                exact xEx.loc (x_sub1 (List.Mem.tail _ (List.Mem.head _)) (x_sub1 (List.Mem.tail _ (List.Mem.tail _ (List.Mem.head _))) (x_sub1 (List.Mem.head _) x_sub0))) H
                            refine s_istore_n (nx := 404) (l' := [(3, .int 0), (0, .ref (q_b G + 139)), (2, .int x1)]) hO rfl (by decide) rfl rfl ?_
                            exact xEx.loc (x_sub1 (List.Mem.tail _ (List.Mem.head _)) (x_sub1 (List.Mem.tail _ (List.Mem.tail _ (List.Mem.head _))) (x_sub1 (List.Mem.head _) x_sub0))) H
                          · replace H := H.2 c370
                            exact s_vret hO rfl rfl ⟨rfl, _, rfl, rfl, H⟩
                        refine s_icmp_ne (nx := 362) hO rfl rfl (fun c359 => ?_) (fun c359 => ?_)
                        · replace H := H.1 c359
                          refine s_iconst (x := 0) (nx := 367) hO rfl (by decide) rfl ?_
                          exact xEx.loc (x_sub1 (List.Mem.head _) (x_sub1 (List.Mem.tail _ (List.Mem.head _)) x_sub0)) H
                        · replace H := H.2 c359
                          refine s_iconst (x := 1) (nx := 363) hO rfl (by decide) rfl ?_
                          refine s_goto hO rfl ?_
                          exact xEx.loc (x_sub1 (List.Mem.head _) (x_sub1 (List.Mem.tail _ (List.Mem.head _)) x_sub0)) H
                      refine s_if_eq (nx := 329) hO rfl rfl (fun c326 => ?_) (fun c326 => ?_)
                      · replace H := H.1 c326
                        refine s_aload_n (nx := 334) hO rfl rfl rfl ?_
                        refine s_ldcwS (nx := 337) hws.2.2.2.2.2.2.2.2.2.2.2.2.2.2.2.2.2.2.2.2.1 hO rfl rfl ?_
                        refine s_callV [.ref (q 363)] (ci := 12) (F := TX12) (N := 116) (nx := 340) hO rfl kX12_readGuard_341 (by rw [hcl]; rfl) (hs_o12 kc139) (w_X12_isWord hG hws.2.2.2.2.2.2.2.2.2.2.2.2.2.2.2.2.2.2.2.2.2.1 H) rfl rfl (Nat.le_of_ble_eq_true rfl) (Nat.zero_le _) (Nat.zero_le _) rfl (k_Pi (fun r46 H => ?_))
                        refine s_if_eq (nx := 343) hO rfl rfl (fun c340 => ?_) (fun c340 => ?_)
                        · replace H := H.1 c340
                          refine s_iconst (x := (nI 2)) (nx := 348) hO rfl (by decide) rfl ?_
                          exact xEx.loc (x_sub1 (List.Mem.head _) (x_sub1 (List.Mem.tail _ (List.Mem.head _)) x_sub0)) H
                        · replace H := H.2 c340
                          refine s_iconst (x := 1) (nx := 344) hO rfl (by decide) rfl ?_
                          refine s_goto hO rfl ?_
                          exact xEx.loc (x_sub1 (List.Mem.head _) (x_sub1 (List.Mem.tail _ (List.Mem.head _)) x_sub0)) H
                      · replace H := H.2 c326
                        refine s_iconst (x := 0) (nx := 330) hO rfl (by decide) rfl ?_
                        refine s_goto hO rfl ?_
                        exact xEx.loc (x_sub1 (List.Mem.head _) (x_sub1 (List.Mem.tail _ (List.Mem.head _)) x_sub0)) H
                    · replace H := H.2 c307
                      exact s_vret hO rfl rfl ⟨rfl, _, rfl, rfl, H⟩
                  refine s_if_ne (nx := 279) hO rfl rfl (fun c276 => ?_) (fun c276 => ?_)
                  · replace H := H.1 c276
                    refine s_iconst (x := 1) (nx := 300) hO rfl (by decide) rfl ?_
                    refine s_goto hO rfl ?_
                    exact xEx.loc (x_sub1 (List.Mem.head _) (x_sub1 (List.Mem.tail _ (List.Mem.tail _ (List.Mem.head _))) x_sub0)) H
                  · replace H := H.2 c276
                    refine s_aload_n (nx := 280) hO rfl rfl rfl ?_
                    refine s_ldcwS (nx := 283) hws.2.2.2.2.2.2.2.2.2.2.2.2.2.2.2.2.2.2.2.2.1 hO rfl rfl ?_
                    refine s_callV [.ref (q 363)] (ci := 12) (F := TX12) (N := 116) (nx := 286) hO rfl kX12_readGuard_341 (by rw [hcl]; rfl) (hs_o12 kc139) (w_X12_isWord hG hws.2.2.2.2.2.2.2.2.2.2.2.2.2.2.2.2.2.2.2.2.2.1 H) rfl rfl (Nat.le_of_ble_eq_true rfl) (Nat.zero_le _) (Nat.zero_le _) rfl (k_Pi (fun r47 H => ?_))
                    refine s_if_ne (nx := 289) hO rfl rfl (fun c286 => ?_) (fun c286 => ?_)
                    · replace H := H.1 c286
                      refine s_iconst (x := 1) (nx := 300) hO rfl (by decide) rfl ?_
                      refine s_goto hO rfl ?_
                      exact xEx.loc (x_sub1 (List.Mem.head _) (x_sub1 (List.Mem.tail _ (List.Mem.tail _ (List.Mem.head _))) x_sub0)) H
                    · replace H := H.2 c286
                      refine s_aload_n (nx := 290) hO rfl rfl rfl ?_
                      refine s_ldcwS (nx := 293) hws.2.2.2.2.2.2.2.2.2.2.2.2.2.2.2.2.2.2.2.2.2.2.1 hO rfl rfl ?_
                      refine s_callV [.ref (q 365)] (ci := 12) (F := TX12) (N := 116) (nx := 296) hO rfl kX12_readGuard_341 (by rw [hcl]; rfl) (hs_o12 kc139) (w_X12_isWord hG hws.2.2.2.2.2.2.2.2.2.2.2.2.2.2.2.2.2.2.2.2.2.2.2 H) rfl rfl (Nat.le_of_ble_eq_true rfl) (Nat.zero_le _) (Nat.zero_le _) rfl (k_Pi (fun r48 H => ?_))
                      refine s_if_eq (nx := 299) hO rfl rfl (fun c296 => ?_) (fun c296 => ?_)
                      · replace H := H.1 c296
                        refine s_iconst (x := 0) (nx := 304) hO rfl (by decide) rfl ?_
                        exact xEx.loc (x_sub1 (List.Mem.head _) (x_sub1 (List.Mem.tail _ (List.Mem.tail _ (List.Mem.head _))) x_sub0)) H
                      · replace H := H.2 c296
                        refine s_iconst (x := 1) (nx := 300) hO rfl (by decide) rfl ?_
                        refine s_goto hO rfl ?_
                        exact xEx.loc (x_sub1 (List.Mem.head _) (x_sub1 (List.Mem.tail _ (List.Mem.tail _ (List.Mem.head _))) x_sub0)) H
                refine s_if_eq (nx := 251) hO rfl rfl (fun c248 => ?_) (fun c248 => ?_)
                · replace H := H.1 c248
                  refine s_iconst (x := (nI 2)) (nx := 256) hO rfl (by decide) rfl ?_
                  exact xEx.loc (x_sub1 (List.Mem.head _) (x_sub1 (List.Mem.tail _ (List.Mem.head _)) (x_sub1 (List.Mem.tail _ (List.Mem.tail _ (List.Mem.head _))) x_sub0))) H
                · replace H := H.2 c248
                  refine s_iconst (x := 0) (nx := 252) hO rfl (by decide) rfl ?_
                  refine s_goto hO rfl ?_
                  exact xEx.loc (x_sub1 (List.Mem.head _) (x_sub1 (List.Mem.tail _ (List.Mem.head _)) (x_sub1 (List.Mem.tail _ (List.Mem.tail _ (List.Mem.head _))) x_sub0))) H
              refine s_if_eq (nx := 228) hO rfl rfl (fun c225 => ?_) (fun c225 => ?_)
              · replace H := H.1 c225
                refine s_aload_n (nx := 233) hO rfl rfl rfl ?_
                refine s_getf (v := .long (sJ s17 139 14)) (nx := 236) hO rfl rfl (hs_o12 kc139) rfl rfl ?_
                refine s_l2i (nx := 237) hO rfl rfl ?_
                exact xEx.loc (x_sub1 (List.Mem.head _) (x_sub1 (List.Mem.tail _ (List.Mem.head _)) (x_sub1 (List.Mem.tail _ (List.Mem.tail _ (List.Mem.head _))) x_sub0))) H
              · replace H := H.2 c225
                refine s_iconst (x := 0) (nx := 229) hO rfl (by decide) rfl ?_
                refine s_goto hO rfl ?_
                exact xEx.loc (x_sub1 (List.Mem.head _) (x_sub1 (List.Mem.tail _ (List.Mem.head _)) (x_sub1 (List.Mem.tail _ (List.Mem.tail _ (List.Mem.head _))) x_sub0))) H
            refine s_if_eq (nx := 124) hO rfl rfl (fun c121 => ?_) (fun c121 => ?_)
            · replace H := H.1 c121
              refine s_aload_n (nx := 155) hO rfl rfl rfl ?_
              refine s_aload_n (nx := 156) hO rfl rfl rfl ?_
              refine s_getf (v := .int (sI s13 139 11)) (nx := 159) hO rfl rfl (hs_o12 kc139) rfl rfl ?_
              refine s_iconst (x := (nI 3)) (nx := 160) hO rfl (by decide) rfl ?_
              refine goK (H (fun (y49 : Int32) => xEx G mX12_readGuard 188 [(0, .ref (q_b G + 139)), (1, .int v1), (2, .int x1)] [.int y49, .ref (q_b G + 139)] (hS G s13) z 0 0 (yQv G z Q)) (fun y49 H => ?_)) (fun H => ?_)
              · show xEx G mX12_readGuard 188 [(0, .ref (q_b G + 139)), (1, .int v1), (2, .int x1)] [.int y49, .ref (q_b G + 139)] (hS G s13) z 0 0 (yQv G z Q)
                refine s_callV [.int y49] (ci := 12) (F := TX12) (N := 116) (nx := 191) hO rfl kX12_readGuard_367 (by rw [hcl]; rfl) (hs_o12 kc139) (w_X12_must hG H) rfl rfl (Nat.le_of_ble_eq_true rfl) (Nat.zero_le _) (Nat.zero_le _) rfl (k_Qi (fun r50 s51 H => ?_))
                refine s_if_ne (nx := 194) hO rfl rfl (fun c191 => ?_) (fun c191 => ?_)
                · replace H := H.1 c191
                  exact xEx.loc (x_sub1 (List.Mem.head _) (x_sub1 (List.Mem.tail _ (List.Mem.head _)) (x_sub1 (List.Mem.tail _ (List.Mem.tail _ (List.Mem.head _))) x_sub0))) H
                · replace H := H.2 c191
                  exact s_vret hO rfl rfl ⟨rfl, _, rfl, rfl, H⟩
              refine s_icmp_ne (nx := 163) hO rfl rfl (fun c160 => ?_) (fun c160 => ?_)
              · replace H := H.1 c160
                refine s_iconst (x := 0) (nx := 188) hO rfl (by decide) rfl ?_
                exact xEx.loc (x_sub1 (List.Mem.head _) (x_sub1 (List.Mem.tail _ (List.Mem.head _)) (x_sub1 (List.Mem.tail _ (List.Mem.tail _ (List.Mem.head _))) x_sub0))) H
              · replace H := H.2 c160
                refine s_aload_n (nx := 164) hO rfl rfl rfl ?_
                refine s_getf (v := .long (sJ s13 139 14)) (nx := 167) hO rfl rfl (hs_o12 kc139) rfl rfl ?_
                refine s_lconst (x := 0) (nx := 168) hO rfl (by decide) rfl ?_
                refine s_lcmp (nx := 169) hO rfl rfl ?_
                refine s_if_lt (nx := 172) hO rfl rfl (fun c169 => ?_) (fun c169 => ?_)
                · replace H := H.1 c169
                  refine s_iconst (x := 0) (nx := 188) hO rfl (by decide) rfl ?_
                  exact xEx.loc (x_sub1 (List.Mem.head _) (x_sub1 (List.Mem.tail _ (List.Mem.head _)) (x_sub1 (List.Mem.tail _ (List.Mem.tail _ (List.Mem.head _))) x_sub0))) H
                · replace H := H.2 c169
                  refine s_aload_n (nx := 173) hO rfl rfl rfl ?_
                  refine s_getf (v := .long (sJ s13 139 14)) (nx := 176) hO rfl rfl (hs_o12 kc139) rfl rfl ?_
                  refine s_ldc2_w (x := ((3))) (nx := 179) hO rfl rfl rfl ?_
                  refine s_lcmp (nx := 180) hO rfl rfl ?_
                  refine s_if_ge (nx := 183) hO rfl rfl (fun c180 => ?_) (fun c180 => ?_)
                  · replace H := H.1 c180
                    refine s_iconst (x := 0) (nx := 188) hO rfl (by decide) rfl ?_
                    exact xEx.loc (x_sub1 (List.Mem.head _) (x_sub1 (List.Mem.tail _ (List.Mem.head _)) (x_sub1 (List.Mem.tail _ (List.Mem.tail _ (List.Mem.head _))) x_sub0))) H
                  · replace H := H.2 c180
                    refine s_iconst (x := 1) (nx := 184) hO rfl (by decide) rfl ?_
                    refine s_goto hO rfl ?_
                    exact xEx.loc (x_sub1 (List.Mem.head _) (x_sub1 (List.Mem.tail _ (List.Mem.head _)) (x_sub1 (List.Mem.tail _ (List.Mem.tail _ (List.Mem.head _))) x_sub0))) H
            · replace H := H.2 c121
              refine s_aload_n (nx := 125) hO rfl rfl rfl ?_
              refine s_aload_n (nx := 126) hO rfl rfl rfl ?_
              refine s_getf (v := .int (sI s13 139 11)) (nx := 129) hO rfl rfl (hs_o12 kc139) rfl rfl ?_
              refine s_iconst (x := (nI 2)) (nx := 130) hO rfl (by decide) rfl ?_
              refine goK (H (fun (y52 : Int32) => xEx G mX12_readGuard 145 [(0, .ref (q_b G + 139)), (1, .int v1), (2, .int x1)] [.int y52, .ref (q_b G + 139)] (hS G s13) z 0 0 (yQv G z Q)) (fun y52 H => ?_)) (fun H => ?_)
              · show xEx G mX12_readGuard 145 [(0, .ref (q_b G + 139)), (1, .int v1), (2, .int x1)] [.int y52, .ref (q_b G + 139)] (hS G s13) z 0 0 (yQv G z Q)
                refine s_callV [.int y52] (ci := 12) (F := TX12) (N := 116) (nx := 148) hO rfl kX12_readGuard_367 (by rw [hcl]; rfl) (hs_o12 kc139) (w_X12_must hG H) rfl rfl (Nat.le_of_ble_eq_true rfl) (Nat.zero_le _) (Nat.zero_le _) rfl (k_Qi (fun r53 s54 H => ?_))
                refine s_if_ne (nx := 151) hO rfl rfl (fun c148 => ?_) (fun c148 => ?_)
                · replace H := H.1 c148
                  exact xEx.loc (x_sub1 (List.Mem.head _) (x_sub1 (List.Mem.tail _ (List.Mem.head _)) (x_sub1 (List.Mem.tail _ (List.Mem.tail _ (List.Mem.head _))) x_sub0))) H
                · replace H := H.2 c148
                  refine s_goto hO rfl ?_
                  exact s_vret hO rfl rfl ⟨rfl, _, rfl, rfl, H⟩
              refine s_icmp_ne (nx := 133) hO rfl rfl (fun c130 => ?_) (fun c130 => ?_)
              · replace H := H.1 c130
                refine s_iconst (x := 0) (nx := 145) hO rfl (by decide) rfl ?_
                exact xEx.loc (x_sub1 (List.Mem.head _) (x_sub1 (List.Mem.tail _ (List.Mem.head _)) (x_sub1 (List.Mem.tail _ (List.Mem.tail _ (List.Mem.head _))) x_sub0))) H
              · replace H := H.2 c130
                refine s_aload_n (nx := 134) hO rfl rfl rfl ?_
                refine s_callV [] (ci := 12) (F := TX12) (N := 116) (nx := 137) hO rfl kX12_readGuard_401 (by rw [hcl]; rfl) (hs_o12 kc139) (w_X12_isReserved hG H) rfl rfl (Nat.le_of_ble_eq_true rfl) (Nat.zero_le _) (Nat.zero_le _) rfl (k_Pi (fun r55 H => ?_))
                refine s_if_ne (nx := 140) hO rfl rfl (fun c137 => ?_) (fun c137 => ?_)
                · replace H := H.1 c137
                  refine s_iconst (x := 0) (nx := 145) hO rfl (by decide) rfl ?_
                  exact xEx.loc (x_sub1 (List.Mem.head _) (x_sub1 (List.Mem.tail _ (List.Mem.head _)) (x_sub1 (List.Mem.tail _ (List.Mem.tail _ (List.Mem.head _))) x_sub0))) H
                · replace H := H.2 c137
                  refine s_iconst (x := 1) (nx := 141) hO rfl (by decide) rfl ?_
                  refine s_goto hO rfl ?_
                  exact xEx.loc (x_sub1 (List.Mem.head _) (x_sub1 (List.Mem.tail _ (List.Mem.head _)) (x_sub1 (List.Mem.tail _ (List.Mem.tail _ (List.Mem.head _))) x_sub0))) H
          refine s_icmp_ne (nx := 102) hO rfl rfl (fun c99 => ?_) (fun c99 => ?_)
          · replace H := H.1 c99
            refine s_iconst (x := 0) (nx := 107) hO rfl (by decide) rfl ?_
            exact xEx.loc (x_sub1 (List.Mem.head _) (x_sub1 (List.Mem.tail _ (List.Mem.head _)) (x_sub1 (List.Mem.tail _ (List.Mem.tail _ (List.Mem.head _))) x_sub0))) H
          · replace H := H.2 c99
            refine s_iconst (x := 1) (nx := 103) hO rfl (by decide) rfl ?_
            refine s_goto hO rfl ?_
            exact xEx.loc (x_sub1 (List.Mem.head _) (x_sub1 (List.Mem.tail _ (List.Mem.head _)) (x_sub1 (List.Mem.tail _ (List.Mem.tail _ (List.Mem.head _))) x_sub0))) H
        · replace H := H.2 c67
          exact s_vret hO rfl rfl ⟨rfl, _, rfl, rfl, H⟩
      refine s_if_ne (nx := 49) hO rfl rfl (fun c46 => ?_) (fun c46 => ?_)
      · replace H := H.1 c46
        refine s_iconst (x := 1) (nx := 60) hO rfl (by decide) rfl ?_
        refine s_goto hO rfl ?_
        exact xEx.loc (x_sub1 (List.Mem.head _) (x_sub1 (List.Mem.tail _ (List.Mem.head _)) (x_sub1 (List.Mem.tail _ (List.Mem.tail _ (List.Mem.head _))) x_sub0))) H
      · replace H := H.2 c46
        refine s_aload_n (nx := 50) hO rfl rfl rfl ?_
        refine s_ldcwS (nx := 53) hws.2.2.2.2.2.2.2.2.2.2.2.2.1 hO rfl rfl ?_
        refine s_callV [.ref (q 355)] (ci := 12) (F := TX12) (N := 116) (nx := 56) hO rfl kX12_readGuard_341 (by rw [hcl]; rfl) (hs_o12 kc139) (w_X12_isWord hG hws.2.2.2.2.2.2.2.2.2.2.2.2.2.1 H) rfl rfl (Nat.le_of_ble_eq_true rfl) (Nat.zero_le _) (Nat.zero_le _) rfl (k_Pi (fun r56 H => ?_))
        refine s_if_eq (nx := 59) hO rfl rfl (fun c56 => ?_) (fun c56 => ?_)
        · replace H := H.1 c56
          refine s_iconst (x := 0) (nx := 64) hO rfl (by decide) rfl ?_
          exact xEx.loc (x_sub1 (List.Mem.head _) (x_sub1 (List.Mem.tail _ (List.Mem.head _)) (x_sub1 (List.Mem.tail _ (List.Mem.tail _ (List.Mem.head _))) x_sub0))) H
        · replace H := H.2 c56
          refine s_iconst (x := 1) (nx := 60) hO rfl (by decide) rfl ?_
          refine s_goto hO rfl ?_
          exact xEx.loc (x_sub1 (List.Mem.head _) (x_sub1 (List.Mem.tail _ (List.Mem.head _)) (x_sub1 (List.Mem.tail _ (List.Mem.tail _ (List.Mem.head _))) x_sub0))) H
    refine s_if_ne (nx := 13) hO rfl rfl (fun c10 => ?_) (fun c10 => ?_)
    · replace H := H.1 c10
      exact xEx.loc (x_sub1 (List.Mem.head _) (x_sub1 (List.Mem.tail _ (List.Mem.head _)) (x_sub1 (List.Mem.tail _ (List.Mem.tail _ (List.Mem.head _))) x_sub0))) H
    · replace H := H.2 c10
      refine s_aload_n (nx := 14) hO rfl rfl rfl ?_
      refine s_ldcwS (nx := 17) hws.2.2.2.2.2.2.2.2.2.2.2.2.2.2.1 hO rfl rfl ?_
      refine s_callV [.ref (q 357)] (ci := 12) (F := TX12) (N := 116) (nx := 20) hO rfl kX12_readGuard_341 (by rw [hcl]; rfl) (hs_o12 kc139) (w_X12_isWord hG hws.2.2.2.2.2.2.2.2.2.2.2.2.2.2.2.1 H) rfl rfl (Nat.le_of_ble_eq_true rfl) (Nat.zero_le _) (Nat.zero_le _) rfl (k_Pi (fun r57 H => ?_))
      refine s_if_eq (nx := 23) hO rfl rfl (fun c20 => ?_) (fun c20 => ?_)
      · replace H := H.1 c20
        exact xEx.loc (x_sub1 (List.Mem.head _) (x_sub1 (List.Mem.tail _ (List.Mem.head _)) (x_sub1 (List.Mem.tail _ (List.Mem.tail _ (List.Mem.head _))) x_sub0))) H
      · replace H := H.2 c20
        refine goV ((x1 + 1)) (fun x58 ex58 => ?_)
        replace H := H x58 ex58
        refine e_iinc (nx := 26) (l' := [(2, .int x58), (0, .ref (q_b G + 139)), (1, .int v1)]) ex58 hO rfl (by decide) rfl rfl rfl rfl ?_
        refine s_aload_n (nx := 27) hO rfl rfl rfl ?_
        refine s_callV [] (ci := 12) (F := TX12) (N := 116) (nx := 30) hO rfl kX12_readGuard_371 (by rw [hcl]; rfl) (hs_o12 kc139) (w_X12_next hG H) rfl rfl (Nat.le_of_ble_eq_true rfl) (Nat.zero_le _) (Nat.zero_le _) rfl (k_Qv (fun s59 H => ?_))
        refine s_aload_n (nx := 31) hO rfl rfl rfl ?_
        refine s_iconst (x := 0) (nx := 32) hO rfl (by decide) rfl ?_
        refine s_callV [.int 0] (ci := 12) (F := TX12) (N := 116) (nx := 35) hO rfl kX12_readGuard_417 (by rw [hcl]; rfl) (hs_o12 kc139) (w_X12_expect hG H) rfl rfl (Nat.le_of_ble_eq_true rfl) (Nat.zero_le _) (Nat.zero_le _) rfl (k_Qv (fun s60 H => ?_))
        refine s_goto hO rfl ?_
        exact xEx.loc (x_sub1 (List.Mem.tail _ (List.Mem.head _)) (x_sub1 (List.Mem.tail _ (List.Mem.tail _ (List.Mem.head _))) (x_sub1 (List.Mem.head _) x_sub0))) H
  refine s_callV [] (ci := 12) (F := TX12) (N := 116) (nx := 6) hO rfl kX12_readGuard_371 (by rw [hcl]; rfl) (hs_o12 kc139) (w_X12_next hG H) rfl rfl (Nat.le_of_ble_eq_true rfl) (Nat.zero_le _) (Nat.zero_le _) rfl (k_Qv (fun s61 H => ?_))
  exact xEx.loc (x_sub1 (List.Mem.tail _ (List.Mem.head _)) (x_sub1 (List.Mem.tail _ (List.Mem.tail _ (List.Mem.head _))) (x_sub1 (List.Mem.head _) x_sub0))) H

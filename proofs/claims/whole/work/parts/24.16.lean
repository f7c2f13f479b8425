def W_X12_lookAt (s : yS) (v1 : Int32) (Q : Int32 → yS → Prop) : Prop :=
 ∀ s1 : yS, s1 = wI s 139 0 0 → 
 ((((v1).toInt < 0 ∨ 13 < (v1).toInt) → Q (-1) s1)
 ∧ ((v1).toInt = 0 → Q (sI s1 139 19) s1)
 ∧ ((v1).toInt = 1 → Q (sI s1 139 27) s1)
 ∧ ((v1).toInt = 2 → Q (sI s1 139 47) s1)
 ∧ ((v1).toInt = 3 → Q (sI s1 139 51) s1)
 ∧ ((v1).toInt = 4 → Q (sI s1 139 56) s1)
 ∧ ((v1).toInt = 5 → vp_in 0 3 ∧ 
   (((sI s1 177 (ix 0)) = 0 → Q (-1) s1)
   ∧ (¬ (sI s1 177 (ix 0)) = 0 → vp_in 0 3 ∧ 
    Q (sI s1 178 (ix 0)) s1)))
 ∧ ((v1).toInt = 6 → W_X12_codes s1 0 
   (fun r4 => Q r4 s1))
 ∧ ((v1).toInt = 7 → W_X12_codes s1 1 
   (fun r5 => Q r5 s1))
 ∧ ((v1).toInt = 8 → Q (sI s1 139 88) s1)
 ∧ ((v1).toInt = 9 → Q (sI s1 139 2) s1)
 ∧ ((v1).toInt = 10 → Q (sI s1 139 5) s1)
 ∧ ((v1).toInt = 11 → Q (sI s1 139 6) s1)
 ∧ ((v1).toInt = 12 → Q (sI s1 139 7) s1)
 ∧ ((v1).toInt = 13 → W_X12_indexOf s1 (sI s1 139 99) 
   (fun r6 => vp_in r6 64 ∧ 
   Q (sI s1 173 (ix r6)) s1)))
set_option maxRecDepth 100000 in
set_option maxHeartbeats 40000000 in
theorem w_X12_lookAt {G : xG} (hG : yG G) {z : Nat} {s : yS} {v1 : Int32} {Q : Int32 → yS → Prop} (H : W_X12_lookAt s v1 Q) : xC G mX12_lookAt [.ref (q_b G + 139), .int v1] (hS G s) z 0 0 (yQi G z Q) := by
  have hW := hG.1
  have hcl := hG.2.1
  have hty := hG.2.2.1
  have hO : xO G mX12_lookAt tbX12_lookAt ptX12_lookAt := ⟨tkX12_lookAt, pkX12_lookAt hcl⟩
  unfold W_X12_lookAt at H
  refine xC.of hW (by decide) rfl (Nat.le_of_ble_eq_true rfl) ?_
  refine s_aload_n (nx := 1) hO rfl rfl rfl ?_
  refine s_iconst (x := 0) (nx := 2) hO rfl (by decide) rfl ?_
  refine goV (wI s 139 0 0) (fun s1 es1 => ?_)
  replace H := H s1 es1
  refine s_putf (nx := 5) hO rfl rfl (hs_o12 kc139) (Nat.le_of_ble_eq_true rfl) (by rw [hty]; rfl) (by rw [hty]; rfl) pX12_0 rfl ?_
  refine xEx.at (up_oI12 kc139 es1) ?_
  refine s_iload_n (nx := 6) hO rfl rfl rfl ?_
  refine s_switch hO rfl (fun c6 => ?_) (fun dc6 fc6 => ?_)
  · replace H := H.1 c6
    refine s_iconst (x := (-1)) (nx := 173) hO rfl (by decide) rfl ?_
    exact s_iret hO rfl rfl rfl ⟨rfl, _, _, rfl, rfl, H⟩
  · obtain c6 | c6 | c6 | c6 | c6 | c6 | c6 | c6 | c6 | c6 | c6 | c6 | c6 | c6 : (v1).toInt = 0 ∨ (v1).toInt = 1 ∨ (v1).toInt = 2 ∨ (v1).toInt = 3 ∨ (v1).toInt = 4 ∨ (v1).toInt = 5 ∨ (v1).toInt = 6 ∨ (v1).toInt = 7 ∨ (v1).toInt = 8 ∨ (v1).toInt = 9 ∨ (v1).toInt = 10 ∨ (v1).toInt = 11 ∨ (v1).toInt = 12 ∨ (v1).toInt = 13 := by omega
    · replace H := H.2.1 c6
      refine ⟨76, by rw [c6]; rfl, ?_⟩
      refine s_aload_n (nx := 77) hO rfl rfl rfl ?_
      refine s_getf (v := .int (sI s1 139 19)) (nx := 80) hO rfl rfl (hs_o12 kc139) rfl rfl ?_
      exact s_iret hO rfl rfl rfl ⟨rfl, _, _, rfl, rfl, H⟩
    · replace H := H.2.2.1 c6
      refine ⟨81, by rw [c6]; rfl, ?_⟩
      refine s_aload_n (nx := 82) hO rfl rfl rfl ?_
      refine s_getf (v := .int (sI s1 139 27)) (nx := 85) hO rfl rfl (hs_o12 kc139) rfl rfl ?_
      exact s_iret hO rfl rfl rfl ⟨rfl, _, _, rfl, rfl, H⟩
    · replace H := H.2.2.2.1 c6
      refine ⟨86, by rw [c6]; rfl, ?_⟩
      refine s_aload_n (nx := 87) hO rfl rfl rfl ?_
      refine s_getf (v := .int (sI s1 139 47)) (nx := 90) hO rfl rfl (hs_o12 kc139) rfl rfl ?_
      exact s_iret hO rfl rfl rfl ⟨rfl, _, _, rfl, rfl, H⟩
    · replace H := H.2.2.2.2.1 c6
      refine ⟨91, by rw [c6]; rfl, ?_⟩
      refine s_aload_n (nx := 92) hO rfl rfl rfl ?_
      refine s_getf (v := .int (sI s1 139 51)) (nx := 95) hO rfl rfl (hs_o12 kc139) rfl rfl ?_
      exact s_iret hO rfl rfl rfl ⟨rfl, _, _, rfl, rfl, H⟩
    · replace H := H.2.2.2.2.2.1 c6
      refine ⟨96, by rw [c6]; rfl, ?_⟩
      refine s_aload_n (nx := 97) hO rfl rfl rfl ?_
      refine s_getf (v := .int (sI s1 139 56)) (nx := 100) hO rfl rfl (hs_o12 kc139) rfl rfl ?_
      exact s_iret hO rfl rfl rfl ⟨rfl, _, _, rfl, rfl, H⟩
    · replace H := H.2.2.2.2.2.2.1 c6
      refine ⟨101, by rw [c6]; rfl, ?_⟩
      refine s_aload_n (nx := 102) hO rfl rfl rfl ?_
      refine s_getf (v := .ref (q_b G + 177)) (nx := 105) hO rfl rfl (hs_o12 kc139) rfl rfl ?_
      refine s_iconst (x := 0) (nx := 106) hO rfl (by decide) rfl ?_
      obtain ⟨b2, H⟩ := H
      refine s_zald (nx := 107) hO rfl (hs_Z kc177) b2 rfl ?_
      refine s_if_eq (nx := 110) hO rfl rfl (fun c107 => ?_) (fun c107 => ?_)
      · replace H := H.1 c107
        refine s_iconst (x := (-1)) (nx := 120) hO rfl (by decide) rfl ?_
        exact s_iret hO rfl rfl rfl ⟨rfl, _, _, rfl, rfl, H⟩
      · replace H := H.2 c107
        refine s_aload_n (nx := 111) hO rfl rfl rfl ?_
        refine s_getf (v := .ref (q_b G + 178)) (nx := 114) hO rfl rfl (hs_o12 kc139) rfl rfl ?_
        refine s_iconst (x := 0) (nx := 115) hO rfl (by decide) rfl ?_
        obtain ⟨b3, H⟩ := H
        refine s_iald (nx := 116) hO rfl (hs_I kc178) b3 rfl ?_
        refine s_goto hO rfl ?_
        exact s_iret hO rfl rfl rfl ⟨rfl, _, _, rfl, rfl, H⟩
    · replace H := H.2.2.2.2.2.2.2.1 c6
      refine ⟨121, by rw [c6]; rfl, ?_⟩
      refine s_aload_n (nx := 122) hO rfl rfl rfl ?_
      refine s_iconst (x := 0) (nx := 123) hO rfl (by decide) rfl ?_
      refine s_callV [.int 0] (ci := 12) (F := TX12) (N := 116) (nx := 126) hO rfl kX12_lookAt_704 (by rw [hcl]; rfl) (hs_o12 kc139) (w_X12_codes hG H) rfl rfl (Nat.le_of_ble_eq_true rfl) (Nat.zero_le _) (Nat.zero_le _) rfl (k_Pi (fun r4 H => ?_))
      exact s_iret hO rfl rfl rfl ⟨rfl, _, _, rfl, rfl, H⟩
    · replace H := H.2.2.2.2.2.2.2.2.1 c6
      refine ⟨127, by rw [c6]; rfl, ?_⟩
      refine s_aload_n (nx := 128) hO rfl rfl rfl ?_
      refine s_iconst (x := 1) (nx := 129) hO rfl (by decide) rfl ?_
      refine s_callV [.int 1] (ci := 12) (F := TX12) (N := 116) (nx := 132) hO rfl kX12_lookAt_704 (by rw [hcl]; rfl) (hs_o12 kc139) (w_X12_codes hG H) rfl rfl (Nat.le_of_ble_eq_true rfl) (Nat.zero_le _) (Nat.zero_le _) rfl (k_Pi (fun r5 H => ?_))
      exact s_iret hO rfl rfl rfl ⟨rfl, _, _, rfl, rfl, H⟩
    · replace H := H.2.2.2.2.2.2.2.2.2.1 c6
      refine ⟨133, by rw [c6]; rfl, ?_⟩
      refine s_aload_n (nx := 134) hO rfl rfl rfl ?_
      refine s_getf (v := .int (sI s1 139 88)) (nx := 137) hO rfl rfl (hs_o12 kc139) rfl rfl ?_
      exact s_iret hO rfl rfl rfl ⟨rfl, _, _, rfl, rfl, H⟩
    · replace H := H.2.2.2.2.2.2.2.2.2.2.1 c6
      refine ⟨138, by rw [c6]; rfl, ?_⟩
      refine s_aload_n (nx := 139) hO rfl rfl rfl ?_
      refine s_getf (v := .int (sI s1 139 2)) (nx := 142) hO rfl rfl (hs_o12 kc139) rfl rfl ?_
      exact s_iret hO rfl rfl rfl ⟨rfl, _, _, rfl, rfl, H⟩
    · replace H := H.2.2.2.2.2.2.2.2.2.2.2.1 c6
      refine ⟨143, by rw [c6]; rfl, ?_⟩
      refine s_aload_n (nx := 144) hO rfl rfl rfl ?_
      refine s_getf (v := .int (sI s1 139 5)) (nx := 147) hO rfl rfl (hs_o12 kc139) rfl rfl ?_
      exact s_iret hO rfl rfl rfl ⟨rfl, _, _, rfl, rfl, H⟩
    · replace H := H.2.2.2.2.2.2.2.2.2.2.2.2.1 c6
      refine ⟨148, by rw [c6]; rfl, ?_⟩
      refine s_aload_n (nx := 149) hO rfl rfl rfl ?_
      refine s_getf (v := .int (sI s1 139 6)) (nx := 152) hO rfl rfl (hs_o12 kc139) rfl rfl ?_
      exact s_iret hO rfl rfl rfl ⟨rfl, _, _, rfl, rfl, H⟩
    · replace H := H.2.2.2.2.2.2.2.2.2.2.2.2.2.1 c6
      refine ⟨153, by rw [c6]; rfl, ?_⟩
      refine s_aload_n (nx := 154) hO rfl rfl rfl ?_
      refine s_getf (v := .int (sI s1 139 7)) (nx := 157) hO rfl rfl (hs_o12 kc139) rfl rfl ?_
      exact s_iret hO rfl rfl rfl ⟨rfl, _, _, rfl, rfl, H⟩
    · replace H := H.2.2.2.2.2.2.2.2.2.2.2.2.2.2 c6
      refine ⟨158, by rw [c6]; rfl, ?_⟩
      refine s_aload_n (nx := 159) hO rfl rfl rfl ?_
      refine s_getf (v := .ref (q_b G + 173)) (nx := 162) hO rfl rfl (hs_o12 kc139) rfl rfl ?_
      refine s_aload_n (nx := 163) hO rfl rfl rfl ?_
      refine s_aload_n (nx := 164) hO rfl rfl rfl ?_
      refine s_getf (v := .int (sI s1 139 99)) (nx := 167) hO rfl rfl (hs_o12 kc139) rfl rfl ?_
      refine s_callV [.int (sI s1 139 99)] (ci := 12) (F := TX12) (N := 116) (nx := 170) hO rfl kX12_lookAt_484 (by rw [hcl]; rfl) (hs_o12 kc139) (w_X12_indexOf hG H) rfl rfl (Nat.le_of_ble_eq_true rfl) (Nat.zero_le _) (Nat.zero_le _) rfl (k_Pi (fun r6 H => ?_))
      obtain ⟨b7, H⟩ := H
      refine s_iald (nx := 171) hO rfl (hs_I kc173) b7 rfl ?_
      exact s_iret hO rfl rfl rfl ⟨rfl, _, _, rfl, rfl, H⟩

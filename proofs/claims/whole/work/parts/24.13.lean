def W_X12_endOf (s : yS) (v1 : Int32) (Q : Int32 → yS → Prop) : Prop :=
 ∀ s1 : yS, s1 = wI s 139 0 0 → 
 ((¬ (sI s1 139 89) = 0 → ((((v1).toInt < 0 ∨ 7 < (v1).toInt) → Q (-1) s1)
  ∧ ((v1).toInt = 0 → Q (sI s1 139 90) s1)
  ∧ ((v1).toInt = 1 → Q (sI s1 139 91) s1)
  ∧ ((v1).toInt = 2 → Q (sI s1 139 92) s1)
  ∧ ((v1).toInt = 3 → Q (sI s1 139 93) s1)
  ∧ ((v1).toInt = 4 → Q (sI s1 139 94) s1)
  ∧ ((v1).toInt = 5 → W_X12_indexOf s1 (sI s1 139 97) 
    (fun r2 => vp_in r2 64 ∧ 
    Q (sI s1 173 (ix r2)) s1))
  ∧ ((v1).toInt = 6 → Q (sI s1 139 95) s1)
  ∧ ((v1).toInt = 7 → Q (sI s1 139 96) s1)))
 ∧ ((sI s1 139 89) = 0 → Q (-1) s1))
set_option maxRecDepth 100000 in
set_option maxHeartbeats 40000000 in
theorem w_X12_endOf {G : xG} (hG : yG G) {z : Nat} {s : yS} {v1 : Int32} {Q : Int32 → yS → Prop} (H : W_X12_endOf s v1 Q) : xC G mX12_endOf [.ref (q_b G + 139), .int v1] (hS G s) z 0 0 (yQi G z Q) := by
  have hW := hG.1
  have hcl := hG.2.1
  have hty := hG.2.2.1
  have hO : xO G mX12_endOf tbX12_endOf ptX12_endOf := ⟨tkX12_endOf, pkX12_endOf hcl⟩
  unfold W_X12_endOf at H
  refine xC.of hW (by decide) rfl (Nat.le_of_ble_eq_true rfl) ?_
  refine s_aload_n (nx := 1) hO rfl rfl rfl ?_
  refine s_iconst (x := 0) (nx := 2) hO rfl (by decide) rfl ?_
  refine goV (wI s 139 0 0) (fun s1 es1 => ?_)
  replace H := H s1 es1
  refine s_putf (nx := 5) hO rfl rfl (hs_o12 kc139) (Nat.le_of_ble_eq_true rfl) (by rw [hty]; rfl) (by rw [hty]; rfl) pX12_0 rfl ?_
  refine xEx.at (up_oI12 kc139 es1) ?_
  refine s_aload_n (nx := 6) hO rfl rfl rfl ?_
  refine s_getf (v := .int (sI s1 139 89)) (nx := 9) hO rfl rfl (hs_o12 kc139) rfl rfl ?_
  refine s_if_ne (nx := 12) hO rfl rfl (fun c9 => ?_) (fun c9 => ?_)
  · replace H := H.1 c9
    refine s_iload_n (nx := 15) hO rfl rfl rfl ?_
    refine s_switch hO rfl (fun c15 => ?_) (fun dc15 fc15 => ?_)
    · replace H := H.1 c15
      refine s_iconst (x := (-1)) (nx := 110) hO rfl (by decide) rfl ?_
      exact s_iret hO rfl rfl rfl ⟨rfl, _, _, rfl, rfl, H⟩
    · obtain c15 | c15 | c15 | c15 | c15 | c15 | c15 | c15 : (v1).toInt = 0 ∨ (v1).toInt = 1 ∨ (v1).toInt = 2 ∨ (v1).toInt = 3 ∨ (v1).toInt = 4 ∨ (v1).toInt = 5 ∨ (v1).toInt = 6 ∨ (v1).toInt = 7 := by omega
      · replace H := H.2.1 c15
        refine ⟨60, by rw [c15]; rfl, ?_⟩
        refine s_aload_n (nx := 61) hO rfl rfl rfl ?_
        refine s_getf (v := .int (sI s1 139 90)) (nx := 64) hO rfl rfl (hs_o12 kc139) rfl rfl ?_
        exact s_iret hO rfl rfl rfl ⟨rfl, _, _, rfl, rfl, H⟩
      · replace H := H.2.2.1 c15
        refine ⟨65, by rw [c15]; rfl, ?_⟩
        refine s_aload_n (nx := 66) hO rfl rfl rfl ?_
        refine s_getf (v := .int (sI s1 139 91)) (nx := 69) hO rfl rfl (hs_o12 kc139) rfl rfl ?_
        exact s_iret hO rfl rfl rfl ⟨rfl, _, _, rfl, rfl, H⟩
      · replace H := H.2.2.2.1 c15
        refine ⟨70, by rw [c15]; rfl, ?_⟩
        refine s_aload_n (nx := 71) hO rfl rfl rfl ?_
        refine s_getf (v := .int (sI s1 139 92)) (nx := 74) hO rfl rfl (hs_o12 kc139) rfl rfl ?_
        exact s_iret hO rfl rfl rfl ⟨rfl, _, _, rfl, rfl, H⟩
      · replace H := H.2.2.2.2.1 c15
        refine ⟨75, by rw [c15]; rfl, ?_⟩
        refine s_aload_n (nx := 76) hO rfl rfl rfl ?_
        refine s_getf (v := .int (sI s1 139 93)) (nx := 79) hO rfl rfl (hs_o12 kc139) rfl rfl ?_
        exact s_iret hO rfl rfl rfl ⟨rfl, _, _, rfl, rfl, H⟩
      · replace H := H.2.2.2.2.2.1 c15
        refine ⟨80, by rw [c15]; rfl, ?_⟩
        refine s_aload_n (nx := 81) hO rfl rfl rfl ?_
        refine s_getf (v := .int (sI s1 139 94)) (nx := 84) hO rfl rfl (hs_o12 kc139) rfl rfl ?_
        exact s_iret hO rfl rfl rfl ⟨rfl, _, _, rfl, rfl, H⟩
      · replace H := H.2.2.2.2.2.2.1 c15
        refine ⟨85, by rw [c15]; rfl, ?_⟩
        refine s_aload_n (nx := 86) hO rfl rfl rfl ?_
        refine s_getf (v := .ref (q_b G + 173)) (nx := 89) hO rfl rfl (hs_o12 kc139) rfl rfl ?_
        refine s_aload_n (nx := 90) hO rfl rfl rfl ?_
        refine s_aload_n (nx := 91) hO rfl rfl rfl ?_
        refine s_getf (v := .int (sI s1 139 97)) (nx := 94) hO rfl rfl (hs_o12 kc139) rfl rfl ?_
        refine s_callV [.int (sI s1 139 97)] (ci := 12) (F := TX12) (N := 116) (nx := 97) hO rfl kX12_endOf_484 (by rw [hcl]; rfl) (hs_o12 kc139) (w_X12_indexOf hG H) rfl rfl (Nat.le_of_ble_eq_true rfl) (Nat.zero_le _) (Nat.zero_le _) rfl (k_Pi (fun r2 H => ?_))
        obtain ⟨b3, H⟩ := H
        refine s_iald (nx := 98) hO rfl (hs_I kc173) b3 rfl ?_
        exact s_iret hO rfl rfl rfl ⟨rfl, _, _, rfl, rfl, H⟩
      · replace H := H.2.2.2.2.2.2.2.1 c15
        refine ⟨99, by rw [c15]; rfl, ?_⟩
        refine s_aload_n (nx := 100) hO rfl rfl rfl ?_
        refine s_getf (v := .int (sI s1 139 95)) (nx := 103) hO rfl rfl (hs_o12 kc139) rfl rfl ?_
        exact s_iret hO rfl rfl rfl ⟨rfl, _, _, rfl, rfl, H⟩
      · replace H := H.2.2.2.2.2.2.2.2 c15
        refine ⟨104, by rw [c15]; rfl, ?_⟩
        refine s_aload_n (nx := 105) hO rfl rfl rfl ?_
        refine s_getf (v := .int (sI s1 139 96)) (nx := 108) hO rfl rfl (hs_o12 kc139) rfl rfl ?_
        exact s_iret hO rfl rfl rfl ⟨rfl, _, _, rfl, rfl, H⟩
  · replace H := H.2 c9
    refine s_iconst (x := (-1)) (nx := 13) hO rfl (by decide) rfl ?_
    exact s_iret hO rfl rfl rfl ⟨rfl, _, _, rfl, rfl, H⟩
def W_X12_traceAt (s : yS) (v1 : Int32) (v2 : Int32) (Q : Int32 → yS → Prop) : Prop :=
 ∀ s1 : yS, s1 = wI s 139 0 0 → 
 (((sI s1 139 89) = 0 → Q 0 s1)
 ∧ (¬ (sI s1 139 89) = 0 → ((v1 < 0 → Q 0 s1)
  ∧ (¬ v1 < 0 → (((sI s1 139 93) ≤ v1 → Q 0 s1)
   ∧ (¬ (sI s1 139 93) ≤ v1 → (((nI 255) < v1 → Q 0 s1)
    ∧ (¬ (nI 255) < v1 → ((v2 < 0 → Q 0 s1)
     ∧ (¬ v2 < 0 → ((v2 ≤ (nI 4) → vp_in (((nI 5) * v1) + v2) 1280 ∧ 
       Q (sI s1 207 (ix (((nI 5) * v1) + v2))) s1)
      ∧ (¬ v2 ≤ (nI 4) → Q 0 s1))))))))))))
set_option maxRecDepth 100000 in
set_option maxHeartbeats 40000000 in
theorem w_X12_traceAt {G : xG} (hG : yG G) {z : Nat} {s : yS} {v1 : Int32} {v2 : Int32} {Q : Int32 → yS → Prop} (H : W_X12_traceAt s v1 v2 Q) : xC G mX12_traceAt [.ref (q_b G + 139), .int v1, .int v2] (hS G s) z 0 0 (yQi G z Q) := by
  have hW := hG.1
  have hcl := hG.2.1
  have hty := hG.2.2.1
  have hO : xO G mX12_traceAt tbX12_traceAt ptX12_traceAt := ⟨tkX12_traceAt, pkX12_traceAt hcl⟩
  unfold W_X12_traceAt at H
  refine xC.of hW (by decide) rfl (Nat.le_of_ble_eq_true rfl) ?_
  refine s_aload_n (nx := 1) hO rfl rfl rfl ?_
  refine s_iconst (x := 0) (nx := 2) hO rfl (by decide) rfl ?_
  refine goV (wI s 139 0 0) (fun s1 es1 => ?_)
  replace H := H s1 es1
  refine s_putf (nx := 5) hO rfl rfl (hs_o12 kc139) (Nat.le_of_ble_eq_true rfl) (by rw [hty]; rfl) (by rw [hty]; rfl) pX12_0 rfl ?_
  refine xEx.at (up_oI12 kc139 es1) ?_
  refine s_aload_n (nx := 6) hO rfl rfl rfl ?_
  refine s_getf (v := .int (sI s1 139 89)) (nx := 9) hO rfl rfl (hs_o12 kc139) rfl rfl ?_
  refine s_if_eq (nx := 12) hO rfl rfl (fun c9 => ?_) (fun c9 => ?_)
  · replace H := H.1 c9
    refine s_iconst (x := 0) (nx := 41) hO rfl (by decide) rfl ?_
    refine s_goto hO rfl ?_
    exact s_iret hO rfl rfl rfl ⟨rfl, _, _, rfl, rfl, H⟩
  · replace H := H.2 c9
    refine s_iload_n (nx := 13) hO rfl rfl rfl ?_
    refine s_if_lt (nx := 16) hO rfl rfl (fun c13 => ?_) (fun c13 => ?_)
    · replace H := H.1 c13
      refine s_iconst (x := 0) (nx := 41) hO rfl (by decide) rfl ?_
      refine s_goto hO rfl ?_
      exact s_iret hO rfl rfl rfl ⟨rfl, _, _, rfl, rfl, H⟩
    · replace H := H.2 c13
      refine s_iload_n (nx := 17) hO rfl rfl rfl ?_
      refine s_aload_n (nx := 18) hO rfl rfl rfl ?_
      refine s_getf (v := .int (sI s1 139 93)) (nx := 21) hO rfl rfl (hs_o12 kc139) rfl rfl ?_
      refine s_icmp_ge (nx := 24) hO rfl rfl (fun c21 => ?_) (fun c21 => ?_)
      · replace H := H.1 c21
        refine s_iconst (x := 0) (nx := 41) hO rfl (by decide) rfl ?_
        refine s_goto hO rfl ?_
        exact s_iret hO rfl rfl rfl ⟨rfl, _, _, rfl, rfl, H⟩
      · replace H := H.2 c21
        refine s_iload_n (nx := 25) hO rfl rfl rfl ?_
        refine s_sipush (x := (nI 255)) (nx := 28) hO rfl (by decide) rfl ?_
        refine s_icmp_gt (nx := 31) hO rfl rfl (fun c28 => ?_) (fun c28 => ?_)
        · replace H := H.1 c28
          refine s_iconst (x := 0) (nx := 41) hO rfl (by decide) rfl ?_
          refine s_goto hO rfl ?_
          exact s_iret hO rfl rfl rfl ⟨rfl, _, _, rfl, rfl, H⟩
        · replace H := H.2 c28
          refine s_iload_n (nx := 32) hO rfl rfl rfl ?_
          refine s_if_lt (nx := 35) hO rfl rfl (fun c32 => ?_) (fun c32 => ?_)
          · replace H := H.1 c32
            refine s_iconst (x := 0) (nx := 41) hO rfl (by decide) rfl ?_
            refine s_goto hO rfl ?_
            exact s_iret hO rfl rfl rfl ⟨rfl, _, _, rfl, rfl, H⟩
          · replace H := H.2 c32
            refine s_iload_n (nx := 36) hO rfl rfl rfl ?_
            refine s_iconst (x := (nI 4)) (nx := 37) hO rfl (by decide) rfl ?_
            refine s_icmp_le (nx := 40) hO rfl rfl (fun c37 => ?_) (fun c37 => ?_)
            · replace H := H.1 c37
              refine s_aload_n (nx := 45) hO rfl rfl rfl ?_
              refine s_getf (v := .ref (q_b G + 207)) (nx := 48) hO rfl rfl (hs_o12 kc139) rfl rfl ?_
              refine s_iconst (x := (nI 5)) (nx := 49) hO rfl (by decide) rfl ?_
              refine s_iload_n (nx := 50) hO rfl rfl rfl ?_
              refine s_imul (nx := 51) hO rfl rfl ?_
              refine s_iload_n (nx := 52) hO rfl rfl rfl ?_
              refine s_iadd (nx := 53) hO rfl rfl ?_
              obtain ⟨b2, H⟩ := H
              refine s_iald (nx := 54) hO rfl (hs_I kc207) b2 rfl ?_
              exact s_iret hO rfl rfl rfl ⟨rfl, _, _, rfl, rfl, H⟩
            · replace H := H.2 c37
              refine s_iconst (x := 0) (nx := 41) hO rfl (by decide) rfl ?_
              refine s_goto hO rfl ?_
              exact s_iret hO rfl rfl rfl ⟨rfl, _, _, rfl, rfl, H⟩
def W_X12_isThere (s : yS) (v1 : Int32) (v2 : Int32) (v3 : Int32) (Q : Int32 → Prop) : Prop :=
 vp_in v1 3 ∧ 
 (((sI s 177 (ix v1)) = 0 → Q 0)
 ∧ (¬ (sI s 177 (ix v1)) = 0 → ((v2 < 0 → Q 0)
  ∧ (¬ v2 < 0 → vp_in v1 3 ∧ 
   (((sI s 178 (ix v1)) ≤ v2 → Q 0)
   ∧ (¬ (sI s 178 (ix v1)) ≤ v2 → ((v3 < 0 → Q 0)
    ∧ (¬ v3 < 0 → vp_in (((nI 12) * v1) + v2) 36 ∧ 
     (((sI s 184 (ix (((nI 12) * v1) + v2))) ≤ v3 → Q 0)
     ∧ (¬ (sI s 184 (ix (((nI 12) * v1) + v2))) ≤ v3 → Q 1))))))))))
set_option maxRecDepth 100000 in
set_option maxHeartbeats 40000000 in
theorem w_X12_isThere {G : xG} (hG : yG G) {z : Nat} {s : yS} {v1 : Int32} {v2 : Int32} {v3 : Int32} {Q : Int32 → Prop} (H : W_X12_isThere s v1 v2 v3 Q) : xC G mX12_isThere [.ref (q_b G + 139), .int v1, .int v2, .int v3] (hS G s) z 0 0 (yPi G z s Q) := by
  have hW := hG.1
  have hcl := hG.2.1
  have hty := hG.2.2.1
  have hO : xO G mX12_isThere tbX12_isThere ptX12_isThere := ⟨tkX12_isThere, pkX12_isThere hcl⟩
  unfold W_X12_isThere at H
  refine xC.of hW (by decide) rfl (Nat.le_of_ble_eq_true rfl) ?_
  refine s_aload_n (nx := 1) hO rfl rfl rfl ?_
  refine s_getf (v := .ref (q_b G + 177)) (nx := 4) hO rfl rfl (hs_o12 kc139) rfl rfl ?_
  refine s_iload_n (nx := 5) hO rfl rfl rfl ?_
  obtain ⟨b1, H⟩ := H
  refine s_zald (nx := 6) hO rfl (hs_Z kc177) b1 rfl ?_
  refine s_if_eq (nx := 9) hO rfl rfl (fun c6 => ?_) (fun c6 => ?_)
  · replace H := H.1 c6
    refine s_iconst (x := 0) (nx := 47) hO rfl (by decide) rfl ?_
    exact s_iret hO rfl rfl rfl ⟨rfl, _, rfl, rfl, H⟩
  · replace H := H.2 c6
    refine s_iload_n (nx := 10) hO rfl rfl rfl ?_
    refine s_if_lt (nx := 13) hO rfl rfl (fun c10 => ?_) (fun c10 => ?_)
    · replace H := H.1 c10
      refine s_iconst (x := 0) (nx := 47) hO rfl (by decide) rfl ?_
      exact s_iret hO rfl rfl rfl ⟨rfl, _, rfl, rfl, H⟩
    · replace H := H.2 c10
      refine s_iload_n (nx := 14) hO rfl rfl rfl ?_
      refine s_aload_n (nx := 15) hO rfl rfl rfl ?_
      refine s_getf (v := .ref (q_b G + 178)) (nx := 18) hO rfl rfl (hs_o12 kc139) rfl rfl ?_
      refine s_iload_n (nx := 19) hO rfl rfl rfl ?_
      obtain ⟨b2, H⟩ := H
      refine s_iald (nx := 20) hO rfl (hs_I kc178) b2 rfl ?_
      refine s_icmp_ge (nx := 23) hO rfl rfl (fun c20 => ?_) (fun c20 => ?_)
      · replace H := H.1 c20
        refine s_iconst (x := 0) (nx := 47) hO rfl (by decide) rfl ?_
        exact s_iret hO rfl rfl rfl ⟨rfl, _, rfl, rfl, H⟩
      · replace H := H.2 c20
        refine s_iload_n (nx := 24) hO rfl rfl rfl ?_
        refine s_if_lt (nx := 27) hO rfl rfl (fun c24 => ?_) (fun c24 => ?_)
        · replace H := H.1 c24
          refine s_iconst (x := 0) (nx := 47) hO rfl (by decide) rfl ?_
          exact s_iret hO rfl rfl rfl ⟨rfl, _, rfl, rfl, H⟩
        · replace H := H.2 c24
          refine s_iload_n (nx := 28) hO rfl rfl rfl ?_
          refine s_aload_n (nx := 29) hO rfl rfl rfl ?_
          refine s_getf (v := .ref (q_b G + 184)) (nx := 32) hO rfl rfl (hs_o12 kc139) rfl rfl ?_
          refine s_bipush (x := (nI 12)) (nx := 34) hO rfl (by decide) rfl ?_
          refine s_iload_n (nx := 35) hO rfl rfl rfl ?_
          refine s_imul (nx := 36) hO rfl rfl ?_
          refine s_iload_n (nx := 37) hO rfl rfl rfl ?_
          refine s_iadd (nx := 38) hO rfl rfl ?_
          obtain ⟨b3, H⟩ := H
          refine s_iald (nx := 39) hO rfl (hs_I kc184) b3 rfl ?_
          refine s_icmp_ge (nx := 42) hO rfl rfl (fun c39 => ?_) (fun c39 => ?_)
          · replace H := H.1 c39
            refine s_iconst (x := 0) (nx := 47) hO rfl (by decide) rfl ?_
            exact s_iret hO rfl rfl rfl ⟨rfl, _, rfl, rfl, H⟩
          · replace H := H.2 c39
            refine s_iconst (x := 1) (nx := 43) hO rfl (by decide) rfl ?_
            refine s_goto hO rfl ?_
            exact s_iret hO rfl rfl rfl ⟨rfl, _, rfl, rfl, H⟩
def W_X12_codeOf (s : yS) (v1 : Int32) (v2 : Int32) (v3 : Int32) (v4 : Int32) (Q : Int32 → yS → Prop) : Prop :=
 ∀ s1 : yS, s1 = wI s 139 0 0 → 
 ∀ P14 : Int32 → Prop, (∀ (y2 : Int32), (W_X12_isThere s1 y2 v2 v3 
  (fun r3 => ((¬ r3 = 0 → ∀ x4 : Int32, x4 = ((((nI 4800) * y2) + ((nI 400) * v2)) + v3) → 
   ((((v4).toInt < 0 ∨ 5 < (v4).toInt) → Q 0 s1)
   ∧ ((v4).toInt = 0 → vp_in x4 14400 ∧ 
     Q (sI s1 186 (ix x4)) s1)
   ∧ ((v4).toInt = 1 → vp_in x4 14400 ∧ 
     Q (sI s1 187 (ix x4)) s1)
   ∧ ((v4).toInt = 2 → vp_in x4 14400 ∧ 
     Q (sI s1 193 (ix x4)) s1)
   ∧ ((v4).toInt = 3 → vp_in x4 14400 ∧ 
     Q (sI s1 194 (ix x4)) s1)
   ∧ ((v4).toInt = 4 → W_X12_isGuarded s1 y2 v2 v3 
     (fun r9 => ((r9 = 0 → Q 0 s1)
     ∧ (¬ r9 = 0 → Q 1 s1))))
   ∧ ((v4).toInt = 5 → W_X12_makeMay s1 y2 
     (fun s10 => W_X12_needs s10 y2 v2 v3 
     (fun r11 => ((r11 = 0 → Q 0 s10)
     ∧ (¬ r11 = 0 → Q 1 s10)))))))
  ∧ (r3 = 0 → Q 0 s1)))) → P14 y2) → 
 ((v1 = 0 → P14 0)
 ∧ (¬ v1 = 0 → P14 1))
set_option maxRecDepth 100000 in
set_option maxHeartbeats 40000000 in
theorem w_X12_codeOf {G : xG} (hG : yG G) {z : Nat} {s : yS} {v1 : Int32} {v2 : Int32} {v3 : Int32} {v4 : Int32} {Q : Int32 → yS → Prop} (H : W_X12_codeOf s v1 v2 v3 v4 Q) : xC G mX12_codeOf [.ref (q_b G + 139), .int v1, .int v2, .int v3, .int v4] (hS G s) z 0 0 (yQi G z Q) := by
  have hW := hG.1
  have hcl := hG.2.1
  have hty := hG.2.2.1
  have hO : xO G mX12_codeOf tbX12_codeOf ptX12_codeOf := ⟨tkX12_codeOf, pkX12_codeOf hcl⟩
  unfold W_X12_codeOf at H
  refine xC.of hW (by decide) rfl (Nat.le_of_ble_eq_true rfl) ?_
  refine s_aload_n (nx := 1) hO rfl rfl rfl ?_
  refine s_iconst (x := 0) (nx := 2) hO rfl (by decide) rfl ?_
  refine goV (wI s 139 0 0) (fun s1 es1 => ?_)
  replace H := H s1 es1
  refine s_putf (nx := 5) hO rfl rfl (hs_o12 kc139) (Nat.le_of_ble_eq_true rfl) (by rw [hty]; rfl) (by rw [hty]; rfl) pX12_0 rfl ?_
  refine xEx.at (up_oI12 kc139 es1) ?_
  refine s_iload_n (nx := 6) hO rfl rfl rfl ?_
  refine goK (H (fun (y2 : Int32) => xEx G mX12_codeOf 14 [(0, .ref (q_b G + 139)), (2, .int v2), (3, .int v3), (4, .int v4)] [.int y2] (hS G s1) z 0 0 (yQi G z Q)) (fun y2 H => ?_)) (fun H => ?_)
  · show xEx G mX12_codeOf 14 [(0, .ref (q_b G + 139)), (2, .int v2), (3, .int v3), (4, .int v4)] [.int y2] (hS G s1) z 0 0 (yQi G z Q)
    refine s_istore (nx := 16) (l' := [(5, .int y2), (0, .ref (q_b G + 139)), (2, .int v2), (3, .int v3), (4, .int v4)]) hO rfl (by decide) rfl rfl ?_
    refine s_aload_n (nx := 17) hO rfl rfl rfl ?_
    refine s_iload (nx := 19) hO rfl rfl rfl ?_
    refine s_iload_n (nx := 20) hO rfl rfl rfl ?_
    refine s_iload_n (nx := 21) hO rfl rfl rfl ?_
    refine s_callV [.int y2, .int v2, .int v3] (ci := 12) (F := TX12) (N := 116) (nx := 24) hO rfl kX12_codeOf_701 (by rw [hcl]; rfl) (hs_o12 kc139) (w_X12_isThere hG H) rfl rfl (Nat.le_of_ble_eq_true rfl) (Nat.zero_le _) (Nat.zero_le _) rfl (k_Pi (fun r3 H => ?_))
    refine s_if_ne (nx := 27) hO rfl rfl (fun c24 => ?_) (fun c24 => ?_)
    · replace H := H.1 c24
      refine s_sipush (x := (nI 4800)) (nx := 32) hO rfl (by decide) rfl ?_
      refine s_iload (nx := 34) hO rfl rfl rfl ?_
      refine s_imul (nx := 35) hO rfl rfl ?_
      refine s_sipush (x := (nI 400)) (nx := 38) hO rfl (by decide) rfl ?_
      refine s_iload_n (nx := 39) hO rfl rfl rfl ?_
      refine s_imul (nx := 40) hO rfl rfl ?_
      refine s_iadd (nx := 41) hO rfl rfl ?_
      refine s_iload_n (nx := 42) hO rfl rfl rfl ?_
      refine s_iadd (nx := 43) hO rfl rfl ?_
      refine goV (((((nI 4800) * y2) + ((nI 400) * v2)) + v3)) (fun x4 ex4 => ?_)
      replace H := H x4 ex4
      refine e_istore (nx := 45) (l' := [(6, .int x4), (5, .int y2), (0, .ref (q_b G + 139)), (2, .int v2), (3, .int v3), (4, .int v4)]) ex4 hO rfl (by decide) rfl rfl ?_
      refine s_iload (nx := 47) hO rfl rfl rfl ?_
      refine s_switch hO rfl (fun c47 => ?_) (fun dc47 fc47 => ?_)
      · replace H := H.1 c47
        refine s_iconst (x := 0) (nx := 157) hO rfl (by decide) rfl ?_
        exact s_iret hO rfl rfl rfl ⟨rfl, _, _, rfl, rfl, H⟩
      · obtain c47 | c47 | c47 | c47 | c47 | c47 : (v4).toInt = 0 ∨ (v4).toInt = 1 ∨ (v4).toInt = 2 ∨ (v4).toInt = 3 ∨ (v4).toInt = 4 ∨ (v4).toInt = 5 := by omega
        · replace H := H.2.1 c47
          refine ⟨84, by rw [c47]; rfl, ?_⟩
          refine s_aload_n (nx := 85) hO rfl rfl rfl ?_
          refine s_getf (v := .ref (q_b G + 186)) (nx := 88) hO rfl rfl (hs_o12 kc139) rfl rfl ?_
          refine s_iload (nx := 90) hO rfl rfl rfl ?_
          obtain ⟨b5, H⟩ := H
          refine s_iald (nx := 91) hO rfl (hs_I kc186) b5 rfl ?_
          exact s_iret hO rfl rfl rfl ⟨rfl, _, _, rfl, rfl, H⟩
        · replace H := H.2.2.1 c47
          refine ⟨92, by rw [c47]; rfl, ?_⟩
          refine s_aload_n (nx := 93) hO rfl rfl rfl ?_
          refine s_getf (v := .ref (q_b G + 187)) (nx := 96) hO rfl rfl (hs_o12 kc139) rfl rfl ?_
          refine s_iload (nx := 98) hO rfl rfl rfl ?_
          obtain ⟨b6, H⟩ := H
          refine s_iald (nx := 99) hO rfl (hs_I kc187) b6 rfl ?_
          exact s_iret hO rfl rfl rfl ⟨rfl, _, _, rfl, rfl, H⟩
        · replace H := H.2.2.2.1 c47
          refine ⟨100, by rw [c47]; rfl, ?_⟩
          refine s_aload_n (nx := 101) hO rfl rfl rfl ?_
          refine s_getf (v := .ref (q_b G + 193)) (nx := 104) hO rfl rfl (hs_o12 kc139) rfl rfl ?_
          refine s_iload (nx := 106) hO rfl rfl rfl ?_
          obtain ⟨b7, H⟩ := H
          refine s_iald (nx := 107) hO rfl (hs_I kc193) b7 rfl ?_
          exact s_iret hO rfl rfl rfl ⟨rfl, _, _, rfl, rfl, H⟩
        · replace H := H.2.2.2.2.1 c47
          refine ⟨108, by rw [c47]; rfl, ?_⟩
          refine s_aload_n (nx := 109) hO rfl rfl rfl ?_
          refine s_getf (v := .ref (q_b G + 194)) (nx := 112) hO rfl rfl (hs_o12 kc139) rfl rfl ?_
          refine s_iload (nx := 114) hO rfl rfl rfl ?_
          obtain ⟨b8, H⟩ := H
          refine s_iald (nx := 115) hO rfl (hs_I kc194) b8 rfl ?_
          exact s_iret hO rfl rfl rfl ⟨rfl, _, _, rfl, rfl, H⟩
        · replace H := H.2.2.2.2.2.1 c47
          refine ⟨116, by rw [c47]; rfl, ?_⟩
          refine s_aload_n (nx := 117) hO rfl rfl rfl ?_
          refine s_iload (nx := 119) hO rfl rfl rfl ?_
          refine s_iload_n (nx := 120) hO rfl rfl rfl ?_
          refine s_iload_n (nx := 121) hO rfl rfl rfl ?_
          refine s_callV [.int y2, .int v2, .int v3] (ci := 12) (F := TX12) (N := 116) (nx := 124) hO rfl kX12_codeOf_585 (by rw [hcl]; rfl) (hs_o12 kc139) (w_X12_isGuarded hG H) rfl rfl (Nat.le_of_ble_eq_true rfl) (Nat.zero_le _) (Nat.zero_le _) rfl (k_Pi (fun r9 H => ?_))
          refine s_if_eq (nx := 127) hO rfl rfl (fun c124 => ?_) (fun c124 => ?_)
          · replace H := H.1 c124
            refine s_iconst (x := 0) (nx := 132) hO rfl (by decide) rfl ?_
            exact s_iret hO rfl rfl rfl ⟨rfl, _, _, rfl, rfl, H⟩
          · replace H := H.2 c124
            refine s_iconst (x := 1) (nx := 128) hO rfl (by decide) rfl ?_
            refine s_goto hO rfl ?_
            exact s_iret hO rfl rfl rfl ⟨rfl, _, _, rfl, rfl, H⟩
        · replace H := H.2.2.2.2.2.2 c47
          refine ⟨133, by rw [c47]; rfl, ?_⟩
          refine s_aload_n (nx := 134) hO rfl rfl rfl ?_
          refine s_iload (nx := 136) hO rfl rfl rfl ?_
          refine s_callV [.int y2] (ci := 12) (F := TX12) (N := 116) (nx := 139) hO rfl kX12_codeOf_595 (by rw [hcl]; rfl) (hs_o12 kc139) (w_X12_makeMay hG H) rfl rfl (Nat.le_of_ble_eq_true rfl) (Nat.zero_le _) (Nat.zero_le _) rfl (k_Qv (fun s10 H => ?_))
          refine s_aload_n (nx := 140) hO rfl rfl rfl ?_
          refine s_iload (nx := 142) hO rfl rfl rfl ?_
          refine s_iload_n (nx := 143) hO rfl rfl rfl ?_
          refine s_iload_n (nx := 144) hO rfl rfl rfl ?_
          refine s_callV [.int y2, .int v2, .int v3] (ci := 12) (F := TX12) (N := 116) (nx := 147) hO rfl kX12_codeOf_598 (by rw [hcl]; rfl) (hs_o12 kc139) (w_X12_needs hG H) rfl rfl (Nat.le_of_ble_eq_true rfl) (Nat.zero_le _) (Nat.zero_le _) rfl (k_Pi (fun r11 H => ?_))
          refine s_if_eq (nx := 150) hO rfl rfl (fun c147 => ?_) (fun c147 => ?_)
          · replace H := H.1 c147
            refine s_iconst (x := 0) (nx := 155) hO rfl (by decide) rfl ?_
            exact s_iret hO rfl rfl rfl ⟨rfl, _, _, rfl, rfl, H⟩
          · replace H := H.2 c147
            refine s_iconst (x := 1) (nx := 151) hO rfl (by decide) rfl ?_
            refine s_goto hO rfl ?_
            exact s_iret hO rfl rfl rfl ⟨rfl, _, _, rfl, rfl, H⟩
    · replace H := H.2 c24
      refine s_iconst (x := 0) (nx := 28) hO rfl (by decide) rfl ?_
      exact s_iret hO rfl rfl rfl ⟨rfl, _, _, rfl, rfl, H⟩
  refine s_if_eq (nx := 9) hO rfl rfl (fun c6 => ?_) (fun c6 => ?_)
  · replace H := H.1 c6
    refine s_iconst (x := 0) (nx := 14) hO rfl (by decide) rfl ?_
    exact xEx.loc (x_sub1 (List.Mem.head _) (x_sub1 (List.Mem.tail _ (List.Mem.tail _ (List.Mem.head _))) (x_sub1 (List.Mem.tail _ (List.Mem.tail _ (List.Mem.tail _ (List.Mem.head _)))) (x_sub1 (List.Mem.tail _ (List.Mem.tail _ (List.Mem.tail _ (List.Mem.tail _ (List.Mem.head _))))) x_sub0)))) H
  · replace H := H.2 c6
    refine s_iconst (x := 1) (nx := 10) hO rfl (by decide) rfl ?_
    refine s_goto hO rfl ?_
    exact xEx.loc (x_sub1 (List.Mem.head _) (x_sub1 (List.Mem.tail _ (List.Mem.tail _ (List.Mem.head _))) (x_sub1 (List.Mem.tail _ (List.Mem.tail _ (List.Mem.tail _ (List.Mem.head _)))) (x_sub1 (List.Mem.tail _ (List.Mem.tail _ (List.Mem.tail _ (List.Mem.tail _ (List.Mem.head _))))) x_sub0)))) H
def W_X12_mayOf (s : yS) (v1 : Int32) (v2 : Int32) (v3 : Int32) (Q : Int64 → yS → Prop) : Prop :=
 ∀ s1 : yS, s1 = wI s 139 0 0 → 
 ∀ P14 : Int32 → Prop, (∀ (y2 : Int32), (W_X12_isThere s1 y2 v2 v3 
  (fun r3 => ((¬ r3 = 0 → W_X12_makeMay s1 y2 
   (fun s4 => vp_in ((((nI 4800) * y2) + ((nI 400) * v2)) + v3) 14400 ∧ 
   Q (sJ s4 196 (ix ((((nI 4800) * y2) + ((nI 400) * v2)) + v3))) s4))
  ∧ (r3 = 0 → Q 0 s1)))) → P14 y2) → 
 ((v1 = 0 → P14 0)
 ∧ (¬ v1 = 0 → P14 1))
set_option maxRecDepth 100000 in
set_option maxHeartbeats 40000000 in
theorem w_X12_mayOf {G : xG} (hG : yG G) {z : Nat} {s : yS} {v1 : Int32} {v2 : Int32} {v3 : Int32} {Q : Int64 → yS → Prop} (H : W_X12_mayOf s v1 v2 v3 Q) : xC G mX12_mayOf [.ref (q_b G + 139), .int v1, .int v2, .int v3] (hS G s) z 0 0 (yQl G z Q) := by
  have hW := hG.1
  have hcl := hG.2.1
  have hty := hG.2.2.1
  have hO : xO G mX12_mayOf tbX12_mayOf ptX12_mayOf := ⟨tkX12_mayOf, pkX12_mayOf hcl⟩
  unfold W_X12_mayOf at H
  refine xC.of hW (by decide) rfl (Nat.le_of_ble_eq_true rfl) ?_
  refine s_aload_n (nx := 1) hO rfl rfl rfl ?_
  refine s_iconst (x := 0) (nx := 2) hO rfl (by decide) rfl ?_
  refine goV (wI s 139 0 0) (fun s1 es1 => ?_)
  replace H := H s1 es1
  refine s_putf (nx := 5) hO rfl rfl (hs_o12 kc139) (Nat.le_of_ble_eq_true rfl) (by rw [hty]; rfl) (by rw [hty]; rfl) pX12_0 rfl ?_
  refine xEx.at (up_oI12 kc139 es1) ?_
  refine s_iload_n (nx := 6) hO rfl rfl rfl ?_
  refine goK (H (fun (y2 : Int32) => xEx G mX12_mayOf 14 [(0, .ref (q_b G + 139)), (2, .int v2), (3, .int v3)] [.int y2] (hS G s1) z 0 0 (yQl G z Q)) (fun y2 H => ?_)) (fun H => ?_)
  · show xEx G mX12_mayOf 14 [(0, .ref (q_b G + 139)), (2, .int v2), (3, .int v3)] [.int y2] (hS G s1) z 0 0 (yQl G z Q)
    refine s_istore (nx := 16) (l' := [(4, .int y2), (0, .ref (q_b G + 139)), (2, .int v2), (3, .int v3)]) hO rfl (by decide) rfl rfl ?_
    refine s_aload_n (nx := 17) hO rfl rfl rfl ?_
    refine s_iload (nx := 19) hO rfl rfl rfl ?_
    refine s_iload_n (nx := 20) hO rfl rfl rfl ?_
    refine s_iload_n (nx := 21) hO rfl rfl rfl ?_
    refine s_callV [.int y2, .int v2, .int v3] (ci := 12) (F := TX12) (N := 116) (nx := 24) hO rfl kX12_mayOf_701 (by rw [hcl]; rfl) (hs_o12 kc139) (w_X12_isThere hG H) rfl rfl (Nat.le_of_ble_eq_true rfl) (Nat.zero_le _) (Nat.zero_le _) rfl (k_Pi (fun r3 H => ?_))
    refine s_if_ne (nx := 27) hO rfl rfl (fun c24 => ?_) (fun c24 => ?_)
    · replace H := H.1 c24
      refine s_aload_n (nx := 30) hO rfl rfl rfl ?_
      refine s_iload (nx := 32) hO rfl rfl rfl ?_
      refine s_callV [.int y2] (ci := 12) (F := TX12) (N := 116) (nx := 35) hO rfl kX12_mayOf_595 (by rw [hcl]; rfl) (hs_o12 kc139) (w_X12_makeMay hG H) rfl rfl (Nat.le_of_ble_eq_true rfl) (Nat.zero_le _) (Nat.zero_le _) rfl (k_Qv (fun s4 H => ?_))
      refine s_aload_n (nx := 36) hO rfl rfl rfl ?_
      refine s_getf (v := .ref (q_b G + 196)) (nx := 39) hO rfl rfl (hs_o12 kc139) rfl rfl ?_
      refine s_sipush (x := (nI 4800)) (nx := 42) hO rfl (by decide) rfl ?_
      refine s_iload (nx := 44) hO rfl rfl rfl ?_
      refine s_imul (nx := 45) hO rfl rfl ?_
      refine s_sipush (x := (nI 400)) (nx := 48) hO rfl (by decide) rfl ?_
      refine s_iload_n (nx := 49) hO rfl rfl rfl ?_
      refine s_imul (nx := 50) hO rfl rfl ?_
      refine s_iadd (nx := 51) hO rfl rfl ?_
      refine s_iload_n (nx := 52) hO rfl rfl rfl ?_
      refine s_iadd (nx := 53) hO rfl rfl ?_
      obtain ⟨b5, H⟩ := H
      refine s_lald (nx := 54) hO rfl (hs_J kc196) b5 rfl ?_
      exact s_lret hO rfl rfl ⟨rfl, _, _, rfl, rfl, H⟩
    · replace H := H.2 c24
      refine s_lconst (x := 0) (nx := 28) hO rfl (by decide) rfl ?_
      exact s_lret hO rfl rfl ⟨rfl, _, _, rfl, rfl, H⟩
  refine s_if_eq (nx := 9) hO rfl rfl (fun c6 => ?_) (fun c6 => ?_)
  · replace H := H.1 c6
    refine s_iconst (x := 0) (nx := 14) hO rfl (by decide) rfl ?_
    exact xEx.loc (x_sub1 (List.Mem.head _) (x_sub1 (List.Mem.tail _ (List.Mem.tail _ (List.Mem.head _))) (x_sub1 (List.Mem.tail _ (List.Mem.tail _ (List.Mem.tail _ (List.Mem.head _)))) x_sub0))) H
  · replace H := H.2 c6
    refine s_iconst (x := 1) (nx := 10) hO rfl (by decide) rfl ?_
    refine s_goto hO rfl ?_
    exact xEx.loc (x_sub1 (List.Mem.head _) (x_sub1 (List.Mem.tail _ (List.Mem.tail _ (List.Mem.head _))) (x_sub1 (List.Mem.tail _ (List.Mem.tail _ (List.Mem.tail _ (List.Mem.head _)))) x_sub0))) H
def W_X12_functionOf (s : yS) (v1 : Int32) (v2 : Int32) (v3 : Int32) (Q : Int32 → yS → Prop) : Prop :=
 ∀ s1 : yS, s1 = wI s 139 0 0 → 
 ∀ P14 : Int32 → Prop, (∀ (y2 : Int32), (vp_in y2 3 ∧ 
  (((sI s1 177 (ix y2)) = 0 → Q (-1) s1)
  ∧ (¬ (sI s1 177 (ix y2)) = 0 → ((v2 < 0 → Q (-1) s1)
   ∧ (¬ v2 < 0 → vp_in y2 3 ∧ 
    ((v2 < (sI s1 178 (ix y2)) → ∀ x5 : Int32, x5 = (((nI 12) * y2) + v2) → 
     ((¬ v3 = 0 → ((¬ v3 = 1 → ((¬ v3 = (nI 2) → ((¬ v3 = (nI 3) → ((¬ v3 = (nI 4) → Q (-1) s1)
         ∧ (v3 = (nI 4) → vp_in x5 36 ∧ 
          Q (sI s1 185 (ix x5)) s1)))
        ∧ (v3 = (nI 3) → vp_in x5 36 ∧ 
         Q (sI s1 184 (ix x5)) s1)))
       ∧ (v3 = (nI 2) → vp_in x5 36 ∧ 
        Q (sI s1 182 (ix x5)) s1)))
      ∧ (v3 = 1 → vp_in x5 36 ∧ 
       Q (sI s1 180 (ix x5)) s1)))
     ∧ (v3 = 0 → vp_in x5 36 ∧ 
      Q (sI s1 179 (ix x5)) s1)))
    ∧ (¬ v2 < (sI s1 178 (ix y2)) → Q (-1) s1))))))) → P14 y2) → 
 ((v1 = 0 → P14 0)
 ∧ (¬ v1 = 0 → P14 1))
set_option maxRecDepth 100000 in
set_option maxHeartbeats 40000000 in
theorem w_X12_functionOf {G : xG} (hG : yG G) {z : Nat} {s : yS} {v1 : Int32} {v2 : Int32} {v3 : Int32} {Q : Int32 → yS → Prop} (H : W_X12_functionOf s v1 v2 v3 Q) : xC G mX12_functionOf [.ref (q_b G + 139), .int v1, .int v2, .int v3] (hS G s) z 0 0 (yQi G z Q) := by
  have hW := hG.1
  have hcl := hG.2.1
  have hty := hG.2.2.1
  have hO : xO G mX12_functionOf tbX12_functionOf ptX12_functionOf := ⟨tkX12_functionOf, pkX12_functionOf hcl⟩
  unfold W_X12_functionOf at H
  refine xC.of hW (by decide) rfl (Nat.le_of_ble_eq_true rfl) ?_
  refine s_aload_n (nx := 1) hO rfl rfl rfl ?_
  refine s_iconst (x := 0) (nx := 2) hO rfl (by decide) rfl ?_
  refine goV (wI s 139 0 0) (fun s1 es1 => ?_)
  replace H := H s1 es1
  refine s_putf (nx := 5) hO rfl rfl (hs_o12 kc139) (Nat.le_of_ble_eq_true rfl) (by rw [hty]; rfl) (by rw [hty]; rfl) pX12_0 rfl ?_
  refine xEx.at (up_oI12 kc139 es1) ?_
  refine s_iload_n (nx := 6) hO rfl rfl rfl ?_
  refine goK (H (fun (y2 : Int32) => xEx G mX12_functionOf 14 [(0, .ref (q_b G + 139)), (2, .int v2), (3, .int v3)] [.int y2] (hS G s1) z 0 0 (yQi G z Q)) (fun y2 H => ?_)) (fun H => ?_)
  · show xEx G mX12_functionOf 14 [(0, .ref (q_b G + 139)), (2, .int v2), (3, .int v3)] [.int y2] (hS G s1) z 0 0 (yQi G z Q)
    refine s_istore (nx := 16) (l' := [(4, .int y2), (0, .ref (q_b G + 139)), (2, .int v2), (3, .int v3)]) hO rfl (by decide) rfl rfl ?_
    refine s_aload_n (nx := 17) hO rfl rfl rfl ?_
    refine s_getf (v := .ref (q_b G + 177)) (nx := 20) hO rfl rfl (hs_o12 kc139) rfl rfl ?_
    refine s_iload (nx := 22) hO rfl rfl rfl ?_
    obtain ⟨b3, H⟩ := H
    refine s_zald (nx := 23) hO rfl (hs_Z kc177) b3 rfl ?_
    refine s_if_eq (nx := 26) hO rfl rfl (fun c23 => ?_) (fun c23 => ?_)
    · replace H := H.1 c23
      refine s_iconst (x := (-1)) (nx := 42) hO rfl (by decide) rfl ?_
      exact s_iret hO rfl rfl rfl ⟨rfl, _, _, rfl, rfl, H⟩
    · replace H := H.2 c23
      refine s_iload_n (nx := 27) hO rfl rfl rfl ?_
      refine s_if_lt (nx := 30) hO rfl rfl (fun c27 => ?_) (fun c27 => ?_)
      · replace H := H.1 c27
        refine s_iconst (x := (-1)) (nx := 42) hO rfl (by decide) rfl ?_
        exact s_iret hO rfl rfl rfl ⟨rfl, _, _, rfl, rfl, H⟩
      · replace H := H.2 c27
        refine s_iload_n (nx := 31) hO rfl rfl rfl ?_
        refine s_aload_n (nx := 32) hO rfl rfl rfl ?_
        refine s_getf (v := .ref (q_b G + 178)) (nx := 35) hO rfl rfl (hs_o12 kc139) rfl rfl ?_
        refine s_iload (nx := 37) hO rfl rfl rfl ?_
        obtain ⟨b4, H⟩ := H
        refine s_iald (nx := 38) hO rfl (hs_I kc178) b4 rfl ?_
        refine s_icmp_lt (nx := 41) hO rfl rfl (fun c38 => ?_) (fun c38 => ?_)
        · replace H := H.1 c38
          refine s_bipush (x := (nI 12)) (nx := 45) hO rfl (by decide) rfl ?_
          refine s_iload (nx := 47) hO rfl rfl rfl ?_
          refine s_imul (nx := 48) hO rfl rfl ?_
          refine s_iload_n (nx := 49) hO rfl rfl rfl ?_
          refine s_iadd (nx := 50) hO rfl rfl ?_
          refine goV ((((nI 12) * y2) + v2)) (fun x5 ex5 => ?_)
          replace H := H x5 ex5
          refine e_istore (nx := 52) (l' := [(5, .int x5), (4, .int y2), (0, .ref (q_b G + 139)), (2, .int v2), (3, .int v3)]) ex5 hO rfl (by decide) rfl rfl ?_
          refine s_iload_n (nx := 53) hO rfl rfl rfl ?_
          refine s_if_ne (nx := 56) hO rfl rfl (fun c53 => ?_) (fun c53 => ?_)
          · replace H := H.1 c53
            refine s_iload_n (nx := 67) hO rfl rfl rfl ?_
            refine s_iconst (x := 1) (nx := 68) hO rfl (by decide) rfl ?_
            refine s_icmp_ne (nx := 71) hO rfl rfl (fun c68 => ?_) (fun c68 => ?_)
            · replace H := H.1 c68
              refine s_iload_n (nx := 82) hO rfl rfl rfl ?_
              refine s_iconst (x := (nI 2)) (nx := 83) hO rfl (by decide) rfl ?_
              refine s_icmp_ne (nx := 86) hO rfl rfl (fun c83 => ?_) (fun c83 => ?_)
              · replace H := H.1 c83
                refine s_iload_n (nx := 97) hO rfl rfl rfl ?_
                refine s_iconst (x := (nI 3)) (nx := 98) hO rfl (by decide) rfl ?_
                refine s_icmp_ne (nx := 101) hO rfl rfl (fun c98 => ?_) (fun c98 => ?_)
                · replace H := H.1 c98
                  refine s_iload_n (nx := 112) hO rfl rfl rfl ?_
                  refine s_iconst (x := (nI 4)) (nx := 113) hO rfl (by decide) rfl ?_
                  refine s_icmp_ne (nx := 116) hO rfl rfl (fun c113 => ?_) (fun c113 => ?_)
                  · replace H := H.1 c113
                    refine s_iconst (x := (-1)) (nx := 127) hO rfl (by decide) rfl ?_
                    exact s_iret hO rfl rfl rfl ⟨rfl, _, _, rfl, rfl, H⟩
                  · replace H := H.2 c113
                    refine s_aload_n (nx := 117) hO rfl rfl rfl ?_
                    refine s_getf (v := .ref (q_b G + 185)) (nx := 120) hO rfl rfl (hs_o12 kc139) rfl rfl ?_
                    refine s_iload (nx := 122) hO rfl rfl rfl ?_
                    obtain ⟨b6, H⟩ := H
                    refine s_iald (nx := 123) hO rfl (hs_I kc185) b6 rfl ?_
                    refine s_goto hO rfl ?_
                    exact s_iret hO rfl rfl rfl ⟨rfl, _, _, rfl, rfl, H⟩
                · replace H := H.2 c98
                  refine s_aload_n (nx := 102) hO rfl rfl rfl ?_
                  refine s_getf (v := .ref (q_b G + 184)) (nx := 105) hO rfl rfl (hs_o12 kc139) rfl rfl ?_
                  refine s_iload (nx := 107) hO rfl rfl rfl ?_
                  obtain ⟨b7, H⟩ := H
                  refine s_iald (nx := 108) hO rfl (hs_I kc184) b7 rfl ?_
                  refine s_goto hO rfl ?_
                  exact s_iret hO rfl rfl rfl ⟨rfl, _, _, rfl, rfl, H⟩
              · replace H := H.2 c83
                refine s_aload_n (nx := 87) hO rfl rfl rfl ?_
                refine s_getf (v := .ref (q_b G + 182)) (nx := 90) hO rfl rfl (hs_o12 kc139) rfl rfl ?_
                refine s_iload (nx := 92) hO rfl rfl rfl ?_
                obtain ⟨b8, H⟩ := H
                refine s_iald (nx := 93) hO rfl (hs_I kc182) b8 rfl ?_
                refine s_goto hO rfl ?_
                exact s_iret hO rfl rfl rfl ⟨rfl, _, _, rfl, rfl, H⟩
            · replace H := H.2 c68
              refine s_aload_n (nx := 72) hO rfl rfl rfl ?_
              refine s_getf (v := .ref (q_b G + 180)) (nx := 75) hO rfl rfl (hs_o12 kc139) rfl rfl ?_
              refine s_iload (nx := 77) hO rfl rfl rfl ?_
              obtain ⟨b9, H⟩ := H
              refine s_iald (nx := 78) hO rfl (hs_I kc180) b9 rfl ?_
              refine s_goto hO rfl ?_
              exact s_iret hO rfl rfl rfl ⟨rfl, _, _, rfl, rfl, H⟩
          · replace H := H.2 c53
            refine s_aload_n (nx := 57) hO rfl rfl rfl ?_
            refine s_getf (v := .ref (q_b G + 179)) (nx := 60) hO rfl rfl (hs_o12 kc139) rfl rfl ?_
            refine s_iload (nx := 62) hO rfl rfl rfl ?_
            obtain ⟨b10, H⟩ := H
            refine s_iald (nx := 63) hO rfl (hs_I kc179) b10 rfl ?_
            refine s_goto hO rfl ?_
            exact s_iret hO rfl rfl rfl ⟨rfl, _, _, rfl, rfl, H⟩
        · replace H := H.2 c38
          refine s_iconst (x := (-1)) (nx := 42) hO rfl (by decide) rfl ?_
          exact s_iret hO rfl rfl rfl ⟨rfl, _, _, rfl, rfl, H⟩
  refine s_if_eq (nx := 9) hO rfl rfl (fun c6 => ?_) (fun c6 => ?_)
  · replace H := H.1 c6
    refine s_iconst (x := 0) (nx := 14) hO rfl (by decide) rfl ?_
    exact xEx.loc (x_sub1 (List.Mem.head _) (x_sub1 (List.Mem.tail _ (List.Mem.tail _ (List.Mem.head _))) (x_sub1 (List.Mem.tail _ (List.Mem.tail _ (List.Mem.tail _ (List.Mem.head _)))) x_sub0))) H
  · replace H := H.2 c6
    refine s_iconst (x := 1) (nx := 10) hO rfl (by decide) rfl ?_
    refine s_goto hO rfl ?_
    exact xEx.loc (x_sub1 (List.Mem.head _) (x_sub1 (List.Mem.tail _ (List.Mem.tail _ (List.Mem.head _))) (x_sub1 (List.Mem.tail _ (List.Mem.tail _ (List.Mem.tail _ (List.Mem.head _)))) x_sub0))) H
def W_X12_codes (s : yS) (v1 : Int32) (Q : Int32 → Prop) : Prop :=
 ∀ P4 : Int32 → Int32 → Prop, (∀ (x1 : Int32) (x2 : Int32), (vp_in v1 3 ∧ 
  (((sI s 178 (ix v1)) ≤ x2 → vp_in v1 3 ∧ 
   (((sI s 177 (ix v1)) = 0 → Q (-1))
   ∧ (¬ (sI s 177 (ix v1)) = 0 → Q x1)))
  ∧ (¬ (sI s 178 (ix v1)) ≤ x2 → vp_in (((nI 12) * v1) + x2) 36 ∧ 
   ∀ x6 : Int32, x6 = (x1 + (sI s 184 (ix (((nI 12) * v1) + x2)))) → 
   ∀ x7 : Int32, x7 = (x2 + 1) → 
   P4 x6 x7))) → P4 x1 x2) → 
 P4 0 0
set_option maxRecDepth 100000 in
set_option maxHeartbeats 40000000 in
theorem w_X12_codes {G : xG} (hG : yG G) {z : Nat} {s : yS} {v1 : Int32} {Q : Int32 → Prop} (H : W_X12_codes s v1 Q) : xC G mX12_codes [.ref (q_b G + 139), .int v1] (hS G s) z 0 0 (yPi G z s Q) := by
  have hW := hG.1
  have hcl := hG.2.1
  have hty := hG.2.2.1
  have hO : xO G mX12_codes tbX12_codes ptX12_codes := ⟨tkX12_codes, pkX12_codes hcl⟩
  unfold W_X12_codes at H
  refine xC.of hW (by decide) rfl (Nat.le_of_ble_eq_true rfl) ?_
  refine s_iconst (x := 0) (nx := 1) hO rfl (by decide) rfl ?_
  refine s_istore_n (nx := 2) (l' := [(2, .int 0), (0, .ref (q_b G + 139)), (1, .int v1)]) hO rfl (by decide) rfl rfl ?_
  refine s_iconst (x := 0) (nx := 3) hO rfl (by decide) rfl ?_
  refine goK (H (fun (x1 : Int32) (x2 : Int32) => xEx G mX12_codes 4 [(0, .ref (q_b G + 139)), (1, .int v1), (2, .int x1), (3, .int x2)] [] (hS G s) z 0 0 (yPi G z s Q)) (fun x1 x2 H => ?_)) (fun H => ?_)
  · show xEx G mX12_codes 4 [(0, .ref (q_b G + 139)), (1, .int v1), (2, .int x1), (3, .int x2)] [] (hS G s) z 0 0 (yPi G z s Q)
    refine s_iload_n (nx := 5) hO rfl rfl rfl ?_
    refine s_aload_n (nx := 6) hO rfl rfl rfl ?_
    refine s_getf (v := .ref (q_b G + 178)) (nx := 9) hO rfl rfl (hs_o12 kc139) rfl rfl ?_
    refine s_iload_n (nx := 10) hO rfl rfl rfl ?_
    obtain ⟨b3, H⟩ := H
    refine s_iald (nx := 11) hO rfl (hs_I kc178) b3 rfl ?_
    refine s_icmp_ge (nx := 14) hO rfl rfl (fun c11 => ?_) (fun c11 => ?_)
    · replace H := H.1 c11
      refine s_aload_n (nx := 35) hO rfl rfl rfl ?_
      refine s_getf (v := .ref (q_b G + 177)) (nx := 38) hO rfl rfl (hs_o12 kc139) rfl rfl ?_
      refine s_iload_n (nx := 39) hO rfl rfl rfl ?_
      obtain ⟨b4, H⟩ := H
      refine s_zald (nx := 40) hO rfl (hs_Z kc177) b4 rfl ?_
      refine s_if_eq (nx := 43) hO rfl rfl (fun c40 => ?_) (fun c40 => ?_)
      · replace H := H.1 c40
        refine s_iconst (x := (-1)) (nx := 48) hO rfl (by decide) rfl ?_
        exact s_iret hO rfl rfl rfl ⟨rfl, _, rfl, rfl, H⟩
      · replace H := H.2 c40
        refine s_iload_n (nx := 44) hO rfl rfl rfl ?_
        refine s_goto hO rfl ?_
        exact s_iret hO rfl rfl rfl ⟨rfl, _, rfl, rfl, H⟩
    · replace H := H.2 c11
      refine s_iload_n (nx := 15) hO rfl rfl rfl ?_
      refine s_aload_n (nx := 16) hO rfl rfl rfl ?_
      refine s_getf (v := .ref (q_b G + 184)) (nx := 19) hO rfl rfl (hs_o12 kc139) rfl rfl ?_
      refine s_bipush (x := (nI 12)) (nx := 21) hO rfl (by decide) rfl ?_
      refine s_iload_n (nx := 22) hO rfl rfl rfl ?_
      refine s_imul (nx := 23) hO rfl rfl ?_
      refine s_iload_n (nx := 24) hO rfl rfl rfl ?_
      refine s_iadd (nx := 25) hO rfl rfl ?_
      obtain ⟨b5, H⟩ := H
      refine s_iald (nx := 26) hO rfl (hs_I kc184) b5 rfl ?_
      refine s_iadd (nx := 27) hO rfl rfl ?_
      refine goV ((x1 + (sI s 184 (ix (((nI 12) * v1) + x2))))) (fun x6 ex6 => ?_)
      replace H := H x6 ex6
      refine e_istore_n (nx := 28) (l' := [(2, .int x6), (0, .ref (q_b G + 139)), (1, .int v1), (3, .int x2)]) ex6 hO rfl (by decide) rfl rfl ?_
      refine goV ((x2 + 1)) (fun x7 ex7 => ?_)
      replace H := H x7 ex7
      refine e_iinc (nx := 31) (l' := [(3, .int x7), (2, .int x6), (0, .ref (q_b G + 139)), (1, .int v1)]) ex7 hO rfl (by decide) rfl rfl rfl rfl ?_
      refine s_goto hO rfl ?_
      exact xEx.loc (x_sub1 (List.Mem.tail _ (List.Mem.tail _ (List.Mem.head _))) (x_sub1 (List.Mem.tail _ (List.Mem.tail _ (List.Mem.tail _ (List.Mem.head _)))) (x_sub1 (List.Mem.tail _ (List.Mem.head _)) (x_sub1 (List.Mem.head _) x_sub0)))) H
  refine s_istore_n (nx := 4) (l' := [(3, .int 0), (2, .int 0), (0, .ref (q_b G + 139)), (1, .int v1)]) hO rfl (by decide) rfl rfl ?_
  exact xEx.loc (x_sub1 (List.Mem.tail _ (List.Mem.tail _ (List.Mem.head _))) (x_sub1 (List.Mem.tail _ (List.Mem.tail _ (List.Mem.tail _ (List.Mem.head _)))) (x_sub1 (List.Mem.tail _ (List.Mem.head _)) (x_sub1 (List.Mem.head _) x_sub0)))) H
def W_X12_lookAt (s : yS) (v1 : Int32) (Q : Int32 → yS → Prop) : Prop :=
 ∀ s1 : yS, s1 = wI s 139 0 0 → 
 ((((v1).toInt < 0 ∨ 13 < (v1).toInt) → Q (-1) s1)
 ∧ ((v1).toInt = 0 → Q (sI s1 139 19) s1)
 ∧ ((v1).toInt = 1 → Q (sI s1 139 27) s1)
 ∧ ((v1).toInt = 2 → Q (sI s1 139 47) s1)
 ∧ ((v1).toInt = 3 → Q (sI s1 139 51) s1)
 ∧ ((v1).toInt = 4 → Q (sI s1 139 56) s1)
 ∧ ((v1).toInt = 5 → vp_in 0 3 ∧ 
   (((sI s1 177 (ix 0)) = 0 → Q (-1) s1)
   ∧ (¬ (sI s1 177 (ix 0)) = 0 → vp_in 0 3 ∧ 
    Q (sI s1 178 (ix 0)) s1)))
 ∧ ((v1).toInt = 6 → W_X12_codes s1 0 
   (fun r4 => Q r4 s1))
 ∧ ((v1).toInt = 7 → W_X12_codes s1 1 
   (fun r5 => Q r5 s1))
 ∧ ((v1).toInt = 8 → Q (sI s1 139 88) s1)
 ∧ ((v1).toInt = 9 → Q (sI s1 139 2) s1)
 ∧ ((v1).toInt = 10 → Q (sI s1 139 5) s1)
 ∧ ((v1).toInt = 11 → Q (sI s1 139 6) s1)
 ∧ ((v1).toInt = 12 → Q (sI s1 139 7) s1)
 ∧ ((v1).toInt = 13 → W_X12_indexOf s1 (sI s1 139 99) 
   (fun r6 => vp_in r6 64 ∧ 
   Q (sI s1 173 (ix r6)) s1)))
set_option maxRecDepth 100000 in
set_option maxHeartbeats 40000000 in
theorem w_X12_lookAt {G : xG} (hG : yG G) {z : Nat} {s : yS} {v1 : Int32} {Q : Int32 → yS → Prop} (H : W_X12_lookAt s v1 Q) : xC G mX12_lookAt [.ref (q_b G + 139), .int v1] (hS G s) z 0 0 (yQi G z Q) := by
  have hW := hG.1
  have hcl := hG.2.1
  have hty := hG.2.2.1
  have hO : xO G mX12_lookAt tbX12_lookAt ptX12_lookAt := ⟨tkX12_lookAt, pkX12_lookAt hcl⟩
  unfold W_X12_lookAt at H
  refine xC.of hW (by decide) rfl (Nat.le_of_ble_eq_true rfl) ?_
  refine s_aload_n (nx := 1) hO rfl rfl rfl ?_
  refine s_iconst (x := 0) (nx := 2) hO rfl (by decide) rfl ?_
  refine goV (wI s 139 0 0) (fun s1 es1 => ?_)
  replace H := H s1 es1
  refine s_putf (nx := 5) hO rfl rfl (hs_o12 kc139) (Nat.le_of_ble_eq_true rfl) (by rw [hty]; rfl) (by rw [hty]; rfl) pX12_0 rfl ?_
  refine xEx.at (up_oI12 kc139 es1) ?_
  refine s_iload_n (nx := 6) hO rfl rfl rfl ?_
  refine s_switch hO rfl (fun c6 => ?_) (fun dc6 fc6 => ?_)
  · replace H := H.1 c6
    refine s_iconst (x := (-1)) (nx := 173) hO rfl (by decide) rfl ?_
    exact s_iret hO rfl rfl rfl ⟨rfl, _, _, rfl, rfl, H⟩
  · obtain c6 | c6 | c6 | c6 | c6 | c6 | c6 | c6 | c6 | c6 | c6 | c6 | c6 | c6 : (v1).toInt = 0 ∨ (v1).toInt = 1 ∨ (v1).toInt = 2 ∨ (v1).toInt = 3 ∨ (v1).toInt = 4 ∨ (v1).toInt = 5 ∨ (v1).toInt = 6 ∨ (v1).toInt = 7 ∨ (v1).toInt = 8 ∨ (v1).toInt = 9 ∨ (v1).toInt = 10 ∨ (v1).toInt = 11 ∨ (v1).toInt = 12 ∨ (v1).toInt = 13 := by omega
    · replace H := H.2.1 c6
      refine ⟨76, by rw [c6]; rfl, ?_⟩
      refine s_aload_n (nx := 77) hO rfl rfl rfl ?_
      refine s_getf (v := .int (sI s1 139 19)) (nx := 80) hO rfl rfl (hs_o12 kc139) rfl rfl ?_
      exact s_iret hO rfl rfl rfl ⟨rfl, _, _, rfl, rfl, H⟩
    · replace H := H.2.2.1 c6
      refine ⟨81, by rw [c6]; rfl, ?_⟩
      refine s_aload_n (nx := 82) hO rfl rfl rfl ?_
      refine s_getf (v := .int (sI s1 139 27)) (nx := 85) hO rfl rfl (hs_o12 kc139) rfl rfl ?_
      exact s_iret hO rfl rfl rfl ⟨rfl, _, _, rfl, rfl, H⟩
    · replace H := H.2.2.2.1 c6
      refine ⟨86, by rw [c6]; rfl, ?_⟩
      refine s_aload_n (nx := 87) hO rfl rfl rfl ?_
      refine s_getf (v := .int (sI s1 139 47)) (nx := 90) hO rfl rfl (hs_o12 kc139) rfl rfl ?_
      exact s_iret hO rfl rfl rfl ⟨rfl, _, _, rfl, rfl, H⟩
    · replace H := H.2.2.2.2.1 c6
      refine ⟨91, by rw [c6]; rfl, ?_⟩
      refine s_aload_n (nx := 92) hO rfl rfl rfl ?_
      refine s_getf (v := .int (sI s1 139 51)) (nx := 95) hO rfl rfl (hs_o12 kc139) rfl rfl ?_
      exact s_iret hO rfl rfl rfl ⟨rfl, _, _, rfl, rfl, H⟩
    · replace H := H.2.2.2.2.2.1 c6
      refine ⟨96, by rw [c6]; rfl, ?_⟩
      refine s_aload_n (nx := 97) hO rfl rfl rfl ?_
      refine s_getf (v := .int (sI s1 139 56)) (nx := 100) hO rfl rfl (hs_o12 kc139) rfl rfl ?_
      exact s_iret hO rfl rfl rfl ⟨rfl, _, _, rfl, rfl, H⟩
    · replace H := H.2.2.2.2.2.2.1 c6
      refine ⟨101, by rw [c6]; rfl, ?_⟩
      refine s_aload_n (nx := 102) hO rfl rfl rfl ?_
      refine s_getf (v := .ref (q_b G + 177)) (nx := 105) hO rfl rfl (hs_o12 kc139) rfl rfl ?_
      refine s_iconst (x := 0) (nx := 106) hO rfl (by decide) rfl ?_
      obtain ⟨b2, H⟩ := H
      refine s_zald (nx := 107) hO rfl (hs_Z kc177) b2 rfl ?_
      refine s_if_eq (nx := 110) hO rfl rfl (fun c107 => ?_) (fun c107 => ?_)
      · replace H := H.1 c107
        refine s_iconst (x := (-1)) (nx := 120) hO rfl (by decide) rfl ?_
        exact s_iret hO rfl rfl rfl ⟨rfl, _, _, rfl, rfl, H⟩
      · replace H := H.2 c107
        refine s_aload_n (nx := 111) hO rfl rfl rfl ?_
        refine s_getf (v := .ref (q_b G + 178)) (nx := 114) hO rfl rfl (hs_o12 kc139) rfl rfl ?_
        refine s_iconst (x := 0) (nx := 115) hO rfl (by decide) rfl ?_
        obtain ⟨b3, H⟩ := H
        refine s_iald (nx := 116) hO rfl (hs_I kc178) b3 rfl ?_
        refine s_goto hO rfl ?_
        exact s_iret hO rfl rfl rfl ⟨rfl, _, _, rfl, rfl, H⟩
    · replace H := H.2.2.2.2.2.2.2.1 c6
      refine ⟨121, by rw [c6]; rfl, ?_⟩
      refine s_aload_n (nx := 122) hO rfl rfl rfl ?_
      refine s_iconst (x := 0) (nx := 123) hO rfl (by decide) rfl ?_
      refine s_callV [.int 0] (ci := 12) (F := TX12) (N := 116) (nx := 126) hO rfl kX12_lookAt_704 (by rw [hcl]; rfl) (hs_o12 kc139) (w_X12_codes hG H) rfl rfl (Nat.le_of_ble_eq_true rfl) (Nat.zero_le _) (Nat.zero_le _) rfl (k_Pi (fun r4 H => ?_))
      exact s_iret hO rfl rfl rfl ⟨rfl, _, _, rfl, rfl, H⟩
    · replace H := H.2.2.2.2.2.2.2.2.1 c6
      refine ⟨127, by rw [c6]; rfl, ?_⟩
      refine s_aload_n (nx := 128) hO rfl rfl rfl ?_
      refine s_iconst (x := 1) (nx := 129) hO rfl (by decide) rfl ?_
      refine s_callV [.int 1] (ci := 12) (F := TX12) (N := 116) (nx := 132) hO rfl kX12_lookAt_704 (by rw [hcl]; rfl) (hs_o12 kc139) (w_X12_codes hG H) rfl rfl (Nat.le_of_ble_eq_true rfl) (Nat.zero_le _) (Nat.zero_le _) rfl (k_Pi (fun r5 H => ?_))
      exact s_iret hO rfl rfl rfl ⟨rfl, _, _, rfl, rfl, H⟩
    · replace H := H.2.2.2.2.2.2.2.2.2.1 c6
      refine ⟨133, by rw [c6]; rfl, ?_⟩
      refine s_aload_n (nx := 134) hO rfl rfl rfl ?_
      refine s_getf (v := .int (sI s1 139 88)) (nx := 137) hO rfl rfl (hs_o12 kc139) rfl rfl ?_
      exact s_iret hO rfl rfl rfl ⟨rfl, _, _, rfl, rfl, H⟩
    · replace H := H.2.2.2.2.2.2.2.2.2.2.1 c6
      refine ⟨138, by rw [c6]; rfl, ?_⟩
      refine s_aload_n (nx := 139) hO rfl rfl rfl ?_
      refine s_getf (v := .int (sI s1 139 2)) (nx := 142) hO rfl rfl (hs_o12 kc139) rfl rfl ?_
      exact s_iret hO rfl rfl rfl ⟨rfl, _, _, rfl, rfl, H⟩
    · replace H := H.2.2.2.2.2.2.2.2.2.2.2.1 c6
      refine ⟨143, by rw [c6]; rfl, ?_⟩
      refine s_aload_n (nx := 144) hO rfl rfl rfl ?_
      refine s_getf (v := .int (sI s1 139 5)) (nx := 147) hO rfl rfl (hs_o12 kc139) rfl rfl ?_
      exact s_iret hO rfl rfl rfl ⟨rfl, _, _, rfl, rfl, H⟩
    · replace H := H.2.2.2.2.2.2.2.2.2.2.2.2.1 c6
      refine ⟨148, by rw [c6]; rfl, ?_⟩
      refine s_aload_n (nx := 149) hO rfl rfl rfl ?_
      refine s_getf (v := .int (sI s1 139 6)) (nx := 152) hO rfl rfl (hs_o12 kc139) rfl rfl ?_
      exact s_iret hO rfl rfl rfl ⟨rfl, _, _, rfl, rfl, H⟩
    · replace H := H.2.2.2.2.2.2.2.2.2.2.2.2.2.1 c6
      refine ⟨153, by rw [c6]; rfl, ?_⟩
      refine s_aload_n (nx := 154) hO rfl rfl rfl ?_
      refine s_getf (v := .int (sI s1 139 7)) (nx := 157) hO rfl rfl (hs_o12 kc139) rfl rfl ?_
      exact s_iret hO rfl rfl rfl ⟨rfl, _, _, rfl, rfl, H⟩
    · replace H := H.2.2.2.2.2.2.2.2.2.2.2.2.2.2 c6
      refine ⟨158, by rw [c6]; rfl, ?_⟩
      refine s_aload_n (nx := 159) hO rfl rfl rfl ?_
      refine s_getf (v := .ref (q_b G + 173)) (nx := 162) hO rfl rfl (hs_o12 kc139) rfl rfl ?_
      refine s_aload_n (nx := 163) hO rfl rfl rfl ?_
      refine s_aload_n (nx := 164) hO rfl rfl rfl ?_
      refine s_getf (v := .int (sI s1 139 99)) (nx := 167) hO rfl rfl (hs_o12 kc139) rfl rfl ?_
      refine s_callV [.int (sI s1 139 99)] (ci := 12) (F := TX12) (N := 116) (nx := 170) hO rfl kX12_lookAt_484 (by rw [hcl]; rfl) (hs_o12 kc139) (w_X12_indexOf hG H) rfl rfl (Nat.le_of_ble_eq_true rfl) (Nat.zero_le _) (Nat.zero_le _) rfl (k_Pi (fun r6 H => ?_))
      obtain ⟨b7, H⟩ := H
      refine s_iald (nx := 171) hO rfl (hs_I kc173) b7 rfl ?_
      exact s_iret hO rfl rfl rfl ⟨rfl, _, _, rfl, rfl, H⟩
def W_J9_max_7cf53 (s : yS) (v1 : Int32) (v2 : Int32) (Q : Int32 → Prop) : Prop :=
 ((v1 < v2 → Q v2)
 ∧ (¬ v1 < v2 → Q v1))
set_option maxRecDepth 100000 in
set_option maxHeartbeats 40000000 in
theorem w_J9_max_7cf53 {G : xG} (hG : yG G) {z : Nat} {s : yS} {v1 : Int32} {v2 : Int32} {Q : Int32 → Prop} (H : W_J9_max_7cf53 s v1 v2 Q) : xC G mJ9_max_7cf53 [.int v1, .int v2] (hS G s) z 0 0 (yPi G z s Q) := by
  have hW := hG.1
  have hcl := hG.2.1
  have hty := hG.2.2.1
  have hO : xO G mJ9_max_7cf53 tbJ9_max_7cf53 ptJ9_max_7cf53 := ⟨tkJ9_max_7cf53, pkJ9_max_7cf53 hcl⟩
  unfold W_J9_max_7cf53 at H
  refine xC.of hW (by decide) rfl (Nat.le_of_ble_eq_true rfl) ?_
  refine s_iload_n (nx := 1) hO rfl rfl rfl ?_
  refine s_iload_n (nx := 2) hO rfl rfl rfl ?_
  refine s_icmp_lt (nx := 5) hO rfl rfl (fun c2 => ?_) (fun c2 => ?_)
  · replace H := H.1 c2
    refine s_iload_n (nx := 10) hO rfl rfl rfl ?_
    exact s_iret hO rfl rfl rfl ⟨rfl, _, rfl, rfl, H⟩
  · replace H := H.2 c2
    refine s_iload_n (nx := 6) hO rfl rfl rfl ?_
    refine s_goto hO rfl ?_
    exact s_iret hO rfl rfl rfl ⟨rfl, _, rfl, rfl, H⟩
def W_J9_min_7cf53 (s : yS) (v1 : Int32) (v2 : Int32) (Q : Int32 → Prop) : Prop :=
 ((v2 < v1 → Q v2)
 ∧ (¬ v2 < v1 → Q v1))
set_option maxRecDepth 100000 in
set_option maxHeartbeats 40000000 in
theorem w_J9_min_7cf53 {G : xG} (hG : yG G) {z : Nat} {s : yS} {v1 : Int32} {v2 : Int32} {Q : Int32 → Prop} (H : W_J9_min_7cf53 s v1 v2 Q) : xC G mJ9_min_7cf53 [.int v1, .int v2] (hS G s) z 0 0 (yPi G z s Q) := by
  have hW := hG.1
  have hcl := hG.2.1
  have hty := hG.2.2.1
  have hO : xO G mJ9_min_7cf53 tbJ9_min_7cf53 ptJ9_min_7cf53 := ⟨tkJ9_min_7cf53, pkJ9_min_7cf53 hcl⟩
  unfold W_J9_min_7cf53 at H
  refine xC.of hW (by decide) rfl (Nat.le_of_ble_eq_true rfl) ?_
  refine s_iload_n (nx := 1) hO rfl rfl rfl ?_
  refine s_iload_n (nx := 2) hO rfl rfl rfl ?_
  refine s_icmp_gt (nx := 5) hO rfl rfl (fun c2 => ?_) (fun c2 => ?_)
  · replace H := H.1 c2
    refine s_iload_n (nx := 10) hO rfl rfl rfl ?_
    exact s_iret hO rfl rfl rfl ⟨rfl, _, rfl, rfl, H⟩
  · replace H := H.2 c2
    refine s_iload_n (nx := 6) hO rfl rfl rfl ?_
    refine s_goto hO rfl ?_
    exact s_iret hO rfl rfl rfl ⟨rfl, _, rfl, rfl, H⟩
def W_J9_min_f86c9 (s : yS) (v1 : Int64) (v2 : Int64) (Q : Int64 → Prop) : Prop :=
 ((0 < (lg_cmp v1 v2) → Q v2)
 ∧ (¬ 0 < (lg_cmp v1 v2) → Q v1))
set_option maxRecDepth 100000 in
set_option maxHeartbeats 40000000 in
theorem w_J9_min_f86c9 {G : xG} (hG : yG G) {z : Nat} {s : yS} {v1 : Int64} {v2 : Int64} {Q : Int64 → Prop} (H : W_J9_min_f86c9 s v1 v2 Q) : xC G mJ9_min_f86c9 [.long v1, .long v2] (hS G s) z 0 0 (yPl G z s Q) := by
  have hW := hG.1
  have hcl := hG.2.1
  have hty := hG.2.2.1
  have hO : xO G mJ9_min_f86c9 tbJ9_min_f86c9 ptJ9_min_f86c9 := ⟨tkJ9_min_f86c9, pkJ9_min_f86c9 hcl⟩
  unfold W_J9_min_f86c9 at H
  refine xC.of hW (by decide) rfl (Nat.le_of_ble_eq_true rfl) ?_
  refine s_lload_n (nx := 1) hO rfl rfl rfl ?_
  refine s_lload_n (nx := 2) hO rfl rfl rfl ?_
  refine s_lcmp (nx := 3) hO rfl rfl ?_
  refine s_if_gt (nx := 6) hO rfl rfl (fun c3 => ?_) (fun c3 => ?_)
  · replace H := H.1 c3
    refine s_lload_n (nx := 11) hO rfl rfl rfl ?_
    exact s_lret hO rfl rfl ⟨rfl, _, rfl, rfl, H⟩
  · replace H := H.2 c3
    refine s_lload_n (nx := 7) hO rfl rfl rfl ?_
    refine s_goto hO rfl ?_
    exact s_lret hO rfl rfl ⟨rfl, _, rfl, rfl, H⟩

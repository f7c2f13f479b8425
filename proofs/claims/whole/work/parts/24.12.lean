def W_X12_worked (s : yS) (v1 : Int32) (v2 : Int32) (v3 : Int32) (Q : Int32 → Prop) : Prop :=
 ((((v1).toInt < 6 ∨ 16 < (v1).toInt) → ((¬ v2 = v3 → Q 0)
  ∧ (v2 = v3 → Q 1)))
 ∧ ((v1).toInt = 6 → Q (v2 + v3))
 ∧ ((v1).toInt = 7 → Q (v2 - v3))
 ∧ ((v1).toInt = 8 → Q (v2 * v3))
 ∧ ((v1).toInt = 9 → ((¬ v3 = (-1) → (¬ v3 = 0) ∧ 
    Q (v2 / v3))
   ∧ (v3 = (-1) → Q (-v2))))
 ∧ ((v1).toInt = 10 → ((¬ v3 = (-1) → (¬ v3 = 0) ∧ 
    Q (v2 - v2 / v3 * v3))
   ∧ (v3 = (-1) → Q 0)))
 ∧ ((v1).toInt = 11 → Q (v2 &&& v3))
 ∧ ((v1).toInt = 12 → Q (v2 ||| v3))
 ∧ ((v1).toInt = 13 → Q (v2 ^^^ v3))
 ∧ ((v1).toInt = 14 → Q (v2 <<< ((v3 &&& (nI 31)) &&& 31)))
 ∧ ((v1).toInt = 15 → Q (v2 >>> ((v3 &&& (nI 31)) &&& 31)))
 ∧ ((v1).toInt = 16 → ((v3 ≤ v2 → Q 0)
   ∧ (¬ v3 ≤ v2 → Q 1))))
set_option maxRecDepth 100000 in
set_option maxHeartbeats 40000000 in
theorem w_X12_worked {G : xG} (hG : yG G) {z : Nat} {s : yS} {v1 : Int32} {v2 : Int32} {v3 : Int32} {Q : Int32 → Prop} (H : W_X12_worked s v1 v2 v3 Q) : xC G mX12_worked [.int v1, .int v2, .int v3] (hS G s) z 0 0 (yPi G z s Q) := by
  have hW := hG.1
  have hcl := hG.2.1
  have hty := hG.2.2.1
  have hO : xO G mX12_worked tbX12_worked ptX12_worked := ⟨tkX12_worked, pkX12_worked hcl⟩
  unfold W_X12_worked at H
  refine xC.of hW (by decide) rfl (Nat.le_of_ble_eq_true rfl) ?_
  refine s_iload_n (nx := 1) hO rfl rfl rfl ?_
  refine s_switch hO rfl (fun c1 => ?_) (fun dc1 fc1 => ?_)
  · replace H := H.1 c1
    refine s_iload_n (nx := 137) hO rfl rfl rfl ?_
    refine s_iload_n (nx := 138) hO rfl rfl rfl ?_
    refine s_icmp_ne (nx := 141) hO rfl rfl (fun c138 => ?_) (fun c138 => ?_)
    · replace H := H.1 c138
      refine s_iconst (x := 0) (nx := 146) hO rfl (by decide) rfl ?_
      exact s_iret hO rfl rfl rfl ⟨rfl, _, rfl, rfl, H⟩
    · replace H := H.2 c138
      refine s_iconst (x := 1) (nx := 142) hO rfl (by decide) rfl ?_
      refine s_goto hO rfl ?_
      exact s_iret hO rfl rfl rfl ⟨rfl, _, rfl, rfl, H⟩
  · obtain c1 | c1 | c1 | c1 | c1 | c1 | c1 | c1 | c1 | c1 | c1 : (v1).toInt = 6 ∨ (v1).toInt = 7 ∨ (v1).toInt = 8 ∨ (v1).toInt = 9 ∨ (v1).toInt = 10 ∨ (v1).toInt = 11 ∨ (v1).toInt = 12 ∨ (v1).toInt = 13 ∨ (v1).toInt = 14 ∨ (v1).toInt = 15 ∨ (v1).toInt = 16 := by omega
    · replace H := H.2.1 c1
      refine ⟨60, by rw [c1]; rfl, ?_⟩
      refine s_iload_n (nx := 61) hO rfl rfl rfl ?_
      refine s_iload_n (nx := 62) hO rfl rfl rfl ?_
      refine s_iadd (nx := 63) hO rfl rfl ?_
      exact s_iret hO rfl rfl rfl ⟨rfl, _, rfl, rfl, H⟩
    · replace H := H.2.2.1 c1
      refine ⟨64, by rw [c1]; rfl, ?_⟩
      refine s_iload_n (nx := 65) hO rfl rfl rfl ?_
      refine s_iload_n (nx := 66) hO rfl rfl rfl ?_
      refine s_isub (nx := 67) hO rfl rfl ?_
      exact s_iret hO rfl rfl rfl ⟨rfl, _, rfl, rfl, H⟩
    · replace H := H.2.2.2.1 c1
      refine ⟨68, by rw [c1]; rfl, ?_⟩
      refine s_iload_n (nx := 69) hO rfl rfl rfl ?_
      refine s_iload_n (nx := 70) hO rfl rfl rfl ?_
      refine s_imul (nx := 71) hO rfl rfl ?_
      exact s_iret hO rfl rfl rfl ⟨rfl, _, rfl, rfl, H⟩
    · replace H := H.2.2.2.2.1 c1
      refine ⟨72, by rw [c1]; rfl, ?_⟩
      refine s_iload_n (nx := 73) hO rfl rfl rfl ?_
      refine s_iconst (x := (-1)) (nx := 74) hO rfl (by decide) rfl ?_
      refine s_icmp_ne (nx := 77) hO rfl rfl (fun c74 => ?_) (fun c74 => ?_)
      · replace H := H.1 c74
        refine s_iload_n (nx := 83) hO rfl rfl rfl ?_
        refine s_iload_n (nx := 84) hO rfl rfl rfl ?_
        obtain ⟨b1, H⟩ := H
        refine s_idiv (nx := 85) hO rfl b1 rfl ?_
        exact s_iret hO rfl rfl rfl ⟨rfl, _, rfl, rfl, H⟩
      · replace H := H.2 c74
        refine s_iload_n (nx := 78) hO rfl rfl rfl ?_
        refine s_ineg (nx := 79) hO rfl rfl ?_
        refine s_goto hO rfl ?_
        exact s_iret hO rfl rfl rfl ⟨rfl, _, rfl, rfl, H⟩
    · replace H := H.2.2.2.2.2.1 c1
      refine ⟨86, by rw [c1]; rfl, ?_⟩
      refine s_iload_n (nx := 87) hO rfl rfl rfl ?_
      refine s_iconst (x := (-1)) (nx := 88) hO rfl (by decide) rfl ?_
      refine s_icmp_ne (nx := 91) hO rfl rfl (fun c88 => ?_) (fun c88 => ?_)
      · replace H := H.1 c88
        refine s_iload_n (nx := 96) hO rfl rfl rfl ?_
        refine s_iload_n (nx := 97) hO rfl rfl rfl ?_
        obtain ⟨b2, H⟩ := H
        refine s_irem (nx := 98) hO rfl b2 rfl ?_
        exact s_iret hO rfl rfl rfl ⟨rfl, _, rfl, rfl, H⟩
      · replace H := H.2 c88
        refine s_iconst (x := 0) (nx := 92) hO rfl (by decide) rfl ?_
        refine s_goto hO rfl ?_
        exact s_iret hO rfl rfl rfl ⟨rfl, _, rfl, rfl, H⟩
    · replace H := H.2.2.2.2.2.2.1 c1
      refine ⟨99, by rw [c1]; rfl, ?_⟩
      refine s_iload_n (nx := 100) hO rfl rfl rfl ?_
      refine s_iload_n (nx := 101) hO rfl rfl rfl ?_
      refine s_iand (nx := 102) hO rfl rfl ?_
      exact s_iret hO rfl rfl rfl ⟨rfl, _, rfl, rfl, H⟩
    · replace H := H.2.2.2.2.2.2.2.1 c1
      refine ⟨103, by rw [c1]; rfl, ?_⟩
      refine s_iload_n (nx := 104) hO rfl rfl rfl ?_
      refine s_iload_n (nx := 105) hO rfl rfl rfl ?_
      refine s_ior (nx := 106) hO rfl rfl ?_
      exact s_iret hO rfl rfl rfl ⟨rfl, _, rfl, rfl, H⟩
    · replace H := H.2.2.2.2.2.2.2.2.1 c1
      refine ⟨107, by rw [c1]; rfl, ?_⟩
      refine s_iload_n (nx := 108) hO rfl rfl rfl ?_
      refine s_iload_n (nx := 109) hO rfl rfl rfl ?_
      refine s_ixor (nx := 110) hO rfl rfl ?_
      exact s_iret hO rfl rfl rfl ⟨rfl, _, rfl, rfl, H⟩
    · replace H := H.2.2.2.2.2.2.2.2.2.1 c1
      refine ⟨111, by rw [c1]; rfl, ?_⟩
      refine s_iload_n (nx := 112) hO rfl rfl rfl ?_
      refine s_iload_n (nx := 113) hO rfl rfl rfl ?_
      refine s_bipush (x := (nI 31)) (nx := 115) hO rfl (by decide) rfl ?_
      refine s_iand (nx := 116) hO rfl rfl ?_
      refine s_ishl (nx := 117) hO rfl rfl ?_
      exact s_iret hO rfl rfl rfl ⟨rfl, _, rfl, rfl, H⟩
    · replace H := H.2.2.2.2.2.2.2.2.2.2.1 c1
      refine ⟨118, by rw [c1]; rfl, ?_⟩
      refine s_iload_n (nx := 119) hO rfl rfl rfl ?_
      refine s_iload_n (nx := 120) hO rfl rfl rfl ?_
      refine s_bipush (x := (nI 31)) (nx := 122) hO rfl (by decide) rfl ?_
      refine s_iand (nx := 123) hO rfl rfl ?_
      refine s_ishr (nx := 124) hO rfl rfl ?_
      exact s_iret hO rfl rfl rfl ⟨rfl, _, rfl, rfl, H⟩
    · replace H := H.2.2.2.2.2.2.2.2.2.2.2 c1
      refine ⟨125, by rw [c1]; rfl, ?_⟩
      refine s_iload_n (nx := 126) hO rfl rfl rfl ?_
      refine s_iload_n (nx := 127) hO rfl rfl rfl ?_
      refine s_icmp_ge (nx := 130) hO rfl rfl (fun c127 => ?_) (fun c127 => ?_)
      · replace H := H.1 c127
        refine s_iconst (x := 0) (nx := 135) hO rfl (by decide) rfl ?_
        exact s_iret hO rfl rfl rfl ⟨rfl, _, rfl, rfl, H⟩
      · replace H := H.2 c127
        refine s_iconst (x := 1) (nx := 131) hO rfl (by decide) rfl ?_
        refine s_goto hO rfl ?_
        exact s_iret hO rfl rfl rfl ⟨rfl, _, rfl, rfl, H⟩
def W_X12_goOn (s : yS) (Q : yS → Prop) : Prop :=
 vp_in ((sI s 139 111) - 1) 40 ∧ 
 vp_in ((sI s 139 111) - 1) 40 ∧ ∀ s3 : yS, s3 = wI s 212 (ix ((sI s 139 111) - 1)) ((sI s 212 (ix ((sI s 139 111) - 1))) + 1) → 
 Q s3
set_option maxRecDepth 100000 in
set_option maxHeartbeats 40000000 in
theorem w_X12_goOn {G : xG} (hG : yG G) {z : Nat} {s : yS} {Q : yS → Prop} (H : W_X12_goOn s Q) : xC G mX12_goOn [.ref (q_b G + 139)] (hS G s) z 0 0 (yQv G z Q) := by
  have hW := hG.1
  have hcl := hG.2.1
  have hty := hG.2.2.1
  have hO : xO G mX12_goOn tbX12_goOn ptX12_goOn := ⟨tkX12_goOn, pkX12_goOn hcl⟩
  unfold W_X12_goOn at H
  refine xC.of hW (by decide) rfl (Nat.le_of_ble_eq_true rfl) ?_
  refine s_aload_n (nx := 1) hO rfl rfl rfl ?_
  refine s_getf (v := .ref (q_b G + 212)) (nx := 4) hO rfl rfl (hs_o12 kc139) rfl rfl ?_
  refine s_aload_n (nx := 5) hO rfl rfl rfl ?_
  refine s_getf (v := .int (sI s 139 111)) (nx := 8) hO rfl rfl (hs_o12 kc139) rfl rfl ?_
  refine s_iconst (x := 1) (nx := 9) hO rfl (by decide) rfl ?_
  refine s_isub (nx := 10) hO rfl rfl ?_
  refine s_dup2 (nx := 11) hO rfl rfl rfl rfl ?_
  obtain ⟨b1, H⟩ := H
  refine s_iald (nx := 12) hO rfl (hs_I kc212) b1 rfl ?_
  refine s_iconst (x := 1) (nx := 13) hO rfl (by decide) rfl ?_
  refine s_iadd (nx := 14) hO rfl rfl ?_
  obtain ⟨b2, H⟩ := H
  refine goV (wI s 212 (ix ((sI s 139 111) - 1)) ((sI s 212 (ix ((sI s 139 111) - 1))) + 1)) (fun s3 es3 => ?_)
  replace H := H s3 es3
  refine s_iast (nx := 15) hO rfl (hs_I kc212) b2 rfl ?_
  refine xEx.at (up_I kc212 es3) ?_
  exact s_vret hO rfl rfl ⟨rfl, _, rfl, rfl, H⟩
def W_X12_newRow (s : yS) (Q : yS → Prop) : Prop :=
 W_X12_pop s 
 (fun r1 s2 => ∀ P28 : Prop, ((W_X12_raise s2 (nI 3) 
  (fun s3 => Q s3)) → P28) → 
 ((r1 < 0 → P28)
 ∧ (¬ r1 < 0 → (((nI 256) < r1 → P28)
  ∧ (¬ (nI 256) < r1 → ((((sI s2 139 95) + r1) ≤ (nI 4096) → ∀ s4 : yS, s4 = wI s2 139 105 ((sI s2 139 105) + 1) → 
    vp_in (sI s4 139 105) 20100 ∧ ∀ s6 : yS, s6 = wI s4 209 (ix (sI s4 139 105)) (sI s4 139 95) → 
    vp_in (sI s6 139 105) 20100 ∧ ∀ s8 : yS, s8 = wI s6 210 (ix (sI s6 139 105)) r1 → 
    ∀ P69 : Int32 → yS → Prop, (∀ (x9 : Int32) (s10 : yS), (((r1 ≤ x9 → ∀ s11 : yS, s11 = wI s10 139 95 ((sI s10 139 95) + r1) → 
      W_X12_push s11 (sI s11 139 105) 
      (fun s12 => W_X12_goOn s12 
      (fun s13 => Q s13)))
     ∧ (¬ r1 ≤ x9 → vp_in ((sI s10 139 95) + x9) 4100 ∧ ∀ s15 : yS, s15 = wI s10 208 (ix ((sI s10 139 95) + x9)) 0 → 
      ∀ x16 : Int32, x16 = (x9 + 1) → 
      P69 x16 s15))) → P69 x9 s10) → 
    P69 0 s8)
   ∧ (¬ ((sI s2 139 95) + r1) ≤ (nI 4096) → P28)))))))
set_option maxRecDepth 100000 in
set_option maxHeartbeats 40000000 in
theorem w_X12_newRow {G : xG} (hG : yG G) {z : Nat} {s : yS} {Q : yS → Prop} (H : W_X12_newRow s Q) : xC G mX12_newRow [.ref (q_b G + 139)] (hS G s) z 0 0 (yQv G z Q) := by
  have hW := hG.1
  have hcl := hG.2.1
  have hty := hG.2.2.1
  have hO : xO G mX12_newRow tbX12_newRow ptX12_newRow := ⟨tkX12_newRow, pkX12_newRow hcl⟩
  unfold W_X12_newRow at H
  refine xC.of hW (by decide) rfl (Nat.le_of_ble_eq_true rfl) ?_
  refine s_aload_n (nx := 1) hO rfl rfl rfl ?_
  refine s_callV [] (ci := 12) (F := TX12) (N := 116) (nx := 4) hO rfl kX12_newRow_634 (by rw [hcl]; rfl) (hs_o12 kc139) (w_X12_pop hG H) rfl rfl (Nat.le_of_ble_eq_true rfl) (Nat.zero_le _) (Nat.zero_le _) rfl (k_Qi (fun r1 s2 H => ?_))
  refine s_istore_n (nx := 5) (l' := [(1, .int r1), (0, .ref (q_b G + 139))]) hO rfl (by decide) rfl rfl ?_
  refine s_iload_n (nx := 6) hO rfl rfl rfl ?_
  refine goK (H (xEx G mX12_newRow 28 [(0, .ref (q_b G + 139))] [] (hS G s2) z 0 0 (yQv G z Q)) (fun H => ?_)) (fun H => ?_)
  · show xEx G mX12_newRow 28 [(0, .ref (q_b G + 139))] [] (hS G s2) z 0 0 (yQv G z Q)
    refine s_aload_n (nx := 29) hO rfl rfl rfl ?_
    refine s_iconst (x := (nI 3)) (nx := 30) hO rfl (by decide) rfl ?_
    refine s_callV [.int (nI 3)] (ci := 12) (F := TX12) (N := 116) (nx := 33) hO rfl kX12_newRow_640 (by rw [hcl]; rfl) (hs_o12 kc139) (w_X12_raise hG H) rfl rfl (Nat.le_of_ble_eq_true rfl) (Nat.zero_le _) (Nat.zero_le _) rfl (k_Qv (fun s3 H => ?_))
    exact s_vret hO rfl rfl ⟨rfl, _, rfl, rfl, H⟩
  refine s_if_lt (nx := 9) hO rfl rfl (fun c6 => ?_) (fun c6 => ?_)
  · replace H := H.1 c6
    exact xEx.loc (x_sub1 (List.Mem.tail _ (List.Mem.head _)) x_sub0) H
  · replace H := H.2 c6
    refine s_iload_n (nx := 10) hO rfl rfl rfl ?_
    refine s_sipush (x := (nI 256)) (nx := 13) hO rfl (by decide) rfl ?_
    refine s_icmp_gt (nx := 16) hO rfl rfl (fun c13 => ?_) (fun c13 => ?_)
    · replace H := H.1 c13
      exact xEx.loc (x_sub1 (List.Mem.tail _ (List.Mem.head _)) x_sub0) H
    · replace H := H.2 c13
      refine s_aload_n (nx := 17) hO rfl rfl rfl ?_
      refine s_getf (v := .int (sI s2 139 95)) (nx := 20) hO rfl rfl (hs_o12 kc139) rfl rfl ?_
      refine s_iload_n (nx := 21) hO rfl rfl rfl ?_
      refine s_iadd (nx := 22) hO rfl rfl ?_
      refine s_sipush (x := (nI 4096)) (nx := 25) hO rfl (by decide) rfl ?_
      refine s_icmp_le (nx := 28) hO rfl rfl (fun c25 => ?_) (fun c25 => ?_)
      · replace H := H.1 c25
        refine s_aload_n (nx := 35) hO rfl rfl rfl ?_
        refine s_dup (nx := 36) hO rfl rfl rfl ?_
        refine s_getf (v := .int (sI s2 139 105)) (nx := 39) hO rfl rfl (hs_o12 kc139) rfl rfl ?_
        refine s_iconst (x := 1) (nx := 40) hO rfl (by decide) rfl ?_
        refine s_iadd (nx := 41) hO rfl rfl ?_
        refine goV (wI s2 139 105 ((sI s2 139 105) + 1)) (fun s4 es4 => ?_)
        replace H := H s4 es4
        refine s_putf (nx := 44) hO rfl rfl (hs_o12 kc139) (Nat.le_of_ble_eq_true rfl) (by rw [hty]; rfl) (by rw [hty]; rfl) pX12_105 rfl ?_
        refine xEx.at (up_oI12 kc139 es4) ?_
        refine s_aload_n (nx := 45) hO rfl rfl rfl ?_
        refine s_getf (v := .ref (q_b G + 209)) (nx := 48) hO rfl rfl (hs_o12 kc139) rfl rfl ?_
        refine s_aload_n (nx := 49) hO rfl rfl rfl ?_
        refine s_getf (v := .int (sI s4 139 105)) (nx := 52) hO rfl rfl (hs_o12 kc139) rfl rfl ?_
        refine s_aload_n (nx := 53) hO rfl rfl rfl ?_
        refine s_getf (v := .int (sI s4 139 95)) (nx := 56) hO rfl rfl (hs_o12 kc139) rfl rfl ?_
        obtain ⟨b5, H⟩ := H
        refine goV (wI s4 209 (ix (sI s4 139 105)) (sI s4 139 95)) (fun s6 es6 => ?_)
        replace H := H s6 es6
        refine s_iast (nx := 57) hO rfl (hs_I kc209) b5 rfl ?_
        refine xEx.at (up_I kc209 es6) ?_
        refine s_aload_n (nx := 58) hO rfl rfl rfl ?_
        refine s_getf (v := .ref (q_b G + 210)) (nx := 61) hO rfl rfl (hs_o12 kc139) rfl rfl ?_
        refine s_aload_n (nx := 62) hO rfl rfl rfl ?_
        refine s_getf (v := .int (sI s6 139 105)) (nx := 65) hO rfl rfl (hs_o12 kc139) rfl rfl ?_
        refine s_iload_n (nx := 66) hO rfl rfl rfl ?_
        obtain ⟨b7, H⟩ := H
        refine goV (wI s6 210 (ix (sI s6 139 105)) r1) (fun s8 es8 => ?_)
        replace H := H s8 es8
        refine s_iast (nx := 67) hO rfl (hs_I kc210) b7 rfl ?_
        refine xEx.at (up_I kc210 es8) ?_
        refine s_iconst (x := 0) (nx := 68) hO rfl (by decide) rfl ?_
        refine goK (H (fun (x9 : Int32) (s10 : yS) => xEx G mX12_newRow 69 [(0, .ref (q_b G + 139)), (1, .int r1), (2, .int x9)] [] (hS G s10) z 0 0 (yQv G z Q)) (fun x9 s10 H => ?_)) (fun H => ?_)
        · show xEx G mX12_newRow 69 [(0, .ref (q_b G + 139)), (1, .int r1), (2, .int x9)] [] (hS G s10) z 0 0 (yQv G z Q)
          refine s_iload_n (nx := 70) hO rfl rfl rfl ?_
          refine s_iload_n (nx := 71) hO rfl rfl rfl ?_
          refine s_icmp_ge (nx := 74) hO rfl rfl (fun c71 => ?_) (fun c71 => ?_)
          · replace H := H.1 c71
            refine s_aload_n (nx := 93) hO rfl rfl rfl ?_
            refine s_dup (nx := 94) hO rfl rfl rfl ?_
            refine s_getf (v := .int (sI s10 139 95)) (nx := 97) hO rfl rfl (hs_o12 kc139) rfl rfl ?_
            refine s_iload_n (nx := 98) hO rfl rfl rfl ?_
            refine s_iadd (nx := 99) hO rfl rfl ?_
            refine goV (wI s10 139 95 ((sI s10 139 95) + r1)) (fun s11 es11 => ?_)
            replace H := H s11 es11
            refine s_putf (nx := 102) hO rfl rfl (hs_o12 kc139) (Nat.le_of_ble_eq_true rfl) (by rw [hty]; rfl) (by rw [hty]; rfl) pX12_95 rfl ?_
            refine xEx.at (up_oI12 kc139 es11) ?_
            refine s_aload_n (nx := 103) hO rfl rfl rfl ?_
            refine s_aload_n (nx := 104) hO rfl rfl rfl ?_
            refine s_getf (v := .int (sI s11 139 105)) (nx := 107) hO rfl rfl (hs_o12 kc139) rfl rfl ?_
            refine s_callV [.int (sI s11 139 105)] (ci := 12) (F := TX12) (N := 116) (nx := 110) hO rfl kX12_newRow_628 (by rw [hcl]; rfl) (hs_o12 kc139) (w_X12_push hG H) rfl rfl (Nat.le_of_ble_eq_true rfl) (Nat.zero_le _) (Nat.zero_le _) rfl (k_Qv (fun s12 H => ?_))
            refine s_aload_n (nx := 111) hO rfl rfl rfl ?_
            refine s_callV [] (ci := 12) (F := TX12) (N := 116) (nx := 114) hO rfl kX12_newRow_646 (by rw [hcl]; rfl) (hs_o12 kc139) (w_X12_goOn hG H) rfl rfl (Nat.le_of_ble_eq_true rfl) (Nat.zero_le _) (Nat.zero_le _) rfl (k_Qv (fun s13 H => ?_))
            exact s_vret hO rfl rfl ⟨rfl, _, rfl, rfl, H⟩
          · replace H := H.2 c71
            refine s_aload_n (nx := 75) hO rfl rfl rfl ?_
            refine s_getf (v := .ref (q_b G + 208)) (nx := 78) hO rfl rfl (hs_o12 kc139) rfl rfl ?_
            refine s_aload_n (nx := 79) hO rfl rfl rfl ?_
            refine s_getf (v := .int (sI s10 139 95)) (nx := 82) hO rfl rfl (hs_o12 kc139) rfl rfl ?_
            refine s_iload_n (nx := 83) hO rfl rfl rfl ?_
            refine s_iadd (nx := 84) hO rfl rfl ?_
            refine s_iconst (x := 0) (nx := 85) hO rfl (by decide) rfl ?_
            obtain ⟨b14, H⟩ := H
            refine goV (wI s10 208 (ix ((sI s10 139 95) + x9)) 0) (fun s15 es15 => ?_)
            replace H := H s15 es15
            refine s_iast (nx := 86) hO rfl (hs_I kc208) b14 rfl ?_
            refine xEx.at (up_I kc208 es15) ?_
            refine goV ((x9 + 1)) (fun x16 ex16 => ?_)
            replace H := H x16 ex16
            refine e_iinc (nx := 89) (l' := [(2, .int x16), (0, .ref (q_b G + 139)), (1, .int r1)]) ex16 hO rfl (by decide) rfl rfl rfl rfl ?_
            refine s_goto hO rfl ?_
            exact xEx.loc (x_sub1 (List.Mem.tail _ (List.Mem.head _)) (x_sub1 (List.Mem.tail _ (List.Mem.tail _ (List.Mem.head _))) (x_sub1 (List.Mem.head _) x_sub0))) H
        refine s_istore_n (nx := 69) (l' := [(2, .int 0), (1, .int r1), (0, .ref (q_b G + 139))]) hO rfl (by decide) rfl rfl ?_
        exact xEx.loc (x_sub1 (List.Mem.tail _ (List.Mem.tail _ (List.Mem.head _))) (x_sub1 (List.Mem.tail _ (List.Mem.head _)) (x_sub1 (List.Mem.head _) x_sub0))) H
      · replace H := H.2 c25
        exact xEx.loc (x_sub1 (List.Mem.tail _ (List.Mem.head _)) x_sub0) H
def W_X12_reach (s : yS) (v1 : Int32) (Q : yS → Prop) : Prop :=
 ∀ P12 : Int32 → yS → Prop, (∀ (y1 : Int32) (s2 : yS), (W_X12_pop s2 
  (fun r3 s4 => W_X12_pop s4 
  (fun r5 s6 => ∀ P39 : Prop, ((W_X12_raise s6 (nI 2) 
   (fun s7 => Q s7)) → P39) → 
  ((r3 < 0 → P39)
  ∧ (¬ r3 < 0 → vp_in r5 20100 ∧ 
   ((r3 < (sI s6 210 (ix r5)) → ∀ P85 : yS → Prop, (∀ (s9 : yS), (W_X12_goOn s9 
     (fun s10 => Q s10)) → P85 s9) → 
    ((v1 = 0 → vp_in r5 20100 ∧ 
     vp_in ((sI s6 209 (ix r5)) + r3) 4100 ∧ 
     W_X12_push s6 (sI s6 208 (ix ((sI s6 209 (ix r5)) + r3))) 
     (fun s13 => P85 s13))
    ∧ (¬ v1 = 0 → vp_in r5 20100 ∧ 
     vp_in ((sI s6 209 (ix r5)) + r3) 4100 ∧ ∀ s16 : yS, s16 = wI s6 208 (ix ((sI s6 209 (ix r5)) + r3)) y1 → 
     P85 s16)))
   ∧ (¬ r3 < (sI s6 210 (ix r5)) → P39))))))) → P12 y1 s2) → 
 ((v1 = 0 → P12 0 s)
 ∧ (¬ v1 = 0 → W_X12_pop s 
  (fun r17 s18 => P12 r17 s18)))
set_option maxRecDepth 100000 in
set_option maxHeartbeats 40000000 in
theorem w_X12_reach {G : xG} (hG : yG G) {z : Nat} {s : yS} {v1 : Int32} {Q : yS → Prop} (H : W_X12_reach s v1 Q) : xC G mX12_reach [.ref (q_b G + 139), .int v1] (hS G s) z 0 0 (yQv G z Q) := by
  have hW := hG.1
  have hcl := hG.2.1
  have hty := hG.2.2.1
  have hO : xO G mX12_reach tbX12_reach ptX12_reach := ⟨tkX12_reach, pkX12_reach hcl⟩
  unfold W_X12_reach at H
  refine xC.of hW (by decide) rfl (Nat.le_of_ble_eq_true rfl) ?_
  refine s_iload_n (nx := 1) hO rfl rfl rfl ?_
  refine goK (H (fun (y1 : Int32) (s2 : yS) => xEx G mX12_reach 12 [(0, .ref (q_b G + 139)), (1, .int v1)] [.int y1] (hS G s2) z 0 0 (yQv G z Q)) (fun y1 s2 H => ?_)) (fun H => ?_)
  · show xEx G mX12_reach 12 [(0, .ref (q_b G + 139)), (1, .int v1)] [.int y1] (hS G s2) z 0 0 (yQv G z Q)
    refine s_istore_n (nx := 13) (l' := [(2, .int y1), (0, .ref (q_b G + 139)), (1, .int v1)]) hO rfl (by decide) rfl rfl ?_
    refine s_aload_n (nx := 14) hO rfl rfl rfl ?_
    refine s_callV [] (ci := 12) (F := TX12) (N := 116) (nx := 17) hO rfl kX12_reach_634 (by rw [hcl]; rfl) (hs_o12 kc139) (w_X12_pop hG H) rfl rfl (Nat.le_of_ble_eq_true rfl) (Nat.zero_le _) (Nat.zero_le _) rfl (k_Qi (fun r3 s4 H => ?_))
    refine s_istore_n (nx := 18) (l' := [(3, .int r3), (2, .int y1), (0, .ref (q_b G + 139)), (1, .int v1)]) hO rfl (by decide) rfl rfl ?_
    refine s_aload_n (nx := 19) hO rfl rfl rfl ?_
    refine s_callV [] (ci := 12) (F := TX12) (N := 116) (nx := 22) hO rfl kX12_reach_634 (by rw [hcl]; rfl) (hs_o12 kc139) (w_X12_pop hG H) rfl rfl (Nat.le_of_ble_eq_true rfl) (Nat.zero_le _) (Nat.zero_le _) rfl (k_Qi (fun r5 s6 H => ?_))
    refine s_istore (nx := 24) (l' := [(4, .int r5), (3, .int r3), (2, .int y1), (0, .ref (q_b G + 139)), (1, .int v1)]) hO rfl (by decide) rfl rfl ?_
    refine s_iload_n (nx := 25) hO rfl rfl rfl ?_
    refine goK (H (xEx G mX12_reach 39 [(0, .ref (q_b G + 139))] [] (hS G s6) z 0 0 (yQv G z Q)) (fun H => ?_)) (fun H => ?_)
    · show xEx G mX12_reach 39 [(0, .ref (q_b G + 139))] [] (hS G s6) z 0 0 (yQv G z Q)
      refine s_aload_n (nx := 40) hO rfl rfl rfl ?_
      refine s_iconst (x := (nI 2)) (nx := 41) hO rfl (by decide) rfl ?_
      refine s_callV [.int (nI 2)] (ci := 12) (F := TX12) (N := 116) (nx := 44) hO rfl kX12_reach_640 (by rw [hcl]; rfl) (hs_o12 kc139) (w_X12_raise hG H) rfl rfl (Nat.le_of_ble_eq_true rfl) (Nat.zero_le _) (Nat.zero_le _) rfl (k_Qv (fun s7 H => ?_))
      exact s_vret hO rfl rfl ⟨rfl, _, rfl, rfl, H⟩
    refine s_if_lt (nx := 28) hO rfl rfl (fun c25 => ?_) (fun c25 => ?_)
    · replace H := H.1 c25
      exact xEx.loc (x_sub1 (List.Mem.tail _ (List.Mem.tail _ (List.Mem.tail _ (List.Mem.head _)))) x_sub0) H
    · replace H := H.2 c25
      refine s_iload_n (nx := 29) hO rfl rfl rfl ?_
      refine s_aload_n (nx := 30) hO rfl rfl rfl ?_
      refine s_getf (v := .ref (q_b G + 210)) (nx := 33) hO rfl rfl (hs_o12 kc139) rfl rfl ?_
      refine s_iload (nx := 35) hO rfl rfl rfl ?_
      obtain ⟨b8, H⟩ := H
      refine s_iald (nx := 36) hO rfl (hs_I kc210) b8 rfl ?_
      refine s_icmp_lt (nx := 39) hO rfl rfl (fun c36 => ?_) (fun c36 => ?_)
      · replace H := H.1 c36
        refine s_iload_n (nx := 46) hO rfl rfl rfl ?_
        refine goK (H (fun (s9 : yS) => xEx G mX12_reach 85 [(0, .ref (q_b G + 139))] [] (hS G s9) z 0 0 (yQv G z Q)) (fun s9 H => ?_)) (fun H => ?_)
        · show xEx G mX12_reach 85 [(0, .ref (q_b G + 139))] [] (hS G s9) z 0 0 (yQv G z Q)
          refine s_aload_n (nx := 86) hO rfl rfl rfl ?_
          refine s_callV [] (ci := 12) (F := TX12) (N := 116) (nx := 89) hO rfl kX12_reach_646 (by rw [hcl]; rfl) (hs_o12 kc139) (w_X12_goOn hG H) rfl rfl (Nat.le_of_ble_eq_true rfl) (Nat.zero_le _) (Nat.zero_le _) rfl (k_Qv (fun s10 H => ?_))
          exact s_vret hO rfl rfl ⟨rfl, _, rfl, rfl, H⟩
        refine s_if_eq (nx := 49) hO rfl rfl (fun c46 => ?_) (fun c46 => ?_)
        · replace H := H.1 c46
          refine s_aload_n (nx := 68) hO rfl rfl rfl ?_
          refine s_aload_n (nx := 69) hO rfl rfl rfl ?_
          refine s_getf (v := .ref (q_b G + 208)) (nx := 72) hO rfl rfl (hs_o12 kc139) rfl rfl ?_
          refine s_aload_n (nx := 73) hO rfl rfl rfl ?_
          refine s_getf (v := .ref (q_b G + 209)) (nx := 76) hO rfl rfl (hs_o12 kc139) rfl rfl ?_
          refine s_iload (nx := 78) hO rfl rfl rfl ?_
          obtain ⟨b11, H⟩ := H
          refine s_iald (nx := 79) hO rfl (hs_I kc209) b11 rfl ?_
          refine s_iload_n (nx := 80) hO rfl rfl rfl ?_
          refine s_iadd (nx := 81) hO rfl rfl ?_
          obtain ⟨b12, H⟩ := H
          refine s_iald (nx := 82) hO rfl (hs_I kc208) b12 rfl ?_
          refine s_callV [.int (sI s6 208 (ix ((sI s6 209 (ix r5)) + r3)))] (ci := 12) (F := TX12) (N := 116) (nx := 85) hO rfl kX12_reach_628 (by rw [hcl]; rfl) (hs_o12 kc139) (w_X12_push hG H) rfl rfl (Nat.le_of_ble_eq_true rfl) (Nat.zero_le _) (Nat.zero_le _) rfl (k_Qv (fun s13 H => ?_))
          exact xEx.loc (x_sub1 (List.Mem.tail _ (List.Mem.tail _ (List.Mem.tail _ (List.Mem.head _)))) x_sub0) H
        · replace H := H.2 c46
          refine s_aload_n (nx := 50) hO rfl rfl rfl ?_
          refine s_getf (v := .ref (q_b G + 208)) (nx := 53) hO rfl rfl (hs_o12 kc139) rfl rfl ?_
          refine s_aload_n (nx := 54) hO rfl rfl rfl ?_
          refine s_getf (v := .ref (q_b G + 209)) (nx := 57) hO rfl rfl (hs_o12 kc139) rfl rfl ?_
          refine s_iload (nx := 59) hO rfl rfl rfl ?_
          obtain ⟨b14, H⟩ := H
          refine s_iald (nx := 60) hO rfl (hs_I kc209) b14 rfl ?_
          refine s_iload_n (nx := 61) hO rfl rfl rfl ?_
          refine s_iadd (nx := 62) hO rfl rfl ?_
          refine s_iload_n (nx := 63) hO rfl rfl rfl ?_
          obtain ⟨b15, H⟩ := H
          refine goV (wI s6 208 (ix ((sI s6 209 (ix r5)) + r3)) y1) (fun s16 es16 => ?_)
          replace H := H s16 es16
          refine s_iast (nx := 64) hO rfl (hs_I kc208) b15 rfl ?_
          refine xEx.at (up_I kc208 es16) ?_
          refine s_goto hO rfl ?_
          exact xEx.loc (x_sub1 (List.Mem.tail _ (List.Mem.tail _ (List.Mem.tail _ (List.Mem.head _)))) x_sub0) H
      · replace H := H.2 c36
        exact xEx.loc (x_sub1 (List.Mem.tail _ (List.Mem.tail _ (List.Mem.tail _ (List.Mem.head _)))) x_sub0) H
  refine s_if_eq (nx := 4) hO rfl rfl (fun c1 => ?_) (fun c1 => ?_)
  · replace H := H.1 c1
    refine s_iconst (x := 0) (nx := 12) hO rfl (by decide) rfl ?_
    exact xEx.loc (x_sub1 (List.Mem.head _) (x_sub1 (List.Mem.tail _ (List.Mem.head _)) x_sub0)) H
  · replace H := H.2 c1
    refine s_aload_n (nx := 5) hO rfl rfl rfl ?_
    refine s_callV [] (ci := 12) (F := TX12) (N := 116) (nx := 8) hO rfl kX12_reach_634 (by rw [hcl]; rfl) (hs_o12 kc139) (w_X12_pop hG H) rfl rfl (Nat.le_of_ble_eq_true rfl) (Nat.zero_le _) (Nat.zero_le _) rfl (k_Qi (fun r17 s18 H => ?_))
    refine s_goto hO rfl ?_
    exact xEx.loc (x_sub1 (List.Mem.head _) (x_sub1 (List.Mem.tail _ (List.Mem.head _)) x_sub0)) H
def W_X12_callIn (s : yS) (v1 : Int32) (Q : yS → Prop) : Prop :=
 ((¬ (sI s 139 111) = (nI 40) → vp_in (((nI 12) * (sI s 139 112)) + v1) 36 ∧ 
  ∀ x2 : Int32, x2 = (sI s 179 (ix (((nI 12) * (sI s 139 112)) + v1))) → 
  W_X12_enter s v1 
  (fun s3 => ∀ P39 : Int32 → yS → Prop, (∀ (x4 : Int32) (s5 : yS), (((x4 < 0 → Q s5)
   ∧ (¬ x4 < 0 → ∀ x6 : Int32, x6 = ((sI s5 139 111) - (nI 2)) → 
    vp_in x6 40 ∧ 
    vp_in x6 40 ∧ ∀ s9 : yS, s9 = wI s5 213 (ix x6) ((sI s5 213 (ix x6)) - 1) → 
    vp_in x6 40 ∧ 
    vp_in (((nI 16) * x6) + (sI s9 213 (ix x6))) 640 ∧ 
    vp_in (((nI 12) * ((sI s9 139 111) - 1)) + x4) 480 ∧ ∀ s13 : yS, s13 = wI s9 214 (ix (((nI 12) * ((sI s9 139 111) - 1)) + x4)) (sI s9 215 (ix (((nI 16) * x6) + (sI s9 213 (ix x6))))) → 
    ∀ x14 : Int32, x14 = (x4 + (-1)) → 
    P39 x14 s13))) → P39 x4 s5) → 
  ∀ x15 : Int32, x15 = (x2 - 1) → 
  P39 x15 s3))
 ∧ ((sI s 139 111) = (nI 40) → W_X12_raise s (nI 4) 
  (fun s16 => Q s16)))
set_option maxRecDepth 100000 in
set_option maxHeartbeats 40000000 in
theorem w_X12_callIn {G : xG} (hG : yG G) {z : Nat} {s : yS} {v1 : Int32} {Q : yS → Prop} (H : W_X12_callIn s v1 Q) : xC G mX12_callIn [.ref (q_b G + 139), .int v1] (hS G s) z 0 0 (yQv G z Q) := by
  have hW := hG.1
  have hcl := hG.2.1
  have hty := hG.2.2.1
  have hO : xO G mX12_callIn tbX12_callIn ptX12_callIn := ⟨tkX12_callIn, pkX12_callIn hcl⟩
  unfold W_X12_callIn at H
  refine xC.of hW (by decide) rfl (Nat.le_of_ble_eq_true rfl) ?_
  refine s_aload_n (nx := 1) hO rfl rfl rfl ?_
  refine s_getf (v := .int (sI s 139 111)) (nx := 4) hO rfl rfl (hs_o12 kc139) rfl rfl ?_
  refine s_bipush (x := (nI 40)) (nx := 6) hO rfl (by decide) rfl ?_
  refine s_icmp_ne (nx := 9) hO rfl rfl (fun c6 => ?_) (fun c6 => ?_)
  · replace H := H.1 c6
    refine s_aload_n (nx := 16) hO rfl rfl rfl ?_
    refine s_getf (v := .ref (q_b G + 179)) (nx := 19) hO rfl rfl (hs_o12 kc139) rfl rfl ?_
    refine s_bipush (x := (nI 12)) (nx := 21) hO rfl (by decide) rfl ?_
    refine s_aload_n (nx := 22) hO rfl rfl rfl ?_
    refine s_getf (v := .int (sI s 139 112)) (nx := 25) hO rfl rfl (hs_o12 kc139) rfl rfl ?_
    refine s_imul (nx := 26) hO rfl rfl ?_
    refine s_iload_n (nx := 27) hO rfl rfl rfl ?_
    refine s_iadd (nx := 28) hO rfl rfl ?_
    obtain ⟨b1, H⟩ := H
    refine s_iald (nx := 29) hO rfl (hs_I kc179) b1 rfl ?_
    refine goV ((sI s 179 (ix (((nI 12) * (sI s 139 112)) + v1)))) (fun x2 ex2 => ?_)
    replace H := H x2 ex2
    refine e_istore_n (nx := 30) (l' := [(2, .int x2), (0, .ref (q_b G + 139)), (1, .int v1)]) ex2 hO rfl (by decide) rfl rfl ?_
    refine s_aload_n (nx := 31) hO rfl rfl rfl ?_
    refine s_iload_n (nx := 32) hO rfl rfl rfl ?_
    refine s_callV [.int v1] (ci := 12) (F := TX12) (N := 116) (nx := 35) hO rfl kX12_callIn_649 (by rw [hcl]; rfl) (hs_o12 kc139) (w_X12_enter hG H) rfl rfl (Nat.le_of_ble_eq_true rfl) (Nat.zero_le _) (Nat.zero_le _) rfl (k_Qv (fun s3 H => ?_))
    refine s_iload_n (nx := 36) hO rfl rfl rfl ?_
    refine s_iconst (x := 1) (nx := 37) hO rfl (by decide) rfl ?_
    refine s_isub (nx := 38) hO rfl rfl ?_
    refine goK (H (fun (x4 : Int32) (s5 : yS) => xEx G mX12_callIn 39 [(0, .ref (q_b G + 139)), (3, .int x4)] [] (hS G s5) z 0 0 (yQv G z Q)) (fun x4 s5 H => ?_)) (fun H => ?_)
    · show xEx G mX12_callIn 39 [(0, .ref (q_b G + 139)), (3, .int x4)] [] (hS G s5) z 0 0 (yQv G z Q)
      refine s_iload_n (nx := 40) hO rfl rfl rfl ?_
      refine s_if_lt (nx := 43) hO rfl rfl (fun c40 => ?_) (fun c40 => ?_)
      · replace H := H.1 c40
        exact s_vret hO rfl rfl ⟨rfl, _, rfl, rfl, H⟩
      · replace H := H.2 c40
        refine s_aload_n (nx := 44) hO rfl rfl rfl ?_
        refine s_getf (v := .int (sI s5 139 111)) (nx := 47) hO rfl rfl (hs_o12 kc139) rfl rfl ?_
        refine s_iconst (x := (nI 2)) (nx := 48) hO rfl (by decide) rfl ?_
        refine s_isub (nx := 49) hO rfl rfl ?_
        refine goV (((sI s5 139 111) - (nI 2))) (fun x6 ex6 => ?_)
        replace H := H x6 ex6
        refine e_istore (nx := 51) (l' := [(4, .int x6), (0, .ref (q_b G + 139)), (3, .int x4)]) ex6 hO rfl (by decide) rfl rfl ?_
        refine s_aload_n (nx := 52) hO rfl rfl rfl ?_
        refine s_getf (v := .ref (q_b G + 213)) (nx := 55) hO rfl rfl (hs_o12 kc139) rfl rfl ?_
        refine s_iload (nx := 57) hO rfl rfl rfl ?_
        refine s_dup2 (nx := 58) hO rfl rfl rfl rfl ?_
        obtain ⟨b7, H⟩ := H
        refine s_iald (nx := 59) hO rfl (hs_I kc213) b7 rfl ?_
        refine s_iconst (x := 1) (nx := 60) hO rfl (by decide) rfl ?_
        refine s_isub (nx := 61) hO rfl rfl ?_
        obtain ⟨b8, H⟩ := H
        refine goV (wI s5 213 (ix x6) ((sI s5 213 (ix x6)) - 1)) (fun s9 es9 => ?_)
        replace H := H s9 es9
        refine s_iast (nx := 62) hO rfl (hs_I kc213) b8 rfl ?_
        refine xEx.at (up_I kc213 es9) ?_
        refine s_aload_n (nx := 63) hO rfl rfl rfl ?_
        refine s_getf (v := .ref (q_b G + 214)) (nx := 66) hO rfl rfl (hs_o12 kc139) rfl rfl ?_
        refine s_bipush (x := (nI 12)) (nx := 68) hO rfl (by decide) rfl ?_
        refine s_aload_n (nx := 69) hO rfl rfl rfl ?_
        refine s_getf (v := .int (sI s9 139 111)) (nx := 72) hO rfl rfl (hs_o12 kc139) rfl rfl ?_
        refine s_iconst (x := 1) (nx := 73) hO rfl (by decide) rfl ?_
        refine s_isub (nx := 74) hO rfl rfl ?_
        refine s_imul (nx := 75) hO rfl rfl ?_
        refine s_iload_n (nx := 76) hO rfl rfl rfl ?_
        refine s_iadd (nx := 77) hO rfl rfl ?_
        refine s_aload_n (nx := 78) hO rfl rfl rfl ?_
        refine s_getf (v := .ref (q_b G + 215)) (nx := 81) hO rfl rfl (hs_o12 kc139) rfl rfl ?_
        refine s_bipush (x := (nI 16)) (nx := 83) hO rfl (by decide) rfl ?_
        refine s_iload (nx := 85) hO rfl rfl rfl ?_
        refine s_imul (nx := 86) hO rfl rfl ?_
        refine s_aload_n (nx := 87) hO rfl rfl rfl ?_
        refine s_getf (v := .ref (q_b G + 213)) (nx := 90) hO rfl rfl (hs_o12 kc139) rfl rfl ?_
        refine s_iload (nx := 92) hO rfl rfl rfl ?_
        obtain ⟨b10, H⟩ := H
        refine s_iald (nx := 93) hO rfl (hs_I kc213) b10 rfl ?_
        refine s_iadd (nx := 94) hO rfl rfl ?_
        obtain ⟨b11, H⟩ := H
        refine s_iald (nx := 95) hO rfl (hs_I kc215) b11 rfl ?_
        obtain ⟨b12, H⟩ := H
        refine goV (wI s9 214 (ix (((nI 12) * ((sI s9 139 111) - 1)) + x4)) (sI s9 215 (ix (((nI 16) * x6) + (sI s9 213 (ix x6)))))) (fun s13 es13 => ?_)
        replace H := H s13 es13
        refine s_iast (nx := 96) hO rfl (hs_I kc214) b12 rfl ?_
        refine xEx.at (up_I kc214 es13) ?_
        refine goV ((x4 + (-1))) (fun x14 ex14 => ?_)
        replace H := H x14 ex14
        refine e_iinc (nx := 99) (l' := [(3, .int x14), (4, .int x6), (0, .ref (q_b G + 139))]) ex14 hO rfl (by decide) rfl rfl rfl rfl ?_
        refine s_goto hO rfl ?_
        exact xEx.loc (x_sub1 (List.Mem.tail _ (List.Mem.tail _ (List.Mem.head _))) (x_sub1 (List.Mem.head _) x_sub0)) H
    refine goV ((x2 - 1)) (fun x15 ex15 => ?_)
    replace H := H x15 ex15
    refine e_istore_n (nx := 39) (l' := [(3, .int x15), (2, .int x2), (0, .ref (q_b G + 139)), (1, .int v1)]) ex15 hO rfl (by decide) rfl rfl ?_
    exact xEx.loc (x_sub1 (List.Mem.tail _ (List.Mem.tail _ (List.Mem.head _))) (x_sub1 (List.Mem.head _) x_sub0)) H
  · replace H := H.2 c6
    refine s_aload_n (nx := 10) hO rfl rfl rfl ?_
    refine s_iconst (x := (nI 4)) (nx := 11) hO rfl (by decide) rfl ?_
    refine s_callV [.int (nI 4)] (ci := 12) (F := TX12) (N := 116) (nx := 14) hO rfl kX12_callIn_640 (by rw [hcl]; rfl) (hs_o12 kc139) (w_X12_raise hG H) rfl rfl (Nat.le_of_ble_eq_true rfl) (Nat.zero_le _) (Nat.zero_le _) rfl (k_Qv (fun s16 H => ?_))
    exact s_vret hO rfl rfl ⟨rfl, _, rfl, rfl, H⟩
def W_X12_callOut (s : yS) (v1 : Int32) (Q : yS → Prop) : Prop :=
 ∀ P38 : Int32 → Prop, (∀ (y1 : Int32), (∀ P125 : yS → Prop, (∀ (s2 : yS), (∀ s3 : yS, s3 = wI s2 139 93 ((sI s2 139 93) + 1) → 
   ∀ P137 : Int32 → yS → Prop, (∀ (x4 : Int32) (s5 : yS), ((((v1 - v1 / (nI 4) * (nI 4)) ≤ x4 → W_X12_push s5 y1 
     (fun s6 => W_X12_goOn s6 
     (fun s7 => Q s7)))
    ∧ (¬ (v1 - v1 / (nI 4) * (nI 4)) ≤ x4 → W_X12_pop s5 
     (fun r8 s9 => ∀ x10 : Int32, x10 = (x4 + 1) → 
     P137 x10 s9)))) → P137 x4 s5) → 
   P137 0 s3) → P125 s2) → 
  (((nI 256) ≤ (sI s 139 93) → P125 s)
  ∧ (¬ (nI 256) ≤ (sI s 139 93) → vp_in ((nI 5) * (sI s 139 93)) 1280 ∧ ∀ s12 : yS, s12 = wI s 207 (ix ((nI 5) * (sI s 139 93))) v1 → 
   ∀ P63 : Int32 → yS → Prop, (∀ (x13 : Int32) (s14 : yS), ((((nI 3) ≤ x13 → vp_in (((nI 5) * (sI s14 139 93)) + (nI 4)) 1280 ∧ ∀ s16 : yS, s16 = wI s14 207 (ix (((nI 5) * (sI s14 139 93)) + (nI 4))) y1 → 
     P125 s16)
    ∧ (¬ (nI 3) ≤ x13 → (((v1 - v1 / (nI 4) * (nI 4)) ≤ x13 → vp_in ((((nI 5) * (sI s14 139 93)) + 1) + x13) 1280 ∧ ∀ s18 : yS, s18 = wI s14 207 (ix ((((nI 5) * (sI s14 139 93)) + 1) + x13)) 0 → 
      ∀ x19 : Int32, x19 = (x13 + 1) → 
      P63 x19 s18)
     ∧ (¬ (v1 - v1 / (nI 4) * (nI 4)) ≤ x13 → W_X12_under s14 (((v1 - v1 / (nI 4) * (nI 4)) - 1) - x13) 
      (fun r20 => vp_in ((((nI 5) * (sI s14 139 93)) + 1) + x13) 1280 ∧ ∀ s22 : yS, s22 = wI s14 207 (ix ((((nI 5) * (sI s14 139 93)) + 1) + x13)) r20 → 
      ∀ x23 : Int32, x23 = (x13 + 1) → 
      P63 x23 s22)))))) → P63 x13 s14) → 
   P63 0 s12))) → P38 y1) → 
 (((sI s 139 88) ≤ (sI s 139 93) → P38 0)
 ∧ (¬ (sI s 139 88) ≤ (sI s 139 93) → (((nI 256) ≤ (sI s 139 93) → vp_in 0 256 ∧ 
   P38 (sI s 204 (ix 0)))
  ∧ (¬ (nI 256) ≤ (sI s 139 93) → vp_in (sI s 139 93) 256 ∧ 
   P38 (sI s 204 (ix (sI s 139 93)))))))
set_option maxRecDepth 100000 in
set_option maxHeartbeats 40000000 in
theorem w_X12_callOut {G : xG} (hG : yG G) {z : Nat} {s : yS} {v1 : Int32} {Q : yS → Prop} (H : W_X12_callOut s v1 Q) : xC G mX12_callOut [.ref (q_b G + 139), .int v1] (hS G s) z 0 0 (yQv G z Q) := by
  have hW := hG.1
  have hcl := hG.2.1
  have hty := hG.2.2.1
  have hO : xO G mX12_callOut tbX12_callOut ptX12_callOut := ⟨tkX12_callOut, pkX12_callOut hcl⟩
  unfold W_X12_callOut at H
  refine xC.of hW (by decide) rfl (Nat.le_of_ble_eq_true rfl) ?_
  refine s_aload_n (nx := 1) hO rfl rfl rfl ?_
  refine s_getf (v := .int (sI s 139 93)) (nx := 4) hO rfl rfl (hs_o12 kc139) rfl rfl ?_
  refine s_aload_n (nx := 5) hO rfl rfl rfl ?_
  refine s_getf (v := .int (sI s 139 88)) (nx := 8) hO rfl rfl (hs_o12 kc139) rfl rfl ?_
  refine goK (H (fun (y1 : Int32) => xEx G mX12_callOut 38 [(0, .ref (q_b G + 139)), (1, .int v1)] [.int y1] (hS G s) z 0 0 (yQv G z Q)) (fun y1 H => ?_)) (fun H => ?_)
  · show xEx G mX12_callOut 38 [(0, .ref (q_b G + 139)), (1, .int v1)] [.int y1] (hS G s) z 0 0 (yQv G z Q)
    refine s_istore_n (nx := 39) (l' := [(2, .int y1), (0, .ref (q_b G + 139)), (1, .int v1)]) hO rfl (by decide) rfl rfl ?_
    refine s_aload_n (nx := 40) hO rfl rfl rfl ?_
    refine s_getf (v := .int (sI s 139 93)) (nx := 43) hO rfl rfl (hs_o12 kc139) rfl rfl ?_
    refine s_sipush (x := (nI 256)) (nx := 46) hO rfl (by decide) rfl ?_
    refine goK (H (fun (s2 : yS) => xEx G mX12_callOut 125 [(0, .ref (q_b G + 139)), (1, .int v1), (2, .int y1)] [] (hS G s2) z 0 0 (yQv G z Q)) (fun s2 H => ?_)) (fun H => ?_)
    · show xEx G mX12_callOut 125 [(0, .ref (q_b G + 139)), (1, .int v1), (2, .int y1)] [] (hS G s2) z 0 0 (yQv G z Q)
      refine s_aload_n (nx := 126) hO rfl rfl rfl ?_
      refine s_dup (nx := 127) hO rfl rfl rfl ?_
      refine s_getf (v := .int (sI s2 139 93)) (nx := 130) hO rfl rfl (hs_o12 kc139) rfl rfl ?_
      refine s_iconst (x := 1) (nx := 131) hO rfl (by decide) rfl ?_
      refine s_iadd (nx := 132) hO rfl rfl ?_
      refine goV (wI s2 139 93 ((sI s2 139 93) + 1)) (fun s3 es3 => ?_)
      replace H := H s3 es3
      refine s_putf (nx := 135) hO rfl rfl (hs_o12 kc139) (Nat.le_of_ble_eq_true rfl) (by rw [hty]; rfl) (by rw [hty]; rfl) pX12_93 rfl ?_
      refine xEx.at (up_oI12 kc139 es3) ?_
      refine s_iconst (x := 0) (nx := 136) hO rfl (by decide) rfl ?_
      refine goK (H (fun (x4 : Int32) (s5 : yS) => xEx G mX12_callOut 137 [(0, .ref (q_b G + 139)), (1, .int v1), (2, .int y1), (3, .int x4)] [] (hS G s5) z 0 0 (yQv G z Q)) (fun x4 s5 H => ?_)) (fun H => ?_)
      · show xEx G mX12_callOut 137 [(0, .ref (q_b G + 139)), (1, .int v1), (2, .int y1), (3, .int x4)] [] (hS G s5) z 0 0 (yQv G z Q)
        refine s_iload_n (nx := 138) hO rfl rfl rfl ?_
        refine s_iload_n (nx := 139) hO rfl rfl rfl ?_
        refine s_iconst (x := (nI 4)) (nx := 140) hO rfl (by decide) rfl ?_
        refine s_irem (nx := 141) hO rfl (by decide) rfl ?_
        refine s_icmp_ge (nx := 144) hO rfl rfl (fun c141 => ?_) (fun c141 => ?_)
        · replace H := H.1 c141
          refine s_aload_n (nx := 157) hO rfl rfl rfl ?_
          refine s_iload_n (nx := 158) hO rfl rfl rfl ?_
          refine s_callV [.int y1] (ci := 12) (F := TX12) (N := 116) (nx := 161) hO rfl kX12_callOut_628 (by rw [hcl]; rfl) (hs_o12 kc139) (w_X12_push hG H) rfl rfl (Nat.le_of_ble_eq_true rfl) (Nat.zero_le _) (Nat.zero_le _) rfl (k_Qv (fun s6 H => ?_))
          refine s_aload_n (nx := 162) hO rfl rfl rfl ?_
          refine s_callV [] (ci := 12) (F := TX12) (N := 116) (nx := 165) hO rfl kX12_callOut_646 (by rw [hcl]; rfl) (hs_o12 kc139) (w_X12_goOn hG H) rfl rfl (Nat.le_of_ble_eq_true rfl) (Nat.zero_le _) (Nat.zero_le _) rfl (k_Qv (fun s7 H => ?_))
          exact s_vret hO rfl rfl ⟨rfl, _, rfl, rfl, H⟩
        · replace H := H.2 c141
          refine s_aload_n (nx := 145) hO rfl rfl rfl ?_
          refine s_callV [] (ci := 12) (F := TX12) (N := 116) (nx := 148) hO rfl kX12_callOut_634 (by rw [hcl]; rfl) (hs_o12 kc139) (w_X12_pop hG H) rfl rfl (Nat.le_of_ble_eq_true rfl) (Nat.zero_le _) (Nat.zero_le _) rfl (k_Qi (fun r8 s9 H => ?_))
          refine s_istore (nx := 150) (l' := [(4, .int r8), (0, .ref (q_b G + 139)), (1, .int v1), (2, .int y1), (3, .int x4)]) hO rfl (by decide) rfl rfl ?_
          refine goV ((x4 + 1)) (fun x10 ex10 => ?_)
          replace H := H x10 ex10
          refine e_iinc (nx := 153) (l' := [(3, .int x10), (4, .int r8), (0, .ref (q_b G + 139)), (1, .int v1), (2, .int y1)]) ex10 hO rfl (by decide) rfl rfl rfl rfl ?_
          refine s_goto hO rfl ?_
          exact xEx.loc (x_sub1 (List.Mem.tail _ (List.Mem.tail _ (List.Mem.head _))) (x_sub1 (List.Mem.tail _ (List.Mem.tail _ (List.Mem.tail _ (List.Mem.head _)))) (x_sub1 (List.Mem.tail _ (List.Mem.tail _ (List.Mem.tail _ (List.Mem.tail _ (List.Mem.head _))))) (x_sub1 (List.Mem.head _) x_sub0)))) H
      refine s_istore_n (nx := 137) (l' := [(3, .int 0), (0, .ref (q_b G + 139)), (1, .int v1), (2, .int y1)]) hO rfl (by decide) rfl rfl ?_
      exact xEx.loc (x_sub1 (List.Mem.tail _ (List.Mem.head _)) (x_sub1 (List.Mem.tail _ (List.Mem.tail _ (List.Mem.head _))) (x_sub1 (List.Mem.tail _ (List.Mem.tail _ (List.Mem.tail _ (List.Mem.head _)))) (x_sub1 (List.Mem.head _) x_sub0)))) H
    refine s_icmp_ge (nx := 49) hO rfl rfl (fun c46 => ?_) (fun c46 => ?_)
    · replace H := H.1 c46
      exact xEx.loc (x_sub1 (List.Mem.tail _ (List.Mem.head _)) (x_sub1 (List.Mem.tail _ (List.Mem.tail _ (List.Mem.head _))) (x_sub1 (List.Mem.head _) x_sub0))) H
    · replace H := H.2 c46
      refine s_aload_n (nx := 50) hO rfl rfl rfl ?_
      refine s_getf (v := .ref (q_b G + 207)) (nx := 53) hO rfl rfl (hs_o12 kc139) rfl rfl ?_
      refine s_iconst (x := (nI 5)) (nx := 54) hO rfl (by decide) rfl ?_
      refine s_aload_n (nx := 55) hO rfl rfl rfl ?_
      refine s_getf (v := .int (sI s 139 93)) (nx := 58) hO rfl rfl (hs_o12 kc139) rfl rfl ?_
      refine s_imul (nx := 59) hO rfl rfl ?_
      refine s_iload_n (nx := 60) hO rfl rfl rfl ?_
      obtain ⟨b11, H⟩ := H
      refine goV (wI s 207 (ix ((nI 5) * (sI s 139 93))) v1) (fun s12 es12 => ?_)
      replace H := H s12 es12
      refine s_iast (nx := 61) hO rfl (hs_I kc207) b11 rfl ?_
      refine xEx.at (up_I kc207 es12) ?_
      refine s_iconst (x := 0) (nx := 62) hO rfl (by decide) rfl ?_
      refine goK (H (fun (x13 : Int32) (s14 : yS) => xEx G mX12_callOut 63 [(0, .ref (q_b G + 139)), (1, .int v1), (2, .int y1), (3, .int x13)] [] (hS G s14) z 0 0 (yQv G z Q)) (fun x13 s14 H => ?_)) (fun H => ?_)
      · show xEx G mX12_callOut 63 [(0, .ref (q_b G + 139)), (1, .int v1), (2, .int y1), (3, .int x13)] [] (hS G s14) z 0 0 (yQv G z Q)
        refine s_iload_n (nx := 64) hO rfl rfl rfl ?_
        refine s_iconst (x := (nI 3)) (nx := 65) hO rfl (by decide) rfl ?_
        refine s_icmp_ge (nx := 68) hO rfl rfl (fun c65 => ?_) (fun c65 => ?_)
        · replace H := H.1 c65
          refine s_aload_n (nx := 112) hO rfl rfl rfl ?_
          refine s_getf (v := .ref (q_b G + 207)) (nx := 115) hO rfl rfl (hs_o12 kc139) rfl rfl ?_
          refine s_iconst (x := (nI 5)) (nx := 116) hO rfl (by decide) rfl ?_
          refine s_aload_n (nx := 117) hO rfl rfl rfl ?_
          refine s_getf (v := .int (sI s14 139 93)) (nx := 120) hO rfl rfl (hs_o12 kc139) rfl rfl ?_
          refine s_imul (nx := 121) hO rfl rfl ?_
          refine s_iconst (x := (nI 4)) (nx := 122) hO rfl (by decide) rfl ?_
          refine s_iadd (nx := 123) hO rfl rfl ?_
          refine s_iload_n (nx := 124) hO rfl rfl rfl ?_
          obtain ⟨b15, H⟩ := H
          refine goV (wI s14 207 (ix (((nI 5) * (sI s14 139 93)) + (nI 4))) y1) (fun s16 es16 => ?_)
          replace H := H s16 es16
          refine s_iast (nx := 125) hO rfl (hs_I kc207) b15 rfl ?_
          refine xEx.at (up_I kc207 es16) ?_
          exact xEx.loc (x_sub1 (List.Mem.head _) (x_sub1 (List.Mem.tail _ (List.Mem.head _)) (x_sub1 (List.Mem.tail _ (List.Mem.tail _ (List.Mem.head _))) x_sub0))) H
        · replace H := H.2 c65
          refine s_aload_n (nx := 69) hO rfl rfl rfl ?_
          refine s_getf (v := .ref (q_b G + 207)) (nx := 72) hO rfl rfl (hs_o12 kc139) rfl rfl ?_
          refine s_iconst (x := (nI 5)) (nx := 73) hO rfl (by decide) rfl ?_
          refine s_aload_n (nx := 74) hO rfl rfl rfl ?_
          refine s_getf (v := .int (sI s14 139 93)) (nx := 77) hO rfl rfl (hs_o12 kc139) rfl rfl ?_
          refine s_imul (nx := 78) hO rfl rfl ?_
          refine s_iconst (x := 1) (nx := 79) hO rfl (by decide) rfl ?_
          refine s_iadd (nx := 80) hO rfl rfl ?_
          refine s_iload_n (nx := 81) hO rfl rfl rfl ?_
          refine s_iadd (nx := 82) hO rfl rfl ?_
          refine s_iload_n (nx := 83) hO rfl rfl rfl ?_
          refine s_iload_n (nx := 84) hO rfl rfl rfl ?_
          refine s_iconst (x := (nI 4)) (nx := 85) hO rfl (by decide) rfl ?_
          refine s_irem (nx := 86) hO rfl (by decide) rfl ?_
          refine s_icmp_ge (nx := 89) hO rfl rfl (fun c86 => ?_) (fun c86 => ?_)
          · replace H := H.1 c86
            refine s_iconst (x := 0) (nx := 104) hO rfl (by decide) rfl ?_
            obtain ⟨b17, H⟩ := H
            refine goV (wI s14 207 (ix ((((nI 5) * (sI s14 139 93)) + 1) + x13)) 0) (fun s18 es18 => ?_)
            replace H := H s18 es18
            refine s_iast (nx := 105) hO rfl (hs_I kc207) b17 rfl ?_
            refine xEx.at (up_I kc207 es18) ?_
            refine goV ((x13 + 1)) (fun x19 ex19 => ?_)
            replace H := H x19 ex19
            refine e_iinc (nx := 108) (l' := [(3, .int x19), (0, .ref (q_b G + 139)), (1, .int v1), (2, .int y1)]) ex19 hO rfl (by decide) rfl rfl rfl rfl ?_
            refine s_goto hO rfl ?_
            exact xEx.loc (x_sub1 (List.Mem.tail _ (List.Mem.head _)) (x_sub1 (List.Mem.tail _ (List.Mem.tail _ (List.Mem.head _))) (x_sub1 (List.Mem.tail _ (List.Mem.tail _ (List.Mem.tail _ (List.Mem.head _)))) (x_sub1 (List.Mem.head _) x_sub0)))) H
          · replace H := H.2 c86
            refine s_aload_n (nx := 90) hO rfl rfl rfl ?_
            refine s_iload_n (nx := 91) hO rfl rfl rfl ?_
            refine s_iconst (x := (nI 4)) (nx := 92) hO rfl (by decide) rfl ?_
            refine s_irem (nx := 93) hO rfl (by decide) rfl ?_
            refine s_iconst (x := 1) (nx := 94) hO rfl (by decide) rfl ?_
            refine s_isub (nx := 95) hO rfl rfl ?_
            refine s_iload_n (nx := 96) hO rfl rfl rfl ?_
            refine s_isub (nx := 97) hO rfl rfl ?_
            refine s_callV [.int (((v1 - v1 / (nI 4) * (nI 4)) - 1) - x13)] (ci := 12) (F := TX12) (N := 116) (nx := 100) hO rfl kX12_callOut_655 (by rw [hcl]; rfl) (hs_o12 kc139) (w_X12_under hG H) rfl rfl (Nat.le_of_ble_eq_true rfl) (Nat.zero_le _) (Nat.zero_le _) rfl (k_Pi (fun r20 H => ?_))
            refine s_goto hO rfl ?_
            obtain ⟨b21, H⟩ := H
            refine goV (wI s14 207 (ix ((((nI 5) * (sI s14 139 93)) + 1) + x13)) r20) (fun s22 es22 => ?_)
            replace H := H s22 es22
            refine s_iast (nx := 105) hO rfl (hs_I kc207) b21 rfl ?_
            refine xEx.at (up_I kc207 es22) ?_
            refine goV ((x13 + 1)) (fun x23 ex23 => ?_)
            replace H := H x23 ex23
            refine e_iinc (nx := 108) (l' := [(3, .int x23), (0, .ref (q_b G + 139)), (1, .int v1), (2, .int y1)]) ex23 hO rfl (by decide) rfl rfl rfl rfl ?_
            refine s_goto hO rfl ?_
            exact xEx.loc (x_sub1 (List.Mem.tail _ (List.Mem.head _)) (x_sub1 (List.Mem.tail _ (List.Mem.tail _ (List.Mem.head _))) (x_sub1 (List.Mem.tail _ (List.Mem.tail _ (List.Mem.tail _ (List.Mem.head _)))) (x_sub1 (List.Mem.head _) x_sub0)))) H
      refine s_istore_n (nx := 63) (l' := [(3, .int 0), (2, .int y1), (0, .ref (q_b G + 139)), (1, .int v1)]) hO rfl (by decide) rfl rfl ?_
      exact xEx.loc (x_sub1 (List.Mem.tail _ (List.Mem.tail _ (List.Mem.head _))) (x_sub1 (List.Mem.tail _ (List.Mem.tail _ (List.Mem.tail _ (List.Mem.head _)))) (x_sub1 (List.Mem.tail _ (List.Mem.head _)) (x_sub1 (List.Mem.head _) x_sub0)))) H
  refine s_icmp_ge (nx := 11) hO rfl rfl (fun c8 => ?_) (fun c8 => ?_)
  · replace H := H.1 c8
    refine s_iconst (x := 0) (nx := 38) hO rfl (by decide) rfl ?_
    exact xEx.loc (x_sub1 (List.Mem.head _) (x_sub1 (List.Mem.tail _ (List.Mem.head _)) x_sub0)) H
  · replace H := H.2 c8
    refine s_aload_n (nx := 12) hO rfl rfl rfl ?_
    refine s_getf (v := .ref (q_b G + 204)) (nx := 15) hO rfl rfl (hs_o12 kc139) rfl rfl ?_
    refine s_aload_n (nx := 16) hO rfl rfl rfl ?_
    refine s_getf (v := .int (sI s 139 93)) (nx := 19) hO rfl rfl (hs_o12 kc139) rfl rfl ?_
    refine s_sipush (x := (nI 256)) (nx := 22) hO rfl (by decide) rfl ?_
    refine s_icmp_ge (nx := 25) hO rfl rfl (fun c22 => ?_) (fun c22 => ?_)
    · replace H := H.1 c22
      refine s_iconst (x := 0) (nx := 33) hO rfl (by decide) rfl ?_
      obtain ⟨b24, H⟩ := H
      refine s_iald (nx := 34) hO rfl (hs_I kc204) b24 rfl ?_
      refine s_goto hO rfl ?_
      exact xEx.loc (x_sub1 (List.Mem.head _) (x_sub1 (List.Mem.tail _ (List.Mem.head _)) x_sub0)) H
    · replace H := H.2 c22
      refine s_aload_n (nx := 26) hO rfl rfl rfl ?_
      refine s_getf (v := .int (sI s 139 93)) (nx := 29) hO rfl rfl (hs_o12 kc139) rfl rfl ?_
      refine s_goto hO rfl ?_
      obtain ⟨b25, H⟩ := H
      refine s_iald (nx := 34) hO rfl (hs_I kc204) b25 rfl ?_
      refine s_goto hO rfl ?_
      exact xEx.loc (x_sub1 (List.Mem.head _) (x_sub1 (List.Mem.tail _ (List.Mem.head _)) x_sub0)) H
def W_X12_comeBack (s : yS) (Q : yS → Prop) : Prop :=
 vp_in ((sI s 139 111) - 1) 40 ∧ 
 vp_in (((nI 12) * (sI s 139 112)) + (sI s 211 (ix ((sI s 139 111) - 1)))) 36 ∧ 
 ∀ x3 : Int32, x3 = (sI s 182 (ix (((nI 12) * (sI s 139 112)) + (sI s 211 (ix ((sI s 139 111) - 1)))))) → 
 ∀ P37 : Int32 → yS → Prop, (∀ (y4 : Int32) (s5 : yS), (((¬ (sI s5 139 111) = 1 → ∀ s6 : yS, s6 = wI s5 139 111 ((sI s5 139 111) - 1) → 
   ∀ P72 : yS → Prop, (∀ (s7 : yS), (W_X12_goOn s7 
    (fun s8 => Q s8)) → P72 s7) → 
   ((x3 ≤ 0 → P72 s6)
   ∧ (¬ x3 ≤ 0 → W_X12_push s6 y4 
    (fun s9 => P72 s9))))
  ∧ ((sI s5 139 111) = 1 → W_X12_end s5 0 y4 
   (fun s10 => Q s10)))) → P37 y4 s5) → 
 ((x3 ≤ 0 → P37 0 s)
 ∧ (¬ x3 ≤ 0 → W_X12_pop s 
  (fun r11 s12 => P37 r11 s12)))
set_option maxRecDepth 100000 in
set_option maxHeartbeats 40000000 in
theorem w_X12_comeBack {G : xG} (hG : yG G) {z : Nat} {s : yS} {Q : yS → Prop} (H : W_X12_comeBack s Q) : xC G mX12_comeBack [.ref (q_b G + 139)] (hS G s) z 0 0 (yQv G z Q) := by
  have hW := hG.1
  have hcl := hG.2.1
  have hty := hG.2.2.1
  have hO : xO G mX12_comeBack tbX12_comeBack ptX12_comeBack := ⟨tkX12_comeBack, pkX12_comeBack hcl⟩
  unfold W_X12_comeBack at H
  refine xC.of hW (by decide) rfl (Nat.le_of_ble_eq_true rfl) ?_
  refine s_aload_n (nx := 1) hO rfl rfl rfl ?_
  refine s_getf (v := .ref (q_b G + 182)) (nx := 4) hO rfl rfl (hs_o12 kc139) rfl rfl ?_
  refine s_bipush (x := (nI 12)) (nx := 6) hO rfl (by decide) rfl ?_
  refine s_aload_n (nx := 7) hO rfl rfl rfl ?_
  refine s_getf (v := .int (sI s 139 112)) (nx := 10) hO rfl rfl (hs_o12 kc139) rfl rfl ?_
  refine s_imul (nx := 11) hO rfl rfl ?_
  refine s_aload_n (nx := 12) hO rfl rfl rfl ?_
  refine s_getf (v := .ref (q_b G + 211)) (nx := 15) hO rfl rfl (hs_o12 kc139) rfl rfl ?_
  refine s_aload_n (nx := 16) hO rfl rfl rfl ?_
  refine s_getf (v := .int (sI s 139 111)) (nx := 19) hO rfl rfl (hs_o12 kc139) rfl rfl ?_
  refine s_iconst (x := 1) (nx := 20) hO rfl (by decide) rfl ?_
  refine s_isub (nx := 21) hO rfl rfl ?_
  obtain ⟨b1, H⟩ := H
  refine s_iald (nx := 22) hO rfl (hs_I kc211) b1 rfl ?_
  refine s_iadd (nx := 23) hO rfl rfl ?_
  obtain ⟨b2, H⟩ := H
  refine s_iald (nx := 24) hO rfl (hs_I kc182) b2 rfl ?_
  refine goV ((sI s 182 (ix (((nI 12) * (sI s 139 112)) + (sI s 211 (ix ((sI s 139 111) - 1))))))) (fun x3 ex3 => ?_)
  replace H := H x3 ex3
  refine e_istore_n (nx := 25) (l' := [(1, .int x3), (0, .ref (q_b G + 139))]) ex3 hO rfl (by decide) rfl rfl ?_
  refine s_iload_n (nx := 26) hO rfl rfl rfl ?_
  refine goK (H (fun (y4 : Int32) (s5 : yS) => xEx G mX12_comeBack 37 [(0, .ref (q_b G + 139)), (1, .int x3)] [.int y4] (hS G s5) z 0 0 (yQv G z Q)) (fun y4 s5 H => ?_)) (fun H => ?_)
  · show xEx G mX12_comeBack 37 [(0, .ref (q_b G + 139)), (1, .int x3)] [.int y4] (hS G s5) z 0 0 (yQv G z Q)
    refine s_istore_n (nx := 38) (l' := [(2, .int y4), (0, .ref (q_b G + 139)), (1, .int x3)]) hO rfl (by decide) rfl rfl ?_
    refine s_aload_n (nx := 39) hO rfl rfl rfl ?_
    refine s_getf (v := .int (sI s5 139 111)) (nx := 42) hO rfl rfl (hs_o12 kc139) rfl rfl ?_
    refine s_iconst (x := 1) (nx := 43) hO rfl (by decide) rfl ?_
    refine s_icmp_ne (nx := 46) hO rfl rfl (fun c43 => ?_) (fun c43 => ?_)
    · replace H := H.1 c43
      refine s_aload_n (nx := 54) hO rfl rfl rfl ?_
      refine s_dup (nx := 55) hO rfl rfl rfl ?_
      refine s_getf (v := .int (sI s5 139 111)) (nx := 58) hO rfl rfl (hs_o12 kc139) rfl rfl ?_
      refine s_iconst (x := 1) (nx := 59) hO rfl (by decide) rfl ?_
      refine s_isub (nx := 60) hO rfl rfl ?_
      refine goV (wI s5 139 111 ((sI s5 139 111) - 1)) (fun s6 es6 => ?_)
      replace H := H s6 es6
      refine s_putf (nx := 63) hO rfl rfl (hs_o12 kc139) (Nat.le_of_ble_eq_true rfl) (by rw [hty]; rfl) (by rw [hty]; rfl) pX12_111 rfl ?_
      refine xEx.at (up_oI12 kc139 es6) ?_
      refine s_iload_n (nx := 64) hO rfl rfl rfl ?_
      refine goK (H (fun (s7 : yS) => xEx G mX12_comeBack 72 [(0, .ref (q_b G + 139))] [] (hS G s7) z 0 0 (yQv G z Q)) (fun s7 H => ?_)) (fun H => ?_)
      · show xEx G mX12_comeBack 72 [(0, .ref (q_b G + 139))] [] (hS G s7) z 0 0 (yQv G z Q)
        refine s_aload_n (nx := 73) hO rfl rfl rfl ?_
        refine s_callV [] (ci := 12) (F := TX12) (N := 116) (nx := 76) hO rfl kX12_comeBack_646 (by rw [hcl]; rfl) (hs_o12 kc139) (w_X12_goOn hG H) rfl rfl (Nat.le_of_ble_eq_true rfl) (Nat.zero_le _) (Nat.zero_le _) rfl (k_Qv (fun s8 H => ?_))
        exact s_vret hO rfl rfl ⟨rfl, _, rfl, rfl, H⟩
      refine s_if_le (nx := 67) hO rfl rfl (fun c64 => ?_) (fun c64 => ?_)
      · replace H := H.1 c64
        exact xEx.loc (x_sub1 (List.Mem.tail _ (List.Mem.head _)) x_sub0) H
      · replace H := H.2 c64
        refine s_aload_n (nx := 68) hO rfl rfl rfl ?_
        refine s_iload_n (nx := 69) hO rfl rfl rfl ?_
        refine s_callV [.int y4] (ci := 12) (F := TX12) (N := 116) (nx := 72) hO rfl kX12_comeBack_628 (by rw [hcl]; rfl) (hs_o12 kc139) (w_X12_push hG H) rfl rfl (Nat.le_of_ble_eq_true rfl) (Nat.zero_le _) (Nat.zero_le _) rfl (k_Qv (fun s9 H => ?_))
        exact xEx.loc (x_sub1 (List.Mem.tail _ (List.Mem.head _)) x_sub0) H
    · replace H := H.2 c43
      refine s_aload_n (nx := 47) hO rfl rfl rfl ?_
      refine s_iconst (x := 0) (nx := 48) hO rfl (by decide) rfl ?_
      refine s_iload_n (nx := 49) hO rfl rfl rfl ?_
      refine s_callV [.int 0, .int y4] (ci := 12) (F := TX12) (N := 116) (nx := 52) hO rfl kX12_comeBack_631 (by rw [hcl]; rfl) (hs_o12 kc139) (w_X12_end hG H) rfl rfl (Nat.le_of_ble_eq_true rfl) (Nat.zero_le _) (Nat.zero_le _) rfl (k_Qv (fun s10 H => ?_))
      exact s_vret hO rfl rfl ⟨rfl, _, rfl, rfl, H⟩
  refine s_if_le (nx := 29) hO rfl rfl (fun c26 => ?_) (fun c26 => ?_)
  · replace H := H.1 c26
    refine s_iconst (x := 0) (nx := 37) hO rfl (by decide) rfl ?_
    exact xEx.loc (x_sub1 (List.Mem.tail _ (List.Mem.head _)) (x_sub1 (List.Mem.head _) x_sub0)) H
  · replace H := H.2 c26
    refine s_aload_n (nx := 30) hO rfl rfl rfl ?_
    refine s_callV [] (ci := 12) (F := TX12) (N := 116) (nx := 33) hO rfl kX12_comeBack_634 (by rw [hcl]; rfl) (hs_o12 kc139) (w_X12_pop hG H) rfl rfl (Nat.le_of_ble_eq_true rfl) (Nat.zero_le _) (Nat.zero_le _) rfl (k_Qi (fun r11 s12 H => ?_))
    refine s_goto hO rfl ?_
    exact xEx.loc (x_sub1 (List.Mem.tail _ (List.Mem.head _)) (x_sub1 (List.Mem.head _) x_sub0)) H
def W_X12_guard (s : yS) (v1 : Int32) (Q : yS → Prop) : Prop :=
 ∀ x1 : Int32, x1 = (v1 - v1 / (nI 4) * (nI 4)) → 
 ((x1 ≤ 0 → ((x1 ≤ 1 → ((x1 ≤ (nI 2) → W_X12_setCall s 0 0 0 205 6 
    (fun s2 => W_X12_step s2 (sI s2 139 97) v1 
    (fun r3 => ((¬ r3 = 0 → ∀ s4 : yS, s4 = wI s2 139 97 r3 → 
     W_X12_count s4 205 6 v1 
     (fun s5 => ∀ s6 : yS, s6 = wI s5 139 94 ((sI s5 139 94) + 1) → 
     W_X12_goOn s6 
     (fun s7 => Q s7)))
    ∧ (r3 = 0 → W_X12_end s2 (nI 2) 0 
     (fun s8 => Q s8))))))
   ∧ (¬ x1 ≤ (nI 2) → W_X12_under s (x1 - (nI 3)) 
    (fun r9 => W_X12_setCall s 0 0 r9 205 6 
    (fun s10 => W_X12_step s10 (sI s10 139 97) v1 
    (fun r11 => ((¬ r11 = 0 → ∀ s12 : yS, s12 = wI s10 139 97 r11 → 
     W_X12_count s12 205 6 v1 
     (fun s13 => ∀ s14 : yS, s14 = wI s13 139 94 ((sI s13 139 94) + 1) → 
     W_X12_goOn s14 
     (fun s15 => Q s15)))
    ∧ (r11 = 0 → W_X12_end s10 (nI 2) 0 
     (fun s16 => Q s16)))))))))
  ∧ (¬ x1 ≤ 1 → W_X12_under s (x1 - (nI 2)) 
   (fun r17 => ((x1 ≤ (nI 2) → W_X12_setCall s 0 r17 0 205 6 
    (fun s18 => W_X12_step s18 (sI s18 139 97) v1 
    (fun r19 => ((¬ r19 = 0 → ∀ s20 : yS, s20 = wI s18 139 97 r19 → 
     W_X12_count s20 205 6 v1 
     (fun s21 => ∀ s22 : yS, s22 = wI s21 139 94 ((sI s21 139 94) + 1) → 
     W_X12_goOn s22 
     (fun s23 => Q s23)))
    ∧ (r19 = 0 → W_X12_end s18 (nI 2) 0 
     (fun s24 => Q s24))))))
   ∧ (¬ x1 ≤ (nI 2) → W_X12_under s (x1 - (nI 3)) 
    (fun r25 => W_X12_setCall s 0 r17 r25 205 6 
    (fun s26 => W_X12_step s26 (sI s26 139 97) v1 
    (fun r27 => ((¬ r27 = 0 → ∀ s28 : yS, s28 = wI s26 139 97 r27 → 
     W_X12_count s28 205 6 v1 
     (fun s29 => ∀ s30 : yS, s30 = wI s29 139 94 ((sI s29 139 94) + 1) → 
     W_X12_goOn s30 
     (fun s31 => Q s31)))
    ∧ (r27 = 0 → W_X12_end s26 (nI 2) 0 
     (fun s32 => Q s32))))))))))))
 ∧ (¬ x1 ≤ 0 → W_X12_under s (x1 - 1) 
  (fun r33 => ((x1 ≤ 1 → ((x1 ≤ (nI 2) → W_X12_setCall s r33 0 0 205 6 
    (fun s34 => W_X12_step s34 (sI s34 139 97) v1 
    (fun r35 => ((¬ r35 = 0 → ∀ s36 : yS, s36 = wI s34 139 97 r35 → 
     W_X12_count s36 205 6 v1 
     (fun s37 => ∀ s38 : yS, s38 = wI s37 139 94 ((sI s37 139 94) + 1) → 
     W_X12_goOn s38 
     (fun s39 => Q s39)))
    ∧ (r35 = 0 → W_X12_end s34 (nI 2) 0 
     (fun s40 => Q s40))))))
   ∧ (¬ x1 ≤ (nI 2) → W_X12_under s (x1 - (nI 3)) 
    (fun r41 => W_X12_setCall s r33 0 r41 205 6 
    (fun s42 => W_X12_step s42 (sI s42 139 97) v1 
    (fun r43 => ((¬ r43 = 0 → ∀ s44 : yS, s44 = wI s42 139 97 r43 → 
     W_X12_count s44 205 6 v1 
     (fun s45 => ∀ s46 : yS, s46 = wI s45 139 94 ((sI s45 139 94) + 1) → 
     W_X12_goOn s46 
     (fun s47 => Q s47)))
    ∧ (r43 = 0 → W_X12_end s42 (nI 2) 0 
     (fun s48 => Q s48)))))))))
  ∧ (¬ x1 ≤ 1 → W_X12_under s (x1 - (nI 2)) 
   (fun r49 => ((x1 ≤ (nI 2) → W_X12_setCall s r33 r49 0 205 6 
    (fun s50 => W_X12_step s50 (sI s50 139 97) v1 
    (fun r51 => ((¬ r51 = 0 → ∀ s52 : yS, s52 = wI s50 139 97 r51 → 
     W_X12_count s52 205 6 v1 
     (fun s53 => ∀ s54 : yS, s54 = wI s53 139 94 ((sI s53 139 94) + 1) → 
     W_X12_goOn s54 
     (fun s55 => Q s55)))
    ∧ (r51 = 0 → W_X12_end s50 (nI 2) 0 
     (fun s56 => Q s56))))))
   ∧ (¬ x1 ≤ (nI 2) → W_X12_under s (x1 - (nI 3)) 
    (fun r57 => W_X12_setCall s r33 r49 r57 205 6 
    (fun s58 => W_X12_step s58 (sI s58 139 97) v1 
    (fun r59 => ((¬ r59 = 0 → ∀ s60 : yS, s60 = wI s58 139 97 r59 → 
     W_X12_count s60 205 6 v1 
     (fun s61 => ∀ s62 : yS, s62 = wI s61 139 94 ((sI s61 139 94) + 1) → 
     W_X12_goOn s62 
     (fun s63 => Q s63)))
    ∧ (r59 = 0 → W_X12_end s58 (nI 2) 0 
     (fun s64 => Q s64))))))))))))))
set_option maxRecDepth 100000 in
set_option maxHeartbeats 40000000 in
theorem w_X12_guard {G : xG} (hG : yG G) {z : Nat} {s : yS} {v1 : Int32} {Q : yS → Prop} (H : W_X12_guard s v1 Q) : xC G mX12_guard [.ref (q_b G + 139), .int v1] (hS G s) z 0 0 (yQv G z Q) := by
  have hW := hG.1
  have hcl := hG.2.1
  have hty := hG.2.2.1
  have hO : xO G mX12_guard tbX12_guard ptX12_guard := ⟨tkX12_guard, pkX12_guard hcl⟩
  unfold W_X12_guard at H
  refine xC.of hW (by decide) rfl (Nat.le_of_ble_eq_true rfl) ?_
  refine s_iload_n (nx := 1) hO rfl rfl rfl ?_
  refine s_iconst (x := (nI 4)) (nx := 2) hO rfl (by decide) rfl ?_
  refine s_irem (nx := 3) hO rfl (by decide) rfl ?_
  refine goV ((v1 - v1 / (nI 4) * (nI 4))) (fun x1 ex1 => ?_)
  replace H := H x1 ex1
  refine e_istore_n (nx := 4) (l' := [(2, .int x1), (0, .ref (q_b G + 139)), (1, .int v1)]) ex1 hO rfl (by decide) rfl rfl ?_
  refine s_aload_n (nx := 5) hO rfl rfl rfl ?_
  refine s_iload_n (nx := 6) hO rfl rfl rfl ?_
  refine s_if_le (nx := 9) hO rfl rfl (fun c6 => ?_) (fun c6 => ?_)
  · replace H := H.1 c6
    refine s_iconst (x := 0) (nx := 20) hO rfl (by decide) rfl ?_
    refine s_iload_n (nx := 21) hO rfl rfl rfl ?_
    refine s_iconst (x := 1) (nx := 22) hO rfl (by decide) rfl ?_
    refine s_icmp_le (nx := 25) hO rfl rfl (fun c22 => ?_) (fun c22 => ?_)
    · replace H := H.1 c22
      refine s_iconst (x := 0) (nx := 36) hO rfl (by decide) rfl ?_
      refine s_iload_n (nx := 37) hO rfl rfl rfl ?_
      refine s_iconst (x := (nI 2)) (nx := 38) hO rfl (by decide) rfl ?_
      refine s_icmp_le (nx := 41) hO rfl rfl (fun c38 => ?_) (fun c38 => ?_)
      · replace H := H.1 c38
        refine s_iconst (x := 0) (nx := 52) hO rfl (by decide) rfl ?_
        refine s_aload_n (nx := 53) hO rfl rfl rfl ?_
        refine s_getf (v := .ref (q_b G + 205)) (nx := 56) hO rfl rfl (hs_o12 kc139) rfl rfl ?_
        refine s_callV [.int 0, .int 0, .int 0, .ref (q_b G + 205)] (ci := 12) (F := TX12) (N := 116) (nx := 59) hO rfl kX12_guard_516 (by rw [hcl]; rfl) (hs_o12 kc139) (w_X12_setCall hG kc205 H) rfl rfl (Nat.le_of_ble_eq_true rfl) (Nat.zero_le _) (Nat.zero_le _) rfl (k_Qv (fun s2 H => ?_))
        refine s_aload_n (nx := 60) hO rfl rfl rfl ?_
        refine s_aload_n (nx := 61) hO rfl rfl rfl ?_
        refine s_getf (v := .int (sI s2 139 97)) (nx := 64) hO rfl rfl (hs_o12 kc139) rfl rfl ?_
        refine s_iload_n (nx := 65) hO rfl rfl rfl ?_
        refine s_callV [.int (sI s2 139 97), .int v1] (ci := 12) (F := TX12) (N := 116) (nx := 68) hO rfl kX12_guard_481 (by rw [hcl]; rfl) (hs_o12 kc139) (w_X12_step hG H) rfl rfl (Nat.le_of_ble_eq_true rfl) (Nat.zero_le _) (Nat.zero_le _) rfl (k_Pi (fun r3 H => ?_))
        refine s_istore_n (nx := 69) (l' := [(3, .int r3), (2, .int x1), (0, .ref (q_b G + 139)), (1, .int v1)]) hO rfl (by decide) rfl rfl ?_
        refine s_iload_n (nx := 70) hO rfl rfl rfl ?_
        refine s_if_ne (nx := 73) hO rfl rfl (fun c70 => ?_) (fun c70 => ?_)
        · replace H := H.1 c70
          refine s_aload_n (nx := 81) hO rfl rfl rfl ?_
          refine s_iload_n (nx := 82) hO rfl rfl rfl ?_
          refine goV (wI s2 139 97 r3) (fun s4 es4 => ?_)
          replace H := H s4 es4
          refine s_putf (nx := 85) hO rfl rfl (hs_o12 kc139) (Nat.le_of_ble_eq_true rfl) (by rw [hty]; rfl) (by rw [hty]; rfl) pX12_97 rfl ?_
          refine xEx.at (up_oI12 kc139 es4) ?_
          refine s_aload_n (nx := 86) hO rfl rfl rfl ?_
          refine s_aload_n (nx := 87) hO rfl rfl rfl ?_
          refine s_getf (v := .ref (q_b G + 205)) (nx := 90) hO rfl rfl (hs_o12 kc139) rfl rfl ?_
          refine s_iload_n (nx := 91) hO rfl rfl rfl ?_
          refine s_callV [.ref (q_b G + 205), .int v1] (ci := 12) (F := TX12) (N := 116) (nx := 94) hO rfl kX12_guard_520 (by rw [hcl]; rfl) (hs_o12 kc139) (w_X12_count hG kc205 H) rfl rfl (Nat.le_of_ble_eq_true rfl) (Nat.zero_le _) (Nat.zero_le _) rfl (k_Qv (fun s5 H => ?_))
          refine s_aload_n (nx := 95) hO rfl rfl rfl ?_
          refine s_dup (nx := 96) hO rfl rfl rfl ?_
          refine s_getf (v := .int (sI s5 139 94)) (nx := 99) hO rfl rfl (hs_o12 kc139) rfl rfl ?_
          refine s_iconst (x := 1) (nx := 100) hO rfl (by decide) rfl ?_
          refine s_iadd (nx := 101) hO rfl rfl ?_
          refine goV (wI s5 139 94 ((sI s5 139 94) + 1)) (fun s6 es6 => ?_)
          replace H := H s6 es6
          refine s_putf (nx := 104) hO rfl rfl (hs_o12 kc139) (Nat.le_of_ble_eq_true rfl) (by rw [hty]; rfl) (by rw [hty]; rfl) pX12_94 rfl ?_
          refine xEx.at (up_oI12 kc139 es6) ?_
          refine s_aload_n (nx := 105) hO rfl rfl rfl ?_
          refine s_callV [] (ci := 12) (F := TX12) (N := 116) (nx := 108) hO rfl kX12_guard_646 (by rw [hcl]; rfl) (hs_o12 kc139) (w_X12_goOn hG H) rfl rfl (Nat.le_of_ble_eq_true rfl) (Nat.zero_le _) (Nat.zero_le _) rfl (k_Qv (fun s7 H => ?_))
          exact s_vret hO rfl rfl ⟨rfl, _, rfl, rfl, H⟩
        · replace H := H.2 c70
          refine s_aload_n (nx := 74) hO rfl rfl rfl ?_
          refine s_iconst (x := (nI 2)) (nx := 75) hO rfl (by decide) rfl ?_
          refine s_iconst (x := 0) (nx := 76) hO rfl (by decide) rfl ?_
          refine s_callV [.int (nI 2), .int 0] (ci := 12) (F := TX12) (N := 116) (nx := 79) hO rfl kX12_guard_631 (by rw [hcl]; rfl) (hs_o12 kc139) (w_X12_end hG H) rfl rfl (Nat.le_of_ble_eq_true rfl) (Nat.zero_le _) (Nat.zero_le _) rfl (k_Qv (fun s8 H => ?_))
          exact s_vret hO rfl rfl ⟨rfl, _, rfl, rfl, H⟩
      · replace H := H.2 c38
        refine s_aload_n (nx := 42) hO rfl rfl rfl ?_
        refine s_iload_n (nx := 43) hO rfl rfl rfl ?_
        refine s_iconst (x := (nI 3)) (nx := 44) hO rfl (by decide) rfl ?_
        refine s_isub (nx := 45) hO rfl rfl ?_
        refine s_callV [.int (x1 - (nI 3))] (ci := 12) (F := TX12) (N := 116) (nx := 48) hO rfl kX12_guard_655 (by rw [hcl]; rfl) (hs_o12 kc139) (w_X12_under hG H) rfl rfl (Nat.le_of_ble_eq_true rfl) (Nat.zero_le _) (Nat.zero_le _) rfl (k_Pi (fun r9 H => ?_))
        refine s_goto hO rfl ?_
        refine s_aload_n (nx := 53) hO rfl rfl rfl ?_
        refine s_getf (v := .ref (q_b G + 205)) (nx := 56) hO rfl rfl (hs_o12 kc139) rfl rfl ?_
        refine s_callV [.int 0, .int 0, .int r9, .ref (q_b G + 205)] (ci := 12) (F := TX12) (N := 116) (nx := 59) hO rfl kX12_guard_516 (by rw [hcl]; rfl) (hs_o12 kc139) (w_X12_setCall hG kc205 H) rfl rfl (Nat.le_of_ble_eq_true rfl) (Nat.zero_le _) (Nat.zero_le _) rfl (k_Qv (fun s10 H => ?_))
        refine s_aload_n (nx := 60) hO rfl rfl rfl ?_
        refine s_aload_n (nx := 61) hO rfl rfl rfl ?_
        refine s_getf (v := .int (sI s10 139 97)) (nx := 64) hO rfl rfl (hs_o12 kc139) rfl rfl ?_
        refine s_iload_n (nx := 65) hO rfl rfl rfl ?_
        refine s_callV [.int (sI s10 139 97), .int v1] (ci := 12) (F := TX12) (N := 116) (nx := 68) hO rfl kX12_guard_481 (by rw [hcl]; rfl) (hs_o12 kc139) (w_X12_step hG H) rfl rfl (Nat.le_of_ble_eq_true rfl) (Nat.zero_le _) (Nat.zero_le _) rfl (k_Pi (fun r11 H => ?_))
        refine s_istore_n (nx := 69) (l' := [(3, .int r11), (2, .int x1), (0, .ref (q_b G + 139)), (1, .int v1)]) hO rfl (by decide) rfl rfl ?_
        refine s_iload_n (nx := 70) hO rfl rfl rfl ?_
        refine s_if_ne (nx := 73) hO rfl rfl (fun c70 => ?_) (fun c70 => ?_)
        · replace H := H.1 c70
          refine s_aload_n (nx := 81) hO rfl rfl rfl ?_
          refine s_iload_n (nx := 82) hO rfl rfl rfl ?_
          refine goV (wI s10 139 97 r11) (fun s12 es12 => ?_)
          replace H := H s12 es12
          refine s_putf (nx := 85) hO rfl rfl (hs_o12 kc139) (Nat.le_of_ble_eq_true rfl) (by rw [hty]; rfl) (by rw [hty]; rfl) pX12_97 rfl ?_
          refine xEx.at (up_oI12 kc139 es12) ?_
          refine s_aload_n (nx := 86) hO rfl rfl rfl ?_
          refine s_aload_n (nx := 87) hO rfl rfl rfl ?_
          refine s_getf (v := .ref (q_b G + 205)) (nx := 90) hO rfl rfl (hs_o12 kc139) rfl rfl ?_
          refine s_iload_n (nx := 91) hO rfl rfl rfl ?_
          refine s_callV [.ref (q_b G + 205), .int v1] (ci := 12) (F := TX12) (N := 116) (nx := 94) hO rfl kX12_guard_520 (by rw [hcl]; rfl) (hs_o12 kc139) (w_X12_count hG kc205 H) rfl rfl (Nat.le_of_ble_eq_true rfl) (Nat.zero_le _) (Nat.zero_le _) rfl (k_Qv (fun s13 H => ?_))
          refine s_aload_n (nx := 95) hO rfl rfl rfl ?_
          refine s_dup (nx := 96) hO rfl rfl rfl ?_
          refine s_getf (v := .int (sI s13 139 94)) (nx := 99) hO rfl rfl (hs_o12 kc139) rfl rfl ?_
          refine s_iconst (x := 1) (nx := 100) hO rfl (by decide) rfl ?_
          refine s_iadd (nx := 101) hO rfl rfl ?_
          refine goV (wI s13 139 94 ((sI s13 139 94) + 1)) (fun s14 es14 => ?_)
          replace H := H s14 es14
          refine s_putf (nx := 104) hO rfl rfl (hs_o12 kc139) (Nat.le_of_ble_eq_true rfl) (by rw [hty]; rfl) (by rw [hty]; rfl) pX12_94 rfl ?_
          refine xEx.at (up_oI12 kc139 es14) ?_
          refine s_aload_n (nx := 105) hO rfl rfl rfl ?_
          refine s_callV [] (ci := 12) (F := TX12) (N := 116) (nx := 108) hO rfl kX12_guard_646 (by rw [hcl]; rfl) (hs_o12 kc139) (w_X12_goOn hG H) rfl rfl (Nat.le_of_ble_eq_true rfl) (Nat.zero_le _) (Nat.zero_le _) rfl (k_Qv (fun s15 H => ?_))
          exact s_vret hO rfl rfl ⟨rfl, _, rfl, rfl, H⟩
        · replace H := H.2 c70
          refine s_aload_n (nx := 74) hO rfl rfl rfl ?_
          refine s_iconst (x := (nI 2)) (nx := 75) hO rfl (by decide) rfl ?_
          refine s_iconst (x := 0) (nx := 76) hO rfl (by decide) rfl ?_
          refine s_callV [.int (nI 2), .int 0] (ci := 12) (F := TX12) (N := 116) (nx := 79) hO rfl kX12_guard_631 (by rw [hcl]; rfl) (hs_o12 kc139) (w_X12_end hG H) rfl rfl (Nat.le_of_ble_eq_true rfl) (Nat.zero_le _) (Nat.zero_le _) rfl (k_Qv (fun s16 H => ?_))
          exact s_vret hO rfl rfl ⟨rfl, _, rfl, rfl, H⟩
    · replace H := H.2 c22
      refine s_aload_n (nx := 26) hO rfl rfl rfl ?_
      refine s_iload_n (nx := 27) hO rfl rfl rfl ?_
      refine s_iconst (x := (nI 2)) (nx := 28) hO rfl (by decide) rfl ?_
      refine s_isub (nx := 29) hO rfl rfl ?_
      refine s_callV [.int (x1 - (nI 2))] (ci := 12) (F := TX12) (N := 116) (nx := 32) hO rfl kX12_guard_655 (by rw [hcl]; rfl) (hs_o12 kc139) (w_X12_under hG H) rfl rfl (Nat.le_of_ble_eq_true rfl) (Nat.zero_le _) (Nat.zero_le _) rfl (k_Pi (fun r17 H => ?_))
      refine s_goto hO rfl ?_
      refine s_iload_n (nx := 37) hO rfl rfl rfl ?_
      refine s_iconst (x := (nI 2)) (nx := 38) hO rfl (by decide) rfl ?_
      refine s_icmp_le (nx := 41) hO rfl rfl (fun c38 => ?_) (fun c38 => ?_)
      · replace H := H.1 c38
        refine s_iconst (x := 0) (nx := 52) hO rfl (by decide) rfl ?_
        refine s_aload_n (nx := 53) hO rfl rfl rfl ?_
        refine s_getf (v := .ref (q_b G + 205)) (nx := 56) hO rfl rfl (hs_o12 kc139) rfl rfl ?_
        refine s_callV [.int 0, .int r17, .int 0, .ref (q_b G + 205)] (ci := 12) (F := TX12) (N := 116) (nx := 59) hO rfl kX12_guard_516 (by rw [hcl]; rfl) (hs_o12 kc139) (w_X12_setCall hG kc205 H) rfl rfl (Nat.le_of_ble_eq_true rfl) (Nat.zero_le _) (Nat.zero_le _) rfl (k_Qv (fun s18 H => ?_))
        refine s_aload_n (nx := 60) hO rfl rfl rfl ?_
        refine s_aload_n (nx := 61) hO rfl rfl rfl ?_
        refine s_getf (v := .int (sI s18 139 97)) (nx := 64) hO rfl rfl (hs_o12 kc139) rfl rfl ?_
        refine s_iload_n (nx := 65) hO rfl rfl rfl ?_
        refine s_callV [.int (sI s18 139 97), .int v1] (ci := 12) (F := TX12) (N := 116) (nx := 68) hO rfl kX12_guard_481 (by rw [hcl]; rfl) (hs_o12 kc139) (w_X12_step hG H) rfl rfl (Nat.le_of_ble_eq_true rfl) (Nat.zero_le _) (Nat.zero_le _) rfl (k_Pi (fun r19 H => ?_))
        refine s_istore_n (nx := 69) (l' := [(3, .int r19), (2, .int x1), (0, .ref (q_b G + 139)), (1, .int v1)]) hO rfl (by decide) rfl rfl ?_
        refine s_iload_n (nx := 70) hO rfl rfl rfl ?_
        refine s_if_ne (nx := 73) hO rfl rfl (fun c70 => ?_) (fun c70 => ?_)
        · replace H := H.1 c70
          refine s_aload_n (nx := 81) hO rfl rfl rfl ?_
          refine s_iload_n (nx := 82) hO rfl rfl rfl ?_
          refine goV (wI s18 139 97 r19) (fun s20 es20 => ?_)
          replace H := H s20 es20
          refine s_putf (nx := 85) hO rfl rfl (hs_o12 kc139) (Nat.le_of_ble_eq_true rfl) (by rw [hty]; rfl) (by rw [hty]; rfl) pX12_97 rfl ?_
          refine xEx.at (up_oI12 kc139 es20) ?_
          refine s_aload_n (nx := 86) hO rfl rfl rfl ?_
          refine s_aload_n (nx := 87) hO rfl rfl rfl ?_
          refine s_getf (v := .ref (q_b G + 205)) (nx := 90) hO rfl rfl (hs_o12 kc139) rfl rfl ?_
          refine s_iload_n (nx := 91) hO rfl rfl rfl ?_
          refine s_callV [.ref (q_b G + 205), .int v1] (ci := 12) (F := TX12) (N := 116) (nx := 94) hO rfl kX12_guard_520 (by rw [hcl]; rfl) (hs_o12 kc139) (w_X12_count hG kc205 H) rfl rfl (Nat.le_of_ble_eq_true rfl) (Nat.zero_le _) (Nat.zero_le _) rfl (k_Qv (fun s21 H => ?_))
          refine s_aload_n (nx := 95) hO rfl rfl rfl ?_
          refine s_dup (nx := 96) hO rfl rfl rfl ?_
          refine s_getf (v := .int (sI s21 139 94)) (nx := 99) hO rfl rfl (hs_o12 kc139) rfl rfl ?_
          refine s_iconst (x := 1) (nx := 100) hO rfl (by decide) rfl ?_
          refine s_iadd (nx := 101) hO rfl rfl ?_
          refine goV (wI s21 139 94 ((sI s21 139 94) + 1)) (fun s22 es22 => ?_)
          replace H := H s22 es22
          refine s_putf (nx := 104) hO rfl rfl (hs_o12 kc139) (Nat.le_of_ble_eq_true rfl) (by rw [hty]; rfl) (by rw [hty]; rfl) pX12_94 rfl ?_
          refine xEx.at (up_oI12 kc139 es22) ?_
          refine s_aload_n (nx := 105) hO rfl rfl rfl ?_
          refine s_callV [] (ci := 12) (F := TX12) (N := 116) (nx := 108) hO rfl kX12_guard_646 (by rw [hcl]; rfl) (hs_o12 kc139) (w_X12_goOn hG H) rfl rfl (Nat.le_of_ble_eq_true rfl) (Nat.zero_le _) (Nat.zero_le _) rfl (k_Qv (fun s23 H => ?_))
          exact s_vret hO rfl rfl ⟨rfl, _, rfl, rfl, H⟩
        · replace H := H.2 c70
          refine s_aload_n (nx := 74) hO rfl rfl rfl ?_
          refine s_iconst (x := (nI 2)) (nx := 75) hO rfl (by decide) rfl ?_
          refine s_iconst (x := 0) (nx := 76) hO rfl (by decide) rfl ?_
          refine s_callV [.int (nI 2), .int 0] (ci := 12) (F := TX12) (N := 116) (nx := 79) hO rfl kX12_guard_631 (by rw [hcl]; rfl) (hs_o12 kc139) (w_X12_end hG H) rfl rfl (Nat.le_of_ble_eq_true rfl) (Nat.zero_le _) (Nat.zero_le _) rfl (k_Qv (fun s24 H => ?_))
          exact s_vret hO rfl rfl ⟨rfl, _, rfl, rfl, H⟩
      · replace H := H.2 c38
        refine s_aload_n (nx := 42) hO rfl rfl rfl ?_
        refine s_iload_n (nx := 43) hO rfl rfl rfl ?_
        refine s_iconst (x := (nI 3)) (nx := 44) hO rfl (by decide) rfl ?_
        refine s_isub (nx := 45) hO rfl rfl ?_
        refine s_callV [.int (x1 - (nI 3))] (ci := 12) (F := TX12) (N := 116) (nx := 48) hO rfl kX12_guard_655 (by rw [hcl]; rfl) (hs_o12 kc139) (w_X12_under hG H) rfl rfl (Nat.le_of_ble_eq_true rfl) (Nat.zero_le _) (Nat.zero_le _) rfl (k_Pi (fun r25 H => ?_))
        refine s_goto hO rfl ?_
        refine s_aload_n (nx := 53) hO rfl rfl rfl ?_
        refine s_getf (v := .ref (q_b G + 205)) (nx := 56) hO rfl rfl (hs_o12 kc139) rfl rfl ?_
        refine s_callV [.int 0, .int r17, .int r25, .ref (q_b G + 205)] (ci := 12) (F := TX12) (N := 116) (nx := 59) hO rfl kX12_guard_516 (by rw [hcl]; rfl) (hs_o12 kc139) (w_X12_setCall hG kc205 H) rfl rfl (Nat.le_of_ble_eq_true rfl) (Nat.zero_le _) (Nat.zero_le _) rfl (k_Qv (fun s26 H => ?_))
        refine s_aload_n (nx := 60) hO rfl rfl rfl ?_
        refine s_aload_n (nx := 61) hO rfl rfl rfl ?_
        refine s_getf (v := .int (sI s26 139 97)) (nx := 64) hO rfl rfl (hs_o12 kc139) rfl rfl ?_
        refine s_iload_n (nx := 65) hO rfl rfl rfl ?_
        refine s_callV [.int (sI s26 139 97), .int v1] (ci := 12) (F := TX12) (N := 116) (nx := 68) hO rfl kX12_guard_481 (by rw [hcl]; rfl) (hs_o12 kc139) (w_X12_step hG H) rfl rfl (Nat.le_of_ble_eq_true rfl) (Nat.zero_le _) (Nat.zero_le _) rfl (k_Pi (fun r27 H => ?_))
        refine s_istore_n (nx := 69) (l' := [(3, .int r27), (2, .int x1), (0, .ref (q_b G + 139)), (1, .int v1)]) hO rfl (by decide) rfl rfl ?_
        refine s_iload_n (nx := 70) hO rfl rfl rfl ?_
        refine s_if_ne (nx := 73) hO rfl rfl (fun c70 => ?_) (fun c70 => ?_)
        · replace H := H.1 c70
          refine s_aload_n (nx := 81) hO rfl rfl rfl ?_
          refine s_iload_n (nx := 82) hO rfl rfl rfl ?_
          refine goV (wI s26 139 97 r27) (fun s28 es28 => ?_)
          replace H := H s28 es28
          refine s_putf (nx := 85) hO rfl rfl (hs_o12 kc139) (Nat.le_of_ble_eq_true rfl) (by rw [hty]; rfl) (by rw [hty]; rfl) pX12_97 rfl ?_
          refine xEx.at (up_oI12 kc139 es28) ?_
          refine s_aload_n (nx := 86) hO rfl rfl rfl ?_
          refine s_aload_n (nx := 87) hO rfl rfl rfl ?_
          refine s_getf (v := .ref (q_b G + 205)) (nx := 90) hO rfl rfl (hs_o12 kc139) rfl rfl ?_
          refine s_iload_n (nx := 91) hO rfl rfl rfl ?_
          refine s_callV [.ref (q_b G + 205), .int v1] (ci := 12) (F := TX12) (N := 116) (nx := 94) hO rfl kX12_guard_520 (by rw [hcl]; rfl) (hs_o12 kc139) (w_X12_count hG kc205 H) rfl rfl (Nat.le_of_ble_eq_true rfl) (Nat.zero_le _) (Nat.zero_le _) rfl (k_Qv (fun s29 H => ?_))
          refine s_aload_n (nx := 95) hO rfl rfl rfl ?_
          refine s_dup (nx := 96) hO rfl rfl rfl ?_
          refine s_getf (v := .int (sI s29 139 94)) (nx := 99) hO rfl rfl (hs_o12 kc139) rfl rfl ?_
          refine s_iconst (x := 1) (nx := 100) hO rfl (by decide) rfl ?_
          refine s_iadd (nx := 101) hO rfl rfl ?_
          refine goV (wI s29 139 94 ((sI s29 139 94) + 1)) (fun s30 es30 => ?_)
          replace H := H s30 es30
          refine s_putf (nx := 104) hO rfl rfl (hs_o12 kc139) (Nat.le_of_ble_eq_true rfl) (by rw [hty]; rfl) (by rw [hty]; rfl) pX12_94 rfl ?_
          refine xEx.at (up_oI12 kc139 es30) ?_
          refine s_aload_n (nx := 105) hO rfl rfl rfl ?_
          refine s_callV [] (ci := 12) (F := TX12) (N := 116) (nx := 108) hO rfl kX12_guard_646 (by rw [hcl]; rfl) (hs_o12 kc139) (w_X12_goOn hG H) rfl rfl (Nat.le_of_ble_eq_true rfl) (Nat.zero_le _) (Nat.zero_le _) rfl (k_Qv (fun s31 H => ?_))
          exact s_vret hO rfl rfl ⟨rfl, _, rfl, rfl, H⟩
        · replace H := H.2 c70
          refine s_aload_n (nx := 74) hO rfl rfl rfl ?_
          refine s_iconst (x := (nI 2)) (nx := 75) hO rfl (by decide) rfl ?_
          refine s_iconst (x := 0) (nx := 76) hO rfl (by decide) rfl ?_
          refine s_callV [.int (nI 2), .int 0] (ci := 12) (F := TX12) (N := 116) (nx := 79) hO rfl kX12_guard_631 (by rw [hcl]; rfl) (hs_o12 kc139) (w_X12_end hG H) rfl rfl (Nat.le_of_ble_eq_true rfl) (Nat.zero_le _) (Nat.zero_le _) rfl (k_Qv (fun s32 H => ?_))
          exact s_vret hO rfl rfl ⟨rfl, _, rfl, rfl, H⟩
  · replace H := H.2 c6
    refine s_aload_n (nx := 10) hO rfl rfl rfl ?_
    refine s_iload_n (nx := 11) hO rfl rfl rfl ?_
    refine s_iconst (x := 1) (nx := 12) hO rfl (by decide) rfl ?_
    refine s_isub (nx := 13) hO rfl rfl ?_
    refine s_callV [.int (x1 - 1)] (ci := 12) (F := TX12) (N := 116) (nx := 16) hO rfl kX12_guard_655 (by rw [hcl]; rfl) (hs_o12 kc139) (w_X12_under hG H) rfl rfl (Nat.le_of_ble_eq_true rfl) (Nat.zero_le _) (Nat.zero_le _) rfl (k_Pi (fun r33 H => ?_))
    refine s_goto hO rfl ?_
    refine s_iload_n (nx := 21) hO rfl rfl rfl ?_
    refine s_iconst (x := 1) (nx := 22) hO rfl (by decide) rfl ?_
    refine s_icmp_le (nx := 25) hO rfl rfl (fun c22 => ?_) (fun c22 => ?_)
    · replace H := H.1 c22
      refine s_iconst (x := 0) (nx := 36) hO rfl (by decide) rfl ?_
      refine s_iload_n (nx := 37) hO rfl rfl rfl ?_
      refine s_iconst (x := (nI 2)) (nx := 38) hO rfl (by decide) rfl ?_
      refine s_icmp_le (nx := 41) hO rfl rfl (fun c38 => ?_) (fun c38 => ?_)
      · replace H := H.1 c38
        refine s_iconst (x := 0) (nx := 52) hO rfl (by decide) rfl ?_
        refine s_aload_n (nx := 53) hO rfl rfl rfl ?_
        refine s_getf (v := .ref (q_b G + 205)) (nx := 56) hO rfl rfl (hs_o12 kc139) rfl rfl ?_
        refine s_callV [.int r33, .int 0, .int 0, .ref (q_b G + 205)] (ci := 12) (F := TX12) (N := 116) (nx := 59) hO rfl kX12_guard_516 (by rw [hcl]; rfl) (hs_o12 kc139) (w_X12_setCall hG kc205 H) rfl rfl (Nat.le_of_ble_eq_true rfl) (Nat.zero_le _) (Nat.zero_le _) rfl (k_Qv (fun s34 H => ?_))
        refine s_aload_n (nx := 60) hO rfl rfl rfl ?_
        refine s_aload_n (nx := 61) hO rfl rfl rfl ?_
        refine s_getf (v := .int (sI s34 139 97)) (nx := 64) hO rfl rfl (hs_o12 kc139) rfl rfl ?_
        refine s_iload_n (nx := 65) hO rfl rfl rfl ?_
        refine s_callV [.int (sI s34 139 97), .int v1] (ci := 12) (F := TX12) (N := 116) (nx := 68) hO rfl kX12_guard_481 (by rw [hcl]; rfl) (hs_o12 kc139) (w_X12_step hG H) rfl rfl (Nat.le_of_ble_eq_true rfl) (Nat.zero_le _) (Nat.zero_le _) rfl (k_Pi (fun r35 H => ?_))
        refine s_istore_n (nx := 69) (l' := [(3, .int r35), (2, .int x1), (0, .ref (q_b G + 139)), (1, .int v1)]) hO rfl (by decide) rfl rfl ?_
        refine s_iload_n (nx := 70) hO rfl rfl rfl ?_
        refine s_if_ne (nx := 73) hO rfl rfl (fun c70 => ?_) (fun c70 => ?_)
        · replace H := H.1 c70
          refine s_aload_n (nx := 81) hO rfl rfl rfl ?_
          refine s_iload_n (nx := 82) hO rfl rfl rfl ?_
          refine goV (wI s34 139 97 r35) (fun s36 es36 => ?_)
          replace H := H s36 es36
          refine s_putf (nx := 85) hO rfl rfl (hs_o12 kc139) (Nat.le_of_ble_eq_true rfl) (by rw [hty]; rfl) (by rw [hty]; rfl) pX12_97 rfl ?_
          refine xEx.at (up_oI12 kc139 es36) ?_
          refine s_aload_n (nx := 86) hO rfl rfl rfl ?_
          refine s_aload_n (nx := 87) hO rfl rfl rfl ?_
          refine s_getf (v := .ref (q_b G + 205)) (nx := 90) hO rfl rfl (hs_o12 kc139) rfl rfl ?_
          refine s_iload_n (nx := 91) hO rfl rfl rfl ?_
          refine s_callV [.ref (q_b G + 205), .int v1] (ci := 12) (F := TX12) (N := 116) (nx := 94) hO rfl kX12_guard_520 (by rw [hcl]; rfl) (hs_o12 kc139) (w_X12_count hG kc205 H) rfl rfl (Nat.le_of_ble_eq_true rfl) (Nat.zero_le _) (Nat.zero_le _) rfl (k_Qv (fun s37 H => ?_))
          refine s_aload_n (nx := 95) hO rfl rfl rfl ?_
          refine s_dup (nx := 96) hO rfl rfl rfl ?_
          refine s_getf (v := .int (sI s37 139 94)) (nx := 99) hO rfl rfl (hs_o12 kc139) rfl rfl ?_
          refine s_iconst (x := 1) (nx := 100) hO rfl (by decide) rfl ?_
          refine s_iadd (nx := 101) hO rfl rfl ?_
          refine goV (wI s37 139 94 ((sI s37 139 94) + 1)) (fun s38 es38 => ?_)
          replace H := H s38 es38
          refine s_putf (nx := 104) hO rfl rfl (hs_o12 kc139) (Nat.le_of_ble_eq_true rfl) (by rw [hty]; rfl) (by rw [hty]; rfl) pX12_94 rfl ?_
          refine xEx.at (up_oI12 kc139 es38) ?_
          refine s_aload_n (nx := 105) hO rfl rfl rfl ?_
          refine s_callV [] (ci := 12) (F := TX12) (N := 116) (nx := 108) hO rfl kX12_guard_646 (by rw [hcl]; rfl) (hs_o12 kc139) (w_X12_goOn hG H) rfl rfl (Nat.le_of_ble_eq_true rfl) (Nat.zero_le _) (Nat.zero_le _) rfl (k_Qv (fun s39 H => ?_))
          exact s_vret hO rfl rfl ⟨rfl, _, rfl, rfl, H⟩
        · replace H := H.2 c70
          refine s_aload_n (nx := 74) hO rfl rfl rfl ?_
          refine s_iconst (x := (nI 2)) (nx := 75) hO rfl (by decide) rfl ?_
          refine s_iconst (x := 0) (nx := 76) hO rfl (by decide) rfl ?_
          refine s_callV [.int (nI 2), .int 0] (ci := 12) (F := TX12) (N := 116) (nx := 79) hO rfl kX12_guard_631 (by rw [hcl]; rfl) (hs_o12 kc139) (w_X12_end hG H) rfl rfl (Nat.le_of_ble_eq_true rfl) (Nat.zero_le _) (Nat.zero_le _) rfl (k_Qv (fun s40 H => ?_))
          exact s_vret hO rfl rfl ⟨rfl, _, rfl, rfl, H⟩
      · replace H := H.2 c38
        refine s_aload_n (nx := 42) hO rfl rfl rfl ?_
        refine s_iload_n (nx := 43) hO rfl rfl rfl ?_
        refine s_iconst (x := (nI 3)) (nx := 44) hO rfl (by decide) rfl ?_
        refine s_isub (nx := 45) hO rfl rfl ?_
        refine s_callV [.int (x1 - (nI 3))] (ci := 12) (F := TX12) (N := 116) (nx := 48) hO rfl kX12_guard_655 (by rw [hcl]; rfl) (hs_o12 kc139) (w_X12_under hG H) rfl rfl (Nat.le_of_ble_eq_true rfl) (Nat.zero_le _) (Nat.zero_le _) rfl (k_Pi (fun r41 H => ?_))
        refine s_goto hO rfl ?_
        refine s_aload_n (nx := 53) hO rfl rfl rfl ?_
        refine s_getf (v := .ref (q_b G + 205)) (nx := 56) hO rfl rfl (hs_o12 kc139) rfl rfl ?_
        refine s_callV [.int r33, .int 0, .int r41, .ref (q_b G + 205)] (ci := 12) (F := TX12) (N := 116) (nx := 59) hO rfl kX12_guard_516 (by rw [hcl]; rfl) (hs_o12 kc139) (w_X12_setCall hG kc205 H) rfl rfl (Nat.le_of_ble_eq_true rfl) (Nat.zero_le _) (Nat.zero_le _) rfl (k_Qv (fun s42 H => ?_))
        refine s_aload_n (nx := 60) hO rfl rfl rfl ?_
        refine s_aload_n (nx := 61) hO rfl rfl rfl ?_
        refine s_getf (v := .int (sI s42 139 97)) (nx := 64) hO rfl rfl (hs_o12 kc139) rfl rfl ?_
        refine s_iload_n (nx := 65) hO rfl rfl rfl ?_
        refine s_callV [.int (sI s42 139 97), .int v1] (ci := 12) (F := TX12) (N := 116) (nx := 68) hO rfl kX12_guard_481 (by rw [hcl]; rfl) (hs_o12 kc139) (w_X12_step hG H) rfl rfl (Nat.le_of_ble_eq_true rfl) (Nat.zero_le _) (Nat.zero_le _) rfl (k_Pi (fun r43 H => ?_))
        refine s_istore_n (nx := 69) (l' := [(3, .int r43), (2, .int x1), (0, .ref (q_b G + 139)), (1, .int v1)]) hO rfl (by decide) rfl rfl ?_
        refine s_iload_n (nx := 70) hO rfl rfl rfl ?_
        refine s_if_ne (nx := 73) hO rfl rfl (fun c70 => ?_) (fun c70 => ?_)
        · replace H := H.1 c70
          refine s_aload_n (nx := 81) hO rfl rfl rfl ?_
          refine s_iload_n (nx := 82) hO rfl rfl rfl ?_
          refine goV (wI s42 139 97 r43) (fun s44 es44 => ?_)
          replace H := H s44 es44
          refine s_putf (nx := 85) hO rfl rfl (hs_o12 kc139) (Nat.le_of_ble_eq_true rfl) (by rw [hty]; rfl) (by rw [hty]; rfl) pX12_97 rfl ?_
          refine xEx.at (up_oI12 kc139 es44) ?_
          refine s_aload_n (nx := 86) hO rfl rfl rfl ?_
          refine s_aload_n (nx := 87) hO rfl rfl rfl ?_
          refine s_getf (v := .ref (q_b G + 205)) (nx := 90) hO rfl rfl (hs_o12 kc139) rfl rfl ?_
          refine s_iload_n (nx := 91) hO rfl rfl rfl ?_
          refine s_callV [.ref (q_b G + 205), .int v1] (ci := 12) (F := TX12) (N := 116) (nx := 94) hO rfl kX12_guard_520 (by rw [hcl]; rfl) (hs_o12 kc139) (w_X12_count hG kc205 H) rfl rfl (Nat.le_of_ble_eq_true rfl) (Nat.zero_le _) (Nat.zero_le _) rfl (k_Qv (fun s45 H => ?_))
          refine s_aload_n (nx := 95) hO rfl rfl rfl ?_
          refine s_dup (nx := 96) hO rfl rfl rfl ?_
          refine s_getf (v := .int (sI s45 139 94)) (nx := 99) hO rfl rfl (hs_o12 kc139) rfl rfl ?_
          refine s_iconst (x := 1) (nx := 100) hO rfl (by decide) rfl ?_
          refine s_iadd (nx := 101) hO rfl rfl ?_
          refine goV (wI s45 139 94 ((sI s45 139 94) + 1)) (fun s46 es46 => ?_)
          replace H := H s46 es46
          refine s_putf (nx := 104) hO rfl rfl (hs_o12 kc139) (Nat.le_of_ble_eq_true rfl) (by rw [hty]; rfl) (by rw [hty]; rfl) pX12_94 rfl ?_
          refine xEx.at (up_oI12 kc139 es46) ?_
          refine s_aload_n (nx := 105) hO rfl rfl rfl ?_
          refine s_callV [] (ci := 12) (F := TX12) (N := 116) (nx := 108) hO rfl kX12_guard_646 (by rw [hcl]; rfl) (hs_o12 kc139) (w_X12_goOn hG H) rfl rfl (Nat.le_of_ble_eq_true rfl) (Nat.zero_le _) (Nat.zero_le _) rfl (k_Qv (fun s47 H => ?_))
          exact s_vret hO rfl rfl ⟨rfl, _, rfl, rfl, H⟩
        · replace H := H.2 c70
          refine s_aload_n (nx := 74) hO rfl rfl rfl ?_
          refine s_iconst (x := (nI 2)) (nx := 75) hO rfl (by decide) rfl ?_
          refine s_iconst (x := 0) (nx := 76) hO rfl (by decide) rfl ?_
          refine s_callV [.int (nI 2), .int 0] (ci := 12) (F := TX12) (N := 116) (nx := 79) hO rfl kX12_guard_631 (by rw [hcl]; rfl) (hs_o12 kc139) (w_X12_end hG H) rfl rfl (Nat.le_of_ble_eq_true rfl) (Nat.zero_le _) (Nat.zero_le _) rfl (k_Qv (fun s48 H => ?_))
          exact s_vret hO rfl rfl ⟨rfl, _, rfl, rfl, H⟩
    · replace H := H.2 c22
      refine s_aload_n (nx := 26) hO rfl rfl rfl ?_
      refine s_iload_n (nx := 27) hO rfl rfl rfl ?_
      refine s_iconst (x := (nI 2)) (nx := 28) hO rfl (by decide) rfl ?_
      refine s_isub (nx := 29) hO rfl rfl ?_
      refine s_callV [.int (x1 - (nI 2))] (ci := 12) (F := TX12) (N := 116) (nx := 32) hO rfl kX12_guard_655 (by rw [hcl]; rfl) (hs_o12 kc139) (w_X12_under hG H) rfl rfl (Nat.le_of_ble_eq_true rfl) (Nat.zero_le _) (Nat.zero_le _) rfl (k_Pi (fun r49 H => ?_))
      refine s_goto hO rfl ?_
      refine s_iload_n (nx := 37) hO rfl rfl rfl ?_
      refine s_iconst (x := (nI 2)) (nx := 38) hO rfl (by decide) rfl ?_
      refine s_icmp_le (nx := 41) hO rfl rfl (fun c38 => ?_) (fun c38 => ?_)
      · replace H := H.1 c38
        refine s_iconst (x := 0) (nx := 52) hO rfl (by decide) rfl ?_
        refine s_aload_n (nx := 53) hO rfl rfl rfl ?_
        refine s_getf (v := .ref (q_b G + 205)) (nx := 56) hO rfl rfl (hs_o12 kc139) rfl rfl ?_
        refine s_callV [.int r33, .int r49, .int 0, .ref (q_b G + 205)] (ci := 12) (F := TX12) (N := 116) (nx := 59) hO rfl kX12_guard_516 (by rw [hcl]; rfl) (hs_o12 kc139) (w_X12_setCall hG kc205 H) rfl rfl (Nat.le_of_ble_eq_true rfl) (Nat.zero_le _) (Nat.zero_le _) rfl (k_Qv (fun s50 H => ?_))
        refine s_aload_n (nx := 60) hO rfl rfl rfl ?_
        refine s_aload_n (nx := 61) hO rfl rfl rfl ?_
        refine s_getf (v := .int (sI s50 139 97)) (nx := 64) hO rfl rfl (hs_o12 kc139) rfl rfl ?_
        refine s_iload_n (nx := 65) hO rfl rfl rfl ?_
        refine s_callV [.int (sI s50 139 97), .int v1] (ci := 12) (F := TX12) (N := 116) (nx := 68) hO rfl kX12_guard_481 (by rw [hcl]; rfl) (hs_o12 kc139) (w_X12_step hG H) rfl rfl (Nat.le_of_ble_eq_true rfl) (Nat.zero_le _) (Nat.zero_le _) rfl (k_Pi (fun r51 H => ?_))
        refine s_istore_n (nx := 69) (l' := [(3, .int r51), (2, .int x1), (0, .ref (q_b G + 139)), (1, .int v1)]) hO rfl (by decide) rfl rfl ?_
        refine s_iload_n (nx := 70) hO rfl rfl rfl ?_
        refine s_if_ne (nx := 73) hO rfl rfl (fun c70 => ?_) (fun c70 => ?_)
        · replace H := H.1 c70
          refine s_aload_n (nx := 81) hO rfl rfl rfl ?_
          refine s_iload_n (nx := 82) hO rfl rfl rfl ?_
          refine goV (wI s50 139 97 r51) (fun s52 es52 => ?_)
          replace H := H s52 es52
          refine s_putf (nx := 85) hO rfl rfl (hs_o12 kc139) (Nat.le_of_ble_eq_true rfl) (by rw [hty]; rfl) (by rw [hty]; rfl) pX12_97 rfl ?_
          refine xEx.at (up_oI12 kc139 es52) ?_
          refine s_aload_n (nx := 86) hO rfl rfl rfl ?_
          refine s_aload_n (nx := 87) hO rfl rfl rfl ?_
          refine s_getf (v := .ref (q_b G + 205)) (nx := 90) hO rfl rfl (hs_o12 kc139) rfl rfl ?_
          refine s_iload_n (nx := 91) hO rfl rfl rfl ?_
          refine s_callV [.ref (q_b G + 205), .int v1] (ci := 12) (F := TX12) (N := 116) (nx := 94) hO rfl kX12_guard_520 (by rw [hcl]; rfl) (hs_o12 kc139) (w_X12_count hG kc205 H) rfl rfl (Nat.le_of_ble_eq_true rfl) (Nat.zero_le _) (Nat.zero_le _) rfl (k_Qv (fun s53 H => ?_))
          refine s_aload_n (nx := 95) hO rfl rfl rfl ?_
          refine s_dup (nx := 96) hO rfl rfl rfl ?_
          refine s_getf (v := .int (sI s53 139 94)) (nx := 99) hO rfl rfl (hs_o12 kc139) rfl rfl ?_
          refine s_iconst (x := 1) (nx := 100) hO rfl (by decide) rfl ?_
          refine s_iadd (nx := 101) hO rfl rfl ?_
          refine goV (wI s53 139 94 ((sI s53 139 94) + 1)) (fun s54 es54 => ?_)
          replace H := H s54 es54
          refine s_putf (nx := 104) hO rfl rfl (hs_o12 kc139) (Nat.le_of_ble_eq_true rfl) (by rw [hty]; rfl) (by rw [hty]; rfl) pX12_94 rfl ?_
          refine xEx.at (up_oI12 kc139 es54) ?_
          refine s_aload_n (nx := 105) hO rfl rfl rfl ?_
          refine s_callV [] (ci := 12) (F := TX12) (N := 116) (nx := 108) hO rfl kX12_guard_646 (by rw [hcl]; rfl) (hs_o12 kc139) (w_X12_goOn hG H) rfl rfl (Nat.le_of_ble_eq_true rfl) (Nat.zero_le _) (Nat.zero_le _) rfl (k_Qv (fun s55 H => ?_))
          exact s_vret hO rfl rfl ⟨rfl, _, rfl, rfl, H⟩
        · replace H := H.2 c70
          refine s_aload_n (nx := 74) hO rfl rfl rfl ?_
          refine s_iconst (x := (nI 2)) (nx := 75) hO rfl (by decide) rfl ?_
          refine s_iconst (x := 0) (nx := 76) hO rfl (by decide) rfl ?_
          refine s_callV [.int (nI 2), .int 0] (ci := 12) (F := TX12) (N := 116) (nx := 79) hO rfl kX12_guard_631 (by rw [hcl]; rfl) (hs_o12 kc139) (w_X12_end hG H) rfl rfl (Nat.le_of_ble_eq_true rfl) (Nat.zero_le _) (Nat.zero_le _) rfl (k_Qv (fun s56 H => ?_))
          exact s_vret hO rfl rfl ⟨rfl, _, rfl, rfl, H⟩
      · replace H := H.2 c38
        refine s_aload_n (nx := 42) hO rfl rfl rfl ?_
        refine s_iload_n (nx := 43) hO rfl rfl rfl ?_
        refine s_iconst (x := (nI 3)) (nx := 44) hO rfl (by decide) rfl ?_
        refine s_isub (nx := 45) hO rfl rfl ?_
        refine s_callV [.int (x1 - (nI 3))] (ci := 12) (F := TX12) (N := 116) (nx := 48) hO rfl kX12_guard_655 (by rw [hcl]; rfl) (hs_o12 kc139) (w_X12_under hG H) rfl rfl (Nat.le_of_ble_eq_true rfl) (Nat.zero_le _) (Nat.zero_le _) rfl (k_Pi (fun r57 H => ?_))
        refine s_goto hO rfl ?_
        refine s_aload_n (nx := 53) hO rfl rfl rfl ?_
        refine s_getf (v := .ref (q_b G + 205)) (nx := 56) hO rfl rfl (hs_o12 kc139) rfl rfl ?_
        refine s_callV [.int r33, .int r49, .int r57, .ref (q_b G + 205)] (ci := 12) (F := TX12) (N := 116) (nx := 59) hO rfl kX12_guard_516 (by rw [hcl]; rfl) (hs_o12 kc139) (w_X12_setCall hG kc205 H) rfl rfl (Nat.le_of_ble_eq_true rfl) (Nat.zero_le _) (Nat.zero_le _) rfl (k_Qv (fun s58 H => ?_))
        refine s_aload_n (nx := 60) hO rfl rfl rfl ?_
        refine s_aload_n (nx := 61) hO rfl rfl rfl ?_
        refine s_getf (v := .int (sI s58 139 97)) (nx := 64) hO rfl rfl (hs_o12 kc139) rfl rfl ?_
        refine s_iload_n (nx := 65) hO rfl rfl rfl ?_
        refine s_callV [.int (sI s58 139 97), .int v1] (ci := 12) (F := TX12) (N := 116) (nx := 68) hO rfl kX12_guard_481 (by rw [hcl]; rfl) (hs_o12 kc139) (w_X12_step hG H) rfl rfl (Nat.le_of_ble_eq_true rfl) (Nat.zero_le _) (Nat.zero_le _) rfl (k_Pi (fun r59 H => ?_))
        refine s_istore_n (nx := 69) (l' := [(3, .int r59), (2, .int x1), (0, .ref (q_b G + 139)), (1, .int v1)]) hO rfl (by decide) rfl rfl ?_
        refine s_iload_n (nx := 70) hO rfl rfl rfl ?_
        refine s_if_ne (nx := 73) hO rfl rfl (fun c70 => ?_) (fun c70 => ?_)
        · replace H := H.1 c70
          refine s_aload_n (nx := 81) hO rfl rfl rfl ?_
          refine s_iload_n (nx := 82) hO rfl rfl rfl ?_
          refine goV (wI s58 139 97 r59) (fun s60 es60 => ?_)
          replace H := H s60 es60
          refine s_putf (nx := 85) hO rfl rfl (hs_o12 kc139) (Nat.le_of_ble_eq_true rfl) (by rw [hty]; rfl) (by rw [hty]; rfl) pX12_97 rfl ?_
          refine xEx.at (up_oI12 kc139 es60) ?_
          refine s_aload_n (nx := 86) hO rfl rfl rfl ?_
          refine s_aload_n (nx := 87) hO rfl rfl rfl ?_
          refine s_getf (v := .ref (q_b G + 205)) (nx := 90) hO rfl rfl (hs_o12 kc139) rfl rfl ?_
          refine s_iload_n (nx := 91) hO rfl rfl rfl ?_
          refine s_callV [.ref (q_b G + 205), .int v1] (ci := 12) (F := TX12) (N := 116) (nx := 94) hO rfl kX12_guard_520 (by rw [hcl]; rfl) (hs_o12 kc139) (w_X12_count hG kc205 H) rfl rfl (Nat.le_of_ble_eq_true rfl) (Nat.zero_le _) (Nat.zero_le _) rfl (k_Qv (fun s61 H => ?_))
          refine s_aload_n (nx := 95) hO rfl rfl rfl ?_
          refine s_dup (nx := 96) hO rfl rfl rfl ?_
          refine s_getf (v := .int (sI s61 139 94)) (nx := 99) hO rfl rfl (hs_o12 kc139) rfl rfl ?_
          refine s_iconst (x := 1) (nx := 100) hO rfl (by decide) rfl ?_
          refine s_iadd (nx := 101) hO rfl rfl ?_
          refine goV (wI s61 139 94 ((sI s61 139 94) + 1)) (fun s62 es62 => ?_)
          replace H := H s62 es62
          refine s_putf (nx := 104) hO rfl rfl (hs_o12 kc139) (Nat.le_of_ble_eq_true rfl) (by rw [hty]; rfl) (by rw [hty]; rfl) pX12_94 rfl ?_
          refine xEx.at (up_oI12 kc139 es62) ?_
          refine s_aload_n (nx := 105) hO rfl rfl rfl ?_
          refine s_callV [] (ci := 12) (F := TX12) (N := 116) (nx := 108) hO rfl kX12_guard_646 (by rw [hcl]; rfl) (hs_o12 kc139) (w_X12_goOn hG H) rfl rfl (Nat.le_of_ble_eq_true rfl) (Nat.zero_le _) (Nat.zero_le _) rfl (k_Qv (fun s63 H => ?_))
          exact s_vret hO rfl rfl ⟨rfl, _, rfl, rfl, H⟩
        · replace H := H.2 c70
          refine s_aload_n (nx := 74) hO rfl rfl rfl ?_
          refine s_iconst (x := (nI 2)) (nx := 75) hO rfl (by decide) rfl ?_
          refine s_iconst (x := 0) (nx := 76) hO rfl (by decide) rfl ?_
          refine s_callV [.int (nI 2), .int 0] (ci := 12) (F := TX12) (N := 116) (nx := 79) hO rfl kX12_guard_631 (by rw [hcl]; rfl) (hs_o12 kc139) (w_X12_end hG H) rfl rfl (Nat.le_of_ble_eq_true rfl) (Nat.zero_le _) (Nat.zero_le _) rfl (k_Qv (fun s64 H => ?_))
          exact s_vret hO rfl rfl ⟨rfl, _, rfl, rfl, H⟩
def W_X12_move (s : yS) (v1 : Int32) (v2 : Int32) (Q : yS → Prop) : Prop :=
 ((¬ v1 = 0 → ((¬ v1 = 1 → ((¬ v1 = (nI 2) → ((¬ v1 = (nI 3) → ((¬ v1 = (nI 4) → ((¬ v1 = (nI 5) → W_X12_pop s 
       (fun r1 s2 => vp_in r1 20100 ∧ 
       W_X12_push s2 (sI s2 210 (ix r1)) 
       (fun s4 => Q s4)))
      ∧ (v1 = (nI 5) → W_X12_pop s 
       (fun r5 s6 => vp_in (((nI 12) * ((sI s 139 111) - 1)) + v2) 480 ∧ ∀ s8 : yS, s8 = wI s6 214 (ix (((nI 12) * ((sI s 139 111) - 1)) + v2)) r5 → 
       Q s8))))
     ∧ (v1 = (nI 4) → vp_in (((nI 12) * ((sI s 139 111) - 1)) + v2) 480 ∧ 
      W_X12_push s (sI s 214 (ix (((nI 12) * ((sI s 139 111) - 1)) + v2))) 
      (fun s10 => Q s10))))
    ∧ (v1 = (nI 3) → W_X12_pop s 
     (fun r11 s12 => W_X12_pop s12 
     (fun r13 s14 => W_X12_push s14 r11 
     (fun s15 => W_X12_push s15 r13 
     (fun s16 => Q s16)))))))
   ∧ (v1 = (nI 2) → W_X12_under s 0 
    (fun r17 => W_X12_push s r17 
    (fun s18 => Q s18)))))
  ∧ (v1 = 1 → W_X12_pop s 
   (fun r19 s20 => Q s20))))
 ∧ (v1 = 0 → W_X12_push s v2 
  (fun s21 => Q s21)))
set_option maxRecDepth 100000 in
set_option maxHeartbeats 40000000 in
theorem w_X12_move {G : xG} (hG : yG G) {z : Nat} {s : yS} {v1 : Int32} {v2 : Int32} {Q : yS → Prop} (H : W_X12_move s v1 v2 Q) : xC G mX12_move [.ref (q_b G + 139), .int v1, .int v2] (hS G s) z 0 0 (yQv G z Q) := by
  have hW := hG.1
  have hcl := hG.2.1
  have hty := hG.2.2.1
  have hO : xO G mX12_move tbX12_move ptX12_move := ⟨tkX12_move, pkX12_move hcl⟩
  unfold W_X12_move at H
  refine xC.of hW (by decide) rfl (Nat.le_of_ble_eq_true rfl) ?_
  refine s_iload_n (nx := 1) hO rfl rfl rfl ?_
  refine s_if_ne (nx := 4) hO rfl rfl (fun c1 => ?_) (fun c1 => ?_)
  · replace H := H.1 c1
    refine s_iload_n (nx := 13) hO rfl rfl rfl ?_
    refine s_iconst (x := 1) (nx := 14) hO rfl (by decide) rfl ?_
    refine s_icmp_ne (nx := 17) hO rfl rfl (fun c14 => ?_) (fun c14 => ?_)
    · replace H := H.1 c14
      refine s_iload_n (nx := 26) hO rfl rfl rfl ?_
      refine s_iconst (x := (nI 2)) (nx := 27) hO rfl (by decide) rfl ?_
      refine s_icmp_ne (nx := 30) hO rfl rfl (fun c27 => ?_) (fun c27 => ?_)
      · replace H := H.1 c27
        refine s_iload_n (nx := 43) hO rfl rfl rfl ?_
        refine s_iconst (x := (nI 3)) (nx := 44) hO rfl (by decide) rfl ?_
        refine s_icmp_ne (nx := 47) hO rfl rfl (fun c44 => ?_) (fun c44 => ?_)
        · replace H := H.1 c44
          refine s_iload_n (nx := 73) hO rfl rfl rfl ?_
          refine s_iconst (x := (nI 4)) (nx := 74) hO rfl (by decide) rfl ?_
          refine s_icmp_ne (nx := 77) hO rfl rfl (fun c74 => ?_) (fun c74 => ?_)
          · replace H := H.1 c74
            refine s_iload_n (nx := 101) hO rfl rfl rfl ?_
            refine s_iconst (x := (nI 5)) (nx := 102) hO rfl (by decide) rfl ?_
            refine s_icmp_ne (nx := 105) hO rfl rfl (fun c102 => ?_) (fun c102 => ?_)
            · replace H := H.1 c102
              refine s_aload_n (nx := 129) hO rfl rfl rfl ?_
              refine s_aload_n (nx := 130) hO rfl rfl rfl ?_
              refine s_getf (v := .ref (q_b G + 210)) (nx := 133) hO rfl rfl (hs_o12 kc139) rfl rfl ?_
              refine s_aload_n (nx := 134) hO rfl rfl rfl ?_
              refine s_callV [] (ci := 12) (F := TX12) (N := 116) (nx := 137) hO rfl kX12_move_634 (by rw [hcl]; rfl) (hs_o12 kc139) (w_X12_pop hG H) rfl rfl (Nat.le_of_ble_eq_true rfl) (Nat.zero_le _) (Nat.zero_le _) rfl (k_Qi (fun r1 s2 H => ?_))
              obtain ⟨b3, H⟩ := H
              refine s_iald (nx := 138) hO rfl (hs_I kc210) b3 rfl ?_
              refine s_callV [.int (sI s2 210 (ix r1))] (ci := 12) (F := TX12) (N := 116) (nx := 141) hO rfl kX12_move_628 (by rw [hcl]; rfl) (hs_o12 kc139) (w_X12_push hG H) rfl rfl (Nat.le_of_ble_eq_true rfl) (Nat.zero_le _) (Nat.zero_le _) rfl (k_Qv (fun s4 H => ?_))
              exact s_vret hO rfl rfl ⟨rfl, _, rfl, rfl, H⟩
            · replace H := H.2 c102
              refine s_aload_n (nx := 106) hO rfl rfl rfl ?_
              refine s_getf (v := .ref (q_b G + 214)) (nx := 109) hO rfl rfl (hs_o12 kc139) rfl rfl ?_
              refine s_bipush (x := (nI 12)) (nx := 111) hO rfl (by decide) rfl ?_
              refine s_aload_n (nx := 112) hO rfl rfl rfl ?_
              refine s_getf (v := .int (sI s 139 111)) (nx := 115) hO rfl rfl (hs_o12 kc139) rfl rfl ?_
              refine s_iconst (x := 1) (nx := 116) hO rfl (by decide) rfl ?_
              refine s_isub (nx := 117) hO rfl rfl ?_
              refine s_imul (nx := 118) hO rfl rfl ?_
              refine s_iload_n (nx := 119) hO rfl rfl rfl ?_
              refine s_iadd (nx := 120) hO rfl rfl ?_
              refine s_aload_n (nx := 121) hO rfl rfl rfl ?_
              refine s_callV [] (ci := 12) (F := TX12) (N := 116) (nx := 124) hO rfl kX12_move_634 (by rw [hcl]; rfl) (hs_o12 kc139) (w_X12_pop hG H) rfl rfl (Nat.le_of_ble_eq_true rfl) (Nat.zero_le _) (Nat.zero_le _) rfl (k_Qi (fun r5 s6 H => ?_))
              obtain ⟨b7, H⟩ := H
              refine goV (wI s6 214 (ix (((nI 12) * ((sI s 139 111) - 1)) + v2)) r5) (fun s8 es8 => ?_)
              replace H := H s8 es8
              refine s_iast (nx := 125) hO rfl (hs_I kc214) b7 rfl ?_
              refine xEx.at (up_I kc214 es8) ?_
              refine s_goto hO rfl ?_
              exact s_vret hO rfl rfl ⟨rfl, _, rfl, rfl, H⟩
          · replace H := H.2 c74
            refine s_aload_n (nx := 78) hO rfl rfl rfl ?_
            refine s_aload_n (nx := 79) hO rfl rfl rfl ?_
            refine s_getf (v := .ref (q_b G + 214)) (nx := 82) hO rfl rfl (hs_o12 kc139) rfl rfl ?_
            refine s_bipush (x := (nI 12)) (nx := 84) hO rfl (by decide) rfl ?_
            refine s_aload_n (nx := 85) hO rfl rfl rfl ?_
            refine s_getf (v := .int (sI s 139 111)) (nx := 88) hO rfl rfl (hs_o12 kc139) rfl rfl ?_
            refine s_iconst (x := 1) (nx := 89) hO rfl (by decide) rfl ?_
            refine s_isub (nx := 90) hO rfl rfl ?_
            refine s_imul (nx := 91) hO rfl rfl ?_
            refine s_iload_n (nx := 92) hO rfl rfl rfl ?_
            refine s_iadd (nx := 93) hO rfl rfl ?_
            obtain ⟨b9, H⟩ := H
            refine s_iald (nx := 94) hO rfl (hs_I kc214) b9 rfl ?_
            refine s_callV [.int (sI s 214 (ix (((nI 12) * ((sI s 139 111) - 1)) + v2)))] (ci := 12) (F := TX12) (N := 116) (nx := 97) hO rfl kX12_move_628 (by rw [hcl]; rfl) (hs_o12 kc139) (w_X12_push hG H) rfl rfl (Nat.le_of_ble_eq_true rfl) (Nat.zero_le _) (Nat.zero_le _) rfl (k_Qv (fun s10 H => ?_))
            refine s_goto hO rfl ?_
            exact s_vret hO rfl rfl ⟨rfl, _, rfl, rfl, H⟩
        · replace H := H.2 c44
          refine s_aload_n (nx := 48) hO rfl rfl rfl ?_
          refine s_callV [] (ci := 12) (F := TX12) (N := 116) (nx := 51) hO rfl kX12_move_634 (by rw [hcl]; rfl) (hs_o12 kc139) (w_X12_pop hG H) rfl rfl (Nat.le_of_ble_eq_true rfl) (Nat.zero_le _) (Nat.zero_le _) rfl (k_Qi (fun r11 s12 H => ?_))
          refine s_istore_n (nx := 52) (l' := [(3, .int r11), (0, .ref (q_b G + 139)), (1, .int v1), (2, .int v2)]) hO rfl (by decide) rfl rfl ?_
          refine s_aload_n (nx := 53) hO rfl rfl rfl ?_
          refine s_callV [] (ci := 12) (F := TX12) (N := 116) (nx := 56) hO rfl kX12_move_634 (by rw [hcl]; rfl) (hs_o12 kc139) (w_X12_pop hG H) rfl rfl (Nat.le_of_ble_eq_true rfl) (Nat.zero_le _) (Nat.zero_le _) rfl (k_Qi (fun r13 s14 H => ?_))
          refine s_istore (nx := 58) (l' := [(4, .int r13), (3, .int r11), (0, .ref (q_b G + 139)), (1, .int v1), (2, .int v2)]) hO rfl (by decide) rfl rfl ?_
          refine s_aload_n (nx := 59) hO rfl rfl rfl ?_
          refine s_iload_n (nx := 60) hO rfl rfl rfl ?_
          refine s_callV [.int r11] (ci := 12) (F := TX12) (N := 116) (nx := 63) hO rfl kX12_move_628 (by rw [hcl]; rfl) (hs_o12 kc139) (w_X12_push hG H) rfl rfl (Nat.le_of_ble_eq_true rfl) (Nat.zero_le _) (Nat.zero_le _) rfl (k_Qv (fun s15 H => ?_))
          refine s_aload_n (nx := 64) hO rfl rfl rfl ?_
          refine s_iload (nx := 66) hO rfl rfl rfl ?_
          refine s_callV [.int r13] (ci := 12) (F := TX12) (N := 116) (nx := 69) hO rfl kX12_move_628 (by rw [hcl]; rfl) (hs_o12 kc139) (w_X12_push hG H) rfl rfl (Nat.le_of_ble_eq_true rfl) (Nat.zero_le _) (Nat.zero_le _) rfl (k_Qv (fun s16 H => ?_))
          refine s_goto hO rfl ?_
          exact s_vret hO rfl rfl ⟨rfl, _, rfl, rfl, H⟩
      · replace H := H.2 c27
        refine s_aload_n (nx := 31) hO rfl rfl rfl ?_
        refine s_aload_n (nx := 32) hO rfl rfl rfl ?_
        refine s_iconst (x := 0) (nx := 33) hO rfl (by decide) rfl ?_
        refine s_callV [.int 0] (ci := 12) (F := TX12) (N := 116) (nx := 36) hO rfl kX12_move_655 (by rw [hcl]; rfl) (hs_o12 kc139) (w_X12_under hG H) rfl rfl (Nat.le_of_ble_eq_true rfl) (Nat.zero_le _) (Nat.zero_le _) rfl (k_Pi (fun r17 H => ?_))
        refine s_callV [.int r17] (ci := 12) (F := TX12) (N := 116) (nx := 39) hO rfl kX12_move_628 (by rw [hcl]; rfl) (hs_o12 kc139) (w_X12_push hG H) rfl rfl (Nat.le_of_ble_eq_true rfl) (Nat.zero_le _) (Nat.zero_le _) rfl (k_Qv (fun s18 H => ?_))
        refine s_goto hO rfl ?_
        exact s_vret hO rfl rfl ⟨rfl, _, rfl, rfl, H⟩
    · replace H := H.2 c14
      refine s_aload_n (nx := 18) hO rfl rfl rfl ?_
      refine s_callV [] (ci := 12) (F := TX12) (N := 116) (nx := 21) hO rfl kX12_move_634 (by rw [hcl]; rfl) (hs_o12 kc139) (w_X12_pop hG H) rfl rfl (Nat.le_of_ble_eq_true rfl) (Nat.zero_le _) (Nat.zero_le _) rfl (k_Qi (fun r19 s20 H => ?_))
      refine s_istore_n (nx := 22) (l' := [(3, .int r19), (0, .ref (q_b G + 139)), (1, .int v1), (2, .int v2)]) hO rfl (by decide) rfl rfl ?_
      refine s_goto hO rfl ?_
      exact s_vret hO rfl rfl ⟨rfl, _, rfl, rfl, H⟩
  · replace H := H.2 c1
    refine s_aload_n (nx := 5) hO rfl rfl rfl ?_
    refine s_iload_n (nx := 6) hO rfl rfl rfl ?_
    refine s_callV [.int v2] (ci := 12) (F := TX12) (N := 116) (nx := 9) hO rfl kX12_move_628 (by rw [hcl]; rfl) (hs_o12 kc139) (w_X12_push hG H) rfl rfl (Nat.le_of_ble_eq_true rfl) (Nat.zero_le _) (Nat.zero_le _) rfl (k_Qv (fun s21 H => ?_))
    refine s_goto hO rfl ?_
    exact s_vret hO rfl rfl ⟨rfl, _, rfl, rfl, H⟩
def W_X12_perform (s : yS) (v1 : Int32) (v2 : Int32) (Q : yS → Prop) : Prop :=
 ∀ P64 : Prop, ((∀ P149 : Prop, ((((¬ v1 = (nI 21) → ∀ P174 : Prop, ((((¬ v1 = (nI 23) → W_X12_reach s 0 
      (fun s1 => Q s1))
     ∧ (v1 = (nI 23) → W_X12_reach s 1 
      (fun s2 => Q s2)))) → P174) → 
    ((v1 = (nI 22) → P174)
    ∧ (¬ v1 = (nI 22) → ((¬ v1 = (nI 23) → ((¬ v1 = (nI 25) → ((¬ v1 = (nI 26) → ((¬ v1 = (nI 27) → ((¬ v1 = (nI 28) → W_X12_move s v1 v2 
          (fun s3 => W_X12_goOn s3 
          (fun s4 => Q s4)))
         ∧ (v1 = (nI 28) → W_X12_pop s 
          (fun r5 s6 => W_X12_raise s6 r5 
          (fun s7 => Q s7)))))
        ∧ (v1 = (nI 27) → W_X12_comeBack s 
         (fun s8 => Q s8))))
       ∧ (v1 = (nI 26) → W_X12_callOut s v2 
        (fun s9 => Q s9))))
      ∧ (v1 = (nI 25) → W_X12_callIn s v2 
       (fun s10 => Q s10))))
     ∧ (v1 = (nI 23) → P174)))))
   ∧ (v1 = (nI 21) → W_X12_newRow s 
    (fun s11 => Q s11)))) → P149) → 
  ((v1 ≤ (nI 17) → P149)
  ∧ (¬ v1 ≤ (nI 17) → (((nI 21) ≤ v1 → P149)
   ∧ (¬ (nI 21) ≤ v1 → ∀ P113 : Int32 → yS → Prop, (∀ (y12 : Int32) (s13 : yS), (((y12 = 0 → vp_in ((sI s13 139 111) - 1) 40 ∧ 
      vp_in ((sI s13 139 111) - 1) 40 ∧ ∀ s16 : yS, s16 = wI s13 212 (ix ((sI s13 139 111) - 1)) ((sI s13 212 (ix ((sI s13 139 111) - 1))) + 1) → 
      Q s16)
     ∧ (¬ y12 = 0 → vp_in ((sI s13 139 111) - 1) 40 ∧ ∀ s18 : yS, s18 = wI s13 212 (ix ((sI s13 139 111) - 1)) v2 → 
      Q s18))) → P113 y12 s13) → 
    ((v1 = (nI 18) → P113 1 s)
    ∧ (¬ v1 = (nI 18) → W_X12_pop s 
     (fun r19 s20 => ∀ P94 : Int32 → Prop, (∀ (y21 : Int32), (∀ P105 : Int32 → Int32 → Prop, (∀ (y22 : Int32) (y23 : Int32), (((¬ y23 = y22 → P113 0 s20)
       ∧ (y23 = y22 → P113 1 s20))) → P105 y22 y23) → 
      ((¬ v1 = (nI 19) → P105 0 y21)
      ∧ (v1 = (nI 19) → P105 1 y21))) → P94 y21) → 
     ((r19 = 0 → P94 0)
     ∧ (¬ r19 = 0 → P94 1)))))))))) → P64) → 
 ((v1 ≤ (nI 5) → P64)
 ∧ (¬ v1 ≤ (nI 5) → (((nI 18) ≤ v1 → P64)
  ∧ (¬ (nI 18) ≤ v1 → W_X12_pop s 
   (fun r24 s25 => W_X12_pop s25 
   (fun r26 s27 => ∀ P46 : Prop, ((W_X12_worked s27 v1 r26 r24 
    (fun r28 => W_X12_push s27 r28 
    (fun s29 => W_X12_goOn s29 
    (fun s30 => Q s30)))) → P46) → 
   ∀ P34 : Prop, ((((¬ r24 = 0 → P46)
    ∧ (r24 = 0 → W_X12_raise s27 1 
     (fun s31 => Q s31)))) → P34) → 
   ((v1 = (nI 9) → P34)
   ∧ (¬ v1 = (nI 9) → ((¬ v1 = (nI 10) → P46)
    ∧ (v1 = (nI 10) → P34))))))))))
set_option maxRecDepth 100000 in
set_option maxHeartbeats 40000000 in
theorem w_X12_perform {G : xG} (hG : yG G) {z : Nat} {s : yS} {v1 : Int32} {v2 : Int32} {Q : yS → Prop} (H : W_X12_perform s v1 v2 Q) : xC G mX12_perform [.ref (q_b G + 139), .int v1, .int v2] (hS G s) z 0 0 (yQv G z Q) := by
  have hW := hG.1
  have hcl := hG.2.1
  have hty := hG.2.2.1
  have hO : xO G mX12_perform tbX12_perform ptX12_perform := ⟨tkX12_perform, pkX12_perform hcl⟩
  unfold W_X12_perform at H
  refine xC.of hW (by decide) rfl (Nat.le_of_ble_eq_true rfl) ?_
  refine s_iload_n (nx := 1) hO rfl rfl rfl ?_
  refine s_iconst (x := (nI 5)) (nx := 2) hO rfl (by decide) rfl ?_
  refine goK (H (xEx G mX12_perform 64 [(0, .ref (q_b G + 139)), (1, .int v1), (2, .int v2)] [] (hS G s) z 0 0 (yQv G z Q)) (fun H => ?_)) (fun H => ?_)
  · show xEx G mX12_perform 64 [(0, .ref (q_b G + 139)), (1, .int v1), (2, .int v2)] [] (hS G s) z 0 0 (yQv G z Q)
    refine s_iload_n (nx := 65) hO rfl rfl rfl ?_
    refine s_bipush (x := (nI 17)) (nx := 67) hO rfl (by decide) rfl ?_
    refine goK (H (xEx G mX12_perform 149 [(0, .ref (q_b G + 139)), (1, .int v1), (2, .int v2)] [] (hS G s) z 0 0 (yQv G z Q)) (fun H => ?_)) (fun H => ?_)
    · show xEx G mX12_perform 149 [(0, .ref (q_b G + 139)), (1, .int v1), (2, .int v2)] [] (hS G s) z 0 0 (yQv G z Q)
      refine s_iload_n (nx := 150) hO rfl rfl rfl ?_
      refine s_bipush (x := (nI 21)) (nx := 152) hO rfl (by decide) rfl ?_
      refine s_icmp_ne (nx := 155) hO rfl rfl (fun c152 => ?_) (fun c152 => ?_)
      · replace H := H.1 c152
        refine s_iload_n (nx := 163) hO rfl rfl rfl ?_
        refine s_bipush (x := (nI 22)) (nx := 165) hO rfl (by decide) rfl ?_
        refine goK (H (xEx G mX12_perform 174 [(0, .ref (q_b G + 139)), (1, .int v1)] [] (hS G s) z 0 0 (yQv G z Q)) (fun H => ?_)) (fun H => ?_)
        · show xEx G mX12_perform 174 [(0, .ref (q_b G + 139)), (1, .int v1)] [] (hS G s) z 0 0 (yQv G z Q)
          refine s_aload_n (nx := 175) hO rfl rfl rfl ?_
          refine s_iload_n (nx := 176) hO rfl rfl rfl ?_
          refine s_bipush (x := (nI 23)) (nx := 178) hO rfl (by decide) rfl ?_
          refine s_icmp_ne (nx := 181) hO rfl rfl (fun c178 => ?_) (fun c178 => ?_)
          · replace H := H.1 c178
            refine s_iconst (x := 0) (nx := 186) hO rfl (by decide) rfl ?_
            refine s_callV [.int 0] (ci := 12) (F := TX12) (N := 116) (nx := 189) hO rfl kX12_perform_670 (by rw [hcl]; rfl) (hs_o12 kc139) (w_X12_reach hG H) rfl rfl (Nat.le_of_ble_eq_true rfl) (Nat.zero_le _) (Nat.zero_le _) rfl (k_Qv (fun s1 H => ?_))
            refine s_goto hO rfl ?_
            exact s_vret hO rfl rfl ⟨rfl, _, rfl, rfl, H⟩
          · replace H := H.2 c178
            refine s_iconst (x := 1) (nx := 182) hO rfl (by decide) rfl ?_
            refine s_goto hO rfl ?_
            refine s_callV [.int 1] (ci := 12) (F := TX12) (N := 116) (nx := 189) hO rfl kX12_perform_670 (by rw [hcl]; rfl) (hs_o12 kc139) (w_X12_reach hG H) rfl rfl (Nat.le_of_ble_eq_true rfl) (Nat.zero_le _) (Nat.zero_le _) rfl (k_Qv (fun s2 H => ?_))
            refine s_goto hO rfl ?_
            exact s_vret hO rfl rfl ⟨rfl, _, rfl, rfl, H⟩
        refine s_icmp_eq (nx := 168) hO rfl rfl (fun c165 => ?_) (fun c165 => ?_)
        · replace H := H.1 c165
          exact xEx.loc (x_sub1 (List.Mem.head _) (x_sub1 (List.Mem.tail _ (List.Mem.head _)) x_sub0)) H
        · replace H := H.2 c165
          refine s_iload_n (nx := 169) hO rfl rfl rfl ?_
          refine s_bipush (x := (nI 23)) (nx := 171) hO rfl (by decide) rfl ?_
          refine s_icmp_ne (nx := 174) hO rfl rfl (fun c171 => ?_) (fun c171 => ?_)
          · replace H := H.1 c171
            refine s_iload_n (nx := 193) hO rfl rfl rfl ?_
            refine s_bipush (x := (nI 25)) (nx := 195) hO rfl (by decide) rfl ?_
            refine s_icmp_ne (nx := 198) hO rfl rfl (fun c195 => ?_) (fun c195 => ?_)
            · replace H := H.1 c195
              refine s_iload_n (nx := 207) hO rfl rfl rfl ?_
              refine s_bipush (x := (nI 26)) (nx := 209) hO rfl (by decide) rfl ?_
              refine s_icmp_ne (nx := 212) hO rfl rfl (fun c209 => ?_) (fun c209 => ?_)
              · replace H := H.1 c209
                refine s_iload_n (nx := 221) hO rfl rfl rfl ?_
                refine s_bipush (x := (nI 27)) (nx := 223) hO rfl (by decide) rfl ?_
                refine s_icmp_ne (nx := 226) hO rfl rfl (fun c223 => ?_) (fun c223 => ?_)
                · replace H := H.1 c223
                  refine s_iload_n (nx := 234) hO rfl rfl rfl ?_
                  refine s_bipush (x := (nI 28)) (nx := 236) hO rfl (by decide) rfl ?_
                  refine s_icmp_ne (nx := 239) hO rfl rfl (fun c236 => ?_) (fun c236 => ?_)
                  · replace H := H.1 c236
                    refine s_aload_n (nx := 251) hO rfl rfl rfl ?_
                    refine s_iload_n (nx := 252) hO rfl rfl rfl ?_
                    refine s_iload_n (nx := 253) hO rfl rfl rfl ?_
                    refine s_callV [.int v1, .int v2] (ci := 12) (F := TX12) (N := 116) (nx := 256) hO rfl kX12_perform_683 (by rw [hcl]; rfl) (hs_o12 kc139) (w_X12_move hG H) rfl rfl (Nat.le_of_ble_eq_true rfl) (Nat.zero_le _) (Nat.zero_le _) rfl (k_Qv (fun s3 H => ?_))
                    refine s_aload_n (nx := 257) hO rfl rfl rfl ?_
                    refine s_callV [] (ci := 12) (F := TX12) (N := 116) (nx := 260) hO rfl kX12_perform_646 (by rw [hcl]; rfl) (hs_o12 kc139) (w_X12_goOn hG H) rfl rfl (Nat.le_of_ble_eq_true rfl) (Nat.zero_le _) (Nat.zero_le _) rfl (k_Qv (fun s4 H => ?_))
                    exact s_vret hO rfl rfl ⟨rfl, _, rfl, rfl, H⟩
                  · replace H := H.2 c236
                    refine s_aload_n (nx := 240) hO rfl rfl rfl ?_
                    refine s_aload_n (nx := 241) hO rfl rfl rfl ?_
                    refine s_callV [] (ci := 12) (F := TX12) (N := 116) (nx := 244) hO rfl kX12_perform_634 (by rw [hcl]; rfl) (hs_o12 kc139) (w_X12_pop hG H) rfl rfl (Nat.le_of_ble_eq_true rfl) (Nat.zero_le _) (Nat.zero_le _) rfl (k_Qi (fun r5 s6 H => ?_))
                    refine s_callV [.int r5] (ci := 12) (F := TX12) (N := 116) (nx := 247) hO rfl kX12_perform_640 (by rw [hcl]; rfl) (hs_o12 kc139) (w_X12_raise hG H) rfl rfl (Nat.le_of_ble_eq_true rfl) (Nat.zero_le _) (Nat.zero_le _) rfl (k_Qv (fun s7 H => ?_))
                    refine s_goto hO rfl ?_
                    exact s_vret hO rfl rfl ⟨rfl, _, rfl, rfl, H⟩
                · replace H := H.2 c223
                  refine s_aload_n (nx := 227) hO rfl rfl rfl ?_
                  refine s_callV [] (ci := 12) (F := TX12) (N := 116) (nx := 230) hO rfl kX12_perform_680 (by rw [hcl]; rfl) (hs_o12 kc139) (w_X12_comeBack hG H) rfl rfl (Nat.le_of_ble_eq_true rfl) (Nat.zero_le _) (Nat.zero_le _) rfl (k_Qv (fun s8 H => ?_))
                  refine s_goto hO rfl ?_
                  exact s_vret hO rfl rfl ⟨rfl, _, rfl, rfl, H⟩
              · replace H := H.2 c209
                refine s_aload_n (nx := 213) hO rfl rfl rfl ?_
                refine s_iload_n (nx := 214) hO rfl rfl rfl ?_
                refine s_callV [.int v2] (ci := 12) (F := TX12) (N := 116) (nx := 217) hO rfl kX12_perform_677 (by rw [hcl]; rfl) (hs_o12 kc139) (w_X12_callOut hG H) rfl rfl (Nat.le_of_ble_eq_true rfl) (Nat.zero_le _) (Nat.zero_le _) rfl (k_Qv (fun s9 H => ?_))
                refine s_goto hO rfl ?_
                exact s_vret hO rfl rfl ⟨rfl, _, rfl, rfl, H⟩
            · replace H := H.2 c195
              refine s_aload_n (nx := 199) hO rfl rfl rfl ?_
              refine s_iload_n (nx := 200) hO rfl rfl rfl ?_
              refine s_callV [.int v2] (ci := 12) (F := TX12) (N := 116) (nx := 203) hO rfl kX12_perform_674 (by rw [hcl]; rfl) (hs_o12 kc139) (w_X12_callIn hG H) rfl rfl (Nat.le_of_ble_eq_true rfl) (Nat.zero_le _) (Nat.zero_le _) rfl (k_Qv (fun s10 H => ?_))
              refine s_goto hO rfl ?_
              exact s_vret hO rfl rfl ⟨rfl, _, rfl, rfl, H⟩
          · replace H := H.2 c171
            exact xEx.loc (x_sub1 (List.Mem.head _) (x_sub1 (List.Mem.tail _ (List.Mem.head _)) x_sub0)) H
      · replace H := H.2 c152
        refine s_aload_n (nx := 156) hO rfl rfl rfl ?_
        refine s_callV [] (ci := 12) (F := TX12) (N := 116) (nx := 159) hO rfl kX12_perform_667 (by rw [hcl]; rfl) (hs_o12 kc139) (w_X12_newRow hG H) rfl rfl (Nat.le_of_ble_eq_true rfl) (Nat.zero_le _) (Nat.zero_le _) rfl (k_Qv (fun s11 H => ?_))
        refine s_goto hO rfl ?_
        exact s_vret hO rfl rfl ⟨rfl, _, rfl, rfl, H⟩
    refine s_icmp_le (nx := 70) hO rfl rfl (fun c67 => ?_) (fun c67 => ?_)
    · replace H := H.1 c67
      exact xEx.loc (x_sub1 (List.Mem.head _) (x_sub1 (List.Mem.tail _ (List.Mem.head _)) (x_sub1 (List.Mem.tail _ (List.Mem.tail _ (List.Mem.head _))) x_sub0))) H
    · replace H := H.2 c67
      refine s_iload_n (nx := 71) hO rfl rfl rfl ?_
      refine s_bipush (x := (nI 21)) (nx := 73) hO rfl (by decide) rfl ?_
      refine s_icmp_ge (nx := 76) hO rfl rfl (fun c73 => ?_) (fun c73 => ?_)
      · replace H := H.1 c73
        exact xEx.loc (x_sub1 (List.Mem.head _) (x_sub1 (List.Mem.tail _ (List.Mem.head _)) (x_sub1 (List.Mem.tail _ (List.Mem.tail _ (List.Mem.head _))) x_sub0))) H
      · replace H := H.2 c73
        refine s_iload_n (nx := 77) hO rfl rfl rfl ?_
        refine s_bipush (x := (nI 18)) (nx := 79) hO rfl (by decide) rfl ?_
        refine goK (H (fun (y12 : Int32) (s13 : yS) => xEx G mX12_perform 113 [(0, .ref (q_b G + 139)), (2, .int v2)] [.int y12] (hS G s13) z 0 0 (yQv G z Q)) (fun y12 s13 H => ?_)) (fun H => ?_)
        · show xEx G mX12_perform 113 [(0, .ref (q_b G + 139)), (2, .int v2)] [.int y12] (hS G s13) z 0 0 (yQv G z Q)
          refine s_istore_n (nx := 114) (l' := [(3, .int y12), (0, .ref (q_b G + 139)), (2, .int v2)]) hO rfl (by decide) rfl rfl ?_
          refine s_aload_n (nx := 115) hO rfl rfl rfl ?_
          refine s_getf (v := .ref (q_b G + 212)) (nx := 118) hO rfl rfl (hs_o12 kc139) rfl rfl ?_
          refine s_aload_n (nx := 119) hO rfl rfl rfl ?_
          refine s_getf (v := .int (sI s13 139 111)) (nx := 122) hO rfl rfl (hs_o12 kc139) rfl rfl ?_
          refine s_iconst (x := 1) (nx := 123) hO rfl (by decide) rfl ?_
          refine s_isub (nx := 124) hO rfl rfl ?_
          refine s_iload_n (nx := 125) hO rfl rfl rfl ?_
          refine s_if_eq (nx := 128) hO rfl rfl (fun c125 => ?_) (fun c125 => ?_)
          · replace H := H.1 c125
            refine s_aload_n (nx := 133) hO rfl rfl rfl ?_
            refine s_getf (v := .ref (q_b G + 212)) (nx := 136) hO rfl rfl (hs_o12 kc139) rfl rfl ?_
            refine s_aload_n (nx := 137) hO rfl rfl rfl ?_
            refine s_getf (v := .int (sI s13 139 111)) (nx := 140) hO rfl rfl (hs_o12 kc139) rfl rfl ?_
            refine s_iconst (x := 1) (nx := 141) hO rfl (by decide) rfl ?_
            refine s_isub (nx := 142) hO rfl rfl ?_
            obtain ⟨b14, H⟩ := H
            refine s_iald (nx := 143) hO rfl (hs_I kc212) b14 rfl ?_
            refine s_iconst (x := 1) (nx := 144) hO rfl (by decide) rfl ?_
            refine s_iadd (nx := 145) hO rfl rfl ?_
            obtain ⟨b15, H⟩ := H
            refine goV (wI s13 212 (ix ((sI s13 139 111) - 1)) ((sI s13 212 (ix ((sI s13 139 111) - 1))) + 1)) (fun s16 es16 => ?_)
            replace H := H s16 es16
            refine s_iast (nx := 146) hO rfl (hs_I kc212) b15 rfl ?_
            refine xEx.at (up_I kc212 es16) ?_
            refine s_goto hO rfl ?_
            exact s_vret hO rfl rfl ⟨rfl, _, rfl, rfl, H⟩
          · replace H := H.2 c125
            refine s_iload_n (nx := 129) hO rfl rfl rfl ?_
            refine s_goto hO rfl ?_
            obtain ⟨b17, H⟩ := H
            refine goV (wI s13 212 (ix ((sI s13 139 111) - 1)) v2) (fun s18 es18 => ?_)
            replace H := H s18 es18
            refine s_iast (nx := 146) hO rfl (hs_I kc212) b17 rfl ?_
            refine xEx.at (up_I kc212 es18) ?_
            refine s_goto hO rfl ?_
            exact s_vret hO rfl rfl ⟨rfl, _, rfl, rfl, H⟩
        refine s_icmp_eq (nx := 82) hO rfl rfl (fun c79 => ?_) (fun c79 => ?_)
        · replace H := H.1 c79
          refine s_iconst (x := 1) (nx := 109) hO rfl (by decide) rfl ?_
          refine s_goto hO rfl ?_
          exact xEx.loc (x_sub1 (List.Mem.head _) (x_sub1 (List.Mem.tail _ (List.Mem.tail _ (List.Mem.head _))) x_sub0)) H
        · replace H := H.2 c79
          refine s_aload_n (nx := 83) hO rfl rfl rfl ?_
          refine s_callV [] (ci := 12) (F := TX12) (N := 116) (nx := 86) hO rfl kX12_perform_634 (by rw [hcl]; rfl) (hs_o12 kc139) (w_X12_pop hG H) rfl rfl (Nat.le_of_ble_eq_true rfl) (Nat.zero_le _) (Nat.zero_le _) rfl (k_Qi (fun r19 s20 H => ?_))
          refine goK (H (fun (y21 : Int32) => xEx G mX12_perform 94 [(0, .ref (q_b G + 139)), (1, .int v1), (2, .int v2)] [.int y21] (hS G s20) z 0 0 (yQv G z Q)) (fun y21 H => ?_)) (fun H => ?_)
          · show xEx G mX12_perform 94 [(0, .ref (q_b G + 139)), (1, .int v1), (2, .int v2)] [.int y21] (hS G s20) z 0 0 (yQv G z Q)
            refine s_iload_n (nx := 95) hO rfl rfl rfl ?_
            refine s_bipush (x := (nI 19)) (nx := 97) hO rfl (by decide) rfl ?_
            refine goK (H (fun (y22 : Int32) (y23 : Int32) => xEx G mX12_perform 105 [(0, .ref (q_b G + 139)), (2, .int v2)] [.int y22, .int y23] (hS G s20) z 0 0 (yQv G z Q)) (fun y22 y23 H => ?_)) (fun H => ?_)
            · show xEx G mX12_perform 105 [(0, .ref (q_b G + 139)), (2, .int v2)] [.int y22, .int y23] (hS G s20) z 0 0 (yQv G z Q)
              refine s_icmp_ne (nx := 108) hO rfl rfl (fun c105 => ?_) (fun c105 => ?_)
              · replace H := H.1 c105
                refine s_iconst (x := 0) (nx := 113) hO rfl (by decide) rfl ?_
                exact xEx.loc (x_sub1 (List.Mem.head _) (x_sub1 (List.Mem.tail _ (List.Mem.head _)) x_sub0)) H
              · replace H := H.2 c105
                refine s_iconst (x := 1) (nx := 109) hO rfl (by decide) rfl ?_
                refine s_goto hO rfl ?_
                exact xEx.loc (x_sub1 (List.Mem.head _) (x_sub1 (List.Mem.tail _ (List.Mem.head _)) x_sub0)) H
            refine s_icmp_ne (nx := 100) hO rfl rfl (fun c97 => ?_) (fun c97 => ?_)
            · replace H := H.1 c97
              refine s_iconst (x := 0) (nx := 105) hO rfl (by decide) rfl ?_
              exact xEx.loc (x_sub1 (List.Mem.head _) (x_sub1 (List.Mem.tail _ (List.Mem.tail _ (List.Mem.head _))) x_sub0)) H
            · replace H := H.2 c97
              refine s_iconst (x := 1) (nx := 101) hO rfl (by decide) rfl ?_
              refine s_goto hO rfl ?_
              exact xEx.loc (x_sub1 (List.Mem.head _) (x_sub1 (List.Mem.tail _ (List.Mem.tail _ (List.Mem.head _))) x_sub0)) H
          refine s_if_eq (nx := 89) hO rfl rfl (fun c86 => ?_) (fun c86 => ?_)
          · replace H := H.1 c86
            refine s_iconst (x := 0) (nx := 94) hO rfl (by decide) rfl ?_
            exact xEx.loc (x_sub1 (List.Mem.head _) (x_sub1 (List.Mem.tail _ (List.Mem.head _)) (x_sub1 (List.Mem.tail _ (List.Mem.tail _ (List.Mem.head _))) x_sub0))) H
          · replace H := H.2 c86
            refine s_iconst (x := 1) (nx := 90) hO rfl (by decide) rfl ?_
            refine s_goto hO rfl ?_
            exact xEx.loc (x_sub1 (List.Mem.head _) (x_sub1 (List.Mem.tail _ (List.Mem.head _)) (x_sub1 (List.Mem.tail _ (List.Mem.tail _ (List.Mem.head _))) x_sub0))) H
  refine s_icmp_le (nx := 5) hO rfl rfl (fun c2 => ?_) (fun c2 => ?_)
  · replace H := H.1 c2
    exact xEx.loc (x_sub1 (List.Mem.head _) (x_sub1 (List.Mem.tail _ (List.Mem.head _)) (x_sub1 (List.Mem.tail _ (List.Mem.tail _ (List.Mem.head _))) x_sub0))) H
  · replace H := H.2 c2
    refine s_iload_n (nx := 6) hO rfl rfl rfl ?_
    refine s_bipush (x := (nI 18)) (nx := 8) hO rfl (by decide) rfl ?_
    refine s_icmp_ge (nx := 11) hO rfl rfl (fun c8 => ?_) (fun c8 => ?_)
    · replace H := H.1 c8
      exact xEx.loc (x_sub1 (List.Mem.head _) (x_sub1 (List.Mem.tail _ (List.Mem.head _)) (x_sub1 (List.Mem.tail _ (List.Mem.tail _ (List.Mem.head _))) x_sub0))) H
    · replace H := H.2 c8
      refine s_aload_n (nx := 12) hO rfl rfl rfl ?_
      refine s_callV [] (ci := 12) (F := TX12) (N := 116) (nx := 15) hO rfl kX12_perform_634 (by rw [hcl]; rfl) (hs_o12 kc139) (w_X12_pop hG H) rfl rfl (Nat.le_of_ble_eq_true rfl) (Nat.zero_le _) (Nat.zero_le _) rfl (k_Qi (fun r24 s25 H => ?_))
      refine s_istore_n (nx := 16) (l' := [(3, .int r24), (0, .ref (q_b G + 139)), (1, .int v1), (2, .int v2)]) hO rfl (by decide) rfl rfl ?_
      refine s_aload_n (nx := 17) hO rfl rfl rfl ?_
      refine s_callV [] (ci := 12) (F := TX12) (N := 116) (nx := 20) hO rfl kX12_perform_634 (by rw [hcl]; rfl) (hs_o12 kc139) (w_X12_pop hG H) rfl rfl (Nat.le_of_ble_eq_true rfl) (Nat.zero_le _) (Nat.zero_le _) rfl (k_Qi (fun r26 s27 H => ?_))
      refine s_istore (nx := 22) (l' := [(4, .int r26), (3, .int r24), (0, .ref (q_b G + 139)), (1, .int v1), (2, .int v2)]) hO rfl (by decide) rfl rfl ?_
      refine s_iload_n (nx := 23) hO rfl rfl rfl ?_
      refine s_bipush (x := (nI 9)) (nx := 25) hO rfl (by decide) rfl ?_
      refine goK (H (xEx G mX12_perform 46 [(0, .ref (q_b G + 139)), (1, .int v1), (3, .int r24), (4, .int r26)] [] (hS G s27) z 0 0 (yQv G z Q)) (fun H => ?_)) (fun H => ?_)
      · show xEx G mX12_perform 46 [(0, .ref (q_b G + 139)), (1, .int v1), (3, .int r24), (4, .int r26)] [] (hS G s27) z 0 0 (yQv G z Q)
        refine s_aload_n (nx := 47) hO rfl rfl rfl ?_
        refine s_iload_n (nx := 48) hO rfl rfl rfl ?_
        refine s_iload (nx := 50) hO rfl rfl rfl ?_
        refine s_iload_n (nx := 51) hO rfl rfl rfl ?_
        refine s_callS [.int v1, .int r26, .int r24] (nx := 54) hO rfl kX12_perform_664 (w_X12_worked hG H) rfl rfl (Nat.le_of_ble_eq_true rfl) (Nat.zero_le _) (Nat.zero_le _) rfl (k_Pi (fun r28 H => ?_))
        refine s_callV [.int r28] (ci := 12) (F := TX12) (N := 116) (nx := 57) hO rfl kX12_perform_628 (by rw [hcl]; rfl) (hs_o12 kc139) (w_X12_push hG H) rfl rfl (Nat.le_of_ble_eq_true rfl) (Nat.zero_le _) (Nat.zero_le _) rfl (k_Qv (fun s29 H => ?_))
        refine s_aload_n (nx := 58) hO rfl rfl rfl ?_
        refine s_callV [] (ci := 12) (F := TX12) (N := 116) (nx := 61) hO rfl kX12_perform_646 (by rw [hcl]; rfl) (hs_o12 kc139) (w_X12_goOn hG H) rfl rfl (Nat.le_of_ble_eq_true rfl) (Nat.zero_le _) (Nat.zero_le _) rfl (k_Qv (fun s30 H => ?_))
        refine s_goto hO rfl ?_
        exact s_vret hO rfl rfl ⟨rfl, _, rfl, rfl, H⟩
      refine goK (H (xEx G mX12_perform 34 [(0, .ref (q_b G + 139)), (1, .int v1), (3, .int r24), (4, .int r26)] [] (hS G s27) z 0 0 (yQv G z Q)) (fun H => ?_)) (fun H => ?_)
      · show xEx G mX12_perform 34 [(0, .ref (q_b G + 139)), (1, .int v1), (3, .int r24), (4, .int r26)] [] (hS G s27) z 0 0 (yQv G z Q)
        refine s_iload_n (nx := 35) hO rfl rfl rfl ?_
        refine s_if_ne (nx := 38) hO rfl rfl (fun c35 => ?_) (fun c35 => ?_)
        · replace H := H.1 c35
          exact xEx.loc (x_sub1 (List.Mem.head _) (x_sub1 (List.Mem.tail _ (List.Mem.head _)) (x_sub1 (List.Mem.tail _ (List.Mem.tail _ (List.Mem.head _))) (x_sub1 (List.Mem.tail _ (List.Mem.tail _ (List.Mem.tail _ (List.Mem.head _)))) x_sub0)))) H
        · replace H := H.2 c35
          refine s_aload_n (nx := 39) hO rfl rfl rfl ?_
          refine s_iconst (x := 1) (nx := 40) hO rfl (by decide) rfl ?_
          refine s_callV [.int 1] (ci := 12) (F := TX12) (N := 116) (nx := 43) hO rfl kX12_perform_640 (by rw [hcl]; rfl) (hs_o12 kc139) (w_X12_raise hG H) rfl rfl (Nat.le_of_ble_eq_true rfl) (Nat.zero_le _) (Nat.zero_le _) rfl (k_Qv (fun s31 H => ?_))
          refine s_goto hO rfl ?_
          refine s_goto hO rfl ?_
          exact s_vret hO rfl rfl ⟨rfl, _, rfl, rfl, H⟩
      refine s_icmp_eq (nx := 28) hO rfl rfl (fun c25 => ?_) (fun c25 => ?_)
      · replace H := H.1 c25
        exact xEx.loc (x_sub1 (List.Mem.tail _ (List.Mem.tail _ (List.Mem.head _))) (x_sub1 (List.Mem.tail _ (List.Mem.tail _ (List.Mem.tail _ (List.Mem.head _)))) (x_sub1 (List.Mem.tail _ (List.Mem.head _)) (x_sub1 (List.Mem.head _) x_sub0)))) H
      · replace H := H.2 c25
        refine s_iload_n (nx := 29) hO rfl rfl rfl ?_
        refine s_bipush (x := (nI 10)) (nx := 31) hO rfl (by decide) rfl ?_
        refine s_icmp_ne (nx := 34) hO rfl rfl (fun c31 => ?_) (fun c31 => ?_)
        · replace H := H.1 c31
          exact xEx.loc (x_sub1 (List.Mem.tail _ (List.Mem.tail _ (List.Mem.head _))) (x_sub1 (List.Mem.tail _ (List.Mem.tail _ (List.Mem.tail _ (List.Mem.head _)))) (x_sub1 (List.Mem.tail _ (List.Mem.head _)) (x_sub1 (List.Mem.head _) x_sub0)))) H
        · replace H := H.2 c31
          exact xEx.loc (x_sub1 (List.Mem.tail _ (List.Mem.tail _ (List.Mem.head _))) (x_sub1 (List.Mem.tail _ (List.Mem.tail _ (List.Mem.tail _ (List.Mem.head _)))) (x_sub1 (List.Mem.tail _ (List.Mem.head _)) (x_sub1 (List.Mem.head _) x_sub0)))) H
def W_X12_runIt (s : yS) (v1 : Int32) (v2 : Int32) (Q : Int32 → yS → Prop) : Prop :=
 ∀ s1 : yS, s1 = wI s 139 0 0 → 
 ((v1 = 0 → vp_in 0 3 ∧ 
  (((sI s1 177 (ix 0)) = 0 → Q (-1) s1)
  ∧ (¬ (sI s1 177 (ix 0)) = 0 → ((v2 < 0 → Q (-1) s1)
   ∧ (¬ v2 < 0 → ((v2 ≤ (nI 20000) → ((v1 = 0 → ∀ s3 : yS, s3 = wI s1 139 112 0 → 
      ∀ s4 : yS, s4 = wI s3 139 89 1 → 
      ∀ s5 : yS, s5 = wI s4 139 90 (nI 3) → 
      ∀ s6 : yS, s6 = wI s5 139 91 0 → 
      ∀ s7 : yS, s7 = wI s6 139 92 0 → 
      ∀ s8 : yS, s8 = wI s7 139 93 0 → 
      ∀ s9 : yS, s9 = wI s8 139 94 0 → 
      ∀ s10 : yS, s10 = wI s9 139 95 0 → 
      ∀ s11 : yS, s11 = wI s10 139 105 0 → 
      vp_in 0 20100 ∧ ∀ s13 : yS, s13 = wI s11 210 (ix 0) 0 → 
      ∀ s14 : yS, s14 = wI s13 139 97 1 → 
      ∀ P102 : Int32 → yS → Prop, (∀ (x15 : Int32) (s16 : yS), ((((nI 6) ≤ x15 → ∀ s17 : yS, s17 = wI s16 139 111 0 → 
        W_X12_enter s17 0 
        (fun s18 => ∀ P136 : yS → Prop, (∀ (s19 : yS), ((((sI s19 139 111) ≤ 0 → ∀ s20 : yS, s20 = wI s19 139 111 0 → 
          Q (sI s20 139 90) s20)
         ∧ (¬ (sI s19 139 111) ≤ 0 → ((v2 ≤ (sI s19 139 92) → ∀ s21 : yS, s21 = wI s19 139 111 0 → 
           Q (sI s21 139 90) s21)
          ∧ (¬ v2 ≤ (sI s19 139 92) → W_X12_here s19 
           (fun r22 => vp_in r22 14400 ∧ 
           ∀ x24 : Int32, x24 = (sI s19 186 (ix r22)) → 
           W_X12_here s19 
           (fun r25 => vp_in r25 14400 ∧ 
           ∀ x27 : Int32, x27 = (sI s19 187 (ix r25)) → 
           ∀ P204 : yS → Prop, (∀ (s28 : yS), ((((sI s28 139 111) ≤ (sI s28 139 96) → ∀ s29 : yS, s29 = wI s28 139 96 (sI s28 139 96) → 
             P136 s29)
            ∧ (¬ (sI s28 139 111) ≤ (sI s28 139 96) → ∀ s30 : yS, s30 = wI s28 139 96 (sI s28 139 111) → 
             P136 s30))) → P204 s28) → 
           ((¬ x24 = (nI 29) → ∀ s31 : yS, s31 = wI s19 139 92 ((sI s19 139 92) + 1) → 
            W_X12_perform s31 x24 x27 
            (fun s32 => P204 s32))
           ∧ (x24 = (nI 29) → W_X12_guard s19 x27 
            (fun s33 => P204 s33)))))))))) → P136 s19) → 
        ∀ s34 : yS, s34 = wI s18 139 96 1 → 
        P136 s34))
       ∧ (¬ (nI 6) ≤ x15 → vp_in x15 6 ∧ ∀ s36 : yS, s36 = wI s16 205 (ix x15) 0 → 
        ∀ x37 : Int32, x37 = (x15 + 1) → 
        P102 x37 s36))) → P102 x15 s16) → 
      P102 0 s14)
     ∧ (¬ v1 = 0 → ∀ s38 : yS, s38 = wI s1 139 112 1 → 
      ∀ s39 : yS, s39 = wI s38 139 89 1 → 
      ∀ s40 : yS, s40 = wI s39 139 90 (nI 3) → 
      ∀ s41 : yS, s41 = wI s40 139 91 0 → 
      ∀ s42 : yS, s42 = wI s41 139 92 0 → 
      ∀ s43 : yS, s43 = wI s42 139 93 0 → 
      ∀ s44 : yS, s44 = wI s43 139 94 0 → 
      ∀ s45 : yS, s45 = wI s44 139 95 0 → 
      ∀ s46 : yS, s46 = wI s45 139 105 0 → 
      vp_in 0 20100 ∧ ∀ s48 : yS, s48 = wI s46 210 (ix 0) 0 → 
      ∀ s49 : yS, s49 = wI s48 139 97 1 → 
      ∀ P102_52 : Int32 → yS → Prop, (∀ (x50 : Int32) (s51 : yS), ((((nI 6) ≤ x50 → ∀ s53 : yS, s53 = wI s51 139 111 0 → 
        W_X12_enter s53 0 
        (fun s54 => ∀ P136_56 : yS → Prop, (∀ (s55 : yS), ((((sI s55 139 111) ≤ 0 → ∀ s57 : yS, s57 = wI s55 139 111 0 → 
          Q (sI s57 139 90) s57)
         ∧ (¬ (sI s55 139 111) ≤ 0 → ((v2 ≤ (sI s55 139 92) → ∀ s58 : yS, s58 = wI s55 139 111 0 → 
           Q (sI s58 139 90) s58)
          ∧ (¬ v2 ≤ (sI s55 139 92) → W_X12_here s55 
           (fun r59 => vp_in r59 14400 ∧ 
           ∀ x61 : Int32, x61 = (sI s55 186 (ix r59)) → 
           W_X12_here s55 
           (fun r62 => vp_in r62 14400 ∧ 
           ∀ x64 : Int32, x64 = (sI s55 187 (ix r62)) → 
           ∀ P204_66 : yS → Prop, (∀ (s65 : yS), ((((sI s65 139 111) ≤ (sI s65 139 96) → ∀ s67 : yS, s67 = wI s65 139 96 (sI s65 139 96) → 
             P136_56 s67)
            ∧ (¬ (sI s65 139 111) ≤ (sI s65 139 96) → ∀ s68 : yS, s68 = wI s65 139 96 (sI s65 139 111) → 
             P136_56 s68))) → P204_66 s65) → 
           ((¬ x61 = (nI 29) → ∀ s69 : yS, s69 = wI s55 139 92 ((sI s55 139 92) + 1) → 
            W_X12_perform s69 x61 x64 
            (fun s70 => P204_66 s70))
           ∧ (x61 = (nI 29) → W_X12_guard s55 x64 
            (fun s71 => P204_66 s71)))))))))) → P136_56 s55) → 
        ∀ s72 : yS, s72 = wI s54 139 96 1 → 
        P136_56 s72))
       ∧ (¬ (nI 6) ≤ x50 → vp_in x50 6 ∧ ∀ s74 : yS, s74 = wI s51 205 (ix x50) 0 → 
        ∀ x75 : Int32, x75 = (x50 + 1) → 
        P102_52 x75 s74))) → P102_52 x50 s51) → 
      P102_52 0 s49)))
    ∧ (¬ v2 ≤ (nI 20000) → Q (-1) s1)))))))
 ∧ (¬ v1 = 0 → vp_in 1 3 ∧ 
  (((sI s1 177 (ix 1)) = 0 → Q (-1) s1)
  ∧ (¬ (sI s1 177 (ix 1)) = 0 → ((v2 < 0 → Q (-1) s1)
   ∧ (¬ v2 < 0 → ((v2 ≤ (nI 20000) → ((v1 = 0 → ∀ s77 : yS, s77 = wI s1 139 112 0 → 
      ∀ s78 : yS, s78 = wI s77 139 89 1 → 
      ∀ s79 : yS, s79 = wI s78 139 90 (nI 3) → 
      ∀ s80 : yS, s80 = wI s79 139 91 0 → 
      ∀ s81 : yS, s81 = wI s80 139 92 0 → 
      ∀ s82 : yS, s82 = wI s81 139 93 0 → 
      ∀ s83 : yS, s83 = wI s82 139 94 0 → 
      ∀ s84 : yS, s84 = wI s83 139 95 0 → 
      ∀ s85 : yS, s85 = wI s84 139 105 0 → 
      vp_in 0 20100 ∧ ∀ s87 : yS, s87 = wI s85 210 (ix 0) 0 → 
      ∀ s88 : yS, s88 = wI s87 139 97 1 → 
      ∀ P102_91 : Int32 → yS → Prop, (∀ (x89 : Int32) (s90 : yS), ((((nI 6) ≤ x89 → ∀ s92 : yS, s92 = wI s90 139 111 0 → 
        W_X12_enter s92 0 
        (fun s93 => ∀ P136_95 : yS → Prop, (∀ (s94 : yS), ((((sI s94 139 111) ≤ 0 → ∀ s96 : yS, s96 = wI s94 139 111 0 → 
          Q (sI s96 139 90) s96)
         ∧ (¬ (sI s94 139 111) ≤ 0 → ((v2 ≤ (sI s94 139 92) → ∀ s97 : yS, s97 = wI s94 139 111 0 → 
           Q (sI s97 139 90) s97)
          ∧ (¬ v2 ≤ (sI s94 139 92) → W_X12_here s94 
           (fun r98 => vp_in r98 14400 ∧ 
           ∀ x100 : Int32, x100 = (sI s94 186 (ix r98)) → 
           W_X12_here s94 
           (fun r101 => vp_in r101 14400 ∧ 
           ∀ x103 : Int32, x103 = (sI s94 187 (ix r101)) → 
           ∀ P204_105 : yS → Prop, (∀ (s104 : yS), ((((sI s104 139 111) ≤ (sI s104 139 96) → ∀ s106 : yS, s106 = wI s104 139 96 (sI s104 139 96) → 
             P136_95 s106)
            ∧ (¬ (sI s104 139 111) ≤ (sI s104 139 96) → ∀ s107 : yS, s107 = wI s104 139 96 (sI s104 139 111) → 
             P136_95 s107))) → P204_105 s104) → 
           ((¬ x100 = (nI 29) → ∀ s108 : yS, s108 = wI s94 139 92 ((sI s94 139 92) + 1) → 
            W_X12_perform s108 x100 x103 
            (fun s109 => P204_105 s109))
           ∧ (x100 = (nI 29) → W_X12_guard s94 x103 
            (fun s110 => P204_105 s110)))))))))) → P136_95 s94) → 
        ∀ s111 : yS, s111 = wI s93 139 96 1 → 
        P136_95 s111))
       ∧ (¬ (nI 6) ≤ x89 → vp_in x89 6 ∧ ∀ s113 : yS, s113 = wI s90 205 (ix x89) 0 → 
        ∀ x114 : Int32, x114 = (x89 + 1) → 
        P102_91 x114 s113))) → P102_91 x89 s90) → 
      P102_91 0 s88)
     ∧ (¬ v1 = 0 → ∀ s115 : yS, s115 = wI s1 139 112 1 → 
      ∀ s116 : yS, s116 = wI s115 139 89 1 → 
      ∀ s117 : yS, s117 = wI s116 139 90 (nI 3) → 
      ∀ s118 : yS, s118 = wI s117 139 91 0 → 
      ∀ s119 : yS, s119 = wI s118 139 92 0 → 
      ∀ s120 : yS, s120 = wI s119 139 93 0 → 
      ∀ s121 : yS, s121 = wI s120 139 94 0 → 
      ∀ s122 : yS, s122 = wI s121 139 95 0 → 
      ∀ s123 : yS, s123 = wI s122 139 105 0 → 
      vp_in 0 20100 ∧ ∀ s125 : yS, s125 = wI s123 210 (ix 0) 0 → 
      ∀ s126 : yS, s126 = wI s125 139 97 1 → 
      ∀ P102_129 : Int32 → yS → Prop, (∀ (x127 : Int32) (s128 : yS), ((((nI 6) ≤ x127 → ∀ s130 : yS, s130 = wI s128 139 111 0 → 
        W_X12_enter s130 0 
        (fun s131 => ∀ P136_133 : yS → Prop, (∀ (s132 : yS), ((((sI s132 139 111) ≤ 0 → ∀ s134 : yS, s134 = wI s132 139 111 0 → 
          Q (sI s134 139 90) s134)
         ∧ (¬ (sI s132 139 111) ≤ 0 → ((v2 ≤ (sI s132 139 92) → ∀ s135 : yS, s135 = wI s132 139 111 0 → 
           Q (sI s135 139 90) s135)
          ∧ (¬ v2 ≤ (sI s132 139 92) → W_X12_here s132 
           (fun r136 => vp_in r136 14400 ∧ 
           ∀ x138 : Int32, x138 = (sI s132 186 (ix r136)) → 
           W_X12_here s132 
           (fun r139 => vp_in r139 14400 ∧ 
           ∀ x141 : Int32, x141 = (sI s132 187 (ix r139)) → 
           ∀ P204_143 : yS → Prop, (∀ (s142 : yS), ((((sI s142 139 111) ≤ (sI s142 139 96) → ∀ s144 : yS, s144 = wI s142 139 96 (sI s142 139 96) → 
             P136_133 s144)
            ∧ (¬ (sI s142 139 111) ≤ (sI s142 139 96) → ∀ s145 : yS, s145 = wI s142 139 96 (sI s142 139 111) → 
             P136_133 s145))) → P204_143 s142) → 
           ((¬ x138 = (nI 29) → ∀ s146 : yS, s146 = wI s132 139 92 ((sI s132 139 92) + 1) → 
            W_X12_perform s146 x138 x141 
            (fun s147 => P204_143 s147))
           ∧ (x138 = (nI 29) → W_X12_guard s132 x141 
            (fun s148 => P204_143 s148)))))))))) → P136_133 s132) → 
        ∀ s149 : yS, s149 = wI s131 139 96 1 → 
        P136_133 s149))
       ∧ (¬ (nI 6) ≤ x127 → vp_in x127 6 ∧ ∀ s151 : yS, s151 = wI s128 205 (ix x127) 0 → 
        ∀ x152 : Int32, x152 = (x127 + 1) → 
        P102_129 x152 s151))) → P102_129 x127 s128) → 
      P102_129 0 s126)))
    ∧ (¬ v2 ≤ (nI 20000) → Q (-1) s1))))))))
set_option maxRecDepth 100000 in
set_option maxHeartbeats 40000000 in
theorem w_X12_runIt {G : xG} (hG : yG G) {z : Nat} {s : yS} {v1 : Int32} {v2 : Int32} {Q : Int32 → yS → Prop} (H : W_X12_runIt s v1 v2 Q) : xC G mX12_runIt [.ref (q_b G + 139), .int v1, .int v2] (hS G s) z 0 0 (yQi G z Q) := by
  have hW := hG.1
  have hcl := hG.2.1
  have hty := hG.2.2.1
  have hO : xO G mX12_runIt tbX12_runIt ptX12_runIt := ⟨tkX12_runIt, pkX12_runIt hcl⟩
  unfold W_X12_runIt at H
  refine xC.of hW (by decide) rfl (Nat.le_of_ble_eq_true rfl) ?_
  refine s_aload_n (nx := 1) hO rfl rfl rfl ?_
  refine s_iconst (x := 0) (nx := 2) hO rfl (by decide) rfl ?_
  refine goV (wI s 139 0 0) (fun s1 es1 => ?_)
  replace H := H s1 es1
  refine s_putf (nx := 5) hO rfl rfl (hs_o12 kc139) (Nat.le_of_ble_eq_true rfl) (by rw [hty]; rfl) (by rw [hty]; rfl) pX12_0 rfl ?_
  refine xEx.at (up_oI12 kc139 es1) ?_
  refine s_aload_n (nx := 6) hO rfl rfl rfl ?_
  refine s_getf (v := .ref (q_b G + 177)) (nx := 9) hO rfl rfl (hs_o12 kc139) rfl rfl ?_
  refine s_iload_n (nx := 10) hO rfl rfl rfl ?_
  refine s_if_eq (nx := 13) hO rfl rfl (fun c10 => ?_) (fun c10 => ?_)
  · replace H := H.1 c10
    refine s_iconst (x := 0) (nx := 18) hO rfl (by decide) rfl ?_
    obtain ⟨b2, H⟩ := H
    refine s_zald (nx := 19) hO rfl (hs_Z kc177) b2 rfl ?_
    refine s_if_eq (nx := 22) hO rfl rfl (fun c19 => ?_) (fun c19 => ?_)
    · replace H := H.1 c19
      refine s_iconst (x := (-1)) (nx := 34) hO rfl (by decide) rfl ?_
      exact s_iret hO rfl rfl rfl ⟨rfl, _, _, rfl, rfl, H⟩
    · replace H := H.2 c19
      refine s_iload_n (nx := 23) hO rfl rfl rfl ?_
      refine s_if_lt (nx := 26) hO rfl rfl (fun c23 => ?_) (fun c23 => ?_)
      · replace H := H.1 c23
        refine s_iconst (x := (-1)) (nx := 34) hO rfl (by decide) rfl ?_
        exact s_iret hO rfl rfl rfl ⟨rfl, _, _, rfl, rfl, H⟩
      · replace H := H.2 c23
        refine s_iload_n (nx := 27) hO rfl rfl rfl ?_
        refine s_sipush (x := (nI 20000)) (nx := 30) hO rfl (by decide) rfl ?_
        refine s_icmp_le (nx := 33) hO rfl rfl (fun c30 => ?_) (fun c30 => ?_)
        · replace H := H.1 c30
          refine s_aload_n (nx := 36) hO rfl rfl rfl ?_
          refine s_iload_n (nx := 37) hO rfl rfl rfl ?_
          refine s_if_eq (nx := 40) hO rfl rfl (fun c37 => ?_) (fun c37 => ?_)
          · replace H := H.1 c37
            refine s_iconst (x := 0) (nx := 45) hO rfl (by decide) rfl ?_
            refine goV (wI s1 139 112 0) (fun s3 es3 => ?_)
            replace H := H s3 es3
            refine s_putf (nx := 48) hO rfl rfl (hs_o12 kc139) (Nat.le_of_ble_eq_true rfl) (by rw [hty]; rfl) (by rw [hty]; rfl) pX12_112 rfl ?_
            refine xEx.at (up_oI12 kc139 es3) ?_
            refine s_aload_n (nx := 49) hO rfl rfl rfl ?_
            refine s_iconst (x := 1) (nx := 50) hO rfl (by decide) rfl ?_
            refine goV (wI s3 139 89 1) (fun s4 es4 => ?_)
            replace H := H s4 es4
            refine s_putf (nx := 53) hO rfl rfl (hs_o12 kc139) (Nat.le_of_ble_eq_true rfl) (by rw [hty]; rfl) (by rw [hty]; rfl) pX12_89 rfl ?_
            refine xEx.at (up_oI12 kc139 es4) ?_
            refine s_aload_n (nx := 54) hO rfl rfl rfl ?_
            refine s_iconst (x := (nI 3)) (nx := 55) hO rfl (by decide) rfl ?_
            refine goV (wI s4 139 90 (nI 3)) (fun s5 es5 => ?_)
            replace H := H s5 es5
            refine s_putf (nx := 58) hO rfl rfl (hs_o12 kc139) (Nat.le_of_ble_eq_true rfl) (by rw [hty]; rfl) (by rw [hty]; rfl) pX12_90 rfl ?_
            refine xEx.at (up_oI12 kc139 es5) ?_
            refine s_aload_n (nx := 59) hO rfl rfl rfl ?_
            refine s_iconst (x := 0) (nx := 60) hO rfl (by decide) rfl ?_
            refine goV (wI s5 139 91 0) (fun s6 es6 => ?_)
            replace H := H s6 es6
            refine s_putf (nx := 63) hO rfl rfl (hs_o12 kc139) (Nat.le_of_ble_eq_true rfl) (by rw [hty]; rfl) (by rw [hty]; rfl) pX12_91 rfl ?_
            refine xEx.at (up_oI12 kc139 es6) ?_
            refine s_aload_n (nx := 64) hO rfl rfl rfl ?_
            refine s_iconst (x := 0) (nx := 65) hO rfl (by decide) rfl ?_
            refine goV (wI s6 139 92 0) (fun s7 es7 => ?_)
            replace H := H s7 es7
            refine s_putf (nx := 68) hO rfl rfl (hs_o12 kc139) (Nat.le_of_ble_eq_true rfl) (by rw [hty]; rfl) (by rw [hty]; rfl) pX12_92 rfl ?_
            refine xEx.at (up_oI12 kc139 es7) ?_
            refine s_aload_n (nx := 69) hO rfl rfl rfl ?_
            refine s_iconst (x := 0) (nx := 70) hO rfl (by decide) rfl ?_
            refine goV (wI s7 139 93 0) (fun s8 es8 => ?_)
            replace H := H s8 es8
            refine s_putf (nx := 73) hO rfl rfl (hs_o12 kc139) (Nat.le_of_ble_eq_true rfl) (by rw [hty]; rfl) (by rw [hty]; rfl) pX12_93 rfl ?_
            refine xEx.at (up_oI12 kc139 es8) ?_
            refine s_aload_n (nx := 74) hO rfl rfl rfl ?_
            refine s_iconst (x := 0) (nx := 75) hO rfl (by decide) rfl ?_
            refine goV (wI s8 139 94 0) (fun s9 es9 => ?_)
            replace H := H s9 es9
            refine s_putf (nx := 78) hO rfl rfl (hs_o12 kc139) (Nat.le_of_ble_eq_true rfl) (by rw [hty]; rfl) (by rw [hty]; rfl) pX12_94 rfl ?_
            refine xEx.at (up_oI12 kc139 es9) ?_
            refine s_aload_n (nx := 79) hO rfl rfl rfl ?_
            refine s_iconst (x := 0) (nx := 80) hO rfl (by decide) rfl ?_
            refine goV (wI s9 139 95 0) (fun s10 es10 => ?_)
            replace H := H s10 es10
            refine s_putf (nx := 83) hO rfl rfl (hs_o12 kc139) (Nat.le_of_ble_eq_true rfl) (by rw [hty]; rfl) (by rw [hty]; rfl) pX12_95 rfl ?_
            refine xEx.at (up_oI12 kc139 es10) ?_
            refine s_aload_n (nx := 84) hO rfl rfl rfl ?_
            refine s_iconst (x := 0) (nx := 85) hO rfl (by decide) rfl ?_
            refine goV (wI s10 139 105 0) (fun s11 es11 => ?_)
            replace H := H s11 es11
            refine s_putf (nx := 88) hO rfl rfl (hs_o12 kc139) (Nat.le_of_ble_eq_true rfl) (by rw [hty]; rfl) (by rw [hty]; rfl) pX12_105 rfl ?_
            refine xEx.at (up_oI12 kc139 es11) ?_
            refine s_aload_n (nx := 89) hO rfl rfl rfl ?_
            refine s_getf (v := .ref (q_b G + 210)) (nx := 92) hO rfl rfl (hs_o12 kc139) rfl rfl ?_
            refine s_iconst (x := 0) (nx := 93) hO rfl (by decide) rfl ?_
            refine s_iconst (x := 0) (nx := 94) hO rfl (by decide) rfl ?_
            obtain ⟨b12, H⟩ := H
            refine goV (wI s11 210 (ix 0) 0) (fun s13 es13 => ?_)
            replace H := H s13 es13
            refine s_iast (nx := 95) hO rfl (hs_I kc210) b12 rfl ?_
            refine xEx.at (up_I kc210 es13) ?_
            refine s_aload_n (nx := 96) hO rfl rfl rfl ?_
            refine s_iconst (x := 1) (nx := 97) hO rfl (by decide) rfl ?_
            refine goV (wI s13 139 97 1) (fun s14 es14 => ?_)
            replace H := H s14 es14
            refine s_putf (nx := 100) hO rfl rfl (hs_o12 kc139) (Nat.le_of_ble_eq_true rfl) (by rw [hty]; rfl) (by rw [hty]; rfl) pX12_97 rfl ?_
            refine xEx.at (up_oI12 kc139 es14) ?_
            refine s_iconst (x := 0) (nx := 101) hO rfl (by decide) rfl ?_
            refine goK (H (fun (x15 : Int32) (s16 : yS) => xEx G mX12_runIt 102 [(0, .ref (q_b G + 139)), (2, .int v2), (3, .int x15)] [] (hS G s16) z 0 0 (yQi G z Q)) (fun x15 s16 H => ?_)) (fun H => ?_)
            · show xEx G mX12_runIt 102 [(0, .ref (q_b G + 139)), (2, .int v2), (3, .int x15)] [] (hS G s16) z 0 0 (yQi G z Q)
              refine s_iload_n (nx := 103) hO rfl rfl rfl ?_
              refine s_bipush (x := (nI 6)) (nx := 105) hO rfl (by decide) rfl ?_
              refine s_icmp_ge (nx := 108) hO rfl rfl (fun c105 => ?_) (fun c105 => ?_)
              · replace H := H.1 c105
                refine s_aload_n (nx := 122) hO rfl rfl rfl ?_
                refine s_iconst (x := 0) (nx := 123) hO rfl (by decide) rfl ?_
                refine goV (wI s16 139 111 0) (fun s17 es17 => ?_)
                replace H := H s17 es17
                refine s_putf (nx := 126) hO rfl rfl (hs_o12 kc139) (Nat.le_of_ble_eq_true rfl) (by rw [hty]; rfl) (by rw [hty]; rfl) pX12_111 rfl ?_
                refine xEx.at (up_oI12 kc139 es17) ?_
                refine s_aload_n (nx := 127) hO rfl rfl rfl ?_
                refine s_iconst (x := 0) (nx := 128) hO rfl (by decide) rfl ?_
                refine s_callV [.int 0] (ci := 12) (F := TX12) (N := 116) (nx := 131) hO rfl kX12_runIt_649 (by rw [hcl]; rfl) (hs_o12 kc139) (w_X12_enter hG H) rfl rfl (Nat.le_of_ble_eq_true rfl) (Nat.zero_le _) (Nat.zero_le _) rfl (k_Qv (fun s18 H => ?_))
                refine s_aload_n (nx := 132) hO rfl rfl rfl ?_
                refine s_iconst (x := 1) (nx := 133) hO rfl (by decide) rfl ?_
                refine goK (H (fun (s19 : yS) => xEx G mX12_runIt 136 [(0, .ref (q_b G + 139)), (2, .int v2)] [] (hS G s19) z 0 0 (yQi G z Q)) (fun s19 H => ?_)) (fun H => ?_)
                · show xEx G mX12_runIt 136 [(0, .ref (q_b G + 139)), (2, .int v2)] [] (hS G s19) z 0 0 (yQi G z Q)
                  refine s_aload_n (nx := 137) hO rfl rfl rfl ?_
                  refine s_getf (v := .int (sI s19 139 111)) (nx := 140) hO rfl rfl (hs_o12 kc139) rfl rfl ?_
                  refine s_if_le (nx := 143) hO rfl rfl (fun c140 => ?_) (fun c140 => ?_)
                  · replace H := H.1 c140
                    refine s_aload_n (nx := 234) hO rfl rfl rfl ?_
                    refine s_iconst (x := 0) (nx := 235) hO rfl (by decide) rfl ?_
                    refine goV (wI s19 139 111 0) (fun s20 es20 => ?_)
                    replace H := H s20 es20
                    refine s_putf (nx := 238) hO rfl rfl (hs_o12 kc139) (Nat.le_of_ble_eq_true rfl) (by rw [hty]; rfl) (by rw [hty]; rfl) pX12_111 rfl ?_
                    refine xEx.at (up_oI12 kc139 es20) ?_
                    refine s_aload_n (nx := 239) hO rfl rfl rfl ?_
                    refine s_getf (v := .int (sI s20 139 90)) (nx := 242) hO rfl rfl (hs_o12 kc139) rfl rfl ?_
                    exact s_iret hO rfl rfl rfl ⟨rfl, _, _, rfl, rfl, H⟩
                  · replace H := H.2 c140
                    refine s_aload_n (nx := 144) hO rfl rfl rfl ?_
                    refine s_getf (v := .int (sI s19 139 92)) (nx := 147) hO rfl rfl (hs_o12 kc139) rfl rfl ?_
                    refine s_iload_n (nx := 148) hO rfl rfl rfl ?_
                    refine s_icmp_ge (nx := 151) hO rfl rfl (fun c148 => ?_) (fun c148 => ?_)
                    · replace H := H.1 c148
                      refine s_aload_n (nx := 234) hO rfl rfl rfl ?_
                      refine s_iconst (x := 0) (nx := 235) hO rfl (by decide) rfl ?_
                      refine goV (wI s19 139 111 0) (fun s21 es21 => ?_)
                      replace H := H s21 es21
                      refine s_putf (nx := 238) hO rfl rfl (hs_o12 kc139) (Nat.le_of_ble_eq_true rfl) (by rw [hty]; rfl) (by rw [hty]; rfl) pX12_111 rfl ?_
                      refine xEx.at (up_oI12 kc139 es21) ?_
                      refine s_aload_n (nx := 239) hO rfl rfl rfl ?_
                      refine s_getf (v := .int (sI s21 139 90)) (nx := 242) hO rfl rfl (hs_o12 kc139) rfl rfl ?_
                      exact s_iret hO rfl rfl rfl ⟨rfl, _, _, rfl, rfl, H⟩
                    · replace H := H.2 c148
                      refine s_aload_n (nx := 152) hO rfl rfl rfl ?_
                      refine s_getf (v := .ref (q_b G + 186)) (nx := 155) hO rfl rfl (hs_o12 kc139) rfl rfl ?_
                      refine s_aload_n (nx := 156) hO rfl rfl rfl ?_
                      refine s_callV [] (ci := 12) (F := TX12) (N := 116) (nx := 159) hO rfl kX12_runIt_692 (by rw [hcl]; rfl) (hs_o12 kc139) (w_X12_here hG H) rfl rfl (Nat.le_of_ble_eq_true rfl) (Nat.zero_le _) (Nat.zero_le _) rfl (k_Pi (fun r22 H => ?_))
                      obtain ⟨b23, H⟩ := H
                      refine s_iald (nx := 160) hO rfl (hs_I kc186) b23 rfl ?_
                      refine goV ((sI s19 186 (ix r22))) (fun x24 ex24 => ?_)
                      replace H := H x24 ex24
                      refine e_istore_n (nx := 161) (l' := [(3, .int x24), (0, .ref (q_b G + 139)), (2, .int v2)]) ex24 hO rfl (by decide) rfl rfl ?_
                      refine s_aload_n (nx := 162) hO rfl rfl rfl ?_
                      refine s_getf (v := .ref (q_b G + 187)) (nx := 165) hO rfl rfl (hs_o12 kc139) rfl rfl ?_
                      refine s_aload_n (nx := 166) hO rfl rfl rfl ?_
                      refine s_callV [] (ci := 12) (F := TX12) (N := 116) (nx := 169) hO rfl kX12_runIt_692 (by rw [hcl]; rfl) (hs_o12 kc139) (w_X12_here hG H) rfl rfl (Nat.le_of_ble_eq_true rfl) (Nat.zero_le _) (Nat.zero_le _) rfl (k_Pi (fun r25 H => ?_))
                      obtain ⟨b26, H⟩ := H
                      refine s_iald (nx := 170) hO rfl (hs_I kc187) b26 rfl ?_
                      refine goV ((sI s19 187 (ix r25))) (fun x27 ex27 => ?_)
                      replace H := H x27 ex27
                      refine e_istore (nx := 172) (l' := [(4, .int x27), (3, .int x24), (0, .ref (q_b G + 139)), (2, .int v2)]) ex27 hO rfl (by decide) rfl rfl ?_
                      refine s_iload_n (nx := 173) hO rfl rfl rfl ?_
                      refine s_bipush (x := (nI 29)) (nx := 175) hO rfl (by decide) rfl ?_
                      refine goK (H (fun (s28 : yS) => xEx G mX12_runIt 204 [(0, .ref (q_b G + 139)), (2, .int v2)] [] (hS G s28) z 0 0 (yQi G z Q)) (fun s28 H => ?_)) (fun H => ?_)
                      · show xEx G mX12_runIt 204 [(0, .ref (q_b G + 139)), (2, .int v2)] [] (hS G s28) z 0 0 (yQi G z Q)
                        refine s_aload_n (nx := 205) hO rfl rfl rfl ?_
                        refine s_aload_n (nx := 206) hO rfl rfl rfl ?_
                        refine s_getf (v := .int (sI s28 139 111)) (nx := 209) hO rfl rfl (hs_o12 kc139) rfl rfl ?_
                        refine s_aload_n (nx := 210) hO rfl rfl rfl ?_
                        refine s_getf (v := .int (sI s28 139 96)) (nx := 213) hO rfl rfl (hs_o12 kc139) rfl rfl ?_
                        refine s_icmp_le (nx := 216) hO rfl rfl (fun c213 => ?_) (fun c213 => ?_)
                        · replace H := H.1 c213
                          refine s_aload_n (nx := 224) hO rfl rfl rfl ?_
                          refine s_getf (v := .int (sI s28 139 96)) (nx := 227) hO rfl rfl (hs_o12 kc139) rfl rfl ?_
                          refine goV (wI s28 139 96 (sI s28 139 96)) (fun s29 es29 => ?_)
                          replace H := H s29 es29
                          refine s_putf (nx := 230) hO rfl rfl (hs_o12 kc139) (Nat.le_of_ble_eq_true rfl) (by rw [hty]; rfl) (by rw [hty]; rfl) pX12_96 rfl ?_
                          refine xEx.at (up_oI12 kc139 es29) ?_
                          refine s_goto hO rfl ?_
                          exact xEx.loc (x_sub1 (List.Mem.head _) (x_sub1 (List.Mem.tail _ (List.Mem.head _)) x_sub0)) H
                        · replace H := H.2 c213
                          refine s_aload_n (nx := 217) hO rfl rfl rfl ?_
                          refine s_getf (v := .int (sI s28 139 111)) (nx := 220) hO rfl rfl (hs_o12 kc139) rfl rfl ?_
                          refine s_goto hO rfl ?_
                          refine goV (wI s28 139 96 (sI s28 139 111)) (fun s30 es30 => ?_)
                          replace H := H s30 es30
                          refine s_putf (nx := 230) hO rfl rfl (hs_o12 kc139) (Nat.le_of_ble_eq_true rfl) (by rw [hty]; rfl) (by rw [hty]; rfl) pX12_96 rfl ?_
                          refine xEx.at (up_oI12 kc139 es30) ?_
                          refine s_goto hO rfl ?_
                          exact xEx.loc (x_sub1 (List.Mem.head _) (x_sub1 (List.Mem.tail _ (List.Mem.head _)) x_sub0)) H
                      refine s_icmp_ne (nx := 178) hO rfl rfl (fun c175 => ?_) (fun c175 => ?_)
                      · replace H := H.1 c175
                        refine s_aload_n (nx := 188) hO rfl rfl rfl ?_
                        refine s_dup (nx := 189) hO rfl rfl rfl ?_
                        refine s_getf (v := .int (sI s19 139 92)) (nx := 192) hO rfl rfl (hs_o12 kc139) rfl rfl ?_
                        refine s_iconst (x := 1) (nx := 193) hO rfl (by decide) rfl ?_
                        refine s_iadd (nx := 194) hO rfl rfl ?_
                        refine goV (wI s19 139 92 ((sI s19 139 92) + 1)) (fun s31 es31 => ?_)
                        replace H := H s31 es31
                        refine s_putf (nx := 197) hO rfl rfl (hs_o12 kc139) (Nat.le_of_ble_eq_true rfl) (by rw [hty]; rfl) (by rw [hty]; rfl) pX12_92 rfl ?_
                        refine xEx.at (up_oI12 kc139 es31) ?_
                        refine s_aload_n (nx := 198) hO rfl rfl rfl ?_
                        refine s_iload_n (nx := 199) hO rfl rfl rfl ?_
                        refine s_iload (nx := 201) hO rfl rfl rfl ?_
                        refine s_callV [.int x24, .int x27] (ci := 12) (F := TX12) (N := 116) (nx := 204) hO rfl kX12_runIt_698 (by rw [hcl]; rfl) (hs_o12 kc139) (w_X12_perform hG H) rfl rfl (Nat.le_of_ble_eq_true rfl) (Nat.zero_le _) (Nat.zero_le _) rfl (k_Qv (fun s32 H => ?_))
                        exact xEx.loc (x_sub1 (List.Mem.tail _ (List.Mem.tail _ (List.Mem.head _))) (x_sub1 (List.Mem.tail _ (List.Mem.tail _ (List.Mem.tail _ (List.Mem.head _)))) x_sub0)) H
                      · replace H := H.2 c175
                        refine s_aload_n (nx := 179) hO rfl rfl rfl ?_
                        refine s_iload (nx := 181) hO rfl rfl rfl ?_
                        refine s_callV [.int x27] (ci := 12) (F := TX12) (N := 116) (nx := 184) hO rfl kX12_runIt_695 (by rw [hcl]; rfl) (hs_o12 kc139) (w_X12_guard hG H) rfl rfl (Nat.le_of_ble_eq_true rfl) (Nat.zero_le _) (Nat.zero_le _) rfl (k_Qv (fun s33 H => ?_))
                        refine s_goto hO rfl ?_
                        exact xEx.loc (x_sub1 (List.Mem.tail _ (List.Mem.tail _ (List.Mem.head _))) (x_sub1 (List.Mem.tail _ (List.Mem.tail _ (List.Mem.tail _ (List.Mem.head _)))) x_sub0)) H
                refine goV (wI s18 139 96 1) (fun s34 es34 => ?_)
                replace H := H s34 es34
                refine s_putf (nx := 136) hO rfl rfl (hs_o12 kc139) (Nat.le_of_ble_eq_true rfl) (by rw [hty]; rfl) (by rw [hty]; rfl) pX12_96 rfl ?_
                refine xEx.at (up_oI12 kc139 es34) ?_
                exact xEx.loc (x_sub1 (List.Mem.head _) (x_sub1 (List.Mem.tail _ (List.Mem.head _)) x_sub0)) H
              · replace H := H.2 c105
                refine s_aload_n (nx := 109) hO rfl rfl rfl ?_
                refine s_getf (v := .ref (q_b G + 205)) (nx := 112) hO rfl rfl (hs_o12 kc139) rfl rfl ?_
                refine s_iload_n (nx := 113) hO rfl rfl rfl ?_
                refine s_iconst (x := 0) (nx := 114) hO rfl (by decide) rfl ?_
                obtain ⟨b35, H⟩ := H
                refine goV (wI s16 205 (ix x15) 0) (fun s36 es36 => ?_)
                replace H := H s36 es36
                refine s_iast (nx := 115) hO rfl (hs_I kc205) b35 rfl ?_
                refine xEx.at (up_I kc205 es36) ?_
                refine goV ((x15 + 1)) (fun x37 ex37 => ?_)
                replace H := H x37 ex37
                refine e_iinc (nx := 118) (l' := [(3, .int x37), (0, .ref (q_b G + 139)), (2, .int v2)]) ex37 hO rfl (by decide) rfl rfl rfl rfl ?_
                refine s_goto hO rfl ?_
                exact xEx.loc (x_sub1 (List.Mem.tail _ (List.Mem.head _)) (x_sub1 (List.Mem.tail _ (List.Mem.tail _ (List.Mem.head _))) (x_sub1 (List.Mem.head _) x_sub0))) H
            refine s_istore_n (nx := 102) (l' := [(3, .int 0), (0, .ref (q_b G + 139)), (1, .int v1), (2, .int v2)]) hO rfl (by decide) rfl rfl ?_
            exact xEx.loc (x_sub1 (List.Mem.tail _ (List.Mem.head _)) (x_sub1 (List.Mem.tail _ (List.Mem.tail _ (List.Mem.tail _ (List.Mem.head _)))) (x_sub1 (List.Mem.head _) x_sub0))) H
          · replace H := H.2 c37
            refine s_iconst (x := 1) (nx := 41) hO rfl (by decide) rfl ?_
            refine s_goto hO rfl ?_
            refine goV (wI s1 139 112 1) (fun s38 es38 => ?_)
            replace H := H s38 es38
            refine s_putf (nx := 48) hO rfl rfl (hs_o12 kc139) (Nat.le_of_ble_eq_true rfl) (by rw [hty]; rfl) (by rw [hty]; rfl) pX12_112 rfl ?_
            refine xEx.at (up_oI12 kc139 es38) ?_
            refine s_aload_n (nx := 49) hO rfl rfl rfl ?_
            refine s_iconst (x := 1) (nx := 50) hO rfl (by decide) rfl ?_
            refine goV (wI s38 139 89 1) (fun s39 es39 => ?_)
            replace H := H s39 es39
            refine s_putf (nx := 53) hO rfl rfl (hs_o12 kc139) (Nat.le_of_ble_eq_true rfl) (by rw [hty]; rfl) (by rw [hty]; rfl) pX12_89 rfl ?_
            refine xEx.at (up_oI12 kc139 es39) ?_
            refine s_aload_n (nx := 54) hO rfl rfl rfl ?_
            refine s_iconst (x := (nI 3)) (nx := 55) hO rfl (by decide) rfl ?_
            refine goV (wI s39 139 90 (nI 3)) (fun s40 es40 => ?_)
            replace H := H s40 es40
            refine s_putf (nx := 58) hO rfl rfl (hs_o12 kc139) (Nat.le_of_ble_eq_true rfl) (by rw [hty]; rfl) (by rw [hty]; rfl) pX12_90 rfl ?_
            refine xEx.at (up_oI12 kc139 es40) ?_
            refine s_aload_n (nx := 59) hO rfl rfl rfl ?_
            refine s_iconst (x := 0) (nx := 60) hO rfl (by decide) rfl ?_
            refine goV (wI s40 139 91 0) (fun s41 es41 => ?_)
            replace H := H s41 es41
            refine s_putf (nx := 63) hO rfl rfl (hs_o12 kc139) (Nat.le_of_ble_eq_true rfl) (by rw [hty]; rfl) (by rw [hty]; rfl) pX12_91 rfl ?_
            refine xEx.at (up_oI12 kc139 es41) ?_
            refine s_aload_n (nx := 64) hO rfl rfl rfl ?_
            refine s_iconst (x := 0) (nx := 65) hO rfl (by decide) rfl ?_
            refine goV (wI s41 139 92 0) (fun s42 es42 => ?_)
            replace H := H s42 es42
            refine s_putf (nx := 68) hO rfl rfl (hs_o12 kc139) (Nat.le_of_ble_eq_true rfl) (by rw [hty]; rfl) (by rw [hty]; rfl) pX12_92 rfl ?_
            refine xEx.at (up_oI12 kc139 es42) ?_
            refine s_aload_n (nx := 69) hO rfl rfl rfl ?_
            refine s_iconst (x := 0) (nx := 70) hO rfl (by decide) rfl ?_
            refine goV (wI s42 139 93 0) (fun s43 es43 => ?_)
            replace H := H s43 es43
            refine s_putf (nx := 73) hO rfl rfl (hs_o12 kc139) (Nat.le_of_ble_eq_true rfl) (by rw [hty]; rfl) (by rw [hty]; rfl) pX12_93 rfl ?_
            refine xEx.at (up_oI12 kc139 es43) ?_
            refine s_aload_n (nx := 74) hO rfl rfl rfl ?_
            refine s_iconst (x := 0) (nx := 75) hO rfl (by decide) rfl ?_
            refine goV (wI s43 139 94 0) (fun s44 es44 => ?_)
            replace H := H s44 es44
            refine s_putf (nx := 78) hO rfl rfl (hs_o12 kc139) (Nat.le_of_ble_eq_true rfl) (by rw [hty]; rfl) (by rw [hty]; rfl) pX12_94 rfl ?_
            refine xEx.at (up_oI12 kc139 es44) ?_
            refine s_aload_n (nx := 79) hO rfl rfl rfl ?_
            refine s_iconst (x := 0) (nx := 80) hO rfl (by decide) rfl ?_
            refine goV (wI s44 139 95 0) (fun s45 es45 => ?_)
            replace H := H s45 es45
            refine s_putf (nx := 83) hO rfl rfl (hs_o12 kc139) (Nat.le_of_ble_eq_true rfl) (by rw [hty]; rfl) (by rw [hty]; rfl) pX12_95 rfl ?_
            refine xEx.at (up_oI12 kc139 es45) ?_
            refine s_aload_n (nx := 84) hO rfl rfl rfl ?_
            refine s_iconst (x := 0) (nx := 85) hO rfl (by decide) rfl ?_
            refine goV (wI s45 139 105 0) (fun s46 es46 => ?_)
            replace H := H s46 es46
            refine s_putf (nx := 88) hO rfl rfl (hs_o12 kc139) (Nat.le_of_ble_eq_true rfl) (by rw [hty]; rfl) (by rw [hty]; rfl) pX12_105 rfl ?_
            refine xEx.at (up_oI12 kc139 es46) ?_
            refine s_aload_n (nx := 89) hO rfl rfl rfl ?_
            refine s_getf (v := .ref (q_b G + 210)) (nx := 92) hO rfl rfl (hs_o12 kc139) rfl rfl ?_
            refine s_iconst (x := 0) (nx := 93) hO rfl (by decide) rfl ?_
            refine s_iconst (x := 0) (nx := 94) hO rfl (by decide) rfl ?_
            obtain ⟨b47, H⟩ := H
            refine goV (wI s46 210 (ix 0) 0) (fun s48 es48 => ?_)
            replace H := H s48 es48
            refine s_iast (nx := 95) hO rfl (hs_I kc210) b47 rfl ?_
            refine xEx.at (up_I kc210 es48) ?_
            refine s_aload_n (nx := 96) hO rfl rfl rfl ?_
            refine s_iconst (x := 1) (nx := 97) hO rfl (by decide) rfl ?_
            refine goV (wI s48 139 97 1) (fun s49 es49 => ?_)
            replace H := H s49 es49
            refine s_putf (nx := 100) hO rfl rfl (hs_o12 kc139) (Nat.le_of_ble_eq_true rfl) (by rw [hty]; rfl) (by rw [hty]; rfl) pX12_97 rfl ?_
            refine xEx.at (up_oI12 kc139 es49) ?_
            refine s_iconst (x := 0) (nx := 101) hO rfl (by decide) rfl ?_
            refine goK (H (fun (x50 : Int32) (s51 : yS) => xEx G mX12_runIt 102 [(0, .ref (q_b G + 139)), (2, .int v2), (3, .int x50)] [] (hS G s51) z 0 0 (yQi G z Q)) (fun x50 s51 H => ?_)) (fun H => ?_)
            · show xEx G mX12_runIt 102 [(0, .ref (q_b G + 139)), (2, .int v2), (3, .int x50)] [] (hS G s51) z 0 0 (yQi G z Q)
              refine s_iload_n (nx := 103) hO rfl rfl rfl ?_
              refine s_bipush (x := (nI 6)) (nx := 105) hO rfl (by decide) rfl ?_
              refine s_icmp_ge (nx := 108) hO rfl rfl (fun c105 => ?_) (fun c105 => ?_)
              · replace H := H.1 c105
                refine s_aload_n (nx := 122) hO rfl rfl rfl ?_
                refine s_iconst (x := 0) (nx := 123) hO rfl (by decide) rfl ?_
                refine goV (wI s51 139 111 0) (fun s53 es53 => ?_)
                replace H := H s53 es53
                refine s_putf (nx := 126) hO rfl rfl (hs_o12 kc139) (Nat.le_of_ble_eq_true rfl) (by rw [hty]; rfl) (by rw [hty]; rfl) pX12_111 rfl ?_
                refine xEx.at (up_oI12 kc139 es53) ?_
                refine s_aload_n (nx := 127) hO rfl rfl rfl ?_
                refine s_iconst (x := 0) (nx := 128) hO rfl (by decide) rfl ?_
                refine s_callV [.int 0] (ci := 12) (F := TX12) (N := 116) (nx := 131) hO rfl kX12_runIt_649 (by rw [hcl]; rfl) (hs_o12 kc139) (w_X12_enter hG H) rfl rfl (Nat.le_of_ble_eq_true rfl) (Nat.zero_le _) (Nat.zero_le _) rfl (k_Qv (fun s54 H => ?_))
                refine s_aload_n (nx := 132) hO rfl rfl rfl ?_
                refine s_iconst (x := 1) (nx := 133) hO rfl (by decide) rfl ?_
                refine goK (H (fun (s55 : yS) => xEx G mX12_runIt 136 [(0, .ref (q_b G + 139)), (2, .int v2)] [] (hS G s55) z 0 0 (yQi G z Q)) (fun s55 H => ?_)) (fun H => ?_)
                · show xEx G mX12_runIt 136 [(0, .ref (q_b G + 139)), (2, .int v2)] [] (hS G s55) z 0 0 (yQi G z Q)
                  refine s_aload_n (nx := 137) hO rfl rfl rfl ?_
                  refine s_getf (v := .int (sI s55 139 111)) (nx := 140) hO rfl rfl (hs_o12 kc139) rfl rfl ?_
                  refine s_if_le (nx := 143) hO rfl rfl (fun c140 => ?_) (fun c140 => ?_)
                  · replace H := H.1 c140
                    refine s_aload_n (nx := 234) hO rfl rfl rfl ?_
                    refine s_iconst (x := 0) (nx := 235) hO rfl (by decide) rfl ?_
                    refine goV (wI s55 139 111 0) (fun s57 es57 => ?_)
                    replace H := H s57 es57
                    refine s_putf (nx := 238) hO rfl rfl (hs_o12 kc139) (Nat.le_of_ble_eq_true rfl) (by rw [hty]; rfl) (by rw [hty]; rfl) pX12_111 rfl ?_
                    refine xEx.at (up_oI12 kc139 es57) ?_
                    refine s_aload_n (nx := 239) hO rfl rfl rfl ?_
                    refine s_getf (v := .int (sI s57 139 90)) (nx := 242) hO rfl rfl (hs_o12 kc139) rfl rfl ?_
                    exact s_iret hO rfl rfl rfl ⟨rfl, _, _, rfl, rfl, H⟩
                  · replace H := H.2 c140
                    refine s_aload_n (nx := 144) hO rfl rfl rfl ?_
                    refine s_getf (v := .int (sI s55 139 92)) (nx := 147) hO rfl rfl (hs_o12 kc139) rfl rfl ?_
                    refine s_iload_n (nx := 148) hO rfl rfl rfl ?_
                    refine s_icmp_ge (nx := 151) hO rfl rfl (fun c148 => ?_) (fun c148 => ?_)
                    · replace H := H.1 c148
                      refine s_aload_n (nx := 234) hO rfl rfl rfl ?_
                      refine s_iconst (x := 0) (nx := 235) hO rfl (by decide) rfl ?_
                      refine goV (wI s55 139 111 0) (fun s58 es58 => ?_)
                      replace H := H s58 es58
                      refine s_putf (nx := 238) hO rfl rfl (hs_o12 kc139) (Nat.le_of_ble_eq_true rfl) (by rw [hty]; rfl) (by rw [hty]; rfl) pX12_111 rfl ?_
                      refine xEx.at (up_oI12 kc139 es58) ?_
                      refine s_aload_n (nx := 239) hO rfl rfl rfl ?_
                      refine s_getf (v := .int (sI s58 139 90)) (nx := 242) hO rfl rfl (hs_o12 kc139) rfl rfl ?_
                      exact s_iret hO rfl rfl rfl ⟨rfl, _, _, rfl, rfl, H⟩
                    · replace H := H.2 c148
                      refine s_aload_n (nx := 152) hO rfl rfl rfl ?_
                      refine s_getf (v := .ref (q_b G + 186)) (nx := 155) hO rfl rfl (hs_o12 kc139) rfl rfl ?_
                      refine s_aload_n (nx := 156) hO rfl rfl rfl ?_
                      refine s_callV [] (ci := 12) (F := TX12) (N := 116) (nx := 159) hO rfl kX12_runIt_692 (by rw [hcl]; rfl) (hs_o12 kc139) (w_X12_here hG H) rfl rfl (Nat.le_of_ble_eq_true rfl) (Nat.zero_le _) (Nat.zero_le _) rfl (k_Pi (fun r59 H => ?_))
                      obtain ⟨b60, H⟩ := H
                      refine s_iald (nx := 160) hO rfl (hs_I kc186) b60 rfl ?_
                      refine goV ((sI s55 186 (ix r59))) (fun x61 ex61 => ?_)
                      replace H := H x61 ex61
                      refine e_istore_n (nx := 161) (l' := [(3, .int x61), (0, .ref (q_b G + 139)), (2, .int v2)]) ex61 hO rfl (by decide) rfl rfl ?_
                      refine s_aload_n (nx := 162) hO rfl rfl rfl ?_
                      refine s_getf (v := .ref (q_b G + 187)) (nx := 165) hO rfl rfl (hs_o12 kc139) rfl rfl ?_
                      refine s_aload_n (nx := 166) hO rfl rfl rfl ?_
                      refine s_callV [] (ci := 12) (F := TX12) (N := 116) (nx := 169) hO rfl kX12_runIt_692 (by rw [hcl]; rfl) (hs_o12 kc139) (w_X12_here hG H) rfl rfl (Nat.le_of_ble_eq_true rfl) (Nat.zero_le _) (Nat.zero_le _) rfl (k_Pi (fun r62 H => ?_))
                      obtain ⟨b63, H⟩ := H
                      refine s_iald (nx := 170) hO rfl (hs_I kc187) b63 rfl ?_
                      refine goV ((sI s55 187 (ix r62))) (fun x64 ex64 => ?_)
                      replace H := H x64 ex64
                      refine e_istore (nx := 172) (l' := [(4, .int x64), (3, .int x61), (0, .ref (q_b G + 139)), (2, .int v2)]) ex64 hO rfl (by decide) rfl rfl ?_
                      refine s_iload_n (nx := 173) hO rfl rfl rfl ?_
                      refine s_bipush (x := (nI 29)) (nx := 175) hO rfl (by decide) rfl ?_
                      refine goK (H (fun (s65 : yS) => xEx G mX12_runIt 204 [(0, .ref (q_b G + 139)), (2, .int v2)] [] (hS G s65) z 0 0 (yQi G z Q)) (fun s65 H => ?_)) (fun H => ?_)
                      · show xEx G mX12_runIt 204 [(0, .ref (q_b G + 139)), (2, .int v2)] [] (hS G s65) z 0 0 (yQi G z Q)
                        refine s_aload_n (nx := 205) hO rfl rfl rfl ?_
                        refine s_aload_n (nx := 206) hO rfl rfl rfl ?_
                        refine s_getf (v := .int (sI s65 139 111)) (nx := 209) hO rfl rfl (hs_o12 kc139) rfl rfl ?_
                        refine s_aload_n (nx := 210) hO rfl rfl rfl ?_
                        refine s_getf (v := .int (sI s65 139 96)) (nx := 213) hO rfl rfl (hs_o12 kc139) rfl rfl ?_
                        refine s_icmp_le (nx := 216) hO rfl rfl (fun c213 => ?_) (fun c213 => ?_)
                        · replace H := H.1 c213
                          refine s_aload_n (nx := 224) hO rfl rfl rfl ?_
                          refine s_getf (v := .int (sI s65 139 96)) (nx := 227) hO rfl rfl (hs_o12 kc139) rfl rfl ?_
                          refine goV (wI s65 139 96 (sI s65 139 96)) (fun s67 es67 => ?_)
                          replace H := H s67 es67
                          refine s_putf (nx := 230) hO rfl rfl (hs_o12 kc139) (Nat.le_of_ble_eq_true rfl) (by rw [hty]; rfl) (by rw [hty]; rfl) pX12_96 rfl ?_
                          refine xEx.at (up_oI12 kc139 es67) ?_
                          refine s_goto hO rfl ?_
                          exact xEx.loc (x_sub1 (List.Mem.head _) (x_sub1 (List.Mem.tail _ (List.Mem.head _)) x_sub0)) H
                        · replace H := H.2 c213
                          refine s_aload_n (nx := 217) hO rfl rfl rfl ?_
                          refine s_getf (v := .int (sI s65 139 111)) (nx := 220) hO rfl rfl (hs_o12 kc139) rfl rfl ?_
                          refine s_goto hO rfl ?_
                          refine goV (wI s65 139 96 (sI s65 139 111)) (fun s68 es68 => ?_)
                          replace H := H s68 es68
                          refine s_putf (nx := 230) hO rfl rfl (hs_o12 kc139) (Nat.le_of_ble_eq_true rfl) (by rw [hty]; rfl) (by rw [hty]; rfl) pX12_96 rfl ?_
                          refine xEx.at (up_oI12 kc139 es68) ?_
                          refine s_goto hO rfl ?_
                          exact xEx.loc (x_sub1 (List.Mem.head _) (x_sub1 (List.Mem.tail _ (List.Mem.head _)) x_sub0)) H
                      refine s_icmp_ne (nx := 178) hO rfl rfl (fun c175 => ?_) (fun c175 => ?_)
                      · replace H := H.1 c175
                        refine s_aload_n (nx := 188) hO rfl rfl rfl ?_
                        refine s_dup (nx := 189) hO rfl rfl rfl ?_
                        refine s_getf (v := .int (sI s55 139 92)) (nx := 192) hO rfl rfl (hs_o12 kc139) rfl rfl ?_
                        refine s_iconst (x := 1) (nx := 193) hO rfl (by decide) rfl ?_
                        refine s_iadd (nx := 194) hO rfl rfl ?_
                        refine goV (wI s55 139 92 ((sI s55 139 92) + 1)) (fun s69 es69 => ?_)
                        replace H := H s69 es69
                        refine s_putf (nx := 197) hO rfl rfl (hs_o12 kc139) (Nat.le_of_ble_eq_true rfl) (by rw [hty]; rfl) (by rw [hty]; rfl) pX12_92 rfl ?_
                        refine xEx.at (up_oI12 kc139 es69) ?_
                        refine s_aload_n (nx := 198) hO rfl rfl rfl ?_
                        refine s_iload_n (nx := 199) hO rfl rfl rfl ?_
                        refine s_iload (nx := 201) hO rfl rfl rfl ?_
                        refine s_callV [.int x61, .int x64] (ci := 12) (F := TX12) (N := 116) (nx := 204) hO rfl kX12_runIt_698 (by rw [hcl]; rfl) (hs_o12 kc139) (w_X12_perform hG H) rfl rfl (Nat.le_of_ble_eq_true rfl) (Nat.zero_le _) (Nat.zero_le _) rfl (k_Qv (fun s70 H => ?_))
                        exact xEx.loc (x_sub1 (List.Mem.tail _ (List.Mem.tail _ (List.Mem.head _))) (x_sub1 (List.Mem.tail _ (List.Mem.tail _ (List.Mem.tail _ (List.Mem.head _)))) x_sub0)) H
                      · replace H := H.2 c175
                        refine s_aload_n (nx := 179) hO rfl rfl rfl ?_
                        refine s_iload (nx := 181) hO rfl rfl rfl ?_
                        refine s_callV [.int x64] (ci := 12) (F := TX12) (N := 116) (nx := 184) hO rfl kX12_runIt_695 (by rw [hcl]; rfl) (hs_o12 kc139) (w_X12_guard hG H) rfl rfl (Nat.le_of_ble_eq_true rfl) (Nat.zero_le _) (Nat.zero_le _) rfl (k_Qv (fun s71 H => ?_))
                        refine s_goto hO rfl ?_
                        exact xEx.loc (x_sub1 (List.Mem.tail _ (List.Mem.tail _ (List.Mem.head _))) (x_sub1 (List.Mem.tail _ (List.Mem.tail _ (List.Mem.tail _ (List.Mem.head _)))) x_sub0)) H
                refine goV (wI s54 139 96 1) (fun s72 es72 => ?_)
                replace H := H s72 es72
                refine s_putf (nx := 136) hO rfl rfl (hs_o12 kc139) (Nat.le_of_ble_eq_true rfl) (by rw [hty]; rfl) (by rw [hty]; rfl) pX12_96 rfl ?_
                refine xEx.at (up_oI12 kc139 es72) ?_
                exact xEx.loc (x_sub1 (List.Mem.head _) (x_sub1 (List.Mem.tail _ (List.Mem.head _)) x_sub0)) H
              · replace H := H.2 c105
                refine s_aload_n (nx := 109) hO rfl rfl rfl ?_
                refine s_getf (v := .ref (q_b G + 205)) (nx := 112) hO rfl rfl (hs_o12 kc139) rfl rfl ?_
                refine s_iload_n (nx := 113) hO rfl rfl rfl ?_
                refine s_iconst (x := 0) (nx := 114) hO rfl (by decide) rfl ?_
                obtain ⟨b73, H⟩ := H
                refine goV (wI s51 205 (ix x50) 0) (fun s74 es74 => ?_)
                replace H := H s74 es74
                refine s_iast (nx := 115) hO rfl (hs_I kc205) b73 rfl ?_
                refine xEx.at (up_I kc205 es74) ?_
                refine goV ((x50 + 1)) (fun x75 ex75 => ?_)
                replace H := H x75 ex75
                refine e_iinc (nx := 118) (l' := [(3, .int x75), (0, .ref (q_b G + 139)), (2, .int v2)]) ex75 hO rfl (by decide) rfl rfl rfl rfl ?_
                refine s_goto hO rfl ?_
                exact xEx.loc (x_sub1 (List.Mem.tail _ (List.Mem.head _)) (x_sub1 (List.Mem.tail _ (List.Mem.tail _ (List.Mem.head _))) (x_sub1 (List.Mem.head _) x_sub0))) H
            refine s_istore_n (nx := 102) (l' := [(3, .int 0), (0, .ref (q_b G + 139)), (1, .int v1), (2, .int v2)]) hO rfl (by decide) rfl rfl ?_
            exact xEx.loc (x_sub1 (List.Mem.tail _ (List.Mem.head _)) (x_sub1 (List.Mem.tail _ (List.Mem.tail _ (List.Mem.tail _ (List.Mem.head _)))) (x_sub1 (List.Mem.head _) x_sub0))) H
        · replace H := H.2 c30
          refine s_iconst (x := (-1)) (nx := 34) hO rfl (by decide) rfl ?_
          exact s_iret hO rfl rfl rfl ⟨rfl, _, _, rfl, rfl, H⟩
  · replace H := H.2 c10
    refine s_iconst (x := 1) (nx := 14) hO rfl (by decide) rfl ?_
    refine s_goto hO rfl ?_
    obtain ⟨b76, H⟩ := H
    refine s_zald (nx := 19) hO rfl (hs_Z kc177) b76 rfl ?_
    refine s_if_eq (nx := 22) hO rfl rfl (fun c19 => ?_) (fun c19 => ?_)
    · replace H := H.1 c19
      refine s_iconst (x := (-1)) (nx := 34) hO rfl (by decide) rfl ?_
      exact s_iret hO rfl rfl rfl ⟨rfl, _, _, rfl, rfl, H⟩
    · replace H := H.2 c19
      refine s_iload_n (nx := 23) hO rfl rfl rfl ?_
      refine s_if_lt (nx := 26) hO rfl rfl (fun c23 => ?_) (fun c23 => ?_)
      · replace H := H.1 c23
        refine s_iconst (x := (-1)) (nx := 34) hO rfl (by decide) rfl ?_
        exact s_iret hO rfl rfl rfl ⟨rfl, _, _, rfl, rfl, H⟩
      · replace H := H.2 c23
        refine s_iload_n (nx := 27) hO rfl rfl rfl ?_
        refine s_sipush (x := (nI 20000)) (nx := 30) hO rfl (by decide) rfl ?_
        refine s_icmp_le (nx := 33) hO rfl rfl (fun c30 => ?_) (fun c30 => ?_)
        · replace H := H.1 c30
          refine s_aload_n (nx := 36) hO rfl rfl rfl ?_
          refine s_iload_n (nx := 37) hO rfl rfl rfl ?_
          refine s_if_eq (nx := 40) hO rfl rfl (fun c37 => ?_) (fun c37 => ?_)
          · replace H := H.1 c37
            refine s_iconst (x := 0) (nx := 45) hO rfl (by decide) rfl ?_
            refine goV (wI s1 139 112 0) (fun s77 es77 => ?_)
            replace H := H s77 es77
            refine s_putf (nx := 48) hO rfl rfl (hs_o12 kc139) (Nat.le_of_ble_eq_true rfl) (by rw [hty]; rfl) (by rw [hty]; rfl) pX12_112 rfl ?_
            refine xEx.at (up_oI12 kc139 es77) ?_
            refine s_aload_n (nx := 49) hO rfl rfl rfl ?_
            refine s_iconst (x := 1) (nx := 50) hO rfl (by decide) rfl ?_
            refine goV (wI s77 139 89 1) (fun s78 es78 => ?_)
            replace H := H s78 es78
            refine s_putf (nx := 53) hO rfl rfl (hs_o12 kc139) (Nat.le_of_ble_eq_true rfl) (by rw [hty]; rfl) (by rw [hty]; rfl) pX12_89 rfl ?_
            refine xEx.at (up_oI12 kc139 es78) ?_
            refine s_aload_n (nx := 54) hO rfl rfl rfl ?_
            refine s_iconst (x := (nI 3)) (nx := 55) hO rfl (by decide) rfl ?_
            refine goV (wI s78 139 90 (nI 3)) (fun s79 es79 => ?_)
            replace H := H s79 es79
            refine s_putf (nx := 58) hO rfl rfl (hs_o12 kc139) (Nat.le_of_ble_eq_true rfl) (by rw [hty]; rfl) (by rw [hty]; rfl) pX12_90 rfl ?_
            refine xEx.at (up_oI12 kc139 es79) ?_
            refine s_aload_n (nx := 59) hO rfl rfl rfl ?_
            refine s_iconst (x := 0) (nx := 60) hO rfl (by decide) rfl ?_
            refine goV (wI s79 139 91 0) (fun s80 es80 => ?_)
            replace H := H s80 es80
            refine s_putf (nx := 63) hO rfl rfl (hs_o12 kc139) (Nat.le_of_ble_eq_true rfl) (by rw [hty]; rfl) (by rw [hty]; rfl) pX12_91 rfl ?_
            refine xEx.at (up_oI12 kc139 es80) ?_
            refine s_aload_n (nx := 64) hO rfl rfl rfl ?_
            refine s_iconst (x := 0) (nx := 65) hO rfl (by decide) rfl ?_
            refine goV (wI s80 139 92 0) (fun s81 es81 => ?_)
            replace H := H s81 es81
            refine s_putf (nx := 68) hO rfl rfl (hs_o12 kc139) (Nat.le_of_ble_eq_true rfl) (by rw [hty]; rfl) (by rw [hty]; rfl) pX12_92 rfl ?_
            refine xEx.at (up_oI12 kc139 es81) ?_
            refine s_aload_n (nx := 69) hO rfl rfl rfl ?_
            refine s_iconst (x := 0) (nx := 70) hO rfl (by decide) rfl ?_
            refine goV (wI s81 139 93 0) (fun s82 es82 => ?_)
            replace H := H s82 es82
            refine s_putf (nx := 73) hO rfl rfl (hs_o12 kc139) (Nat.le_of_ble_eq_true rfl) (by rw [hty]; rfl) (by rw [hty]; rfl) pX12_93 rfl ?_
            refine xEx.at (up_oI12 kc139 es82) ?_
            refine s_aload_n (nx := 74) hO rfl rfl rfl ?_
            refine s_iconst (x := 0) (nx := 75) hO rfl (by decide) rfl ?_
            refine goV (wI s82 139 94 0) (fun s83 es83 => ?_)
            replace H := H s83 es83
            refine s_putf (nx := 78) hO rfl rfl (hs_o12 kc139) (Nat.le_of_ble_eq_true rfl) (by rw [hty]; rfl) (by rw [hty]; rfl) pX12_94 rfl ?_
            refine xEx.at (up_oI12 kc139 es83) ?_
            refine s_aload_n (nx := 79) hO rfl rfl rfl ?_
            refine s_iconst (x := 0) (nx := 80) hO rfl (by decide) rfl ?_
            refine goV (wI s83 139 95 0) (fun s84 es84 => ?_)
            replace H := H s84 es84
            refine s_putf (nx := 83) hO rfl rfl (hs_o12 kc139) (Nat.le_of_ble_eq_true rfl) (by rw [hty]; rfl) (by rw [hty]; rfl) pX12_95 rfl ?_
            refine xEx.at (up_oI12 kc139 es84) ?_
            refine s_aload_n (nx := 84) hO rfl rfl rfl ?_
            refine s_iconst (x := 0) (nx := 85) hO rfl (by decide) rfl ?_
            refine goV (wI s84 139 105 0) (fun s85 es85 => ?_)
            replace H := H s85 es85
            refine s_putf (nx := 88) hO rfl rfl (hs_o12 kc139) (Nat.le_of_ble_eq_true rfl) (by rw [hty]; rfl) (by rw [hty]; rfl) pX12_105 rfl ?_
            refine xEx.at (up_oI12 kc139 es85) ?_
            refine s_aload_n (nx := 89) hO rfl rfl rfl ?_
            refine s_getf (v := .ref (q_b G + 210)) (nx := 92) hO rfl rfl (hs_o12 kc139) rfl rfl ?_
            refine s_iconst (x := 0) (nx := 93) hO rfl (by decide) rfl ?_
            refine s_iconst (x := 0) (nx := 94) hO rfl (by decide) rfl ?_
            obtain ⟨b86, H⟩ := H
            refine goV (wI s85 210 (ix 0) 0) (fun s87 es87 => ?_)
            replace H := H s87 es87
            refine s_iast (nx := 95) hO rfl (hs_I kc210) b86 rfl ?_
            refine xEx.at (up_I kc210 es87) ?_
            refine s_aload_n (nx := 96) hO rfl rfl rfl ?_
            refine s_iconst (x := 1) (nx := 97) hO rfl (by decide) rfl ?_
            refine goV (wI s87 139 97 1) (fun s88 es88 => ?_)
            replace H := H s88 es88
            refine s_putf (nx := 100) hO rfl rfl (hs_o12 kc139) (Nat.le_of_ble_eq_true rfl) (by rw [hty]; rfl) (by rw [hty]; rfl) pX12_97 rfl ?_
            refine xEx.at (up_oI12 kc139 es88) ?_
            refine s_iconst (x := 0) (nx := 101) hO rfl (by decide) rfl ?_
            refine goK (H (fun (x89 : Int32) (s90 : yS) => xEx G mX12_runIt 102 [(0, .ref (q_b G + 139)), (2, .int v2), (3, .int x89)] [] (hS G s90) z 0 0 (yQi G z Q)) (fun x89 s90 H => ?_)) (fun H => ?_)
            · show xEx G mX12_runIt 102 [(0, .ref (q_b G + 139)), (2, .int v2), (3, .int x89)] [] (hS G s90) z 0 0 (yQi G z Q)
              refine s_iload_n (nx := 103) hO rfl rfl rfl ?_
              refine s_bipush (x := (nI 6)) (nx := 105) hO rfl (by decide) rfl ?_
              refine s_icmp_ge (nx := 108) hO rfl rfl (fun c105 => ?_) (fun c105 => ?_)
              · replace H := H.1 c105
                refine s_aload_n (nx := 122) hO rfl rfl rfl ?_
                refine s_iconst (x := 0) (nx := 123) hO rfl (by decide) rfl ?_
                refine goV (wI s90 139 111 0) (fun s92 es92 => ?_)
                replace H := H s92 es92
                refine s_putf (nx := 126) hO rfl rfl (hs_o12 kc139) (Nat.le_of_ble_eq_true rfl) (by rw [hty]; rfl) (by rw [hty]; rfl) pX12_111 rfl ?_
                refine xEx.at (up_oI12 kc139 es92) ?_
                refine s_aload_n (nx := 127) hO rfl rfl rfl ?_
                refine s_iconst (x := 0) (nx := 128) hO rfl (by decide) rfl ?_
                refine s_callV [.int 0] (ci := 12) (F := TX12) (N := 116) (nx := 131) hO rfl kX12_runIt_649 (by rw [hcl]; rfl) (hs_o12 kc139) (w_X12_enter hG H) rfl rfl (Nat.le_of_ble_eq_true rfl) (Nat.zero_le _) (Nat.zero_le _) rfl (k_Qv (fun s93 H => ?_))
                refine s_aload_n (nx := 132) hO rfl rfl rfl ?_
                refine s_iconst (x := 1) (nx := 133) hO rfl (by decide) rfl ?_
                refine goK (H (fun (s94 : yS) => xEx G mX12_runIt 136 [(0, .ref (q_b G + 139)), (2, .int v2)] [] (hS G s94) z 0 0 (yQi G z Q)) (fun s94 H => ?_)) (fun H => ?_)
                · show xEx G mX12_runIt 136 [(0, .ref (q_b G + 139)), (2, .int v2)] [] (hS G s94) z 0 0 (yQi G z Q)
                  refine s_aload_n (nx := 137) hO rfl rfl rfl ?_
                  refine s_getf (v := .int (sI s94 139 111)) (nx := 140) hO rfl rfl (hs_o12 kc139) rfl rfl ?_
                  refine s_if_le (nx := 143) hO rfl rfl (fun c140 => ?_) (fun c140 => ?_)
                  · replace H := H.1 c140
                    refine s_aload_n (nx := 234) hO rfl rfl rfl ?_
                    refine s_iconst (x := 0) (nx := 235) hO rfl (by decide) rfl ?_
                    refine goV (wI s94 139 111 0) (fun s96 es96 => ?_)
                    replace H := H s96 es96
                    refine s_putf (nx := 238) hO rfl rfl (hs_o12 kc139) (Nat.le_of_ble_eq_true rfl) (by rw [hty]; rfl) (by rw [hty]; rfl) pX12_111 rfl ?_
                    refine xEx.at (up_oI12 kc139 es96) ?_
                    refine s_aload_n (nx := 239) hO rfl rfl rfl ?_
                    refine s_getf (v := .int (sI s96 139 90)) (nx := 242) hO rfl rfl (hs_o12 kc139) rfl rfl ?_
                    exact s_iret hO rfl rfl rfl ⟨rfl, _, _, rfl, rfl, H⟩
                  · replace H := H.2 c140
                    refine s_aload_n (nx := 144) hO rfl rfl rfl ?_
                    refine s_getf (v := .int (sI s94 139 92)) (nx := 147) hO rfl rfl (hs_o12 kc139) rfl rfl ?_
                    refine s_iload_n (nx := 148) hO rfl rfl rfl ?_
                    refine s_icmp_ge (nx := 151) hO rfl rfl (fun c148 => ?_) (fun c148 => ?_)
                    · replace H := H.1 c148
                      refine s_aload_n (nx := 234) hO rfl rfl rfl ?_
                      refine s_iconst (x := 0) (nx := 235) hO rfl (by decide) rfl ?_
                      refine goV (wI s94 139 111 0) (fun s97 es97 => ?_)
                      replace H := H s97 es97
                      refine s_putf (nx := 238) hO rfl rfl (hs_o12 kc139) (Nat.le_of_ble_eq_true rfl) (by rw [hty]; rfl) (by rw [hty]; rfl) pX12_111 rfl ?_
                      refine xEx.at (up_oI12 kc139 es97) ?_
                      refine s_aload_n (nx := 239) hO rfl rfl rfl ?_
                      refine s_getf (v := .int (sI s97 139 90)) (nx := 242) hO rfl rfl (hs_o12 kc139) rfl rfl ?_
                      exact s_iret hO rfl rfl rfl ⟨rfl, _, _, rfl, rfl, H⟩
                    · replace H := H.2 c148
                      refine s_aload_n (nx := 152) hO rfl rfl rfl ?_
                      refine s_getf (v := .ref (q_b G + 186)) (nx := 155) hO rfl rfl (hs_o12 kc139) rfl rfl ?_
                      refine s_aload_n (nx := 156) hO rfl rfl rfl ?_
                      refine s_callV [] (ci := 12) (F := TX12) (N := 116) (nx := 159) hO rfl kX12_runIt_692 (by rw [hcl]; rfl) (hs_o12 kc139) (w_X12_here hG H) rfl rfl (Nat.le_of_ble_eq_true rfl) (Nat.zero_le _) (Nat.zero_le _) rfl (k_Pi (fun r98 H => ?_))
                      obtain ⟨b99, H⟩ := H
                      refine s_iald (nx := 160) hO rfl (hs_I kc186) b99 rfl ?_
                      refine goV ((sI s94 186 (ix r98))) (fun x100 ex100 => ?_)
                      replace H := H x100 ex100
                      refine e_istore_n (nx := 161) (l' := [(3, .int x100), (0, .ref (q_b G + 139)), (2, .int v2)]) ex100 hO rfl (by decide) rfl rfl ?_
                      refine s_aload_n (nx := 162) hO rfl rfl rfl ?_
                      refine s_getf (v := .ref (q_b G + 187)) (nx := 165) hO rfl rfl (hs_o12 kc139) rfl rfl ?_
                      refine s_aload_n (nx := 166) hO rfl rfl rfl ?_
                      refine s_callV [] (ci := 12) (F := TX12) (N := 116) (nx := 169) hO rfl kX12_runIt_692 (by rw [hcl]; rfl) (hs_o12 kc139) (w_X12_here hG H) rfl rfl (Nat.le_of_ble_eq_true rfl) (Nat.zero_le _) (Nat.zero_le _) rfl (k_Pi (fun r101 H => ?_))
                      obtain ⟨b102, H⟩ := H
                      refine s_iald (nx := 170) hO rfl (hs_I kc187) b102 rfl ?_
                      refine goV ((sI s94 187 (ix r101))) (fun x103 ex103 => ?_)
                      replace H := H x103 ex103
                      refine e_istore (nx := 172) (l' := [(4, .int x103), (3, .int x100), (0, .ref (q_b G + 139)), (2, .int v2)]) ex103 hO rfl (by decide) rfl rfl ?_
                      refine s_iload_n (nx := 173) hO rfl rfl rfl ?_
                      refine s_bipush (x := (nI 29)) (nx := 175) hO rfl (by decide) rfl ?_
                      refine goK (H (fun (s104 : yS) => xEx G mX12_runIt 204 [(0, .ref (q_b G + 139)), (2, .int v2)] [] (hS G s104) z 0 0 (yQi G z Q)) (fun s104 H => ?_)) (fun H => ?_)
                      · show xEx G mX12_runIt 204 [(0, .ref (q_b G + 139)), (2, .int v2)] [] (hS G s104) z 0 0 (yQi G z Q)
                        refine s_aload_n (nx := 205) hO rfl rfl rfl ?_
                        refine s_aload_n (nx := 206) hO rfl rfl rfl ?_
                        refine s_getf (v := .int (sI s104 139 111)) (nx := 209) hO rfl rfl (hs_o12 kc139) rfl rfl ?_
                        refine s_aload_n (nx := 210) hO rfl rfl rfl ?_
                        refine s_getf (v := .int (sI s104 139 96)) (nx := 213) hO rfl rfl (hs_o12 kc139) rfl rfl ?_
                        refine s_icmp_le (nx := 216) hO rfl rfl (fun c213 => ?_) (fun c213 => ?_)
                        · replace H := H.1 c213
                          refine s_aload_n (nx := 224) hO rfl rfl rfl ?_
                          refine s_getf (v := .int (sI s104 139 96)) (nx := 227) hO rfl rfl (hs_o12 kc139) rfl rfl ?_
                          refine goV (wI s104 139 96 (sI s104 139 96)) (fun s106 es106 => ?_)
                          replace H := H s106 es106
                          refine s_putf (nx := 230) hO rfl rfl (hs_o12 kc139) (Nat.le_of_ble_eq_true rfl) (by rw [hty]; rfl) (by rw [hty]; rfl) pX12_96 rfl ?_
                          refine xEx.at (up_oI12 kc139 es106) ?_
                          refine s_goto hO rfl ?_
                          exact xEx.loc (x_sub1 (List.Mem.head _) (x_sub1 (List.Mem.tail _ (List.Mem.head _)) x_sub0)) H
                        · replace H := H.2 c213
                          refine s_aload_n (nx := 217) hO rfl rfl rfl ?_
                          refine s_getf (v := .int (sI s104 139 111)) (nx := 220) hO rfl rfl (hs_o12 kc139) rfl rfl ?_
                          refine s_goto hO rfl ?_
                          refine goV (wI s104 139 96 (sI s104 139 111)) (fun s107 es107 => ?_)
                          replace H := H s107 es107
                          refine s_putf (nx := 230) hO rfl rfl (hs_o12 kc139) (Nat.le_of_ble_eq_true rfl) (by rw [hty]; rfl) (by rw [hty]; rfl) pX12_96 rfl ?_
                          refine xEx.at (up_oI12 kc139 es107) ?_
                          refine s_goto hO rfl ?_
                          exact xEx.loc (x_sub1 (List.Mem.head _) (x_sub1 (List.Mem.tail _ (List.Mem.head _)) x_sub0)) H
                      refine s_icmp_ne (nx := 178) hO rfl rfl (fun c175 => ?_) (fun c175 => ?_)
                      · replace H := H.1 c175
                        refine s_aload_n (nx := 188) hO rfl rfl rfl ?_
                        refine s_dup (nx := 189) hO rfl rfl rfl ?_
                        refine s_getf (v := .int (sI s94 139 92)) (nx := 192) hO rfl rfl (hs_o12 kc139) rfl rfl ?_
                        refine s_iconst (x := 1) (nx := 193) hO rfl (by decide) rfl ?_
                        refine s_iadd (nx := 194) hO rfl rfl ?_
                        refine goV (wI s94 139 92 ((sI s94 139 92) + 1)) (fun s108 es108 => ?_)
                        replace H := H s108 es108
                        refine s_putf (nx := 197) hO rfl rfl (hs_o12 kc139) (Nat.le_of_ble_eq_true rfl) (by rw [hty]; rfl) (by rw [hty]; rfl) pX12_92 rfl ?_
                        refine xEx.at (up_oI12 kc139 es108) ?_
                        refine s_aload_n (nx := 198) hO rfl rfl rfl ?_
                        refine s_iload_n (nx := 199) hO rfl rfl rfl ?_
                        refine s_iload (nx := 201) hO rfl rfl rfl ?_
                        refine s_callV [.int x100, .int x103] (ci := 12) (F := TX12) (N := 116) (nx := 204) hO rfl kX12_runIt_698 (by rw [hcl]; rfl) (hs_o12 kc139) (w_X12_perform hG H) rfl rfl (Nat.le_of_ble_eq_true rfl) (Nat.zero_le _) (Nat.zero_le _) rfl (k_Qv (fun s109 H => ?_))
                        exact xEx.loc (x_sub1 (List.Mem.tail _ (List.Mem.tail _ (List.Mem.head _))) (x_sub1 (List.Mem.tail _ (List.Mem.tail _ (List.Mem.tail _ (List.Mem.head _)))) x_sub0)) H
                      · replace H := H.2 c175
                        refine s_aload_n (nx := 179) hO rfl rfl rfl ?_
                        refine s_iload (nx := 181) hO rfl rfl rfl ?_
                        refine s_callV [.int x103] (ci := 12) (F := TX12) (N := 116) (nx := 184) hO rfl kX12_runIt_695 (by rw [hcl]; rfl) (hs_o12 kc139) (w_X12_guard hG H) rfl rfl (Nat.le_of_ble_eq_true rfl) (Nat.zero_le _) (Nat.zero_le _) rfl (k_Qv (fun s110 H => ?_))
                        refine s_goto hO rfl ?_
                        exact xEx.loc (x_sub1 (List.Mem.tail _ (List.Mem.tail _ (List.Mem.head _))) (x_sub1 (List.Mem.tail _ (List.Mem.tail _ (List.Mem.tail _ (List.Mem.head _)))) x_sub0)) H
                refine goV (wI s93 139 96 1) (fun s111 es111 => ?_)
                replace H := H s111 es111
                refine s_putf (nx := 136) hO rfl rfl (hs_o12 kc139) (Nat.le_of_ble_eq_true rfl) (by rw [hty]; rfl) (by rw [hty]; rfl) pX12_96 rfl ?_
                refine xEx.at (up_oI12 kc139 es111) ?_
                exact xEx.loc (x_sub1 (List.Mem.head _) (x_sub1 (List.Mem.tail _ (List.Mem.head _)) x_sub0)) H
              · replace H := H.2 c105
                refine s_aload_n (nx := 109) hO rfl rfl rfl ?_
                refine s_getf (v := .ref (q_b G + 205)) (nx := 112) hO rfl rfl (hs_o12 kc139) rfl rfl ?_
                refine s_iload_n (nx := 113) hO rfl rfl rfl ?_
                refine s_iconst (x := 0) (nx := 114) hO rfl (by decide) rfl ?_
                obtain ⟨b112, H⟩ := H
                refine goV (wI s90 205 (ix x89) 0) (fun s113 es113 => ?_)
                replace H := H s113 es113
                refine s_iast (nx := 115) hO rfl (hs_I kc205) b112 rfl ?_
                refine xEx.at (up_I kc205 es113) ?_
                refine goV ((x89 + 1)) (fun x114 ex114 => ?_)
                replace H := H x114 ex114
                refine e_iinc (nx := 118) (l' := [(3, .int x114), (0, .ref (q_b G + 139)), (2, .int v2)]) ex114 hO rfl (by decide) rfl rfl rfl rfl ?_
                refine s_goto hO rfl ?_
                exact xEx.loc (x_sub1 (List.Mem.tail _ (List.Mem.head _)) (x_sub1 (List.Mem.tail _ (List.Mem.tail _ (List.Mem.head _))) (x_sub1 (List.Mem.head _) x_sub0))) H
            refine s_istore_n (nx := 102) (l' := [(3, .int 0), (0, .ref (q_b G + 139)), (1, .int v1), (2, .int v2)]) hO rfl (by decide) rfl rfl ?_
            exact xEx.loc (x_sub1 (List.Mem.tail _ (List.Mem.head _)) (x_sub1 (List.Mem.tail _ (List.Mem.tail _ (List.Mem.tail _ (List.Mem.head _)))) (x_sub1 (List.Mem.head _) x_sub0))) H
          · replace H := H.2 c37
            refine s_iconst (x := 1) (nx := 41) hO rfl (by decide) rfl ?_
            refine s_goto hO rfl ?_
            refine goV (wI s1 139 112 1) (fun s115 es115 => ?_)
            replace H := H s115 es115
            refine s_putf (nx := 48) hO rfl rfl (hs_o12 kc139) (Nat.le_of_ble_eq_true rfl) (by rw [hty]; rfl) (by rw [hty]; rfl) pX12_112 rfl ?_
            refine xEx.at (up_oI12 kc139 es115) ?_
            refine s_aload_n (nx := 49) hO rfl rfl rfl ?_
            refine s_iconst (x := 1) (nx := 50) hO rfl (by decide) rfl ?_
            refine goV (wI s115 139 89 1) (fun s116 es116 => ?_)
            replace H := H s116 es116
            refine s_putf (nx := 53) hO rfl rfl (hs_o12 kc139) (Nat.le_of_ble_eq_true rfl) (by rw [hty]; rfl) (by rw [hty]; rfl) pX12_89 rfl ?_
            refine xEx.at (up_oI12 kc139 es116) ?_
            refine s_aload_n (nx := 54) hO rfl rfl rfl ?_
            refine s_iconst (x := (nI 3)) (nx := 55) hO rfl (by decide) rfl ?_
            refine goV (wI s116 139 90 (nI 3)) (fun s117 es117 => ?_)
            replace H := H s117 es117
            refine s_putf (nx := 58) hO rfl rfl (hs_o12 kc139) (Nat.le_of_ble_eq_true rfl) (by rw [hty]; rfl) (by rw [hty]; rfl) pX12_90 rfl ?_
            refine xEx.at (up_oI12 kc139 es117) ?_
            refine s_aload_n (nx := 59) hO rfl rfl rfl ?_
            refine s_iconst (x := 0) (nx := 60) hO rfl (by decide) rfl ?_
            refine goV (wI s117 139 91 0) (fun s118 es118 => ?_)
            replace H := H s118 es118
            refine s_putf (nx := 63) hO rfl rfl (hs_o12 kc139) (Nat.le_of_ble_eq_true rfl) (by rw [hty]; rfl) (by rw [hty]; rfl) pX12_91 rfl ?_
            refine xEx.at (up_oI12 kc139 es118) ?_
            refine s_aload_n (nx := 64) hO rfl rfl rfl ?_
            refine s_iconst (x := 0) (nx := 65) hO rfl (by decide) rfl ?_
            refine goV (wI s118 139 92 0) (fun s119 es119 => ?_)
            replace H := H s119 es119
            refine s_putf (nx := 68) hO rfl rfl (hs_o12 kc139) (Nat.le_of_ble_eq_true rfl) (by rw [hty]; rfl) (by rw [hty]; rfl) pX12_92 rfl ?_
            refine xEx.at (up_oI12 kc139 es119) ?_
            refine s_aload_n (nx := 69) hO rfl rfl rfl ?_
            refine s_iconst (x := 0) (nx := 70) hO rfl (by decide) rfl ?_
            refine goV (wI s119 139 93 0) (fun s120 es120 => ?_)
            replace H := H s120 es120
            refine s_putf (nx := 73) hO rfl rfl (hs_o12 kc139) (Nat.le_of_ble_eq_true rfl) (by rw [hty]; rfl) (by rw [hty]; rfl) pX12_93 rfl ?_
            refine xEx.at (up_oI12 kc139 es120) ?_
            refine s_aload_n (nx := 74) hO rfl rfl rfl ?_
            refine s_iconst (x := 0) (nx := 75) hO rfl (by decide) rfl ?_
            refine goV (wI s120 139 94 0) (fun s121 es121 => ?_)
            replace H := H s121 es121
            refine s_putf (nx := 78) hO rfl rfl (hs_o12 kc139) (Nat.le_of_ble_eq_true rfl) (by rw [hty]; rfl) (by rw [hty]; rfl) pX12_94 rfl ?_
            refine xEx.at (up_oI12 kc139 es121) ?_
            refine s_aload_n (nx := 79) hO rfl rfl rfl ?_
            refine s_iconst (x := 0) (nx := 80) hO rfl (by decide) rfl ?_
            refine goV (wI s121 139 95 0) (fun s122 es122 => ?_)
            replace H := H s122 es122
            refine s_putf (nx := 83) hO rfl rfl (hs_o12 kc139) (Nat.le_of_ble_eq_true rfl) (by rw [hty]; rfl) (by rw [hty]; rfl) pX12_95 rfl ?_
            refine xEx.at (up_oI12 kc139 es122) ?_
            refine s_aload_n (nx := 84) hO rfl rfl rfl ?_
            refine s_iconst (x := 0) (nx := 85) hO rfl (by decide) rfl ?_
            refine goV (wI s122 139 105 0) (fun s123 es123 => ?_)
            replace H := H s123 es123
            refine s_putf (nx := 88) hO rfl rfl (hs_o12 kc139) (Nat.le_of_ble_eq_true rfl) (by rw [hty]; rfl) (by rw [hty]; rfl) pX12_105 rfl ?_
            refine xEx.at (up_oI12 kc139 es123) ?_
            refine s_aload_n (nx := 89) hO rfl rfl rfl ?_
            refine s_getf (v := .ref (q_b G + 210)) (nx := 92) hO rfl rfl (hs_o12 kc139) rfl rfl ?_
            refine s_iconst (x := 0) (nx := 93) hO rfl (by decide) rfl ?_
            refine s_iconst (x := 0) (nx := 94) hO rfl (by decide) rfl ?_
            obtain ⟨b124, H⟩ := H
            refine goV (wI s123 210 (ix 0) 0) (fun s125 es125 => ?_)
            replace H := H s125 es125
            refine s_iast (nx := 95) hO rfl (hs_I kc210) b124 rfl ?_
            refine xEx.at (up_I kc210 es125) ?_
            refine s_aload_n (nx := 96) hO rfl rfl rfl ?_
            refine s_iconst (x := 1) (nx := 97) hO rfl (by decide) rfl ?_
            refine goV (wI s125 139 97 1) (fun s126 es126 => ?_)
            replace H := H s126 es126
            refine s_putf (nx := 100) hO rfl rfl (hs_o12 kc139) (Nat.le_of_ble_eq_true rfl) (by rw [hty]; rfl) (by rw [hty]; rfl) pX12_97 rfl ?_
            refine xEx.at (up_oI12 kc139 es126) ?_
            refine s_iconst (x := 0) (nx := 101) hO rfl (by decide) rfl ?_
            refine goK (H (fun (x127 : Int32) (s128 : yS) => xEx G mX12_runIt 102 [(0, .ref (q_b G + 139)), (2, .int v2), (3, .int x127)] [] (hS G s128) z 0 0 (yQi G z Q)) (fun x127 s128 H => ?_)) (fun H => ?_)
            · show xEx G mX12_runIt 102 [(0, .ref (q_b G + 139)), (2, .int v2), (3, .int x127)] [] (hS G s128) z 0 0 (yQi G z Q)
              refine s_iload_n (nx := 103) hO rfl rfl rfl ?_
              refine s_bipush (x := (nI 6)) (nx := 105) hO rfl (by decide) rfl ?_
              refine s_icmp_ge (nx := 108) hO rfl rfl (fun c105 => ?_) (fun c105 => ?_)
              · replace H := H.1 c105
                refine s_aload_n (nx := 122) hO rfl rfl rfl ?_
                refine s_iconst (x := 0) (nx := 123) hO rfl (by decide) rfl ?_
                refine goV (wI s128 139 111 0) (fun s130 es130 => ?_)
                replace H := H s130 es130
                refine s_putf (nx := 126) hO rfl rfl (hs_o12 kc139) (Nat.le_of_ble_eq_true rfl) (by rw [hty]; rfl) (by rw [hty]; rfl) pX12_111 rfl ?_
                refine xEx.at (up_oI12 kc139 es130) ?_
                refine s_aload_n (nx := 127) hO rfl rfl rfl ?_
                refine s_iconst (x := 0) (nx := 128) hO rfl (by decide) rfl ?_
                refine s_callV [.int 0] (ci := 12) (F := TX12) (N := 116) (nx := 131) hO rfl kX12_runIt_649 (by rw [hcl]; rfl) (hs_o12 kc139) (w_X12_enter hG H) rfl rfl (Nat.le_of_ble_eq_true rfl) (Nat.zero_le _) (Nat.zero_le _) rfl (k_Qv (fun s131 H => ?_))
                refine s_aload_n (nx := 132) hO rfl rfl rfl ?_
                refine s_iconst (x := 1) (nx := 133) hO rfl (by decide) rfl ?_
                refine goK (H (fun (s132 : yS) => xEx G mX12_runIt 136 [(0, .ref (q_b G + 139)), (2, .int v2)] [] (hS G s132) z 0 0 (yQi G z Q)) (fun s132 H => ?_)) (fun H => ?_)
                · show xEx G mX12_runIt 136 [(0, .ref (q_b G + 139)), (2, .int v2)] [] (hS G s132) z 0 0 (yQi G z Q)
                  refine s_aload_n (nx := 137) hO rfl rfl rfl ?_
                  refine s_getf (v := .int (sI s132 139 111)) (nx := 140) hO rfl rfl (hs_o12 kc139) rfl rfl ?_
                  refine s_if_le (nx := 143) hO rfl rfl (fun c140 => ?_) (fun c140 => ?_)
                  · replace H := H.1 c140
                    refine s_aload_n (nx := 234) hO rfl rfl rfl ?_
                    refine s_iconst (x := 0) (nx := 235) hO rfl (by decide) rfl ?_
                    refine goV (wI s132 139 111 0) (fun s134 es134 => ?_)
                    replace H := H s134 es134
                    refine s_putf (nx := 238) hO rfl rfl (hs_o12 kc139) (Nat.le_of_ble_eq_true rfl) (by rw [hty]; rfl) (by rw [hty]; rfl) pX12_111 rfl ?_
                    refine xEx.at (up_oI12 kc139 es134) ?_
                    refine s_aload_n (nx := 239) hO rfl rfl rfl ?_
                    refine s_getf (v := .int (sI s134 139 90)) (nx := 242) hO rfl rfl (hs_o12 kc139) rfl rfl ?_
                    exact s_iret hO rfl rfl rfl ⟨rfl, _, _, rfl, rfl, H⟩
                  · replace H := H.2 c140
                    refine s_aload_n (nx := 144) hO rfl rfl rfl ?_
                    refine s_getf (v := .int (sI s132 139 92)) (nx := 147) hO rfl rfl (hs_o12 kc139) rfl rfl ?_
                    refine s_iload_n (nx := 148) hO rfl rfl rfl ?_
                    refine s_icmp_ge (nx := 151) hO rfl rfl (fun c148 => ?_) (fun c148 => ?_)
                    · replace H := H.1 c148
                      refine s_aload_n (nx := 234) hO rfl rfl rfl ?_
                      refine s_iconst (x := 0) (nx := 235) hO rfl (by decide) rfl ?_
                      refine goV (wI s132 139 111 0) (fun s135 es135 => ?_)
                      replace H := H s135 es135
                      refine s_putf (nx := 238) hO rfl rfl (hs_o12 kc139) (Nat.le_of_ble_eq_true rfl) (by rw [hty]; rfl) (by rw [hty]; rfl) pX12_111 rfl ?_
                      refine xEx.at (up_oI12 kc139 es135) ?_
                      refine s_aload_n (nx := 239) hO rfl rfl rfl ?_
                      refine s_getf (v := .int (sI s135 139 90)) (nx := 242) hO rfl rfl (hs_o12 kc139) rfl rfl ?_
                      exact s_iret hO rfl rfl rfl ⟨rfl, _, _, rfl, rfl, H⟩
                    · replace H := H.2 c148
                      refine s_aload_n (nx := 152) hO rfl rfl rfl ?_
                      refine s_getf (v := .ref (q_b G + 186)) (nx := 155) hO rfl rfl (hs_o12 kc139) rfl rfl ?_
                      refine s_aload_n (nx := 156) hO rfl rfl rfl ?_
                      refine s_callV [] (ci := 12) (F := TX12) (N := 116) (nx := 159) hO rfl kX12_runIt_692 (by rw [hcl]; rfl) (hs_o12 kc139) (w_X12_here hG H) rfl rfl (Nat.le_of_ble_eq_true rfl) (Nat.zero_le _) (Nat.zero_le _) rfl (k_Pi (fun r136 H => ?_))
                      obtain ⟨b137, H⟩ := H
                      refine s_iald (nx := 160) hO rfl (hs_I kc186) b137 rfl ?_
                      refine goV ((sI s132 186 (ix r136))) (fun x138 ex138 => ?_)
                      replace H := H x138 ex138
                      refine e_istore_n (nx := 161) (l' := [(3, .int x138), (0, .ref (q_b G + 139)), (2, .int v2)]) ex138 hO rfl (by decide) rfl rfl ?_
                      refine s_aload_n (nx := 162) hO rfl rfl rfl ?_
                      refine s_getf (v := .ref (q_b G + 187)) (nx := 165) hO rfl rfl (hs_o12 kc139) rfl rfl ?_
                      refine s_aload_n (nx := 166) hO rfl rfl rfl ?_
                      refine s_callV [] (ci := 12) (F := TX12) (N := 116) (nx := 169) hO rfl kX12_runIt_692 (by rw [hcl]; rfl) (hs_o12 kc139) (w_X12_here hG H) rfl rfl (Nat.le_of_ble_eq_true rfl) (Nat.zero_le _) (Nat.zero_le _) rfl (k_Pi (fun r139 H => ?_))
                      obtain ⟨b140, H⟩ := H
                      refine s_iald (nx := 170) hO rfl (hs_I kc187) b140 rfl ?_
                      refine goV ((sI s132 187 (ix r139))) (fun x141 ex141 => ?_)
                      replace H := H x141 ex141
                      refine e_istore (nx := 172) (l' := [(4, .int x141), (3, .int x138), (0, .ref (q_b G + 139)), (2, .int v2)]) ex141 hO rfl (by decide) rfl rfl ?_
                      refine s_iload_n (nx := 173) hO rfl rfl rfl ?_
                      refine s_bipush (x := (nI 29)) (nx := 175) hO rfl (by decide) rfl ?_
                      refine goK (H (fun (s142 : yS) => xEx G mX12_runIt 204 [(0, .ref (q_b G + 139)), (2, .int v2)] [] (hS G s142) z 0 0 (yQi G z Q)) (fun s142 H => ?_)) (fun H => ?_)
                      · show xEx G mX12_runIt 204 [(0, .ref (q_b G + 139)), (2, .int v2)] [] (hS G s142) z 0 0 (yQi G z Q)
                        refine s_aload_n (nx := 205) hO rfl rfl rfl ?_
                        refine s_aload_n (nx := 206) hO rfl rfl rfl ?_
                        refine s_getf (v := .int (sI s142 139 111)) (nx := 209) hO rfl rfl (hs_o12 kc139) rfl rfl ?_
                        refine s_aload_n (nx := 210) hO rfl rfl rfl ?_
                        refine s_getf (v := .int (sI s142 139 96)) (nx := 213) hO rfl rfl (hs_o12 kc139) rfl rfl ?_
                        refine s_icmp_le (nx := 216) hO rfl rfl (fun c213 => ?_) (fun c213 => ?_)
                        · replace H := H.1 c213
                          refine s_aload_n (nx := 224) hO rfl rfl rfl ?_
                          refine s_getf (v := .int (sI s142 139 96)) (nx := 227) hO rfl rfl (hs_o12 kc139) rfl rfl ?_
                          refine goV (wI s142 139 96 (sI s142 139 96)) (fun s144 es144 => ?_)
                          replace H := H s144 es144
                          refine s_putf (nx := 230) hO rfl rfl (hs_o12 kc139) (Nat.le_of_ble_eq_true rfl) (by rw [hty]; rfl) (by rw [hty]; rfl) pX12_96 rfl ?_
                          refine xEx.at (up_oI12 kc139 es144) ?_
                          refine s_goto hO rfl ?_
                          exact xEx.loc (x_sub1 (List.Mem.head _) (x_sub1 (List.Mem.tail _ (List.Mem.head _)) x_sub0)) H
                        · replace H := H.2 c213
                          refine s_aload_n (nx := 217) hO rfl rfl rfl ?_
                          refine s_getf (v := .int (sI s142 139 111)) (nx := 220) hO rfl rfl (hs_o12 kc139) rfl rfl ?_
                          refine s_goto hO rfl ?_
                          refine goV (wI s142 139 96 (sI s142 139 111)) (fun s145 es145 => ?_)
                          replace H := H s145 es145
                          refine s_putf (nx := 230) hO rfl rfl (hs_o12 kc139) (Nat.le_of_ble_eq_true rfl) (by rw [hty]; rfl) (by rw [hty]; rfl) pX12_96 rfl ?_
                          refine xEx.at (up_oI12 kc139 es145) ?_
                          refine s_goto hO rfl ?_
                          exact xEx.loc (x_sub1 (List.Mem.head _) (x_sub1 (List.Mem.tail _ (List.Mem.head _)) x_sub0)) H
                      refine s_icmp_ne (nx := 178) hO rfl rfl (fun c175 => ?_) (fun c175 => ?_)
                      · replace H := H.1 c175
                        refine s_aload_n (nx := 188) hO rfl rfl rfl ?_
                        refine s_dup (nx := 189) hO rfl rfl rfl ?_
                        refine s_getf (v := .int (sI s132 139 92)) (nx := 192) hO rfl rfl (hs_o12 kc139) rfl rfl ?_
                        refine s_iconst (x := 1) (nx := 193) hO rfl (by decide) rfl ?_
                        refine s_iadd (nx := 194) hO rfl rfl ?_
                        refine goV (wI s132 139 92 ((sI s132 139 92) + 1)) (fun s146 es146 => ?_)
                        replace H := H s146 es146
                        refine s_putf (nx := 197) hO rfl rfl (hs_o12 kc139) (Nat.le_of_ble_eq_true rfl) (by rw [hty]; rfl) (by rw [hty]; rfl) pX12_92 rfl ?_
                        refine xEx.at (up_oI12 kc139 es146) ?_
                        refine s_aload_n (nx := 198) hO rfl rfl rfl ?_
                        refine s_iload_n (nx := 199) hO rfl rfl rfl ?_
                        refine s_iload (nx := 201) hO rfl rfl rfl ?_
                        refine s_callV [.int x138, .int x141] (ci := 12) (F := TX12) (N := 116) (nx := 204) hO rfl kX12_runIt_698 (by rw [hcl]; rfl) (hs_o12 kc139) (w_X12_perform hG H) rfl rfl (Nat.le_of_ble_eq_true rfl) (Nat.zero_le _) (Nat.zero_le _) rfl (k_Qv (fun s147 H => ?_))
                        exact xEx.loc (x_sub1 (List.Mem.tail _ (List.Mem.tail _ (List.Mem.head _))) (x_sub1 (List.Mem.tail _ (List.Mem.tail _ (List.Mem.tail _ (List.Mem.head _)))) x_sub0)) H
                      · replace H := H.2 c175
                        refine s_aload_n (nx := 179) hO rfl rfl rfl ?_
                        refine s_iload (nx := 181) hO rfl rfl rfl ?_
                        refine s_callV [.int x141] (ci := 12) (F := TX12) (N := 116) (nx := 184) hO rfl kX12_runIt_695 (by rw [hcl]; rfl) (hs_o12 kc139) (w_X12_guard hG H) rfl rfl (Nat.le_of_ble_eq_true rfl) (Nat.zero_le _) (Nat.zero_le _) rfl (k_Qv (fun s148 H => ?_))
                        refine s_goto hO rfl ?_
                        exact xEx.loc (x_sub1 (List.Mem.tail _ (List.Mem.tail _ (List.Mem.head _))) (x_sub1 (List.Mem.tail _ (List.Mem.tail _ (List.Mem.tail _ (List.Mem.head _)))) x_sub0)) H
                refine goV (wI s131 139 96 1) (fun s149 es149 => ?_)
                replace H := H s149 es149
                refine s_putf (nx := 136) hO rfl rfl (hs_o12 kc139) (Nat.le_of_ble_eq_true rfl) (by rw [hty]; rfl) (by rw [hty]; rfl) pX12_96 rfl ?_
                refine xEx.at (up_oI12 kc139 es149) ?_
                exact xEx.loc (x_sub1 (List.Mem.head _) (x_sub1 (List.Mem.tail _ (List.Mem.head _)) x_sub0)) H
              · replace H := H.2 c105
                refine s_aload_n (nx := 109) hO rfl rfl rfl ?_
                refine s_getf (v := .ref (q_b G + 205)) (nx := 112) hO rfl rfl (hs_o12 kc139) rfl rfl ?_
                refine s_iload_n (nx := 113) hO rfl rfl rfl ?_
                refine s_iconst (x := 0) (nx := 114) hO rfl (by decide) rfl ?_
                obtain ⟨b150, H⟩ := H
                refine goV (wI s128 205 (ix x127) 0) (fun s151 es151 => ?_)
                replace H := H s151 es151
                refine s_iast (nx := 115) hO rfl (hs_I kc205) b150 rfl ?_
                refine xEx.at (up_I kc205 es151) ?_
                refine goV ((x127 + 1)) (fun x152 ex152 => ?_)
                replace H := H x152 ex152
                refine e_iinc (nx := 118) (l' := [(3, .int x152), (0, .ref (q_b G + 139)), (2, .int v2)]) ex152 hO rfl (by decide) rfl rfl rfl rfl ?_
                refine s_goto hO rfl ?_
                exact xEx.loc (x_sub1 (List.Mem.tail _ (List.Mem.head _)) (x_sub1 (List.Mem.tail _ (List.Mem.tail _ (List.Mem.head _))) (x_sub1 (List.Mem.head _) x_sub0))) H
            refine s_istore_n (nx := 102) (l' := [(3, .int 0), (0, .ref (q_b G + 139)), (1, .int v1), (2, .int v2)]) hO rfl (by decide) rfl rfl ?_
            exact xEx.loc (x_sub1 (List.Mem.tail _ (List.Mem.head _)) (x_sub1 (List.Mem.tail _ (List.Mem.tail _ (List.Mem.tail _ (List.Mem.head _)))) (x_sub1 (List.Mem.head _) x_sub0))) H
        · replace H := H.2 c30
          refine s_iconst (x := (-1)) (nx := 34) hO rfl (by decide) rfl ?_
          exact s_iret hO rfl rfl rfl ⟨rfl, _, _, rfl, rfl, H⟩

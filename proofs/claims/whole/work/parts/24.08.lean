def W_X12_makeTables (s : yS) (Q : yS → Prop) : Prop :=
 W_X12_makeLetters s 
 (fun s1 => ∀ P15 : yS → Prop, (∀ (s2 : yS), (((¬ (sI s2 139 15) = 0 → Q s2)
  ∧ ((sI s2 139 15) = 0 → W_X12_tellApart s2 
   (fun s3 => W_X12_number s3 
   (fun s4 => W_X12_gather s4 
   (fun s5 => Q s5)))))) → P15 s2) → 
 ((¬ (sI s1 139 15) = 0 → P15 s1)
 ∧ ((sI s1 139 15) = 0 → W_X12_makeSets s1 
  (fun s6 => P15 s6))))
set_option maxRecDepth 100000 in
set_option maxHeartbeats 40000000 in
theorem w_X12_makeTables {G : xG} (hG : yG G) {z : Nat} {s : yS} {Q : yS → Prop} (H : W_X12_makeTables s Q) : xC G mX12_makeTables [.ref (q_b G + 139)] (hS G s) z 0 0 (yQv G z Q) := by
  have hW := hG.1
  have hcl := hG.2.1
  have hty := hG.2.2.1
  have hO : xO G mX12_makeTables tbX12_makeTables ptX12_makeTables := ⟨tkX12_makeTables, pkX12_makeTables hcl⟩
  unfold W_X12_makeTables at H
  refine xC.of hW (by decide) rfl (Nat.le_of_ble_eq_true rfl) ?_
  refine s_aload_n (nx := 1) hO rfl rfl rfl ?_
  refine s_callV [] (ci := 12) (F := TX12) (N := 116) (nx := 4) hO rfl kX12_makeTables_496 (by rw [hcl]; rfl) (hs_o12 kc139) (w_X12_makeLetters hG H) rfl rfl (Nat.le_of_ble_eq_true rfl) (Nat.zero_le _) (Nat.zero_le _) rfl (k_Qv (fun s1 H => ?_))
  refine s_aload_n (nx := 5) hO rfl rfl rfl ?_
  refine s_getf (v := .int (sI s1 139 15)) (nx := 8) hO rfl rfl (hs_o12 kc139) rfl rfl ?_
  refine goK (H (fun (s2 : yS) => xEx G mX12_makeTables 15 [(0, .ref (q_b G + 139))] [] (hS G s2) z 0 0 (yQv G z Q)) (fun s2 H => ?_)) (fun H => ?_)
  · show xEx G mX12_makeTables 15 [(0, .ref (q_b G + 139))] [] (hS G s2) z 0 0 (yQv G z Q)
    refine s_aload_n (nx := 16) hO rfl rfl rfl ?_
    refine s_getf (v := .int (sI s2 139 15)) (nx := 19) hO rfl rfl (hs_o12 kc139) rfl rfl ?_
    refine s_if_ne (nx := 22) hO rfl rfl (fun c19 => ?_) (fun c19 => ?_)
    · replace H := H.1 c19
      exact s_vret hO rfl rfl ⟨rfl, _, rfl, rfl, H⟩
    · replace H := H.2 c19
      refine s_aload_n (nx := 23) hO rfl rfl rfl ?_
      refine s_callV [] (ci := 12) (F := TX12) (N := 116) (nx := 26) hO rfl kX12_makeTables_502 (by rw [hcl]; rfl) (hs_o12 kc139) (w_X12_tellApart hG H) rfl rfl (Nat.le_of_ble_eq_true rfl) (Nat.zero_le _) (Nat.zero_le _) rfl (k_Qv (fun s3 H => ?_))
      refine s_aload_n (nx := 27) hO rfl rfl rfl ?_
      refine s_callV [] (ci := 12) (F := TX12) (N := 116) (nx := 30) hO rfl kX12_makeTables_505 (by rw [hcl]; rfl) (hs_o12 kc139) (w_X12_number hG H) rfl rfl (Nat.le_of_ble_eq_true rfl) (Nat.zero_le _) (Nat.zero_le _) rfl (k_Qv (fun s4 H => ?_))
      refine s_aload_n (nx := 31) hO rfl rfl rfl ?_
      refine s_callV [] (ci := 12) (F := TX12) (N := 116) (nx := 34) hO rfl kX12_makeTables_507 (by rw [hcl]; rfl) (hs_o12 kc139) (w_X12_gather hG H) rfl rfl (Nat.le_of_ble_eq_true rfl) (Nat.zero_le _) (Nat.zero_le _) rfl (k_Qv (fun s5 H => ?_))
      exact s_vret hO rfl rfl ⟨rfl, _, rfl, rfl, H⟩
  refine s_if_ne (nx := 11) hO rfl rfl (fun c8 => ?_) (fun c8 => ?_)
  · replace H := H.1 c8
    exact xEx.loc (x_sub1 (List.Mem.head _) x_sub0) H
  · replace H := H.2 c8
    refine s_aload_n (nx := 12) hO rfl rfl rfl ?_
    refine s_callV [] (ci := 12) (F := TX12) (N := 116) (nx := 15) hO rfl kX12_makeTables_499 (by rw [hcl]; rfl) (hs_o12 kc139) (w_X12_makeSets hG H) rfl rfl (Nat.le_of_ble_eq_true rfl) (Nat.zero_le _) (Nat.zero_le _) rfl (k_Qv (fun s6 H => ?_))
    exact xEx.loc (x_sub1 (List.Mem.head _) x_sub0) H
def W_X12_resetWatch (s : yS) (Q : yS → Prop) : Prop :=
 ∀ s1 : yS, s1 = wI s 139 0 0 → 
 ∀ s2 : yS, s2 = wI s1 139 99 1 → 
 ∀ P12 : Int32 → yS → Prop, (∀ (x3 : Int32) (s4 : yS), ((((nI 6) ≤ x3 → Q s4)
  ∧ (¬ (nI 6) ≤ x3 → vp_in x3 6 ∧ ∀ s6 : yS, s6 = wI s4 206 (ix x3) 0 → 
   ∀ x7 : Int32, x7 = (x3 + 1) → 
   P12 x7 s6))) → P12 x3 s4) → 
 P12 0 s2
set_option maxRecDepth 100000 in
set_option maxHeartbeats 40000000 in
theorem w_X12_resetWatch {G : xG} (hG : yG G) {z : Nat} {s : yS} {Q : yS → Prop} (H : W_X12_resetWatch s Q) : xC G mX12_resetWatch [.ref (q_b G + 139)] (hS G s) z 0 0 (yQv G z Q) := by
  have hW := hG.1
  have hcl := hG.2.1
  have hty := hG.2.2.1
  have hO : xO G mX12_resetWatch tbX12_resetWatch ptX12_resetWatch := ⟨tkX12_resetWatch, pkX12_resetWatch hcl⟩
  unfold W_X12_resetWatch at H
  refine xC.of hW (by decide) rfl (Nat.le_of_ble_eq_true rfl) ?_
  refine s_aload_n (nx := 1) hO rfl rfl rfl ?_
  refine s_iconst (x := 0) (nx := 2) hO rfl (by decide) rfl ?_
  refine goV (wI s 139 0 0) (fun s1 es1 => ?_)
  replace H := H s1 es1
  refine s_putf (nx := 5) hO rfl rfl (hs_o12 kc139) (Nat.le_of_ble_eq_true rfl) (by rw [hty]; rfl) (by rw [hty]; rfl) pX12_0 rfl ?_
  refine xEx.at (up_oI12 kc139 es1) ?_
  refine s_aload_n (nx := 6) hO rfl rfl rfl ?_
  refine s_iconst (x := 1) (nx := 7) hO rfl (by decide) rfl ?_
  refine goV (wI s1 139 99 1) (fun s2 es2 => ?_)
  replace H := H s2 es2
  refine s_putf (nx := 10) hO rfl rfl (hs_o12 kc139) (Nat.le_of_ble_eq_true rfl) (by rw [hty]; rfl) (by rw [hty]; rfl) pX12_99 rfl ?_
  refine xEx.at (up_oI12 kc139 es2) ?_
  refine s_iconst (x := 0) (nx := 11) hO rfl (by decide) rfl ?_
  refine goK (H (fun (x3 : Int32) (s4 : yS) => xEx G mX12_resetWatch 12 [(0, .ref (q_b G + 139)), (1, .int x3)] [] (hS G s4) z 0 0 (yQv G z Q)) (fun x3 s4 H => ?_)) (fun H => ?_)
  · show xEx G mX12_resetWatch 12 [(0, .ref (q_b G + 139)), (1, .int x3)] [] (hS G s4) z 0 0 (yQv G z Q)
    refine s_iload_n (nx := 13) hO rfl rfl rfl ?_
    refine s_bipush (x := (nI 6)) (nx := 15) hO rfl (by decide) rfl ?_
    refine s_icmp_ge (nx := 18) hO rfl rfl (fun c15 => ?_) (fun c15 => ?_)
    · replace H := H.1 c15
      exact s_vret hO rfl rfl ⟨rfl, _, rfl, rfl, H⟩
    · replace H := H.2 c15
      refine s_aload_n (nx := 19) hO rfl rfl rfl ?_
      refine s_getf (v := .ref (q_b G + 206)) (nx := 22) hO rfl rfl (hs_o12 kc139) rfl rfl ?_
      refine s_iload_n (nx := 23) hO rfl rfl rfl ?_
      refine s_iconst (x := 0) (nx := 24) hO rfl (by decide) rfl ?_
      obtain ⟨b5, H⟩ := H
      refine goV (wI s4 206 (ix x3) 0) (fun s6 es6 => ?_)
      replace H := H s6 es6
      refine s_iast (nx := 25) hO rfl (hs_I kc206) b5 rfl ?_
      refine xEx.at (up_I kc206 es6) ?_
      refine goV ((x3 + 1)) (fun x7 ex7 => ?_)
      replace H := H x7 ex7
      refine e_iinc (nx := 28) (l' := [(1, .int x7), (0, .ref (q_b G + 139))]) ex7 hO rfl (by decide) rfl rfl rfl rfl ?_
      refine s_goto hO rfl ?_
      exact xEx.loc (x_sub1 (List.Mem.tail _ (List.Mem.head _)) (x_sub1 (List.Mem.head _) x_sub0)) H
  refine s_istore_n (nx := 12) (l' := [(1, .int 0), (0, .ref (q_b G + 139))]) hO rfl (by decide) rfl rfl ?_
  exact xEx.loc (x_sub1 (List.Mem.tail _ (List.Mem.head _)) (x_sub1 (List.Mem.head _) x_sub0)) H
def W_X12_giveBytes (s : yS) (v1 : Int64) (v2 : Int32) (Q : Int32 → yS → Prop) : Prop :=
 ∀ s1 : yS, s1 = wI s 139 0 0 → 
 ((v2 < 1 → Q 0 s1)
 ∧ (¬ v2 < 1 → (((nI 8) < v2 → Q 0 s1)
  ∧ (¬ (nI 8) < v2 → ((((sI s1 139 2) + v2) ≤ (nI 8192) → ∀ P35 : Int32 → yS → Prop, (∀ (x2 : Int32) (s3 : yS), (((x2 < 0 → Q 1 s3)
     ∧ (¬ x2 < 0 → vp_in (sI s3 139 2) 8192 ∧ ∀ s5 : yS, s5 = wI s3 140 (ix (sI s3 139 2)) (((v1 >>> ((((nI 8) * x2)).toInt64 &&& 63)) &&& ((255)))).toInt32 → 
      ∀ s6 : yS, s6 = wI s5 139 2 ((sI s5 139 2) + 1) → 
      ∀ x7 : Int32, x7 = (x2 + (-1)) → 
      P35 x7 s6))) → P35 x2 s3) → 
    ∀ x8 : Int32, x8 = (v2 - 1) → 
    P35 x8 s1)
   ∧ (¬ ((sI s1 139 2) + v2) ≤ (nI 8192) → Q 0 s1))))))
set_option maxRecDepth 100000 in
set_option maxHeartbeats 40000000 in
theorem w_X12_giveBytes {G : xG} (hG : yG G) {z : Nat} {s : yS} {v1 : Int64} {v2 : Int32} {Q : Int32 → yS → Prop} (H : W_X12_giveBytes s v1 v2 Q) : xC G mX12_giveBytes [.ref (q_b G + 139), .long v1, .int v2] (hS G s) z 0 0 (yQi G z Q) := by
  have hW := hG.1
  have hcl := hG.2.1
  have hty := hG.2.2.1
  have hO : xO G mX12_giveBytes tbX12_giveBytes ptX12_giveBytes := ⟨tkX12_giveBytes, pkX12_giveBytes hcl⟩
  unfold W_X12_giveBytes at H
  refine xC.of hW (by decide) rfl (Nat.le_of_ble_eq_true rfl) ?_
  refine s_aload_n (nx := 1) hO rfl rfl rfl ?_
  refine s_iconst (x := 0) (nx := 2) hO rfl (by decide) rfl ?_
  refine goV (wI s 139 0 0) (fun s1 es1 => ?_)
  replace H := H s1 es1
  refine s_putf (nx := 5) hO rfl rfl (hs_o12 kc139) (Nat.le_of_ble_eq_true rfl) (by rw [hty]; rfl) (by rw [hty]; rfl) pX12_0 rfl ?_
  refine xEx.at (up_oI12 kc139 es1) ?_
  refine s_iload_n (nx := 6) hO rfl rfl rfl ?_
  refine s_iconst (x := 1) (nx := 7) hO rfl (by decide) rfl ?_
  refine s_icmp_lt (nx := 10) hO rfl rfl (fun c7 => ?_) (fun c7 => ?_)
  · replace H := H.1 c7
    refine s_iconst (x := 0) (nx := 29) hO rfl (by decide) rfl ?_
    exact s_iret hO rfl rfl rfl ⟨rfl, _, _, rfl, rfl, H⟩
  · replace H := H.2 c7
    refine s_iload_n (nx := 11) hO rfl rfl rfl ?_
    refine s_bipush (x := (nI 8)) (nx := 13) hO rfl (by decide) rfl ?_
    refine s_icmp_gt (nx := 16) hO rfl rfl (fun c13 => ?_) (fun c13 => ?_)
    · replace H := H.1 c13
      refine s_iconst (x := 0) (nx := 29) hO rfl (by decide) rfl ?_
      exact s_iret hO rfl rfl rfl ⟨rfl, _, _, rfl, rfl, H⟩
    · replace H := H.2 c13
      refine s_aload_n (nx := 17) hO rfl rfl rfl ?_
      refine s_getf (v := .int (sI s1 139 2)) (nx := 20) hO rfl rfl (hs_o12 kc139) rfl rfl ?_
      refine s_iload_n (nx := 21) hO rfl rfl rfl ?_
      refine s_iadd (nx := 22) hO rfl rfl ?_
      refine s_sipush (x := (nI 8192)) (nx := 25) hO rfl (by decide) rfl ?_
      refine s_icmp_le (nx := 28) hO rfl rfl (fun c25 => ?_) (fun c25 => ?_)
      · replace H := H.1 c25
        refine s_iload_n (nx := 31) hO rfl rfl rfl ?_
        refine s_iconst (x := 1) (nx := 32) hO rfl (by decide) rfl ?_
        refine s_isub (nx := 33) hO rfl rfl ?_
        refine goK (H (fun (x2 : Int32) (s3 : yS) => xEx G mX12_giveBytes 35 [(0, .ref (q_b G + 139)), (1, .long v1), (4, .int x2)] [] (hS G s3) z 0 0 (yQi G z Q)) (fun x2 s3 H => ?_)) (fun H => ?_)
        · show xEx G mX12_giveBytes 35 [(0, .ref (q_b G + 139)), (1, .long v1), (4, .int x2)] [] (hS G s3) z 0 0 (yQi G z Q)
          refine s_iload (nx := 37) hO rfl rfl rfl ?_
          refine s_if_lt (nx := 40) hO rfl rfl (fun c37 => ?_) (fun c37 => ?_)
          · replace H := H.1 c37
            refine s_iconst (x := 1) (nx := 78) hO rfl (by decide) rfl ?_
            exact s_iret hO rfl rfl rfl ⟨rfl, _, _, rfl, rfl, H⟩
          · replace H := H.2 c37
            refine s_aload_n (nx := 41) hO rfl rfl rfl ?_
            refine s_getf (v := .ref (q_b G + 140)) (nx := 44) hO rfl rfl (hs_o12 kc139) rfl rfl ?_
            refine s_aload_n (nx := 45) hO rfl rfl rfl ?_
            refine s_getf (v := .int (sI s3 139 2)) (nx := 48) hO rfl rfl (hs_o12 kc139) rfl rfl ?_
            refine s_lload_n (nx := 49) hO rfl rfl rfl ?_
            refine s_bipush (x := (nI 8)) (nx := 51) hO rfl (by decide) rfl ?_
            refine s_iload (nx := 53) hO rfl rfl rfl ?_
            refine s_imul (nx := 54) hO rfl rfl ?_
            refine s_lshr (nx := 55) hO rfl rfl ?_
            refine s_ldc2_w (x := ((255))) (nx := 58) hO rfl rfl rfl ?_
            refine s_land (nx := 59) hO rfl rfl ?_
            refine s_l2i (nx := 60) hO rfl rfl ?_
            obtain ⟨b4, H⟩ := H
            refine goV (wI s3 140 (ix (sI s3 139 2)) (((v1 >>> ((((nI 8) * x2)).toInt64 &&& 63)) &&& ((255)))).toInt32) (fun s5 es5 => ?_)
            replace H := H s5 es5
            refine s_iast (nx := 61) hO rfl (hs_I kc140) b4 rfl ?_
            refine xEx.at (up_I kc140 es5) ?_
            refine s_aload_n (nx := 62) hO rfl rfl rfl ?_
            refine s_dup (nx := 63) hO rfl rfl rfl ?_
            refine s_getf (v := .int (sI s5 139 2)) (nx := 66) hO rfl rfl (hs_o12 kc139) rfl rfl ?_
            refine s_iconst (x := 1) (nx := 67) hO rfl (by decide) rfl ?_
            refine s_iadd (nx := 68) hO rfl rfl ?_
            refine goV (wI s5 139 2 ((sI s5 139 2) + 1)) (fun s6 es6 => ?_)
            replace H := H s6 es6
            refine s_putf (nx := 71) hO rfl rfl (hs_o12 kc139) (Nat.le_of_ble_eq_true rfl) (by rw [hty]; rfl) (by rw [hty]; rfl) pX12_2 rfl ?_
            refine xEx.at (up_oI12 kc139 es6) ?_
            refine goV ((x2 + (-1))) (fun x7 ex7 => ?_)
            replace H := H x7 ex7
            refine e_iinc (nx := 74) (l' := [(4, .int x7), (0, .ref (q_b G + 139)), (1, .long v1)]) ex7 hO rfl (by decide) rfl rfl rfl rfl ?_
            refine s_goto hO rfl ?_
            exact xEx.loc (x_sub1 (List.Mem.tail _ (List.Mem.head _)) (x_sub1 (List.Mem.tail _ (List.Mem.tail _ (List.Mem.head _))) (x_sub1 (List.Mem.head _) x_sub0))) H
        refine goV ((v2 - 1)) (fun x8 ex8 => ?_)
        replace H := H x8 ex8
        refine e_istore (nx := 35) (l' := [(4, .int x8), (0, .ref (q_b G + 139)), (1, .long v1), (3, .int v2)]) ex8 hO rfl (by decide) rfl rfl ?_
        exact xEx.loc (x_sub1 (List.Mem.tail _ (List.Mem.head _)) (x_sub1 (List.Mem.tail _ (List.Mem.tail _ (List.Mem.head _))) (x_sub1 (List.Mem.head _) x_sub0))) H
      · replace H := H.2 c25
        refine s_iconst (x := 0) (nx := 29) hO rfl (by decide) rfl ?_
        exact s_iret hO rfl rfl rfl ⟨rfl, _, _, rfl, rfl, H⟩
def W_X12_cutBytes (s : yS) (v1 : Int32) (Q : Int32 → yS → Prop) : Prop :=
 ∀ s1 : yS, s1 = wI s 139 0 0 → 
 ((v1 < 0 → Q 0 s1)
 ∧ (¬ v1 < 0 → ((v1 ≤ (sI s1 139 2) → ∀ s2 : yS, s2 = wI s1 139 2 v1 → 
   Q 1 s2)
  ∧ (¬ v1 ≤ (sI s1 139 2) → Q 0 s1))))
set_option maxRecDepth 100000 in
set_option maxHeartbeats 40000000 in
theorem w_X12_cutBytes {G : xG} (hG : yG G) {z : Nat} {s : yS} {v1 : Int32} {Q : Int32 → yS → Prop} (H : W_X12_cutBytes s v1 Q) : xC G mX12_cutBytes [.ref (q_b G + 139), .int v1] (hS G s) z 0 0 (yQi G z Q) := by
  have hW := hG.1
  have hcl := hG.2.1
  have hty := hG.2.2.1
  have hO : xO G mX12_cutBytes tbX12_cutBytes ptX12_cutBytes := ⟨tkX12_cutBytes, pkX12_cutBytes hcl⟩
  unfold W_X12_cutBytes at H
  refine xC.of hW (by decide) rfl (Nat.le_of_ble_eq_true rfl) ?_
  refine s_aload_n (nx := 1) hO rfl rfl rfl ?_
  refine s_iconst (x := 0) (nx := 2) hO rfl (by decide) rfl ?_
  refine goV (wI s 139 0 0) (fun s1 es1 => ?_)
  replace H := H s1 es1
  refine s_putf (nx := 5) hO rfl rfl (hs_o12 kc139) (Nat.le_of_ble_eq_true rfl) (by rw [hty]; rfl) (by rw [hty]; rfl) pX12_0 rfl ?_
  refine xEx.at (up_oI12 kc139 es1) ?_
  refine s_iload_n (nx := 6) hO rfl rfl rfl ?_
  refine s_if_lt (nx := 9) hO rfl rfl (fun c6 => ?_) (fun c6 => ?_)
  · replace H := H.1 c6
    refine s_iconst (x := 0) (nx := 18) hO rfl (by decide) rfl ?_
    exact s_iret hO rfl rfl rfl ⟨rfl, _, _, rfl, rfl, H⟩
  · replace H := H.2 c6
    refine s_iload_n (nx := 10) hO rfl rfl rfl ?_
    refine s_aload_n (nx := 11) hO rfl rfl rfl ?_
    refine s_getf (v := .int (sI s1 139 2)) (nx := 14) hO rfl rfl (hs_o12 kc139) rfl rfl ?_
    refine s_icmp_le (nx := 17) hO rfl rfl (fun c14 => ?_) (fun c14 => ?_)
    · replace H := H.1 c14
      refine s_aload_n (nx := 20) hO rfl rfl rfl ?_
      refine s_iload_n (nx := 21) hO rfl rfl rfl ?_
      refine goV (wI s1 139 2 v1) (fun s2 es2 => ?_)
      replace H := H s2 es2
      refine s_putf (nx := 24) hO rfl rfl (hs_o12 kc139) (Nat.le_of_ble_eq_true rfl) (by rw [hty]; rfl) (by rw [hty]; rfl) pX12_2 rfl ?_
      refine xEx.at (up_oI12 kc139 es2) ?_
      refine s_iconst (x := 1) (nx := 25) hO rfl (by decide) rfl ?_
      exact s_iret hO rfl rfl rfl ⟨rfl, _, _, rfl, rfl, H⟩
    · replace H := H.2 c14
      refine s_iconst (x := 0) (nx := 18) hO rfl (by decide) rfl ?_
      exact s_iret hO rfl rfl rfl ⟨rfl, _, _, rfl, rfl, H⟩
def W_X12_pokeByte (s : yS) (v1 : Int32) (v2 : Int32) (Q : Int32 → yS → Prop) : Prop :=
 ∀ s1 : yS, s1 = wI s 139 0 0 → 
 ((v1 < 0 → Q 0 s1)
 ∧ (¬ v1 < 0 → ((v1 < (sI s1 139 2) → vp_in v1 8192 ∧ ∀ s3 : yS, s3 = wI s1 140 (ix v1) (v2 &&& (nI 255)) → 
   Q 1 s3)
  ∧ (¬ v1 < (sI s1 139 2) → Q 0 s1))))
set_option maxRecDepth 100000 in
set_option maxHeartbeats 40000000 in
theorem w_X12_pokeByte {G : xG} (hG : yG G) {z : Nat} {s : yS} {v1 : Int32} {v2 : Int32} {Q : Int32 → yS → Prop} (H : W_X12_pokeByte s v1 v2 Q) : xC G mX12_pokeByte [.ref (q_b G + 139), .int v1, .int v2] (hS G s) z 0 0 (yQi G z Q) := by
  have hW := hG.1
  have hcl := hG.2.1
  have hty := hG.2.2.1
  have hO : xO G mX12_pokeByte tbX12_pokeByte ptX12_pokeByte := ⟨tkX12_pokeByte, pkX12_pokeByte hcl⟩
  unfold W_X12_pokeByte at H
  refine xC.of hW (by decide) rfl (Nat.le_of_ble_eq_true rfl) ?_
  refine s_aload_n (nx := 1) hO rfl rfl rfl ?_
  refine s_iconst (x := 0) (nx := 2) hO rfl (by decide) rfl ?_
  refine goV (wI s 139 0 0) (fun s1 es1 => ?_)
  replace H := H s1 es1
  refine s_putf (nx := 5) hO rfl rfl (hs_o12 kc139) (Nat.le_of_ble_eq_true rfl) (by rw [hty]; rfl) (by rw [hty]; rfl) pX12_0 rfl ?_
  refine xEx.at (up_oI12 kc139 es1) ?_
  refine s_iload_n (nx := 6) hO rfl rfl rfl ?_
  refine s_if_lt (nx := 9) hO rfl rfl (fun c6 => ?_) (fun c6 => ?_)
  · replace H := H.1 c6
    refine s_iconst (x := 0) (nx := 18) hO rfl (by decide) rfl ?_
    exact s_iret hO rfl rfl rfl ⟨rfl, _, _, rfl, rfl, H⟩
  · replace H := H.2 c6
    refine s_iload_n (nx := 10) hO rfl rfl rfl ?_
    refine s_aload_n (nx := 11) hO rfl rfl rfl ?_
    refine s_getf (v := .int (sI s1 139 2)) (nx := 14) hO rfl rfl (hs_o12 kc139) rfl rfl ?_
    refine s_icmp_lt (nx := 17) hO rfl rfl (fun c14 => ?_) (fun c14 => ?_)
    · replace H := H.1 c14
      refine s_aload_n (nx := 20) hO rfl rfl rfl ?_
      refine s_getf (v := .ref (q_b G + 140)) (nx := 23) hO rfl rfl (hs_o12 kc139) rfl rfl ?_
      refine s_iload_n (nx := 24) hO rfl rfl rfl ?_
      refine s_iload_n (nx := 25) hO rfl rfl rfl ?_
      refine s_sipush (x := (nI 255)) (nx := 28) hO rfl (by decide) rfl ?_
      refine s_iand (nx := 29) hO rfl rfl ?_
      obtain ⟨b2, H⟩ := H
      refine goV (wI s1 140 (ix v1) (v2 &&& (nI 255))) (fun s3 es3 => ?_)
      replace H := H s3 es3
      refine s_iast (nx := 30) hO rfl (hs_I kc140) b2 rfl ?_
      refine xEx.at (up_I kc140 es3) ?_
      refine s_iconst (x := 1) (nx := 31) hO rfl (by decide) rfl ?_
      exact s_iret hO rfl rfl rfl ⟨rfl, _, _, rfl, rfl, H⟩
    · replace H := H.2 c14
      refine s_iconst (x := 0) (nx := 18) hO rfl (by decide) rfl ?_
      exact s_iret hO rfl rfl rfl ⟨rfl, _, _, rfl, rfl, H⟩
def W_X12_turnBytes (s : yS) (Q : yS → Prop) : Prop :=
 ∀ s1 : yS, s1 = wI s 139 0 0 → 
 ∀ s2 : yS, s2 = wI s1 139 2 (sI s1 139 5) → 
 ∀ P15 : Int32 → yS → Prop, (∀ (x3 : Int32) (s4 : yS), ((((sI s4 139 2) ≤ x3 → Q s4)
  ∧ (¬ (sI s4 139 2) ≤ x3 → vp_in x3 8192 ∧ 
   vp_in x3 8192 ∧ ∀ s7 : yS, s7 = wI s4 140 (ix x3) (sI s4 141 (ix x3)) → 
   ∀ x8 : Int32, x8 = (x3 + 1) → 
   P15 x8 s7))) → P15 x3 s4) → 
 P15 0 s2
set_option maxRecDepth 100000 in
set_option maxHeartbeats 40000000 in
theorem w_X12_turnBytes {G : xG} (hG : yG G) {z : Nat} {s : yS} {Q : yS → Prop} (H : W_X12_turnBytes s Q) : xC G mX12_turnBytes [.ref (q_b G + 139)] (hS G s) z 0 0 (yQv G z Q) := by
  have hW := hG.1
  have hcl := hG.2.1
  have hty := hG.2.2.1
  have hO : xO G mX12_turnBytes tbX12_turnBytes ptX12_turnBytes := ⟨tkX12_turnBytes, pkX12_turnBytes hcl⟩
  unfold W_X12_turnBytes at H
  refine xC.of hW (by decide) rfl (Nat.le_of_ble_eq_true rfl) ?_
  refine s_aload_n (nx := 1) hO rfl rfl rfl ?_
  refine s_iconst (x := 0) (nx := 2) hO rfl (by decide) rfl ?_
  refine goV (wI s 139 0 0) (fun s1 es1 => ?_)
  replace H := H s1 es1
  refine s_putf (nx := 5) hO rfl rfl (hs_o12 kc139) (Nat.le_of_ble_eq_true rfl) (by rw [hty]; rfl) (by rw [hty]; rfl) pX12_0 rfl ?_
  refine xEx.at (up_oI12 kc139 es1) ?_
  refine s_aload_n (nx := 6) hO rfl rfl rfl ?_
  refine s_aload_n (nx := 7) hO rfl rfl rfl ?_
  refine s_getf (v := .int (sI s1 139 5)) (nx := 10) hO rfl rfl (hs_o12 kc139) rfl rfl ?_
  refine goV (wI s1 139 2 (sI s1 139 5)) (fun s2 es2 => ?_)
  replace H := H s2 es2
  refine s_putf (nx := 13) hO rfl rfl (hs_o12 kc139) (Nat.le_of_ble_eq_true rfl) (by rw [hty]; rfl) (by rw [hty]; rfl) pX12_2 rfl ?_
  refine xEx.at (up_oI12 kc139 es2) ?_
  refine s_iconst (x := 0) (nx := 14) hO rfl (by decide) rfl ?_
  refine goK (H (fun (x3 : Int32) (s4 : yS) => xEx G mX12_turnBytes 15 [(0, .ref (q_b G + 139)), (1, .int x3)] [] (hS G s4) z 0 0 (yQv G z Q)) (fun x3 s4 H => ?_)) (fun H => ?_)
  · show xEx G mX12_turnBytes 15 [(0, .ref (q_b G + 139)), (1, .int x3)] [] (hS G s4) z 0 0 (yQv G z Q)
    refine s_iload_n (nx := 16) hO rfl rfl rfl ?_
    refine s_aload_n (nx := 17) hO rfl rfl rfl ?_
    refine s_getf (v := .int (sI s4 139 2)) (nx := 20) hO rfl rfl (hs_o12 kc139) rfl rfl ?_
    refine s_icmp_ge (nx := 23) hO rfl rfl (fun c20 => ?_) (fun c20 => ?_)
    · replace H := H.1 c20
      exact s_vret hO rfl rfl ⟨rfl, _, rfl, rfl, H⟩
    · replace H := H.2 c20
      refine s_aload_n (nx := 24) hO rfl rfl rfl ?_
      refine s_getf (v := .ref (q_b G + 140)) (nx := 27) hO rfl rfl (hs_o12 kc139) rfl rfl ?_
      refine s_iload_n (nx := 28) hO rfl rfl rfl ?_
      refine s_aload_n (nx := 29) hO rfl rfl rfl ?_
      refine s_getf (v := .ref (q_b G + 141)) (nx := 32) hO rfl rfl (hs_o12 kc139) rfl rfl ?_
      refine s_iload_n (nx := 33) hO rfl rfl rfl ?_
      obtain ⟨b5, H⟩ := H
      refine s_iald (nx := 34) hO rfl (hs_I kc141) b5 rfl ?_
      obtain ⟨b6, H⟩ := H
      refine goV (wI s4 140 (ix x3) (sI s4 141 (ix x3))) (fun s7 es7 => ?_)
      replace H := H s7 es7
      refine s_iast (nx := 35) hO rfl (hs_I kc140) b6 rfl ?_
      refine xEx.at (up_I kc140 es7) ?_
      refine goV ((x3 + 1)) (fun x8 ex8 => ?_)
      replace H := H x8 ex8
      refine e_iinc (nx := 38) (l' := [(1, .int x8), (0, .ref (q_b G + 139))]) ex8 hO rfl (by decide) rfl rfl rfl rfl ?_
      refine s_goto hO rfl ?_
      exact xEx.loc (x_sub1 (List.Mem.tail _ (List.Mem.head _)) (x_sub1 (List.Mem.head _) x_sub0)) H
  refine s_istore_n (nx := 15) (l' := [(1, .int 0), (0, .ref (q_b G + 139))]) hO rfl (by decide) rfl rfl ?_
  exact xEx.loc (x_sub1 (List.Mem.tail _ (List.Mem.head _)) (x_sub1 (List.Mem.head _) x_sub0)) H
def W_X12_byteOf (s : yS) (v1 : Int32) (v2 : Int32) (Q : Int32 → yS → Prop) : Prop :=
 ∀ s1 : yS, s1 = wI s 139 0 0 → 
 ((v1 < 0 → Q (-1) s1)
 ∧ (¬ v1 < 0 → ∀ P25 : Int32 → Int32 → Prop, (∀ (y2 : Int32) (y3 : Int32), (((y3 < y2 → ((v2 = 0 → vp_in v1 8192 ∧ 
     Q (sI s1 141 (ix v1)) s1)
    ∧ (¬ v2 = 0 → vp_in v1 8192 ∧ 
     Q (sI s1 140 (ix v1)) s1)))
   ∧ (¬ y3 < y2 → Q (-1) s1))) → P25 y2 y3) → 
  ((v2 = 0 → P25 (sI s1 139 5) v1)
  ∧ (¬ v2 = 0 → P25 (sI s1 139 2) v1))))
set_option maxRecDepth 100000 in
set_option maxHeartbeats 40000000 in
theorem w_X12_byteOf {G : xG} (hG : yG G) {z : Nat} {s : yS} {v1 : Int32} {v2 : Int32} {Q : Int32 → yS → Prop} (H : W_X12_byteOf s v1 v2 Q) : xC G mX12_byteOf [.ref (q_b G + 139), .int v1, .int v2] (hS G s) z 0 0 (yQi G z Q) := by
  have hW := hG.1
  have hcl := hG.2.1
  have hty := hG.2.2.1
  have hO : xO G mX12_byteOf tbX12_byteOf ptX12_byteOf := ⟨tkX12_byteOf, pkX12_byteOf hcl⟩
  unfold W_X12_byteOf at H
  refine xC.of hW (by decide) rfl (Nat.le_of_ble_eq_true rfl) ?_
  refine s_aload_n (nx := 1) hO rfl rfl rfl ?_
  refine s_iconst (x := 0) (nx := 2) hO rfl (by decide) rfl ?_
  refine goV (wI s 139 0 0) (fun s1 es1 => ?_)
  replace H := H s1 es1
  refine s_putf (nx := 5) hO rfl rfl (hs_o12 kc139) (Nat.le_of_ble_eq_true rfl) (by rw [hty]; rfl) (by rw [hty]; rfl) pX12_0 rfl ?_
  refine xEx.at (up_oI12 kc139 es1) ?_
  refine s_iload_n (nx := 6) hO rfl rfl rfl ?_
  refine s_if_lt (nx := 9) hO rfl rfl (fun c6 => ?_) (fun c6 => ?_)
  · replace H := H.1 c6
    refine s_iconst (x := (-1)) (nx := 29) hO rfl (by decide) rfl ?_
    refine s_goto hO rfl ?_
    exact s_iret hO rfl rfl rfl ⟨rfl, _, _, rfl, rfl, H⟩
  · replace H := H.2 c6
    refine s_iload_n (nx := 10) hO rfl rfl rfl ?_
    refine s_iload_n (nx := 11) hO rfl rfl rfl ?_
    refine goK (H (fun (y2 : Int32) (y3 : Int32) => xEx G mX12_byteOf 25 [(0, .ref (q_b G + 139)), (1, .int v1), (2, .int v2)] [.int y2, .int y3] (hS G s1) z 0 0 (yQi G z Q)) (fun y2 y3 H => ?_)) (fun H => ?_)
    · show xEx G mX12_byteOf 25 [(0, .ref (q_b G + 139)), (1, .int v1), (2, .int v2)] [.int y2, .int y3] (hS G s1) z 0 0 (yQi G z Q)
      refine s_icmp_lt (nx := 28) hO rfl rfl (fun c25 => ?_) (fun c25 => ?_)
      · replace H := H.1 c25
        refine s_iload_n (nx := 33) hO rfl rfl rfl ?_
        refine s_if_eq (nx := 36) hO rfl rfl (fun c33 => ?_) (fun c33 => ?_)
        · replace H := H.1 c33
          refine s_aload_n (nx := 46) hO rfl rfl rfl ?_
          refine s_getf (v := .ref (q_b G + 141)) (nx := 49) hO rfl rfl (hs_o12 kc139) rfl rfl ?_
          refine s_iload_n (nx := 50) hO rfl rfl rfl ?_
          obtain ⟨b4, H⟩ := H
          refine s_iald (nx := 51) hO rfl (hs_I kc141) b4 rfl ?_
          exact s_iret hO rfl rfl rfl ⟨rfl, _, _, rfl, rfl, H⟩
        · replace H := H.2 c33
          refine s_aload_n (nx := 37) hO rfl rfl rfl ?_
          refine s_getf (v := .ref (q_b G + 140)) (nx := 40) hO rfl rfl (hs_o12 kc139) rfl rfl ?_
          refine s_iload_n (nx := 41) hO rfl rfl rfl ?_
          obtain ⟨b5, H⟩ := H
          refine s_iald (nx := 42) hO rfl (hs_I kc140) b5 rfl ?_
          refine s_goto hO rfl ?_
          exact s_iret hO rfl rfl rfl ⟨rfl, _, _, rfl, rfl, H⟩
      · replace H := H.2 c25
        refine s_iconst (x := (-1)) (nx := 29) hO rfl (by decide) rfl ?_
        refine s_goto hO rfl ?_
        exact s_iret hO rfl rfl rfl ⟨rfl, _, _, rfl, rfl, H⟩
    refine s_if_eq (nx := 14) hO rfl rfl (fun c11 => ?_) (fun c11 => ?_)
    · replace H := H.1 c11
      refine s_aload_n (nx := 22) hO rfl rfl rfl ?_
      refine s_getf (v := .int (sI s1 139 5)) (nx := 25) hO rfl rfl (hs_o12 kc139) rfl rfl ?_
      exact xEx.loc (x_sub1 (List.Mem.head _) (x_sub1 (List.Mem.tail _ (List.Mem.head _)) (x_sub1 (List.Mem.tail _ (List.Mem.tail _ (List.Mem.head _))) x_sub0))) H
    · replace H := H.2 c11
      refine s_aload_n (nx := 15) hO rfl rfl rfl ?_
      refine s_getf (v := .int (sI s1 139 2)) (nx := 18) hO rfl rfl (hs_o12 kc139) rfl rfl ?_
      refine s_goto hO rfl ?_
      exact xEx.loc (x_sub1 (List.Mem.head _) (x_sub1 (List.Mem.tail _ (List.Mem.head _)) (x_sub1 (List.Mem.tail _ (List.Mem.tail _ (List.Mem.head _))) x_sub0))) H
def W_X12_count (s : yS) (a1 n1 : Nat) (v2 : Int32) (Q : yS → Prop) : Prop :=
 ∀ P2 : Int32 → yS → Prop, (∀ (x1 : Int32) (s2 : yS), ((((sI s2 139 19) ≤ x1 → Q s2)
  ∧ (¬ (sI s2 139 19) ≤ x1 → ∀ P16 : Int32 → Int32 → yS → Prop, (∀ (x3 : Int32) (x4 : Int32) (s5 : yS), ((((sI s5 139 25) ≤ x4 → ∀ x6 : Int32, x6 = (x1 + 1) → 
     P2 x6 s5)
    ∧ (¬ (sI s5 139 25) ≤ x4 → ∀ P67 : Int32 → Prop, (∀ (y7 : Int32), (∀ P139 : Int32 → yS → Prop, (∀ (x8 : Int32) (s9 : yS), (∀ x10 : Int32, x10 = (x4 + 1) → 
       P16 x8 x10 s9) → P139 x8 s9) → 
      ((y7 = 0 → P139 x3 s5)
      ∧ (¬ y7 = 0 → vp_in x4 24 ∧ 
       vp_in x4 24 ∧ 
       W_X12_hold s5 (sI s5 149 (ix x4)) (sI s5 150 (ix x4)) v2 
       (fun r13 => ((r13 = 0 → P139 x3 s5)
       ∧ (¬ r13 = 0 → vp_in x4 24 ∧ 
        ((¬ (sI s5 147 (ix x4)) = 0 → vp_in x1 n1 ∧ 
         vp_in x1 6 ∧ 
         (((sI s5 145 (ix x1)) ≤ (sI s5 a1 (ix x1)) → vp_in x1 n1 ∧ 
          vp_in x1 n1 ∧ ∀ s19 : yS, s19 = wI s5 a1 (ix x1) (sI s5 a1 (ix x1)) → 
          P139 1 s19)
         ∧ (¬ (sI s5 145 (ix x1)) ≤ (sI s5 a1 (ix x1)) → vp_in x1 n1 ∧ 
          vp_in x1 n1 ∧ ∀ s22 : yS, s22 = wI s5 a1 (ix x1) ((sI s5 a1 (ix x1)) + 1) → 
          P139 1 s22)))
        ∧ ((sI s5 147 (ix x4)) = 0 → vp_in x1 n1 ∧ ∀ s24 : yS, s24 = wI s5 a1 (ix x1) 0 → 
         P139 1 s24)))))))) → P67 y7) → 
     ((¬ x3 = 0 → P67 0)
     ∧ (x3 = 0 → vp_in x4 24 ∧ 
      ((¬ (sI s5 146 (ix x4)) = x1 → P67 0)
      ∧ ((sI s5 146 (ix x4)) = x1 → vp_in x4 24 ∧ 
       (((sI s5 148 (ix x4)) < 0 → P67 1)
       ∧ (¬ (sI s5 148 (ix x4)) < 0 → vp_in x4 24 ∧ 
        ((¬ (sI s5 148 (ix x4)) = v2 → P67 0)
        ∧ ((sI s5 148 (ix x4)) = v2 → P67 1))))))))))) → P16 x3 x4 s5) → 
   P16 0 0 s2))) → P2 x1 s2) → 
 P2 0 s
set_option maxRecDepth 100000 in
set_option maxHeartbeats 40000000 in
theorem w_X12_count {G : xG} (hG : yG G) {z : Nat} {s : yS} {a1 n1 : Nat} {v2 : Int32} {Q : yS → Prop} (ha1 : kd a1 = some (0, n1)) (H : W_X12_count s a1 n1 v2 Q) : xC G mX12_count [.ref (q_b G + 139), .ref (q_b G + a1), .int v2] (hS G s) z 0 0 (yQv G z Q) := by
  have hW := hG.1
  have hcl := hG.2.1
  have hty := hG.2.2.1
  have hO : xO G mX12_count tbX12_count ptX12_count := ⟨tkX12_count, pkX12_count hcl⟩
  unfold W_X12_count at H
  refine xC.of hW (by decide) rfl (Nat.le_of_ble_eq_true rfl) ?_
  refine s_iconst (x := 0) (nx := 1) hO rfl (by decide) rfl ?_
  refine goK (H (fun (x1 : Int32) (s2 : yS) => xEx G mX12_count 2 [(0, .ref (q_b G + 139)), (1, .ref (q_b G + a1)), (2, .int v2), (3, .int x1)] [] (hS G s2) z 0 0 (yQv G z Q)) (fun x1 s2 H => ?_)) (fun H => ?_)
  · show xEx G mX12_count 2 [(0, .ref (q_b G + 139)), (1, .ref (q_b G + a1)), (2, .int v2), (3, .int x1)] [] (hS G s2) z 0 0 (yQv G z Q)
    refine s_iload_n (nx := 3) hO rfl rfl rfl ?_
    refine s_aload_n (nx := 4) hO rfl rfl rfl ?_
    refine s_getf (v := .int (sI s2 139 19)) (nx := 7) hO rfl rfl (hs_o12 kc139) rfl rfl ?_
    refine s_icmp_ge (nx := 10) hO rfl rfl (fun c7 => ?_) (fun c7 => ?_)
    · replace H := H.1 c7
      exact s_vret hO rfl rfl ⟨rfl, _, rfl, rfl, H⟩
    · replace H := H.2 c7
      refine s_iconst (x := 0) (nx := 11) hO rfl (by decide) rfl ?_
      refine s_istore (nx := 13) (l' := [(4, .int 0), (0, .ref (q_b G + 139)), (1, .ref (q_b G + a1)), (2, .int v2), (3, .int x1)]) hO rfl (by decide) rfl rfl ?_
      refine s_iconst (x := 0) (nx := 14) hO rfl (by decide) rfl ?_
      refine goK (H (fun (x3 : Int32) (x4 : Int32) (s5 : yS) => xEx G mX12_count 16 [(0, .ref (q_b G + 139)), (1, .ref (q_b G + a1)), (2, .int v2), (3, .int x1), (4, .int x3), (5, .int x4)] [] (hS G s5) z 0 0 (yQv G z Q)) (fun x3 x4 s5 H => ?_)) (fun H => ?_)
      · show xEx G mX12_count 16 [(0, .ref (q_b G + 139)), (1, .ref (q_b G + a1)), (2, .int v2), (3, .int x1), (4, .int x3), (5, .int x4)] [] (hS G s5) z 0 0 (yQv G z Q)
        refine s_iload (nx := 18) hO rfl rfl rfl ?_
        refine s_aload_n (nx := 19) hO rfl rfl rfl ?_
        refine s_getf (v := .int (sI s5 139 25)) (nx := 22) hO rfl rfl (hs_o12 kc139) rfl rfl ?_
        refine s_icmp_ge (nx := 25) hO rfl rfl (fun c22 => ?_) (fun c22 => ?_)
        · replace H := H.1 c22
          refine goV ((x1 + 1)) (fun x6 ex6 => ?_)
          replace H := H x6 ex6
          refine e_iinc (nx := 148) (l' := [(3, .int x6), (0, .ref (q_b G + 139)), (1, .ref (q_b G + a1)), (2, .int v2), (4, .int x3), (5, .int x4)]) ex6 hO rfl (by decide) rfl rfl rfl rfl ?_
          refine s_goto hO rfl ?_
          exact xEx.loc (x_sub1 (List.Mem.tail _ (List.Mem.head _)) (x_sub1 (List.Mem.tail _ (List.Mem.tail _ (List.Mem.head _))) (x_sub1 (List.Mem.tail _ (List.Mem.tail _ (List.Mem.tail _ (List.Mem.head _)))) (x_sub1 (List.Mem.head _) x_sub0)))) H
        · replace H := H.2 c22
          refine s_iload (nx := 27) hO rfl rfl rfl ?_
          refine goK (H (fun (y7 : Int32) => xEx G mX12_count 67 [(0, .ref (q_b G + 139)), (1, .ref (q_b G + a1)), (2, .int v2), (3, .int x1), (4, .int x3), (5, .int x4)] [.int y7] (hS G s5) z 0 0 (yQv G z Q)) (fun y7 H => ?_)) (fun H => ?_)
          · show xEx G mX12_count 67 [(0, .ref (q_b G + 139)), (1, .ref (q_b G + a1)), (2, .int v2), (3, .int x1), (4, .int x3), (5, .int x4)] [.int y7] (hS G s5) z 0 0 (yQv G z Q)
            refine s_istore (nx := 69) (l' := [(6, .int y7), (0, .ref (q_b G + 139)), (1, .ref (q_b G + a1)), (2, .int v2), (3, .int x1), (4, .int x3), (5, .int x4)]) hO rfl (by decide) rfl rfl ?_
            refine s_iload (nx := 71) hO rfl rfl rfl ?_
            refine goK (H (fun (x8 : Int32) (s9 : yS) => xEx G mX12_count 139 [(0, .ref (q_b G + 139)), (1, .ref (q_b G + a1)), (2, .int v2), (3, .int x1), (4, .int x8), (5, .int x4)] [] (hS G s9) z 0 0 (yQv G z Q)) (fun x8 s9 H => ?_)) (fun H => ?_)
            · show xEx G mX12_count 139 [(0, .ref (q_b G + 139)), (1, .ref (q_b G + a1)), (2, .int v2), (3, .int x1), (4, .int x8), (5, .int x4)] [] (hS G s9) z 0 0 (yQv G z Q)
              refine goV ((x4 + 1)) (fun x10 ex10 => ?_)
              replace H := H x10 ex10
              refine e_iinc (nx := 142) (l' := [(5, .int x10), (0, .ref (q_b G + 139)), (1, .ref (q_b G + a1)), (2, .int v2), (3, .int x1), (4, .int x8)]) ex10 hO rfl (by decide) rfl rfl rfl rfl ?_
              refine s_goto hO rfl ?_
              exact xEx.loc (x_sub1 (List.Mem.tail _ (List.Mem.head _)) (x_sub1 (List.Mem.tail _ (List.Mem.tail _ (List.Mem.head _))) (x_sub1 (List.Mem.tail _ (List.Mem.tail _ (List.Mem.tail _ (List.Mem.head _)))) (x_sub1 (List.Mem.tail _ (List.Mem.tail _ (List.Mem.tail _ (List.Mem.tail _ (List.Mem.head _))))) (x_sub1 (List.Mem.tail _ (List.Mem.tail _ (List.Mem.tail _ (List.Mem.tail _ (List.Mem.tail _ (List.Mem.head _)))))) (x_sub1 (List.Mem.head _) x_sub0)))))) H
            refine s_if_eq (nx := 74) hO rfl rfl (fun c71 => ?_) (fun c71 => ?_)
            · replace H := H.1 c71
              exact xEx.loc (x_sub1 (List.Mem.tail _ (List.Mem.head _)) (x_sub1 (List.Mem.tail _ (List.Mem.tail _ (List.Mem.head _))) (x_sub1 (List.Mem.tail _ (List.Mem.tail _ (List.Mem.tail _ (List.Mem.head _)))) (x_sub1 (List.Mem.tail _ (List.Mem.tail _ (List.Mem.tail _ (List.Mem.tail _ (List.Mem.head _))))) (x_sub1 (List.Mem.tail _ (List.Mem.tail _ (List.Mem.tail _ (List.Mem.tail _ (List.Mem.tail _ (List.Mem.head _)))))) (x_sub1 (List.Mem.tail _ (List.Mem.tail _ (List.Mem.tail _ (List.Mem.tail _ (List.Mem.tail _ (List.Mem.tail _ (List.Mem.head _))))))) x_sub0)))))) H
            · replace H := H.2 c71
              refine s_aload_n (nx := 75) hO rfl rfl rfl ?_
              refine s_aload_n (nx := 76) hO rfl rfl rfl ?_
              refine s_getf (v := .ref (q_b G + 149)) (nx := 79) hO rfl rfl (hs_o12 kc139) rfl rfl ?_
              refine s_iload (nx := 81) hO rfl rfl rfl ?_
              obtain ⟨b11, H⟩ := H
              refine s_iald (nx := 82) hO rfl (hs_I kc149) b11 rfl ?_
              refine s_aload_n (nx := 83) hO rfl rfl rfl ?_
              refine s_getf (v := .ref (q_b G + 150)) (nx := 86) hO rfl rfl (hs_o12 kc139) rfl rfl ?_
              refine s_iload (nx := 88) hO rfl rfl rfl ?_
              obtain ⟨b12, H⟩ := H
              refine s_iald (nx := 89) hO rfl (hs_I kc150) b12 rfl ?_
              refine s_iload_n (nx := 90) hO rfl rfl rfl ?_
              refine s_callV [.int (sI s5 149 (ix x4)), .int (sI s5 150 (ix x4)), .int v2] (ci := 12) (F := TX12) (N := 116) (nx := 93) hO rfl kX12_count_471 (by rw [hcl]; rfl) (hs_o12 kc139) (w_X12_hold hG H) rfl rfl (Nat.le_of_ble_eq_true rfl) (Nat.zero_le _) (Nat.zero_le _) rfl (k_Pi (fun r13 H => ?_))
              refine s_if_eq (nx := 96) hO rfl rfl (fun c93 => ?_) (fun c93 => ?_)
              · replace H := H.1 c93
                exact xEx.loc (x_sub1 (List.Mem.tail _ (List.Mem.head _)) (x_sub1 (List.Mem.tail _ (List.Mem.tail _ (List.Mem.head _))) (x_sub1 (List.Mem.tail _ (List.Mem.tail _ (List.Mem.tail _ (List.Mem.head _)))) (x_sub1 (List.Mem.tail _ (List.Mem.tail _ (List.Mem.tail _ (List.Mem.tail _ (List.Mem.head _))))) (x_sub1 (List.Mem.tail _ (List.Mem.tail _ (List.Mem.tail _ (List.Mem.tail _ (List.Mem.tail _ (List.Mem.head _)))))) (x_sub1 (List.Mem.tail _ (List.Mem.tail _ (List.Mem.tail _ (List.Mem.tail _ (List.Mem.tail _ (List.Mem.tail _ (List.Mem.head _))))))) x_sub0)))))) H
              · replace H := H.2 c93
                refine s_iconst (x := 1) (nx := 97) hO rfl (by decide) rfl ?_
                refine s_istore (nx := 99) (l' := [(4, .int 1), (6, .int y7), (0, .ref (q_b G + 139)), (1, .ref (q_b G + a1)), (2, .int v2), (3, .int x1), (5, .int x4)]) hO rfl (by decide) rfl rfl ?_
                refine s_aload_n (nx := 100) hO rfl rfl rfl ?_
                refine s_iload_n (nx := 101) hO rfl rfl rfl ?_
                refine s_aload_n (nx := 102) hO rfl rfl rfl ?_
                refine s_getf (v := .ref (q_b G + 147)) (nx := 105) hO rfl rfl (hs_o12 kc139) rfl rfl ?_
                refine s_iload (nx := 107) hO rfl rfl rfl ?_
                obtain ⟨b14, H⟩ := H
                refine s_zald (nx := 108) hO rfl (hs_Z kc147) b14 rfl ?_
                refine s_if_ne (nx := 111) hO rfl rfl (fun c108 => ?_) (fun c108 => ?_)
                · replace H := H.1 c108
                  refine s_aload_n (nx := 116) hO rfl rfl rfl ?_
                  refine s_iload_n (nx := 117) hO rfl rfl rfl ?_
                  obtain ⟨b15, H⟩ := H
                  refine s_iald (nx := 118) hO rfl (hs_I ha1) b15 rfl ?_
                  refine s_aload_n (nx := 119) hO rfl rfl rfl ?_
                  refine s_getf (v := .ref (q_b G + 145)) (nx := 122) hO rfl rfl (hs_o12 kc139) rfl rfl ?_
                  refine s_iload_n (nx := 123) hO rfl rfl rfl ?_
                  obtain ⟨b16, H⟩ := H
                  refine s_iald (nx := 124) hO rfl (hs_I kc145) b16 rfl ?_
                  refine s_icmp_ge (nx := 127) hO rfl rfl (fun c124 => ?_) (fun c124 => ?_)
                  · replace H := H.1 c124
                    refine s_aload_n (nx := 136) hO rfl rfl rfl ?_
                    refine s_iload_n (nx := 137) hO rfl rfl rfl ?_
                    obtain ⟨b17, H⟩ := H
                    refine s_iald (nx := 138) hO rfl (hs_I ha1) b17 rfl ?_
                    obtain ⟨b18, H⟩ := H
                    refine goV (wI s5 a1 (ix x1) (sI s5 a1 (ix x1))) (fun s19 es19 => ?_)
                    replace H := H s19 es19
                    refine s_iast (nx := 139) hO rfl (hs_I ha1) b18 rfl ?_
                    refine xEx.at (up_I ha1 es19) ?_
                    exact xEx.loc (x_sub1 (List.Mem.tail _ (List.Mem.tail _ (List.Mem.head _))) (x_sub1 (List.Mem.tail _ (List.Mem.tail _ (List.Mem.tail _ (List.Mem.head _)))) (x_sub1 (List.Mem.tail _ (List.Mem.tail _ (List.Mem.tail _ (List.Mem.tail _ (List.Mem.head _))))) (x_sub1 (List.Mem.tail _ (List.Mem.tail _ (List.Mem.tail _ (List.Mem.tail _ (List.Mem.tail _ (List.Mem.head _)))))) (x_sub1 (List.Mem.head _) (x_sub1 (List.Mem.tail _ (List.Mem.tail _ (List.Mem.tail _ (List.Mem.tail _ (List.Mem.tail _ (List.Mem.tail _ (List.Mem.head _))))))) x_sub0)))))) H
                  · replace H := H.2 c124
                    refine s_aload_n (nx := 128) hO rfl rfl rfl ?_
                    refine s_iload_n (nx := 129) hO rfl rfl rfl ?_
                    obtain ⟨b20, H⟩ := H
                    refine s_iald (nx := 130) hO rfl (hs_I ha1) b20 rfl ?_
                    refine s_iconst (x := 1) (nx := 131) hO rfl (by decide) rfl ?_
                    refine s_iadd (nx := 132) hO rfl rfl ?_
                    refine s_goto hO rfl ?_
                    obtain ⟨b21, H⟩ := H
                    refine goV (wI s5 a1 (ix x1) ((sI s5 a1 (ix x1)) + 1)) (fun s22 es22 => ?_)
                    replace H := H s22 es22
                    refine s_iast (nx := 139) hO rfl (hs_I ha1) b21 rfl ?_
                    refine xEx.at (up_I ha1 es22) ?_
                    exact xEx.loc (x_sub1 (List.Mem.tail _ (List.Mem.tail _ (List.Mem.head _))) (x_sub1 (List.Mem.tail _ (List.Mem.tail _ (List.Mem.tail _ (List.Mem.head _)))) (x_sub1 (List.Mem.tail _ (List.Mem.tail _ (List.Mem.tail _ (List.Mem.tail _ (List.Mem.head _))))) (x_sub1 (List.Mem.tail _ (List.Mem.tail _ (List.Mem.tail _ (List.Mem.tail _ (List.Mem.tail _ (List.Mem.head _)))))) (x_sub1 (List.Mem.head _) (x_sub1 (List.Mem.tail _ (List.Mem.tail _ (List.Mem.tail _ (List.Mem.tail _ (List.Mem.tail _ (List.Mem.tail _ (List.Mem.head _))))))) x_sub0)))))) H
                · replace H := H.2 c108
                  refine s_iconst (x := 0) (nx := 112) hO rfl (by decide) rfl ?_
                  refine s_goto hO rfl ?_
                  obtain ⟨b23, H⟩ := H
                  refine goV (wI s5 a1 (ix x1) 0) (fun s24 es24 => ?_)
                  replace H := H s24 es24
                  refine s_iast (nx := 139) hO rfl (hs_I ha1) b23 rfl ?_
                  refine xEx.at (up_I ha1 es24) ?_
                  exact xEx.loc (x_sub1 (List.Mem.tail _ (List.Mem.tail _ (List.Mem.head _))) (x_sub1 (List.Mem.tail _ (List.Mem.tail _ (List.Mem.tail _ (List.Mem.head _)))) (x_sub1 (List.Mem.tail _ (List.Mem.tail _ (List.Mem.tail _ (List.Mem.tail _ (List.Mem.head _))))) (x_sub1 (List.Mem.tail _ (List.Mem.tail _ (List.Mem.tail _ (List.Mem.tail _ (List.Mem.tail _ (List.Mem.head _)))))) (x_sub1 (List.Mem.head _) (x_sub1 (List.Mem.tail _ (List.Mem.tail _ (List.Mem.tail _ (List.Mem.tail _ (List.Mem.tail _ (List.Mem.tail _ (List.Mem.head _))))))) x_sub0)))))) H
          refine s_if_ne (nx := 30) hO rfl rfl (fun c27 => ?_) (fun c27 => ?_)
          · replace H := H.1 c27
            refine s_iconst (x := 0) (nx := 67) hO rfl (by decide) rfl ?_
            exact xEx.loc (x_sub1 (List.Mem.head _) (x_sub1 (List.Mem.tail _ (List.Mem.head _)) (x_sub1 (List.Mem.tail _ (List.Mem.tail _ (List.Mem.head _))) (x_sub1 (List.Mem.tail _ (List.Mem.tail _ (List.Mem.tail _ (List.Mem.head _)))) (x_sub1 (List.Mem.tail _ (List.Mem.tail _ (List.Mem.tail _ (List.Mem.tail _ (List.Mem.head _))))) (x_sub1 (List.Mem.tail _ (List.Mem.tail _ (List.Mem.tail _ (List.Mem.tail _ (List.Mem.tail _ (List.Mem.head _)))))) x_sub0)))))) H
          · replace H := H.2 c27
            refine s_aload_n (nx := 31) hO rfl rfl rfl ?_
            refine s_getf (v := .ref (q_b G + 146)) (nx := 34) hO rfl rfl (hs_o12 kc139) rfl rfl ?_
            refine s_iload (nx := 36) hO rfl rfl rfl ?_
            obtain ⟨b25, H⟩ := H
            refine s_iald (nx := 37) hO rfl (hs_I kc146) b25 rfl ?_
            refine s_iload_n (nx := 38) hO rfl rfl rfl ?_
            refine s_icmp_ne (nx := 41) hO rfl rfl (fun c38 => ?_) (fun c38 => ?_)
            · replace H := H.1 c38
              refine s_iconst (x := 0) (nx := 67) hO rfl (by decide) rfl ?_
              exact xEx.loc (x_sub1 (List.Mem.head _) (x_sub1 (List.Mem.tail _ (List.Mem.head _)) (x_sub1 (List.Mem.tail _ (List.Mem.tail _ (List.Mem.head _))) (x_sub1 (List.Mem.tail _ (List.Mem.tail _ (List.Mem.tail _ (List.Mem.head _)))) (x_sub1 (List.Mem.tail _ (List.Mem.tail _ (List.Mem.tail _ (List.Mem.tail _ (List.Mem.head _))))) (x_sub1 (List.Mem.tail _ (List.Mem.tail _ (List.Mem.tail _ (List.Mem.tail _ (List.Mem.tail _ (List.Mem.head _)))))) x_sub0)))))) H
            · replace H := H.2 c38
              refine s_aload_n (nx := 42) hO rfl rfl rfl ?_
              refine s_getf (v := .ref (q_b G + 148)) (nx := 45) hO rfl rfl (hs_o12 kc139) rfl rfl ?_
              refine s_iload (nx := 47) hO rfl rfl rfl ?_
              obtain ⟨b26, H⟩ := H
              refine s_iald (nx := 48) hO rfl (hs_I kc148) b26 rfl ?_
              refine s_if_lt (nx := 51) hO rfl rfl (fun c48 => ?_) (fun c48 => ?_)
              · replace H := H.1 c48
                refine s_iconst (x := 1) (nx := 63) hO rfl (by decide) rfl ?_
                refine s_goto hO rfl ?_
                exact xEx.loc (x_sub1 (List.Mem.head _) (x_sub1 (List.Mem.tail _ (List.Mem.head _)) (x_sub1 (List.Mem.tail _ (List.Mem.tail _ (List.Mem.head _))) (x_sub1 (List.Mem.tail _ (List.Mem.tail _ (List.Mem.tail _ (List.Mem.head _)))) (x_sub1 (List.Mem.tail _ (List.Mem.tail _ (List.Mem.tail _ (List.Mem.tail _ (List.Mem.head _))))) (x_sub1 (List.Mem.tail _ (List.Mem.tail _ (List.Mem.tail _ (List.Mem.tail _ (List.Mem.tail _ (List.Mem.head _)))))) x_sub0)))))) H
              · replace H := H.2 c48
                refine s_aload_n (nx := 52) hO rfl rfl rfl ?_
                refine s_getf (v := .ref (q_b G + 148)) (nx := 55) hO rfl rfl (hs_o12 kc139) rfl rfl ?_
                refine s_iload (nx := 57) hO rfl rfl rfl ?_
                obtain ⟨b27, H⟩ := H
                refine s_iald (nx := 58) hO rfl (hs_I kc148) b27 rfl ?_
                refine s_iload_n (nx := 59) hO rfl rfl rfl ?_
                refine s_icmp_ne (nx := 62) hO rfl rfl (fun c59 => ?_) (fun c59 => ?_)
                · replace H := H.1 c59
                  refine s_iconst (x := 0) (nx := 67) hO rfl (by decide) rfl ?_
                  exact xEx.loc (x_sub1 (List.Mem.head _) (x_sub1 (List.Mem.tail _ (List.Mem.head _)) (x_sub1 (List.Mem.tail _ (List.Mem.tail _ (List.Mem.head _))) (x_sub1 (List.Mem.tail _ (List.Mem.tail _ (List.Mem.tail _ (List.Mem.head _)))) (x_sub1 (List.Mem.tail _ (List.Mem.tail _ (List.Mem.tail _ (List.Mem.tail _ (List.Mem.head _))))) (x_sub1 (List.Mem.tail _ (List.Mem.tail _ (List.Mem.tail _ (List.Mem.tail _ (List.Mem.tail _ (List.Mem.head _)))))) x_sub0)))))) H
                · replace H := H.2 c59
                  refine s_iconst (x := 1) (nx := 63) hO rfl (by decide) rfl ?_
                  refine s_goto hO rfl ?_
                  exact xEx.loc (x_sub1 (List.Mem.head _) (x_sub1 (List.Mem.tail _ (List.Mem.head _)) (x_sub1 (List.Mem.tail _ (List.Mem.tail _ (List.Mem.head _))) (x_sub1 (List.Mem.tail _ (List.Mem.tail _ (List.Mem.tail _ (List.Mem.head _)))) (x_sub1 (List.Mem.tail _ (List.Mem.tail _ (List.Mem.tail _ (List.Mem.tail _ (List.Mem.head _))))) (x_sub1 (List.Mem.tail _ (List.Mem.tail _ (List.Mem.tail _ (List.Mem.tail _ (List.Mem.tail _ (List.Mem.head _)))))) x_sub0)))))) H
      refine s_istore (nx := 16) (l' := [(5, .int 0), (4, .int 0), (0, .ref (q_b G + 139)), (1, .ref (q_b G + a1)), (2, .int v2), (3, .int x1)]) hO rfl (by decide) rfl rfl ?_
      exact xEx.loc (x_sub1 (List.Mem.tail _ (List.Mem.tail _ (List.Mem.head _))) (x_sub1 (List.Mem.tail _ (List.Mem.tail _ (List.Mem.tail _ (List.Mem.head _)))) (x_sub1 (List.Mem.tail _ (List.Mem.tail _ (List.Mem.tail _ (List.Mem.tail _ (List.Mem.head _))))) (x_sub1 (List.Mem.tail _ (List.Mem.tail _ (List.Mem.tail _ (List.Mem.tail _ (List.Mem.tail _ (List.Mem.head _)))))) (x_sub1 (List.Mem.tail _ (List.Mem.head _)) (x_sub1 (List.Mem.head _) x_sub0)))))) H
  refine s_istore_n (nx := 2) (l' := [(3, .int 0), (0, .ref (q_b G + 139)), (1, .ref (q_b G + a1)), (2, .int v2)]) hO rfl (by decide) rfl rfl ?_
  exact xEx.loc (x_sub1 (List.Mem.tail _ (List.Mem.head _)) (x_sub1 (List.Mem.tail _ (List.Mem.tail _ (List.Mem.head _))) (x_sub1 (List.Mem.tail _ (List.Mem.tail _ (List.Mem.tail _ (List.Mem.head _)))) (x_sub1 (List.Mem.head _) x_sub0)))) H
def W_X12_setCall (s : yS) (v1 : Int32) (v2 : Int32) (v3 : Int32) (a4 n4 : Nat) (Q : yS → Prop) : Prop :=
 vp_in 0 3 ∧ ∀ s2 : yS, s2 = wI s 175 (ix 0) v1 → 
 vp_in 1 3 ∧ ∀ s4 : yS, s4 = wI s2 175 (ix 1) v2 → 
 vp_in (nI 2) 3 ∧ ∀ s6 : yS, s6 = wI s4 175 (ix (nI 2)) v3 → 
 ∀ P24 : Int32 → yS → Prop, (∀ (x7 : Int32) (s8 : yS), ((((nI 6) ≤ x7 → Q s8)
  ∧ (¬ (nI 6) ≤ x7 → vp_in x7 n4 ∧ 
   vp_in x7 6 ∧ ∀ s11 : yS, s11 = wI s8 176 (ix x7) (sI s8 a4 (ix x7)) → 
   ∀ x12 : Int32, x12 = (x7 + 1) → 
   P24 x12 s11))) → P24 x7 s8) → 
 P24 0 s6
set_option maxRecDepth 100000 in
set_option maxHeartbeats 40000000 in
theorem w_X12_setCall {G : xG} (hG : yG G) {z : Nat} {s : yS} {v1 : Int32} {v2 : Int32} {v3 : Int32} {a4 n4 : Nat} {Q : yS → Prop} (ha4 : kd a4 = some (0, n4)) (H : W_X12_setCall s v1 v2 v3 a4 n4 Q) : xC G mX12_setCall [.ref (q_b G + 139), .int v1, .int v2, .int v3, .ref (q_b G + a4)] (hS G s) z 0 0 (yQv G z Q) := by
  have hW := hG.1
  have hcl := hG.2.1
  have hty := hG.2.2.1
  have hO : xO G mX12_setCall tbX12_setCall ptX12_setCall := ⟨tkX12_setCall, pkX12_setCall hcl⟩
  unfold W_X12_setCall at H
  refine xC.of hW (by decide) rfl (Nat.le_of_ble_eq_true rfl) ?_
  refine s_aload_n (nx := 1) hO rfl rfl rfl ?_
  refine s_getf (v := .ref (q_b G + 175)) (nx := 4) hO rfl rfl (hs_o12 kc139) rfl rfl ?_
  refine s_iconst (x := 0) (nx := 5) hO rfl (by decide) rfl ?_
  refine s_iload_n (nx := 6) hO rfl rfl rfl ?_
  obtain ⟨b1, H⟩ := H
  refine goV (wI s 175 (ix 0) v1) (fun s2 es2 => ?_)
  replace H := H s2 es2
  refine s_iast (nx := 7) hO rfl (hs_I kc175) b1 rfl ?_
  refine xEx.at (up_I kc175 es2) ?_
  refine s_aload_n (nx := 8) hO rfl rfl rfl ?_
  refine s_getf (v := .ref (q_b G + 175)) (nx := 11) hO rfl rfl (hs_o12 kc139) rfl rfl ?_
  refine s_iconst (x := 1) (nx := 12) hO rfl (by decide) rfl ?_
  refine s_iload_n (nx := 13) hO rfl rfl rfl ?_
  obtain ⟨b3, H⟩ := H
  refine goV (wI s2 175 (ix 1) v2) (fun s4 es4 => ?_)
  replace H := H s4 es4
  refine s_iast (nx := 14) hO rfl (hs_I kc175) b3 rfl ?_
  refine xEx.at (up_I kc175 es4) ?_
  refine s_aload_n (nx := 15) hO rfl rfl rfl ?_
  refine s_getf (v := .ref (q_b G + 175)) (nx := 18) hO rfl rfl (hs_o12 kc139) rfl rfl ?_
  refine s_iconst (x := (nI 2)) (nx := 19) hO rfl (by decide) rfl ?_
  refine s_iload_n (nx := 20) hO rfl rfl rfl ?_
  obtain ⟨b5, H⟩ := H
  refine goV (wI s4 175 (ix (nI 2)) v3) (fun s6 es6 => ?_)
  replace H := H s6 es6
  refine s_iast (nx := 21) hO rfl (hs_I kc175) b5 rfl ?_
  refine xEx.at (up_I kc175 es6) ?_
  refine s_iconst (x := 0) (nx := 22) hO rfl (by decide) rfl ?_
  refine goK (H (fun (x7 : Int32) (s8 : yS) => xEx G mX12_setCall 24 [(0, .ref (q_b G + 139)), (4, .ref (q_b G + a4)), (5, .int x7)] [] (hS G s8) z 0 0 (yQv G z Q)) (fun x7 s8 H => ?_)) (fun H => ?_)
  · show xEx G mX12_setCall 24 [(0, .ref (q_b G + 139)), (4, .ref (q_b G + a4)), (5, .int x7)] [] (hS G s8) z 0 0 (yQv G z Q)
    refine s_iload (nx := 26) hO rfl rfl rfl ?_
    refine s_bipush (x := (nI 6)) (nx := 28) hO rfl (by decide) rfl ?_
    refine s_icmp_ge (nx := 31) hO rfl rfl (fun c28 => ?_) (fun c28 => ?_)
    · replace H := H.1 c28
      exact s_vret hO rfl rfl ⟨rfl, _, rfl, rfl, H⟩
    · replace H := H.2 c28
      refine s_aload_n (nx := 32) hO rfl rfl rfl ?_
      refine s_getf (v := .ref (q_b G + 176)) (nx := 35) hO rfl rfl (hs_o12 kc139) rfl rfl ?_
      refine s_iload (nx := 37) hO rfl rfl rfl ?_
      refine s_aload (nx := 39) hO rfl rfl rfl ?_
      refine s_iload (nx := 41) hO rfl rfl rfl ?_
      obtain ⟨b9, H⟩ := H
      refine s_iald (nx := 42) hO rfl (hs_I ha4) b9 rfl ?_
      obtain ⟨b10, H⟩ := H
      refine goV (wI s8 176 (ix x7) (sI s8 a4 (ix x7))) (fun s11 es11 => ?_)
      replace H := H s11 es11
      refine s_iast (nx := 43) hO rfl (hs_I kc176) b10 rfl ?_
      refine xEx.at (up_I kc176 es11) ?_
      refine goV ((x7 + 1)) (fun x12 ex12 => ?_)
      replace H := H x12 ex12
      refine e_iinc (nx := 46) (l' := [(5, .int x12), (0, .ref (q_b G + 139)), (4, .ref (q_b G + a4))]) ex12 hO rfl (by decide) rfl rfl rfl rfl ?_
      refine s_goto hO rfl ?_
      exact xEx.loc (x_sub1 (List.Mem.tail _ (List.Mem.head _)) (x_sub1 (List.Mem.tail _ (List.Mem.tail _ (List.Mem.head _))) (x_sub1 (List.Mem.head _) x_sub0))) H
  refine s_istore (nx := 24) (l' := [(5, .int 0), (0, .ref (q_b G + 139)), (1, .int v1), (2, .int v2), (3, .int v3), (4, .ref (q_b G + a4))]) hO rfl (by decide) rfl rfl ?_
  exact xEx.loc (x_sub1 (List.Mem.tail _ (List.Mem.head _)) (x_sub1 (List.Mem.tail _ (List.Mem.tail _ (List.Mem.tail _ (List.Mem.tail _ (List.Mem.tail _ (List.Mem.head _)))))) (x_sub1 (List.Mem.head _) x_sub0))) H
def W_X12_watchCall (s : yS) (v1 : Int32) (v2 : Int32) (v3 : Int32) (v4 : Int32) (Q : Int32 → yS → Prop) : Prop :=
 ∀ s1 : yS, s1 = wI s 139 0 0 → 
 ((v1 < 0 → Q (-1) s1)
 ∧ (¬ v1 < 0 → ((v1 ≤ (nI 15) → W_X12_setCall s1 v2 v3 v4 206 6 
   (fun s2 => W_X12_step s2 (sI s2 139 99) v1 
   (fun r3 => ((¬ r3 = 0 → ∀ s4 : yS, s4 = wI s2 139 99 r3 → 
    W_X12_count s4 206 6 v1 
    (fun s5 => W_X12_indexOf s5 r3 
    (fun r6 => vp_in r6 64 ∧ 
    Q (sI s5 173 (ix r6)) s5)))
   ∧ (r3 = 0 → Q (-1) s2)))))
  ∧ (¬ v1 ≤ (nI 15) → Q (-1) s1))))
set_option maxRecDepth 100000 in
set_option maxHeartbeats 40000000 in
theorem w_X12_watchCall {G : xG} (hG : yG G) {z : Nat} {s : yS} {v1 : Int32} {v2 : Int32} {v3 : Int32} {v4 : Int32} {Q : Int32 → yS → Prop} (H : W_X12_watchCall s v1 v2 v3 v4 Q) : xC G mX12_watchCall [.ref (q_b G + 139), .int v1, .int v2, .int v3, .int v4] (hS G s) z 0 0 (yQi G z Q) := by
  have hW := hG.1
  have hcl := hG.2.1
  have hty := hG.2.2.1
  have hO : xO G mX12_watchCall tbX12_watchCall ptX12_watchCall := ⟨tkX12_watchCall, pkX12_watchCall hcl⟩
  unfold W_X12_watchCall at H
  refine xC.of hW (by decide) rfl (Nat.le_of_ble_eq_true rfl) ?_
  refine s_aload_n (nx := 1) hO rfl rfl rfl ?_
  refine s_iconst (x := 0) (nx := 2) hO rfl (by decide) rfl ?_
  refine goV (wI s 139 0 0) (fun s1 es1 => ?_)
  replace H := H s1 es1
  refine s_putf (nx := 5) hO rfl rfl (hs_o12 kc139) (Nat.le_of_ble_eq_true rfl) (by rw [hty]; rfl) (by rw [hty]; rfl) pX12_0 rfl ?_
  refine xEx.at (up_oI12 kc139 es1) ?_
  refine s_iload_n (nx := 6) hO rfl rfl rfl ?_
  refine s_if_lt (nx := 9) hO rfl rfl (fun c6 => ?_) (fun c6 => ?_)
  · replace H := H.1 c6
    refine s_iconst (x := (-1)) (nx := 16) hO rfl (by decide) rfl ?_
    exact s_iret hO rfl rfl rfl ⟨rfl, _, _, rfl, rfl, H⟩
  · replace H := H.2 c6
    refine s_iload_n (nx := 10) hO rfl rfl rfl ?_
    refine s_bipush (x := (nI 15)) (nx := 12) hO rfl (by decide) rfl ?_
    refine s_icmp_le (nx := 15) hO rfl rfl (fun c12 => ?_) (fun c12 => ?_)
    · replace H := H.1 c12
      refine s_aload_n (nx := 18) hO rfl rfl rfl ?_
      refine s_iload_n (nx := 19) hO rfl rfl rfl ?_
      refine s_iload_n (nx := 20) hO rfl rfl rfl ?_
      refine s_iload (nx := 22) hO rfl rfl rfl ?_
      refine s_aload_n (nx := 23) hO rfl rfl rfl ?_
      refine s_getf (v := .ref (q_b G + 206)) (nx := 26) hO rfl rfl (hs_o12 kc139) rfl rfl ?_
      refine s_callV [.int v2, .int v3, .int v4, .ref (q_b G + 206)] (ci := 12) (F := TX12) (N := 116) (nx := 29) hO rfl kX12_watchCall_516 (by rw [hcl]; rfl) (hs_o12 kc139) (w_X12_setCall hG kc206 H) rfl rfl (Nat.le_of_ble_eq_true rfl) (Nat.zero_le _) (Nat.zero_le _) rfl (k_Qv (fun s2 H => ?_))
      refine s_aload_n (nx := 30) hO rfl rfl rfl ?_
      refine s_aload_n (nx := 31) hO rfl rfl rfl ?_
      refine s_getf (v := .int (sI s2 139 99)) (nx := 34) hO rfl rfl (hs_o12 kc139) rfl rfl ?_
      refine s_iload_n (nx := 35) hO rfl rfl rfl ?_
      refine s_callV [.int (sI s2 139 99), .int v1] (ci := 12) (F := TX12) (N := 116) (nx := 38) hO rfl kX12_watchCall_481 (by rw [hcl]; rfl) (hs_o12 kc139) (w_X12_step hG H) rfl rfl (Nat.le_of_ble_eq_true rfl) (Nat.zero_le _) (Nat.zero_le _) rfl (k_Pi (fun r3 H => ?_))
      refine s_istore (nx := 40) (l' := [(5, .int r3), (0, .ref (q_b G + 139)), (1, .int v1), (2, .int v2), (3, .int v3), (4, .int v4)]) hO rfl (by decide) rfl rfl ?_
      refine s_iload (nx := 42) hO rfl rfl rfl ?_
      refine s_if_ne (nx := 45) hO rfl rfl (fun c42 => ?_) (fun c42 => ?_)
      · replace H := H.1 c42
        refine s_aload_n (nx := 48) hO rfl rfl rfl ?_
        refine s_iload (nx := 50) hO rfl rfl rfl ?_
        refine goV (wI s2 139 99 r3) (fun s4 es4 => ?_)
        replace H := H s4 es4
        refine s_putf (nx := 53) hO rfl rfl (hs_o12 kc139) (Nat.le_of_ble_eq_true rfl) (by rw [hty]; rfl) (by rw [hty]; rfl) pX12_99 rfl ?_
        refine xEx.at (up_oI12 kc139 es4) ?_
        refine s_aload_n (nx := 54) hO rfl rfl rfl ?_
        refine s_aload_n (nx := 55) hO rfl rfl rfl ?_
        refine s_getf (v := .ref (q_b G + 206)) (nx := 58) hO rfl rfl (hs_o12 kc139) rfl rfl ?_
        refine s_iload_n (nx := 59) hO rfl rfl rfl ?_
        refine s_callV [.ref (q_b G + 206), .int v1] (ci := 12) (F := TX12) (N := 116) (nx := 62) hO rfl kX12_watchCall_520 (by rw [hcl]; rfl) (hs_o12 kc139) (w_X12_count hG kc206 H) rfl rfl (Nat.le_of_ble_eq_true rfl) (Nat.zero_le _) (Nat.zero_le _) rfl (k_Qv (fun s5 H => ?_))
        refine s_aload_n (nx := 63) hO rfl rfl rfl ?_
        refine s_getf (v := .ref (q_b G + 173)) (nx := 66) hO rfl rfl (hs_o12 kc139) rfl rfl ?_
        refine s_aload_n (nx := 67) hO rfl rfl rfl ?_
        refine s_iload (nx := 69) hO rfl rfl rfl ?_
        refine s_callV [.int r3] (ci := 12) (F := TX12) (N := 116) (nx := 72) hO rfl kX12_watchCall_484 (by rw [hcl]; rfl) (hs_o12 kc139) (w_X12_indexOf hG H) rfl rfl (Nat.le_of_ble_eq_true rfl) (Nat.zero_le _) (Nat.zero_le _) rfl (k_Pi (fun r6 H => ?_))
        obtain ⟨b7, H⟩ := H
        refine s_iald (nx := 73) hO rfl (hs_I kc173) b7 rfl ?_
        exact s_iret hO rfl rfl rfl ⟨rfl, _, _, rfl, rfl, H⟩
      · replace H := H.2 c42
        refine s_iconst (x := (-1)) (nx := 46) hO rfl (by decide) rfl ?_
        exact s_iret hO rfl rfl rfl ⟨rfl, _, _, rfl, rfl, H⟩
    · replace H := H.2 c12
      refine s_iconst (x := (-1)) (nx := 16) hO rfl (by decide) rfl ?_
      exact s_iret hO rfl rfl rfl ⟨rfl, _, _, rfl, rfl, H⟩
def W_X12_counterOf (s : yS) (v1 : Int32) (v2 : Int32) (Q : Int32 → yS → Prop) : Prop :=
 ∀ s1 : yS, s1 = wI s 139 0 0 → 
 ((v1 < 0 → Q (-1) s1)
 ∧ (¬ v1 < 0 → (((sI s1 139 19) ≤ v1 → Q (-1) s1)
  ∧ (¬ (sI s1 139 19) ≤ v1 → ∀ P30 : Prop, ((((v2 = 0 → vp_in v1 6 ∧ 
     Q (sI s1 205 (ix v1)) s1)
    ∧ (¬ v2 = 0 → vp_in v1 6 ∧ 
     Q (sI s1 206 (ix v1)) s1))) → P30) → 
   ((¬ v2 = 0 → P30)
   ∧ (v2 = 0 → ((¬ (sI s1 139 89) = 0 → P30)
    ∧ ((sI s1 139 89) = 0 → Q (-1) s1))))))))
set_option maxRecDepth 100000 in
set_option maxHeartbeats 40000000 in
theorem w_X12_counterOf {G : xG} (hG : yG G) {z : Nat} {s : yS} {v1 : Int32} {v2 : Int32} {Q : Int32 → yS → Prop} (H : W_X12_counterOf s v1 v2 Q) : xC G mX12_counterOf [.ref (q_b G + 139), .int v1, .int v2] (hS G s) z 0 0 (yQi G z Q) := by
  have hW := hG.1
  have hcl := hG.2.1
  have hty := hG.2.2.1
  have hO : xO G mX12_counterOf tbX12_counterOf ptX12_counterOf := ⟨tkX12_counterOf, pkX12_counterOf hcl⟩
  unfold W_X12_counterOf at H
  refine xC.of hW (by decide) rfl (Nat.le_of_ble_eq_true rfl) ?_
  refine s_aload_n (nx := 1) hO rfl rfl rfl ?_
  refine s_iconst (x := 0) (nx := 2) hO rfl (by decide) rfl ?_
  refine goV (wI s 139 0 0) (fun s1 es1 => ?_)
  replace H := H s1 es1
  refine s_putf (nx := 5) hO rfl rfl (hs_o12 kc139) (Nat.le_of_ble_eq_true rfl) (by rw [hty]; rfl) (by rw [hty]; rfl) pX12_0 rfl ?_
  refine xEx.at (up_oI12 kc139 es1) ?_
  refine s_iload_n (nx := 6) hO rfl rfl rfl ?_
  refine s_if_lt (nx := 9) hO rfl rfl (fun c6 => ?_) (fun c6 => ?_)
  · replace H := H.1 c6
    refine s_iconst (x := (-1)) (nx := 29) hO rfl (by decide) rfl ?_
    exact s_iret hO rfl rfl rfl ⟨rfl, _, _, rfl, rfl, H⟩
  · replace H := H.2 c6
    refine s_iload_n (nx := 10) hO rfl rfl rfl ?_
    refine s_aload_n (nx := 11) hO rfl rfl rfl ?_
    refine s_getf (v := .int (sI s1 139 19)) (nx := 14) hO rfl rfl (hs_o12 kc139) rfl rfl ?_
    refine s_icmp_ge (nx := 17) hO rfl rfl (fun c14 => ?_) (fun c14 => ?_)
    · replace H := H.1 c14
      refine s_iconst (x := (-1)) (nx := 29) hO rfl (by decide) rfl ?_
      exact s_iret hO rfl rfl rfl ⟨rfl, _, _, rfl, rfl, H⟩
    · replace H := H.2 c14
      refine s_iload_n (nx := 18) hO rfl rfl rfl ?_
      refine goK (H (xEx G mX12_counterOf 30 [(0, .ref (q_b G + 139)), (1, .int v1), (2, .int v2)] [] (hS G s1) z 0 0 (yQi G z Q)) (fun H => ?_)) (fun H => ?_)
      · show xEx G mX12_counterOf 30 [(0, .ref (q_b G + 139)), (1, .int v1), (2, .int v2)] [] (hS G s1) z 0 0 (yQi G z Q)
        refine s_iload_n (nx := 31) hO rfl rfl rfl ?_
        refine s_if_eq (nx := 34) hO rfl rfl (fun c31 => ?_) (fun c31 => ?_)
        · replace H := H.1 c31
          refine s_aload_n (nx := 44) hO rfl rfl rfl ?_
          refine s_getf (v := .ref (q_b G + 205)) (nx := 47) hO rfl rfl (hs_o12 kc139) rfl rfl ?_
          refine s_iload_n (nx := 48) hO rfl rfl rfl ?_
          obtain ⟨b2, H⟩ := H
          refine s_iald (nx := 49) hO rfl (hs_I kc205) b2 rfl ?_
          exact s_iret hO rfl rfl rfl ⟨rfl, _, _, rfl, rfl, H⟩
        · replace H := H.2 c31
          refine s_aload_n (nx := 35) hO rfl rfl rfl ?_
          refine s_getf (v := .ref (q_b G + 206)) (nx := 38) hO rfl rfl (hs_o12 kc139) rfl rfl ?_
          refine s_iload_n (nx := 39) hO rfl rfl rfl ?_
          obtain ⟨b3, H⟩ := H
          refine s_iald (nx := 40) hO rfl (hs_I kc206) b3 rfl ?_
          refine s_goto hO rfl ?_
          exact s_iret hO rfl rfl rfl ⟨rfl, _, _, rfl, rfl, H⟩
      refine s_if_ne (nx := 21) hO rfl rfl (fun c18 => ?_) (fun c18 => ?_)
      · replace H := H.1 c18
        exact xEx.loc (x_sub1 (List.Mem.head _) (x_sub1 (List.Mem.tail _ (List.Mem.head _)) (x_sub1 (List.Mem.tail _ (List.Mem.tail _ (List.Mem.head _))) x_sub0))) H
      · replace H := H.2 c18
        refine s_aload_n (nx := 22) hO rfl rfl rfl ?_
        refine s_getf (v := .int (sI s1 139 89)) (nx := 25) hO rfl rfl (hs_o12 kc139) rfl rfl ?_
        refine s_if_ne (nx := 28) hO rfl rfl (fun c25 => ?_) (fun c25 => ?_)
        · replace H := H.1 c25
          exact xEx.loc (x_sub1 (List.Mem.head _) (x_sub1 (List.Mem.tail _ (List.Mem.head _)) (x_sub1 (List.Mem.tail _ (List.Mem.tail _ (List.Mem.head _))) x_sub0))) H
        · replace H := H.2 c25
          refine s_iconst (x := (-1)) (nx := 29) hO rfl (by decide) rfl ?_
          exact s_iret hO rfl rfl rfl ⟨rfl, _, _, rfl, rfl, H⟩
def W_X12_wayOf (s : yS) (v1 : Int32) (v2 : Int32) (Q : Int32 → yS → Prop) : Prop :=
 ∀ s1 : yS, s1 = wI s 139 0 0 → 
 ((v1 < 0 → Q (-1) s1)
 ∧ (¬ v1 < 0 → (((sI s1 139 56) ≤ v1 → Q (-1) s1)
  ∧ (¬ (sI s1 139 56) ≤ v1 → ((v2 < 0 → Q (-1) s1)
   ∧ (¬ v2 < 0 → ((v2 < (sI s1 139 47) → W_X12_goes s1 v1 v2 
     (fun r2 => Q r2 s1))
    ∧ (¬ v2 < (sI s1 139 47) → Q (-1) s1))))))))
set_option maxRecDepth 100000 in
set_option maxHeartbeats 40000000 in
theorem w_X12_wayOf {G : xG} (hG : yG G) {z : Nat} {s : yS} {v1 : Int32} {v2 : Int32} {Q : Int32 → yS → Prop} (H : W_X12_wayOf s v1 v2 Q) : xC G mX12_wayOf [.ref (q_b G + 139), .int v1, .int v2] (hS G s) z 0 0 (yQi G z Q) := by
  have hW := hG.1
  have hcl := hG.2.1
  have hty := hG.2.2.1
  have hO : xO G mX12_wayOf tbX12_wayOf ptX12_wayOf := ⟨tkX12_wayOf, pkX12_wayOf hcl⟩
  unfold W_X12_wayOf at H
  refine xC.of hW (by decide) rfl (Nat.le_of_ble_eq_true rfl) ?_
  refine s_aload_n (nx := 1) hO rfl rfl rfl ?_
  refine s_iconst (x := 0) (nx := 2) hO rfl (by decide) rfl ?_
  refine goV (wI s 139 0 0) (fun s1 es1 => ?_)
  replace H := H s1 es1
  refine s_putf (nx := 5) hO rfl rfl (hs_o12 kc139) (Nat.le_of_ble_eq_true rfl) (by rw [hty]; rfl) (by rw [hty]; rfl) pX12_0 rfl ?_
  refine xEx.at (up_oI12 kc139 es1) ?_
  refine s_iload_n (nx := 6) hO rfl rfl rfl ?_
  refine s_if_lt (nx := 9) hO rfl rfl (fun c6 => ?_) (fun c6 => ?_)
  · replace H := H.1 c6
    refine s_iconst (x := (-1)) (nx := 30) hO rfl (by decide) rfl ?_
    refine s_goto hO rfl ?_
    exact s_iret hO rfl rfl rfl ⟨rfl, _, _, rfl, rfl, H⟩
  · replace H := H.2 c6
    refine s_iload_n (nx := 10) hO rfl rfl rfl ?_
    refine s_aload_n (nx := 11) hO rfl rfl rfl ?_
    refine s_getf (v := .int (sI s1 139 56)) (nx := 14) hO rfl rfl (hs_o12 kc139) rfl rfl ?_
    refine s_icmp_ge (nx := 17) hO rfl rfl (fun c14 => ?_) (fun c14 => ?_)
    · replace H := H.1 c14
      refine s_iconst (x := (-1)) (nx := 30) hO rfl (by decide) rfl ?_
      refine s_goto hO rfl ?_
      exact s_iret hO rfl rfl rfl ⟨rfl, _, _, rfl, rfl, H⟩
    · replace H := H.2 c14
      refine s_iload_n (nx := 18) hO rfl rfl rfl ?_
      refine s_if_lt (nx := 21) hO rfl rfl (fun c18 => ?_) (fun c18 => ?_)
      · replace H := H.1 c18
        refine s_iconst (x := (-1)) (nx := 30) hO rfl (by decide) rfl ?_
        refine s_goto hO rfl ?_
        exact s_iret hO rfl rfl rfl ⟨rfl, _, _, rfl, rfl, H⟩
      · replace H := H.2 c18
        refine s_iload_n (nx := 22) hO rfl rfl rfl ?_
        refine s_aload_n (nx := 23) hO rfl rfl rfl ?_
        refine s_getf (v := .int (sI s1 139 47)) (nx := 26) hO rfl rfl (hs_o12 kc139) rfl rfl ?_
        refine s_icmp_lt (nx := 29) hO rfl rfl (fun c26 => ?_) (fun c26 => ?_)
        · replace H := H.1 c26
          refine s_aload_n (nx := 34) hO rfl rfl rfl ?_
          refine s_iload_n (nx := 35) hO rfl rfl rfl ?_
          refine s_iload_n (nx := 36) hO rfl rfl rfl ?_
          refine s_callV [.int v1, .int v2] (ci := 12) (F := TX12) (N := 116) (nx := 39) hO rfl kX12_wayOf_510 (by rw [hcl]; rfl) (hs_o12 kc139) (w_X12_goes hG H) rfl rfl (Nat.le_of_ble_eq_true rfl) (Nat.zero_le _) (Nat.zero_le _) rfl (k_Pi (fun r2 H => ?_))
          exact s_iret hO rfl rfl rfl ⟨rfl, _, _, rfl, rfl, H⟩
        · replace H := H.2 c26
          refine s_iconst (x := (-1)) (nx := 30) hO rfl (by decide) rfl ?_
          refine s_goto hO rfl ?_
          exact s_iret hO rfl rfl rfl ⟨rfl, _, _, rfl, rfl, H⟩
def W_X12_letterOf (s : yS) (v1 : Int32) (v2 : Int32) (Q : Int32 → yS → Prop) : Prop :=
 ∀ s1 : yS, s1 = wI s 139 0 0 → 
 ((v1 < 0 → Q 0 s1)
 ∧ (¬ v1 < 0 → (((sI s1 139 47) ≤ v1 → Q 0 s1)
  ∧ (¬ (sI s1 139 47) ≤ v1 → ((v2 < 0 → Q 0 s1)
   ∧ (¬ v2 < 0 → ((v2 ≤ (nI 9) → ((¬ v2 = 0 → vp_in ((((nI 9) * v1) + v2) - 1) 4608 ∧ 
      Q (sI s1 166 (ix ((((nI 9) * v1) + v2) - 1))) s1)
     ∧ (v2 = 0 → vp_in v1 512 ∧ 
      Q (sI s1 165 (ix v1)) s1)))
    ∧ (¬ v2 ≤ (nI 9) → Q 0 s1))))))))
set_option maxRecDepth 100000 in
set_option maxHeartbeats 40000000 in
theorem w_X12_letterOf {G : xG} (hG : yG G) {z : Nat} {s : yS} {v1 : Int32} {v2 : Int32} {Q : Int32 → yS → Prop} (H : W_X12_letterOf s v1 v2 Q) : xC G mX12_letterOf [.ref (q_b G + 139), .int v1, .int v2] (hS G s) z 0 0 (yQi G z Q) := by
  have hW := hG.1
  have hcl := hG.2.1
  have hty := hG.2.2.1
  have hO : xO G mX12_letterOf tbX12_letterOf ptX12_letterOf := ⟨tkX12_letterOf, pkX12_letterOf hcl⟩
  unfold W_X12_letterOf at H
  refine xC.of hW (by decide) rfl (Nat.le_of_ble_eq_true rfl) ?_
  refine s_aload_n (nx := 1) hO rfl rfl rfl ?_
  refine s_iconst (x := 0) (nx := 2) hO rfl (by decide) rfl ?_
  refine goV (wI s 139 0 0) (fun s1 es1 => ?_)
  replace H := H s1 es1
  refine s_putf (nx := 5) hO rfl rfl (hs_o12 kc139) (Nat.le_of_ble_eq_true rfl) (by rw [hty]; rfl) (by rw [hty]; rfl) pX12_0 rfl ?_
  refine xEx.at (up_oI12 kc139 es1) ?_
  refine s_iload_n (nx := 6) hO rfl rfl rfl ?_
  refine s_if_lt (nx := 9) hO rfl rfl (fun c6 => ?_) (fun c6 => ?_)
  · replace H := H.1 c6
    refine s_iconst (x := 0) (nx := 28) hO rfl (by decide) rfl ?_
    exact s_iret hO rfl rfl rfl ⟨rfl, _, _, rfl, rfl, H⟩
  · replace H := H.2 c6
    refine s_iload_n (nx := 10) hO rfl rfl rfl ?_
    refine s_aload_n (nx := 11) hO rfl rfl rfl ?_
    refine s_getf (v := .int (sI s1 139 47)) (nx := 14) hO rfl rfl (hs_o12 kc139) rfl rfl ?_
    refine s_icmp_ge (nx := 17) hO rfl rfl (fun c14 => ?_) (fun c14 => ?_)
    · replace H := H.1 c14
      refine s_iconst (x := 0) (nx := 28) hO rfl (by decide) rfl ?_
      exact s_iret hO rfl rfl rfl ⟨rfl, _, _, rfl, rfl, H⟩
    · replace H := H.2 c14
      refine s_iload_n (nx := 18) hO rfl rfl rfl ?_
      refine s_if_lt (nx := 21) hO rfl rfl (fun c18 => ?_) (fun c18 => ?_)
      · replace H := H.1 c18
        refine s_iconst (x := 0) (nx := 28) hO rfl (by decide) rfl ?_
        exact s_iret hO rfl rfl rfl ⟨rfl, _, _, rfl, rfl, H⟩
      · replace H := H.2 c18
        refine s_iload_n (nx := 22) hO rfl rfl rfl ?_
        refine s_bipush (x := (nI 9)) (nx := 24) hO rfl (by decide) rfl ?_
        refine s_icmp_le (nx := 27) hO rfl rfl (fun c24 => ?_) (fun c24 => ?_)
        · replace H := H.1 c24
          refine s_iload_n (nx := 30) hO rfl rfl rfl ?_
          refine s_if_ne (nx := 33) hO rfl rfl (fun c30 => ?_) (fun c30 => ?_)
          · replace H := H.1 c30
            refine s_aload_n (nx := 43) hO rfl rfl rfl ?_
            refine s_getf (v := .ref (q_b G + 166)) (nx := 46) hO rfl rfl (hs_o12 kc139) rfl rfl ?_
            refine s_bipush (x := (nI 9)) (nx := 48) hO rfl (by decide) rfl ?_
            refine s_iload_n (nx := 49) hO rfl rfl rfl ?_
            refine s_imul (nx := 50) hO rfl rfl ?_
            refine s_iload_n (nx := 51) hO rfl rfl rfl ?_
            refine s_iadd (nx := 52) hO rfl rfl ?_
            refine s_iconst (x := 1) (nx := 53) hO rfl (by decide) rfl ?_
            refine s_isub (nx := 54) hO rfl rfl ?_
            obtain ⟨b2, H⟩ := H
            refine s_iald (nx := 55) hO rfl (hs_I kc166) b2 rfl ?_
            exact s_iret hO rfl rfl rfl ⟨rfl, _, _, rfl, rfl, H⟩
          · replace H := H.2 c30
            refine s_aload_n (nx := 34) hO rfl rfl rfl ?_
            refine s_getf (v := .ref (q_b G + 165)) (nx := 37) hO rfl rfl (hs_o12 kc139) rfl rfl ?_
            refine s_iload_n (nx := 38) hO rfl rfl rfl ?_
            obtain ⟨b3, H⟩ := H
            refine s_iald (nx := 39) hO rfl (hs_I kc165) b3 rfl ?_
            refine s_goto hO rfl ?_
            exact s_iret hO rfl rfl rfl ⟨rfl, _, _, rfl, rfl, H⟩
        · replace H := H.2 c24
          refine s_iconst (x := 0) (nx := 28) hO rfl (by decide) rfl ?_
          exact s_iret hO rfl rfl rfl ⟨rfl, _, _, rfl, rfl, H⟩
def W_X12_byteNext (s : yS) (Q : Int32 → yS → Prop) : Prop :=
 ∀ P18 : Prop, ((W_X12_wrong s 1 (sI s 139 2) 
  (fun s1 => Q 0 s1)) → P18) → 
 ((0 < (sI s 139 15) → P18)
 ∧ (¬ 0 < (sI s 139 15) → ((¬ (sI s 139 113) = (sI s 139 2) → ∀ s2 : yS, s2 = wI s 139 113 ((sI s 139 113) + 1) → 
   vp_in ((sI s2 139 113) - 1) 8192 ∧ 
   Q (sI s2 140 (ix ((sI s2 139 113) - 1))) s2)
  ∧ ((sI s 139 113) = (sI s 139 2) → P18))))
set_option maxRecDepth 100000 in
set_option maxHeartbeats 40000000 in
theorem w_X12_byteNext {G : xG} (hG : yG G) {z : Nat} {s : yS} {Q : Int32 → yS → Prop} (H : W_X12_byteNext s Q) : xC G mX12_byteNext [.ref (q_b G + 139)] (hS G s) z 0 0 (yQi G z Q) := by
  have hW := hG.1
  have hcl := hG.2.1
  have hty := hG.2.2.1
  have hO : xO G mX12_byteNext tbX12_byteNext ptX12_byteNext := ⟨tkX12_byteNext, pkX12_byteNext hcl⟩
  unfold W_X12_byteNext at H
  refine xC.of hW (by decide) rfl (Nat.le_of_ble_eq_true rfl) ?_
  refine s_aload_n (nx := 1) hO rfl rfl rfl ?_
  refine s_getf (v := .int (sI s 139 15)) (nx := 4) hO rfl rfl (hs_o12 kc139) rfl rfl ?_
  refine goK (H (xEx G mX12_byteNext 18 [(0, .ref (q_b G + 139))] [] (hS G s) z 0 0 (yQi G z Q)) (fun H => ?_)) (fun H => ?_)
  · show xEx G mX12_byteNext 18 [(0, .ref (q_b G + 139))] [] (hS G s) z 0 0 (yQi G z Q)
    refine s_aload_n (nx := 19) hO rfl rfl rfl ?_
    refine s_iconst (x := 1) (nx := 20) hO rfl (by decide) rfl ?_
    refine s_aload_n (nx := 21) hO rfl rfl rfl ?_
    refine s_getf (v := .int (sI s 139 2)) (nx := 24) hO rfl rfl (hs_o12 kc139) rfl rfl ?_
    refine s_callV [.int 1, .int (sI s 139 2)] (ci := 12) (F := TX12) (N := 116) (nx := 27) hO rfl kX12_byteNext_303 (by rw [hcl]; rfl) (hs_o12 kc139) (w_X12_wrong hG H) rfl rfl (Nat.le_of_ble_eq_true rfl) (Nat.zero_le _) (Nat.zero_le _) rfl (k_Qv (fun s1 H => ?_))
    refine s_iconst (x := 0) (nx := 28) hO rfl (by decide) rfl ?_
    exact s_iret hO rfl rfl rfl ⟨rfl, _, _, rfl, rfl, H⟩
  refine s_if_gt (nx := 7) hO rfl rfl (fun c4 => ?_) (fun c4 => ?_)
  · replace H := H.1 c4
    exact xEx.loc (x_sub1 (List.Mem.head _) x_sub0) H
  · replace H := H.2 c4
    refine s_aload_n (nx := 8) hO rfl rfl rfl ?_
    refine s_getf (v := .int (sI s 139 113)) (nx := 11) hO rfl rfl (hs_o12 kc139) rfl rfl ?_
    refine s_aload_n (nx := 12) hO rfl rfl rfl ?_
    refine s_getf (v := .int (sI s 139 2)) (nx := 15) hO rfl rfl (hs_o12 kc139) rfl rfl ?_
    refine s_icmp_ne (nx := 18) hO rfl rfl (fun c15 => ?_) (fun c15 => ?_)
    · replace H := H.1 c15
      refine s_aload_n (nx := 30) hO rfl rfl rfl ?_
      refine s_dup (nx := 31) hO rfl rfl rfl ?_
      refine s_getf (v := .int (sI s 139 113)) (nx := 34) hO rfl rfl (hs_o12 kc139) rfl rfl ?_
      refine s_iconst (x := 1) (nx := 35) hO rfl (by decide) rfl ?_
      refine s_iadd (nx := 36) hO rfl rfl ?_
      refine goV (wI s 139 113 ((sI s 139 113) + 1)) (fun s2 es2 => ?_)
      replace H := H s2 es2
      refine s_putf (nx := 39) hO rfl rfl (hs_o12 kc139) (Nat.le_of_ble_eq_true rfl) (by rw [hty]; rfl) (by rw [hty]; rfl) pX12_113 rfl ?_
      refine xEx.at (up_oI12 kc139 es2) ?_
      refine s_aload_n (nx := 40) hO rfl rfl rfl ?_
      refine s_getf (v := .ref (q_b G + 140)) (nx := 43) hO rfl rfl (hs_o12 kc139) rfl rfl ?_
      refine s_aload_n (nx := 44) hO rfl rfl rfl ?_
      refine s_getf (v := .int (sI s2 139 113)) (nx := 47) hO rfl rfl (hs_o12 kc139) rfl rfl ?_
      refine s_iconst (x := 1) (nx := 48) hO rfl (by decide) rfl ?_
      refine s_isub (nx := 49) hO rfl rfl ?_
      obtain ⟨b3, H⟩ := H
      refine s_iald (nx := 50) hO rfl (hs_I kc140) b3 rfl ?_
      exact s_iret hO rfl rfl rfl ⟨rfl, _, _, rfl, rfl, H⟩
    · replace H := H.2 c15
      exact xEx.loc (x_sub1 (List.Mem.head _) x_sub0) H
def W_X12_numberNext (s : yS) (v1 : Int32) (v2 : Int32) (v3 : Int32) (Q : Int32 → yS → Prop) : Prop :=
 ∀ x1 : Int32, x1 = (sI s 139 113) → 
 ∀ P12 : Int32 → Int32 → yS → Prop, (∀ (x2 : Int32) (x3 : Int32) (s4 : yS), (((v1 ≤ x3 → ((¬ (sI s4 139 15) = 0 → Q x2 s4)
   ∧ ((sI s4 139 15) = 0 → ∀ P55 : Prop, ((W_X12_wrong s4 (nI 3) x1 
     (fun s5 => Q x2 s5)) → P55) → 
    ((x2 < v2 → P55)
    ∧ (¬ x2 < v2 → ((x2 ≤ v3 → Q x2 s4)
     ∧ (¬ x2 ≤ v3 → P55)))))))
  ∧ (¬ v1 ≤ x3 → W_X12_byteNext s4 
   (fun r6 s7 => ∀ x8 : Int32, x8 = ((x2 <<< ((nI 8) &&& 31)) ||| r6) → 
   ∀ x9 : Int32, x9 = (x3 + 1) → 
   P12 x8 x9 s7)))) → P12 x2 x3 s4) → 
 P12 0 0 s
set_option maxRecDepth 100000 in
set_option maxHeartbeats 40000000 in
theorem w_X12_numberNext {G : xG} (hG : yG G) {z : Nat} {s : yS} {v1 : Int32} {v2 : Int32} {v3 : Int32} {Q : Int32 → yS → Prop} (H : W_X12_numberNext s v1 v2 v3 Q) : xC G mX12_numberNext [.ref (q_b G + 139), .int v1, .int v2, .int v3] (hS G s) z 0 0 (yQi G z Q) := by
  have hW := hG.1
  have hcl := hG.2.1
  have hty := hG.2.2.1
  have hO : xO G mX12_numberNext tbX12_numberNext ptX12_numberNext := ⟨tkX12_numberNext, pkX12_numberNext hcl⟩
  unfold W_X12_numberNext at H
  refine xC.of hW (by decide) rfl (Nat.le_of_ble_eq_true rfl) ?_
  refine s_aload_n (nx := 1) hO rfl rfl rfl ?_
  refine s_getf (v := .int (sI s 139 113)) (nx := 4) hO rfl rfl (hs_o12 kc139) rfl rfl ?_
  refine goV ((sI s 139 113)) (fun x1 ex1 => ?_)
  replace H := H x1 ex1
  refine e_istore (nx := 6) (l' := [(4, .int x1), (0, .ref (q_b G + 139)), (1, .int v1), (2, .int v2), (3, .int v3)]) ex1 hO rfl (by decide) rfl rfl ?_
  refine s_iconst (x := 0) (nx := 7) hO rfl (by decide) rfl ?_
  refine s_istore (nx := 9) (l' := [(5, .int 0), (4, .int x1), (0, .ref (q_b G + 139)), (1, .int v1), (2, .int v2), (3, .int v3)]) hO rfl (by decide) rfl rfl ?_
  refine s_iconst (x := 0) (nx := 10) hO rfl (by decide) rfl ?_
  refine goK (H (fun (x2 : Int32) (x3 : Int32) (s4 : yS) => xEx G mX12_numberNext 12 [(0, .ref (q_b G + 139)), (1, .int v1), (2, .int v2), (3, .int v3), (4, .int x1), (5, .int x2), (6, .int x3)] [] (hS G s4) z 0 0 (yQi G z Q)) (fun x2 x3 s4 H => ?_)) (fun H => ?_)
  · show xEx G mX12_numberNext 12 [(0, .ref (q_b G + 139)), (1, .int v1), (2, .int v2), (3, .int v3), (4, .int x1), (5, .int x2), (6, .int x3)] [] (hS G s4) z 0 0 (yQi G z Q)
    refine s_iload (nx := 14) hO rfl rfl rfl ?_
    refine s_iload_n (nx := 15) hO rfl rfl rfl ?_
    refine s_icmp_ge (nx := 18) hO rfl rfl (fun c15 => ?_) (fun c15 => ?_)
    · replace H := H.1 c15
      refine s_aload_n (nx := 37) hO rfl rfl rfl ?_
      refine s_getf (v := .int (sI s4 139 15)) (nx := 40) hO rfl rfl (hs_o12 kc139) rfl rfl ?_
      refine s_if_ne (nx := 43) hO rfl rfl (fun c40 => ?_) (fun c40 => ?_)
      · replace H := H.1 c40
        refine s_iload (nx := 64) hO rfl rfl rfl ?_
        exact s_iret hO rfl rfl rfl ⟨rfl, _, _, rfl, rfl, H⟩
      · replace H := H.2 c40
        refine s_iload (nx := 45) hO rfl rfl rfl ?_
        refine s_iload_n (nx := 46) hO rfl rfl rfl ?_
        refine goK (H (xEx G mX12_numberNext 55 [(0, .ref (q_b G + 139)), (4, .int x1), (5, .int x2)] [] (hS G s4) z 0 0 (yQi G z Q)) (fun H => ?_)) (fun H => ?_)
        · show xEx G mX12_numberNext 55 [(0, .ref (q_b G + 139)), (4, .int x1), (5, .int x2)] [] (hS G s4) z 0 0 (yQi G z Q)
          refine s_aload_n (nx := 56) hO rfl rfl rfl ?_
          refine s_iconst (x := (nI 3)) (nx := 57) hO rfl (by decide) rfl ?_
          refine s_iload (nx := 59) hO rfl rfl rfl ?_
          refine s_callV [.int (nI 3), .int x1] (ci := 12) (F := TX12) (N := 116) (nx := 62) hO rfl kX12_numberNext_303 (by rw [hcl]; rfl) (hs_o12 kc139) (w_X12_wrong hG H) rfl rfl (Nat.le_of_ble_eq_true rfl) (Nat.zero_le _) (Nat.zero_le _) rfl (k_Qv (fun s5 H => ?_))
          refine s_iload (nx := 64) hO rfl rfl rfl ?_
          exact s_iret hO rfl rfl rfl ⟨rfl, _, _, rfl, rfl, H⟩
        refine s_icmp_lt (nx := 49) hO rfl rfl (fun c46 => ?_) (fun c46 => ?_)
        · replace H := H.1 c46
          exact xEx.loc (x_sub1 (List.Mem.head _) (x_sub1 (List.Mem.tail _ (List.Mem.tail _ (List.Mem.tail _ (List.Mem.tail _ (List.Mem.head _))))) (x_sub1 (List.Mem.tail _ (List.Mem.tail _ (List.Mem.tail _ (List.Mem.tail _ (List.Mem.tail _ (List.Mem.head _)))))) x_sub0))) H
        · replace H := H.2 c46
          refine s_iload (nx := 51) hO rfl rfl rfl ?_
          refine s_iload_n (nx := 52) hO rfl rfl rfl ?_
          refine s_icmp_le (nx := 55) hO rfl rfl (fun c52 => ?_) (fun c52 => ?_)
          · replace H := H.1 c52
            refine s_iload (nx := 64) hO rfl rfl rfl ?_
            exact s_iret hO rfl rfl rfl ⟨rfl, _, _, rfl, rfl, H⟩
          · replace H := H.2 c52
            exact xEx.loc (x_sub1 (List.Mem.head _) (x_sub1 (List.Mem.tail _ (List.Mem.tail _ (List.Mem.tail _ (List.Mem.tail _ (List.Mem.head _))))) (x_sub1 (List.Mem.tail _ (List.Mem.tail _ (List.Mem.tail _ (List.Mem.tail _ (List.Mem.tail _ (List.Mem.head _)))))) x_sub0))) H
    · replace H := H.2 c15
      refine s_iload (nx := 20) hO rfl rfl rfl ?_
      refine s_bipush (x := (nI 8)) (nx := 22) hO rfl (by decide) rfl ?_
      refine s_ishl (nx := 23) hO rfl rfl ?_
      refine s_aload_n (nx := 24) hO rfl rfl rfl ?_
      refine s_callV [] (ci := 12) (F := TX12) (N := 116) (nx := 27) hO rfl kX12_numberNext_526 (by rw [hcl]; rfl) (hs_o12 kc139) (w_X12_byteNext hG H) rfl rfl (Nat.le_of_ble_eq_true rfl) (Nat.zero_le _) (Nat.zero_le _) rfl (k_Qi (fun r6 s7 H => ?_))
      refine s_ior (nx := 28) hO rfl rfl ?_
      refine goV (((x2 <<< ((nI 8) &&& 31)) ||| r6)) (fun x8 ex8 => ?_)
      replace H := H x8 ex8
      refine e_istore (nx := 30) (l' := [(5, .int x8), (0, .ref (q_b G + 139)), (1, .int v1), (2, .int v2), (3, .int v3), (4, .int x1), (6, .int x3)]) ex8 hO rfl (by decide) rfl rfl ?_
      refine goV ((x3 + 1)) (fun x9 ex9 => ?_)
      replace H := H x9 ex9
      refine e_iinc (nx := 33) (l' := [(6, .int x9), (5, .int x8), (0, .ref (q_b G + 139)), (1, .int v1), (2, .int v2), (3, .int v3), (4, .int x1)]) ex9 hO rfl (by decide) rfl rfl rfl rfl ?_
      refine s_goto hO rfl ?_
      exact xEx.loc (x_sub1 (List.Mem.tail _ (List.Mem.tail _ (List.Mem.head _))) (x_sub1 (List.Mem.tail _ (List.Mem.tail _ (List.Mem.tail _ (List.Mem.head _)))) (x_sub1 (List.Mem.tail _ (List.Mem.tail _ (List.Mem.tail _ (List.Mem.tail _ (List.Mem.head _))))) (x_sub1 (List.Mem.tail _ (List.Mem.tail _ (List.Mem.tail _ (List.Mem.tail _ (List.Mem.tail _ (List.Mem.head _)))))) (x_sub1 (List.Mem.tail _ (List.Mem.tail _ (List.Mem.tail _ (List.Mem.tail _ (List.Mem.tail _ (List.Mem.tail _ (List.Mem.head _))))))) (x_sub1 (List.Mem.tail _ (List.Mem.head _)) (x_sub1 (List.Mem.head _) x_sub0))))))) H
  refine s_istore (nx := 12) (l' := [(6, .int 0), (5, .int 0), (4, .int x1), (0, .ref (q_b G + 139)), (1, .int v1), (2, .int v2), (3, .int v3)]) hO rfl (by decide) rfl rfl ?_
  exact xEx.loc (x_sub1 (List.Mem.tail _ (List.Mem.tail _ (List.Mem.tail _ (List.Mem.head _)))) (x_sub1 (List.Mem.tail _ (List.Mem.tail _ (List.Mem.tail _ (List.Mem.tail _ (List.Mem.head _))))) (x_sub1 (List.Mem.tail _ (List.Mem.tail _ (List.Mem.tail _ (List.Mem.tail _ (List.Mem.tail _ (List.Mem.head _)))))) (x_sub1 (List.Mem.tail _ (List.Mem.tail _ (List.Mem.tail _ (List.Mem.tail _ (List.Mem.tail _ (List.Mem.tail _ (List.Mem.head _))))))) (x_sub1 (List.Mem.tail _ (List.Mem.tail _ (List.Mem.head _))) (x_sub1 (List.Mem.tail _ (List.Mem.head _)) (x_sub1 (List.Mem.head _) x_sub0))))))) H
def W_X12_readInstruction (s : yS) (v1 : Int32) (v2 : Int32) (v3 : Int32) (v4 : Int32) (Q : yS → Prop) : Prop :=
 W_X12_numberNext s 1 0 (nI 29) 
 (fun r1 s2 => ∀ P142 : Int32 → yS → Prop, (∀ (x3 : Int32) (s4 : yS), (vp_in (((nI 9600) + ((nI 400) * v1)) + v2) 14400 ∧ ∀ s6 : yS, s6 = wI s4 186 (ix (((nI 9600) + ((nI 400) * v1)) + v2)) r1 → 
  vp_in (((nI 9600) + ((nI 400) * v1)) + v2) 14400 ∧ ∀ s8 : yS, s8 = wI s6 187 (ix (((nI 9600) + ((nI 400) * v1)) + v2)) x3 → 
  Q s8) → P142 x3 s4) → 
 ((¬ r1 = 0 → ∀ P46 : Prop, ((vp_in ((nI 24) + v1) 36 ∧ 
   W_X12_numberNext s2 1 0 ((sI s2 180 (ix ((nI 24) + v1))) - 1) 
   (fun r10 s11 => P142 r10 s11)) → P46) → 
  ((r1 = (nI 4) → P46)
  ∧ (¬ r1 = (nI 4) → ((¬ r1 = (nI 5) → ∀ P96 : Prop, ((((¬ r1 = (nI 25) → ∀ P132 : Prop, ((W_X12_numberNext s2 1 0 (nI 15) 
       (fun r12 s13 => P142 r12 s13)) → P132) → 
      ((r1 = (nI 26) → P132)
      ∧ (¬ r1 = (nI 26) → ((¬ r1 = (nI 29) → P142 0 s2)
       ∧ (r1 = (nI 29) → P132)))))
     ∧ (r1 = (nI 25) → W_X12_numberNext s2 1 0 (v4 - 1) 
      (fun r14 s15 => P142 r14 s15)))) → P96) → 
    ((r1 ≤ (nI 17) → P96)
    ∧ (¬ r1 ≤ (nI 17) → (((nI 21) ≤ r1 → P96)
     ∧ (¬ (nI 21) ≤ r1 → W_X12_numberNext s2 (nI 2) 0 (v3 - 1) 
      (fun r16 s17 => P142 r16 s17))))))
   ∧ (r1 = (nI 5) → P46)))))
 ∧ (r1 = 0 → W_X12_numberNext s2 (nI 4) ((-2147483648)) ((2147483647)) 
  (fun r18 s19 => P142 r18 s19))))
set_option maxRecDepth 100000 in
set_option maxHeartbeats 40000000 in
theorem w_X12_readInstruction {G : xG} (hG : yG G) {z : Nat} {s : yS} {v1 : Int32} {v2 : Int32} {v3 : Int32} {v4 : Int32} {Q : yS → Prop} (H : W_X12_readInstruction s v1 v2 v3 v4 Q) : xC G mX12_readInstruction [.ref (q_b G + 139), .int v1, .int v2, .int v3, .int v4] (hS G s) z 0 0 (yQv G z Q) := by
  have hW := hG.1
  have hcl := hG.2.1
  have hty := hG.2.2.1
  have hO : xO G mX12_readInstruction tbX12_readInstruction ptX12_readInstruction := ⟨tkX12_readInstruction, pkX12_readInstruction hcl⟩
  unfold W_X12_readInstruction at H
  refine xC.of hW (by decide) rfl (Nat.le_of_ble_eq_true rfl) ?_
  refine s_aload_n (nx := 1) hO rfl rfl rfl ?_
  refine s_iconst (x := 1) (nx := 2) hO rfl (by decide) rfl ?_
  refine s_iconst (x := 0) (nx := 3) hO rfl (by decide) rfl ?_
  refine s_bipush (x := (nI 29)) (nx := 5) hO rfl (by decide) rfl ?_
  refine s_callV [.int 1, .int 0, .int (nI 29)] (ci := 12) (F := TX12) (N := 116) (nx := 8) hO rfl kX12_readInstruction_529 (by rw [hcl]; rfl) (hs_o12 kc139) (w_X12_numberNext hG H) rfl rfl (Nat.le_of_ble_eq_true rfl) (Nat.zero_le _) (Nat.zero_le _) rfl (k_Qi (fun r1 s2 H => ?_))
  refine s_istore (nx := 10) (l' := [(5, .int r1), (0, .ref (q_b G + 139)), (1, .int v1), (2, .int v2), (3, .int v3), (4, .int v4)]) hO rfl (by decide) rfl rfl ?_
  refine s_iconst (x := 0) (nx := 11) hO rfl (by decide) rfl ?_
  refine s_istore (nx := 13) (l' := [(6, .int 0), (5, .int r1), (0, .ref (q_b G + 139)), (1, .int v1), (2, .int v2), (3, .int v3), (4, .int v4)]) hO rfl (by decide) rfl rfl ?_
  refine s_iload (nx := 15) hO rfl rfl rfl ?_
  refine goK (H (fun (x3 : Int32) (s4 : yS) => xEx G mX12_readInstruction 142 [(0, .ref (q_b G + 139)), (1, .int v1), (2, .int v2), (5, .int r1), (6, .int x3)] [] (hS G s4) z 0 0 (yQv G z Q)) (fun x3 s4 H => ?_)) (fun H => ?_)
  · show xEx G mX12_readInstruction 142 [(0, .ref (q_b G + 139)), (1, .int v1), (2, .int v2), (5, .int r1), (6, .int x3)] [] (hS G s4) z 0 0 (yQv G z Q)
    refine s_aload_n (nx := 143) hO rfl rfl rfl ?_
    refine s_getf (v := .ref (q_b G + 186)) (nx := 146) hO rfl rfl (hs_o12 kc139) rfl rfl ?_
    refine s_sipush (x := (nI 9600)) (nx := 149) hO rfl (by decide) rfl ?_
    refine s_sipush (x := (nI 400)) (nx := 152) hO rfl (by decide) rfl ?_
    refine s_iload_n (nx := 153) hO rfl rfl rfl ?_
    refine s_imul (nx := 154) hO rfl rfl ?_
    refine s_iadd (nx := 155) hO rfl rfl ?_
    refine s_iload_n (nx := 156) hO rfl rfl rfl ?_
    refine s_iadd (nx := 157) hO rfl rfl ?_
    refine s_iload (nx := 159) hO rfl rfl rfl ?_
    obtain ⟨b5, H⟩ := H
    refine goV (wI s4 186 (ix (((nI 9600) + ((nI 400) * v1)) + v2)) r1) (fun s6 es6 => ?_)
    replace H := H s6 es6
    refine s_iast (nx := 160) hO rfl (hs_I kc186) b5 rfl ?_
    refine xEx.at (up_I kc186 es6) ?_
    refine s_aload_n (nx := 161) hO rfl rfl rfl ?_
    refine s_getf (v := .ref (q_b G + 187)) (nx := 164) hO rfl rfl (hs_o12 kc139) rfl rfl ?_
    refine s_sipush (x := (nI 9600)) (nx := 167) hO rfl (by decide) rfl ?_
    refine s_sipush (x := (nI 400)) (nx := 170) hO rfl (by decide) rfl ?_
    refine s_iload_n (nx := 171) hO rfl rfl rfl ?_
    refine s_imul (nx := 172) hO rfl rfl ?_
    refine s_iadd (nx := 173) hO rfl rfl ?_
    refine s_iload_n (nx := 174) hO rfl rfl rfl ?_
    refine s_iadd (nx := 175) hO rfl rfl ?_
    refine s_iload (nx := 177) hO rfl rfl rfl ?_
    obtain ⟨b7, H⟩ := H
    refine goV (wI s6 187 (ix (((nI 9600) + ((nI 400) * v1)) + v2)) x3) (fun s8 es8 => ?_)
    replace H := H s8 es8
    refine s_iast (nx := 178) hO rfl (hs_I kc187) b7 rfl ?_
    refine xEx.at (up_I kc187 es8) ?_
    exact s_vret hO rfl rfl ⟨rfl, _, rfl, rfl, H⟩
  refine s_if_ne (nx := 18) hO rfl rfl (fun c15 => ?_) (fun c15 => ?_)
  · replace H := H.1 c15
    refine s_iload (nx := 36) hO rfl rfl rfl ?_
    refine s_iconst (x := (nI 4)) (nx := 37) hO rfl (by decide) rfl ?_
    refine goK (H (xEx G mX12_readInstruction 46 [(0, .ref (q_b G + 139)), (1, .int v1), (2, .int v2), (5, .int r1)] [] (hS G s2) z 0 0 (yQv G z Q)) (fun H => ?_)) (fun H => ?_)
    · show xEx G mX12_readInstruction 46 [(0, .ref (q_b G + 139)), (1, .int v1), (2, .int v2), (5, .int r1)] [] (hS G s2) z 0 0 (yQv G z Q)
      refine s_aload_n (nx := 47) hO rfl rfl rfl ?_
      refine s_iconst (x := 1) (nx := 48) hO rfl (by decide) rfl ?_
      refine s_iconst (x := 0) (nx := 49) hO rfl (by decide) rfl ?_
      refine s_aload_n (nx := 50) hO rfl rfl rfl ?_
      refine s_getf (v := .ref (q_b G + 180)) (nx := 53) hO rfl rfl (hs_o12 kc139) rfl rfl ?_
      refine s_bipush (x := (nI 24)) (nx := 55) hO rfl (by decide) rfl ?_
      refine s_iload_n (nx := 56) hO rfl rfl rfl ?_
      refine s_iadd (nx := 57) hO rfl rfl ?_
      obtain ⟨b9, H⟩ := H
      refine s_iald (nx := 58) hO rfl (hs_I kc180) b9 rfl ?_
      refine s_iconst (x := 1) (nx := 59) hO rfl (by decide) rfl ?_
      refine s_isub (nx := 60) hO rfl rfl ?_
      refine s_callV [.int 1, .int 0, .int ((sI s2 180 (ix ((nI 24) + v1))) - 1)] (ci := 12) (F := TX12) (N := 116) (nx := 63) hO rfl kX12_readInstruction_529 (by rw [hcl]; rfl) (hs_o12 kc139) (w_X12_numberNext hG H) rfl rfl (Nat.le_of_ble_eq_true rfl) (Nat.zero_le _) (Nat.zero_le _) rfl (k_Qi (fun r10 s11 H => ?_))
      refine s_istore (nx := 65) (l' := [(6, .int r10), (0, .ref (q_b G + 139)), (1, .int v1), (2, .int v2), (5, .int r1)]) hO rfl (by decide) rfl rfl ?_
      refine s_goto hO rfl ?_
      exact xEx.loc (x_sub1 (List.Mem.tail _ (List.Mem.head _)) (x_sub1 (List.Mem.tail _ (List.Mem.tail _ (List.Mem.head _))) (x_sub1 (List.Mem.tail _ (List.Mem.tail _ (List.Mem.tail _ (List.Mem.head _)))) (x_sub1 (List.Mem.tail _ (List.Mem.tail _ (List.Mem.tail _ (List.Mem.tail _ (List.Mem.head _))))) (x_sub1 (List.Mem.head _) x_sub0))))) H
    refine s_icmp_eq (nx := 40) hO rfl rfl (fun c37 => ?_) (fun c37 => ?_)
    · replace H := H.1 c37
      exact xEx.loc (x_sub1 (List.Mem.tail _ (List.Mem.tail _ (List.Mem.head _))) (x_sub1 (List.Mem.tail _ (List.Mem.tail _ (List.Mem.tail _ (List.Mem.head _)))) (x_sub1 (List.Mem.tail _ (List.Mem.tail _ (List.Mem.tail _ (List.Mem.tail _ (List.Mem.head _))))) (x_sub1 (List.Mem.tail _ (List.Mem.head _)) x_sub0)))) H
    · replace H := H.2 c37
      refine s_iload (nx := 42) hO rfl rfl rfl ?_
      refine s_iconst (x := (nI 5)) (nx := 43) hO rfl (by decide) rfl ?_
      refine s_icmp_ne (nx := 46) hO rfl rfl (fun c43 => ?_) (fun c43 => ?_)
      · replace H := H.1 c43
        refine s_iload (nx := 70) hO rfl rfl rfl ?_
        refine s_bipush (x := (nI 17)) (nx := 72) hO rfl (by decide) rfl ?_
        refine goK (H (xEx G mX12_readInstruction 96 [(0, .ref (q_b G + 139)), (1, .int v1), (2, .int v2), (4, .int v4), (5, .int r1), (6, .int 0)] [] (hS G s2) z 0 0 (yQv G z Q)) (fun H => ?_)) (fun H => ?_)
        · show xEx G mX12_readInstruction 96 [(0, .ref (q_b G + 139)), (1, .int v1), (2, .int v2), (4, .int v4), (5, .int r1), (6, .int 0)] [] (hS G s2) z 0 0 (yQv G z Q)
          refine s_iload (nx := 98) hO rfl rfl rfl ?_
          refine s_bipush (x := (nI 25)) (nx := 100) hO rfl (by decide) rfl ?_
          refine s_icmp_ne (nx := 103) hO rfl rfl (fun c100 => ?_) (fun c100 => ?_)
          · replace H := H.1 c100
            refine s_iload (nx := 120) hO rfl rfl rfl ?_
            refine s_bipush (x := (nI 26)) (nx := 122) hO rfl (by decide) rfl ?_
            refine goK (H (xEx G mX12_readInstruction 132 [(0, .ref (q_b G + 139)), (1, .int v1), (2, .int v2), (5, .int r1)] [] (hS G s2) z 0 0 (yQv G z Q)) (fun H => ?_)) (fun H => ?_)
            · show xEx G mX12_readInstruction 132 [(0, .ref (q_b G + 139)), (1, .int v1), (2, .int v2), (5, .int r1)] [] (hS G s2) z 0 0 (yQv G z Q)
              refine s_aload_n (nx := 133) hO rfl rfl rfl ?_
              refine s_iconst (x := 1) (nx := 134) hO rfl (by decide) rfl ?_
              refine s_iconst (x := 0) (nx := 135) hO rfl (by decide) rfl ?_
              refine s_bipush (x := (nI 15)) (nx := 137) hO rfl (by decide) rfl ?_
              refine s_callV [.int 1, .int 0, .int (nI 15)] (ci := 12) (F := TX12) (N := 116) (nx := 140) hO rfl kX12_readInstruction_529 (by rw [hcl]; rfl) (hs_o12 kc139) (w_X12_numberNext hG H) rfl rfl (Nat.le_of_ble_eq_true rfl) (Nat.zero_le _) (Nat.zero_le _) rfl (k_Qi (fun r12 s13 H => ?_))
              refine s_istore (nx := 142) (l' := [(6, .int r12), (0, .ref (q_b G + 139)), (1, .int v1), (2, .int v2), (5, .int r1)]) hO rfl (by decide) rfl rfl ?_
              exact xEx.loc (x_sub1 (List.Mem.tail _ (List.Mem.head _)) (x_sub1 (List.Mem.tail _ (List.Mem.tail _ (List.Mem.head _))) (x_sub1 (List.Mem.tail _ (List.Mem.tail _ (List.Mem.tail _ (List.Mem.head _)))) (x_sub1 (List.Mem.tail _ (List.Mem.tail _ (List.Mem.tail _ (List.Mem.tail _ (List.Mem.head _))))) (x_sub1 (List.Mem.head _) x_sub0))))) H
            refine s_icmp_eq (nx := 125) hO rfl rfl (fun c122 => ?_) (fun c122 => ?_)
            · replace H := H.1 c122
              exact xEx.loc (x_sub1 (List.Mem.head _) (x_sub1 (List.Mem.tail _ (List.Mem.head _)) (x_sub1 (List.Mem.tail _ (List.Mem.tail _ (List.Mem.head _))) (x_sub1 (List.Mem.tail _ (List.Mem.tail _ (List.Mem.tail _ (List.Mem.tail _ (List.Mem.head _))))) x_sub0)))) H
            · replace H := H.2 c122
              refine s_iload (nx := 127) hO rfl rfl rfl ?_
              refine s_bipush (x := (nI 29)) (nx := 129) hO rfl (by decide) rfl ?_
              refine s_icmp_ne (nx := 132) hO rfl rfl (fun c129 => ?_) (fun c129 => ?_)
              · replace H := H.1 c129
                exact xEx.loc (x_sub1 (List.Mem.head _) (x_sub1 (List.Mem.tail _ (List.Mem.head _)) (x_sub1 (List.Mem.tail _ (List.Mem.tail _ (List.Mem.head _))) (x_sub1 (List.Mem.tail _ (List.Mem.tail _ (List.Mem.tail _ (List.Mem.tail _ (List.Mem.head _))))) (x_sub1 (List.Mem.tail _ (List.Mem.tail _ (List.Mem.tail _ (List.Mem.tail _ (List.Mem.tail _ (List.Mem.head _)))))) x_sub0))))) H
              · replace H := H.2 c129
                exact xEx.loc (x_sub1 (List.Mem.head _) (x_sub1 (List.Mem.tail _ (List.Mem.head _)) (x_sub1 (List.Mem.tail _ (List.Mem.tail _ (List.Mem.head _))) (x_sub1 (List.Mem.tail _ (List.Mem.tail _ (List.Mem.tail _ (List.Mem.tail _ (List.Mem.head _))))) x_sub0)))) H
          · replace H := H.2 c100
            refine s_aload_n (nx := 104) hO rfl rfl rfl ?_
            refine s_iconst (x := 1) (nx := 105) hO rfl (by decide) rfl ?_
            refine s_iconst (x := 0) (nx := 106) hO rfl (by decide) rfl ?_
            refine s_iload (nx := 108) hO rfl rfl rfl ?_
            refine s_iconst (x := 1) (nx := 109) hO rfl (by decide) rfl ?_
            refine s_isub (nx := 110) hO rfl rfl ?_
            refine s_callV [.int 1, .int 0, .int (v4 - 1)] (ci := 12) (F := TX12) (N := 116) (nx := 113) hO rfl kX12_readInstruction_529 (by rw [hcl]; rfl) (hs_o12 kc139) (w_X12_numberNext hG H) rfl rfl (Nat.le_of_ble_eq_true rfl) (Nat.zero_le _) (Nat.zero_le _) rfl (k_Qi (fun r14 s15 H => ?_))
            refine s_istore (nx := 115) (l' := [(6, .int r14), (0, .ref (q_b G + 139)), (1, .int v1), (2, .int v2), (4, .int v4), (5, .int r1)]) hO rfl (by decide) rfl rfl ?_
            refine s_goto hO rfl ?_
            exact xEx.loc (x_sub1 (List.Mem.tail _ (List.Mem.head _)) (x_sub1 (List.Mem.tail _ (List.Mem.tail _ (List.Mem.head _))) (x_sub1 (List.Mem.tail _ (List.Mem.tail _ (List.Mem.tail _ (List.Mem.head _)))) (x_sub1 (List.Mem.tail _ (List.Mem.tail _ (List.Mem.tail _ (List.Mem.tail _ (List.Mem.tail _ (List.Mem.head _)))))) (x_sub1 (List.Mem.head _) x_sub0))))) H
        refine s_icmp_le (nx := 75) hO rfl rfl (fun c72 => ?_) (fun c72 => ?_)
        · replace H := H.1 c72
          exact xEx.loc (x_sub1 (List.Mem.tail _ (List.Mem.tail _ (List.Mem.head _))) (x_sub1 (List.Mem.tail _ (List.Mem.tail _ (List.Mem.tail _ (List.Mem.head _)))) (x_sub1 (List.Mem.tail _ (List.Mem.tail _ (List.Mem.tail _ (List.Mem.tail _ (List.Mem.head _))))) (x_sub1 (List.Mem.tail _ (List.Mem.tail _ (List.Mem.tail _ (List.Mem.tail _ (List.Mem.tail _ (List.Mem.tail _ (List.Mem.head _))))))) (x_sub1 (List.Mem.tail _ (List.Mem.head _)) (x_sub1 (List.Mem.head _) x_sub0)))))) H
        · replace H := H.2 c72
          refine s_iload (nx := 77) hO rfl rfl rfl ?_
          refine s_bipush (x := (nI 21)) (nx := 79) hO rfl (by decide) rfl ?_
          refine s_icmp_ge (nx := 82) hO rfl rfl (fun c79 => ?_) (fun c79 => ?_)
          · replace H := H.1 c79
            exact xEx.loc (x_sub1 (List.Mem.tail _ (List.Mem.tail _ (List.Mem.head _))) (x_sub1 (List.Mem.tail _ (List.Mem.tail _ (List.Mem.tail _ (List.Mem.head _)))) (x_sub1 (List.Mem.tail _ (List.Mem.tail _ (List.Mem.tail _ (List.Mem.tail _ (List.Mem.head _))))) (x_sub1 (List.Mem.tail _ (List.Mem.tail _ (List.Mem.tail _ (List.Mem.tail _ (List.Mem.tail _ (List.Mem.tail _ (List.Mem.head _))))))) (x_sub1 (List.Mem.tail _ (List.Mem.head _)) (x_sub1 (List.Mem.head _) x_sub0)))))) H
          · replace H := H.2 c79
            refine s_aload_n (nx := 83) hO rfl rfl rfl ?_
            refine s_iconst (x := (nI 2)) (nx := 84) hO rfl (by decide) rfl ?_
            refine s_iconst (x := 0) (nx := 85) hO rfl (by decide) rfl ?_
            refine s_iload_n (nx := 86) hO rfl rfl rfl ?_
            refine s_iconst (x := 1) (nx := 87) hO rfl (by decide) rfl ?_
            refine s_isub (nx := 88) hO rfl rfl ?_
            refine s_callV [.int (nI 2), .int 0, .int (v3 - 1)] (ci := 12) (F := TX12) (N := 116) (nx := 91) hO rfl kX12_readInstruction_529 (by rw [hcl]; rfl) (hs_o12 kc139) (w_X12_numberNext hG H) rfl rfl (Nat.le_of_ble_eq_true rfl) (Nat.zero_le _) (Nat.zero_le _) rfl (k_Qi (fun r16 s17 H => ?_))
            refine s_istore (nx := 93) (l' := [(6, .int r16), (5, .int r1), (0, .ref (q_b G + 139)), (1, .int v1), (2, .int v2), (3, .int v3), (4, .int v4)]) hO rfl (by decide) rfl rfl ?_
            refine s_goto hO rfl ?_
            exact xEx.loc (x_sub1 (List.Mem.tail _ (List.Mem.tail _ (List.Mem.head _))) (x_sub1 (List.Mem.tail _ (List.Mem.tail _ (List.Mem.tail _ (List.Mem.head _)))) (x_sub1 (List.Mem.tail _ (List.Mem.tail _ (List.Mem.tail _ (List.Mem.tail _ (List.Mem.head _))))) (x_sub1 (List.Mem.tail _ (List.Mem.head _)) (x_sub1 (List.Mem.head _) x_sub0))))) H
      · replace H := H.2 c43
        exact xEx.loc (x_sub1 (List.Mem.tail _ (List.Mem.tail _ (List.Mem.head _))) (x_sub1 (List.Mem.tail _ (List.Mem.tail _ (List.Mem.tail _ (List.Mem.head _)))) (x_sub1 (List.Mem.tail _ (List.Mem.tail _ (List.Mem.tail _ (List.Mem.tail _ (List.Mem.head _))))) (x_sub1 (List.Mem.tail _ (List.Mem.head _)) x_sub0)))) H
  · replace H := H.2 c15
    refine s_aload_n (nx := 19) hO rfl rfl rfl ?_
    refine s_iconst (x := (nI 4)) (nx := 20) hO rfl (by decide) rfl ?_
    refine s_ldc_w (x := ((-2147483648))) (nx := 23) hO rfl rfl rfl ?_
    refine s_ldc_w (x := ((2147483647))) (nx := 26) hO rfl rfl rfl ?_
    refine s_callV [.int (nI 4), .int ((-2147483648)), .int ((2147483647))] (ci := 12) (F := TX12) (N := 116) (nx := 29) hO rfl kX12_readInstruction_529 (by rw [hcl]; rfl) (hs_o12 kc139) (w_X12_numberNext hG H) rfl rfl (Nat.le_of_ble_eq_true rfl) (Nat.zero_le _) (Nat.zero_le _) rfl (k_Qi (fun r18 s19 H => ?_))
    refine s_istore (nx := 31) (l' := [(6, .int r18), (5, .int r1), (0, .ref (q_b G + 139)), (1, .int v1), (2, .int v2), (3, .int v3), (4, .int v4)]) hO rfl (by decide) rfl rfl ?_
    refine s_goto hO rfl ?_
    exact xEx.loc (x_sub1 (List.Mem.tail _ (List.Mem.tail _ (List.Mem.head _))) (x_sub1 (List.Mem.tail _ (List.Mem.tail _ (List.Mem.tail _ (List.Mem.head _)))) (x_sub1 (List.Mem.tail _ (List.Mem.tail _ (List.Mem.tail _ (List.Mem.tail _ (List.Mem.head _))))) (x_sub1 (List.Mem.tail _ (List.Mem.head _)) (x_sub1 (List.Mem.head _) x_sub0))))) H
def W_X12_readFunction (s : yS) (v1 : Int32) (v2 : Int32) (Q : yS → Prop) : Prop :=
 ∀ x1 : Int32, x1 = ((nI 24) + v1) → 
 ((¬ v1 = 0 → W_X12_numberNext s 1 0 (nI 4) 
  (fun r2 s3 => vp_in x1 36 ∧ ∀ s5 : yS, s5 = wI s3 179 (ix x1) r2 → 
  vp_in x1 36 ∧ 
  W_X12_numberNext s5 1 (sI s5 179 (ix x1)) (nI 12) 
  (fun r7 s8 => vp_in x1 36 ∧ ∀ s10 : yS, s10 = wI s8 180 (ix x1) r7 → 
  vp_in x1 36 ∧ 
  W_X12_numberNext s10 (nI 2) 0 ((1 <<< (((sI s10 180 (ix x1)) &&& (nI 15)) &&& 31)) - 1) 
  (fun r12 s13 => vp_in x1 36 ∧ ∀ s15 : yS, s15 = wI s13 181 (ix x1) r12 → 
  ((¬ v1 = 0 → W_X12_numberNext s15 1 0 (nI 2) 
   (fun r16 s17 => vp_in x1 36 ∧ ∀ s19 : yS, s19 = wI s17 182 (ix x1) r16 → 
   W_X12_numberNext s19 (nI 2) 1 (nI 400) 
   (fun r20 s21 => vp_in x1 36 ∧ ∀ s23 : yS, s23 = wI s21 184 (ix x1) r20 → 
   ∀ P109 : Int32 → yS → Prop, (∀ (x24 : Int32) (s25 : yS), (vp_in x1 36 ∧ 
    ∀ P147 : Prop, ((W_X12_numberNext s25 1 0 (nI 6) 
     (fun r27 s28 => vp_in x1 36 ∧ ∀ s30 : yS, s30 = wI s28 185 (ix x1) r27 → 
     ∀ P164 : Int32 → yS → Prop, (∀ (x31 : Int32) (s32 : yS), (vp_in x1 36 ∧ 
      (((sI s32 185 (ix x1)) ≤ x31 → Q s32)
      ∧ (¬ (sI s32 185 (ix x1)) ≤ x31 → ((¬ (sI s32 139 15) = 0 → Q s32)
       ∧ ((sI s32 139 15) = 0 → ∀ x34 : Int32, x34 = (((nI 144) + ((nI 6) * v1)) + x31) → 
        vp_in x1 36 ∧ 
        W_X12_numberNext s32 (nI 2) 0 ((sI s32 184 (ix x1)) - 1) 
        (fun r36 s37 => vp_in x34 216 ∧ ∀ s39 : yS, s39 = wI s37 188 (ix x34) r36 → 
        vp_in x34 216 ∧ 
        vp_in x1 36 ∧ 
        W_X12_numberNext s39 (nI 2) ((sI s39 188 (ix x34)) + 1) (sI s39 184 (ix x1)) 
        (fun r42 s43 => vp_in x34 216 ∧ ∀ s45 : yS, s45 = wI s43 189 (ix x34) r42 → 
        vp_in x1 36 ∧ 
        W_X12_numberNext s45 (nI 2) 0 ((sI s45 184 (ix x1)) - 1) 
        (fun r47 s48 => vp_in x34 216 ∧ ∀ s50 : yS, s50 = wI s48 190 (ix x34) r47 → 
        W_X12_numberNext s50 1 0 1 
        (fun r51 s52 => ((¬ r51 = 0 → vp_in x34 216 ∧ ∀ s54 : yS, s54 = wI s52 191 (ix x34) (vp_nar .boolean 0) → 
         vp_in x34 216 ∧ 
         (((sI s54 191 (ix x34)) = 0 → W_X12_numberNext s54 (nI 4) ((-2147483648)) ((2147483647)) 
          (fun r56 s57 => vp_in x34 216 ∧ ∀ s59 : yS, s59 = wI s57 192 (ix x34) r56 → 
          ∀ x60 : Int32, x60 = (x31 + 1) → 
          P164 x60 s59))
         ∧ (¬ (sI s54 191 (ix x34)) = 0 → vp_in x34 216 ∧ ∀ s62 : yS, s62 = wI s54 192 (ix x34) 0 → 
          ∀ x63 : Int32, x63 = (x31 + 1) → 
          P164 x63 s62)))
        ∧ (r51 = 0 → vp_in x34 216 ∧ ∀ s65 : yS, s65 = wI s52 191 (ix x34) (vp_nar .boolean 1) → 
         vp_in x34 216 ∧ 
         (((sI s65 191 (ix x34)) = 0 → W_X12_numberNext s65 (nI 4) ((-2147483648)) ((2147483647)) 
          (fun r67 s68 => vp_in x34 216 ∧ ∀ s70 : yS, s70 = wI s68 192 (ix x34) r67 → 
          ∀ x71 : Int32, x71 = (x31 + 1) → 
          P164 x71 s70))
         ∧ (¬ (sI s65 191 (ix x34)) = 0 → vp_in x34 216 ∧ ∀ s73 : yS, s73 = wI s65 192 (ix x34) 0 → 
          ∀ x74 : Int32, x74 = (x31 + 1) → 
          P164 x74 s73))))))))))))) → P164 x31 s32) → 
     P164 0 s30)) → P147) → 
    (((sI s25 184 (ix x1)) ≤ x24 → P147)
    ∧ (¬ (sI s25 184 (ix x1)) ≤ x24 → ((¬ (sI s25 139 15) = 0 → P147)
     ∧ ((sI s25 139 15) = 0 → vp_in x1 36 ∧ 
      W_X12_readInstruction s25 v1 x24 (sI s25 184 (ix x1)) v2 
      (fun s76 => ∀ x77 : Int32, x77 = (x24 + 1) → 
      P109 x77 s76)))))) → P109 x24 s25) → 
   P109 0 s23)))
  ∧ (v1 = 0 → W_X12_numberNext s15 1 0 1 
   (fun r78 s79 => vp_in x1 36 ∧ ∀ s81 : yS, s81 = wI s79 182 (ix x1) r78 → 
   W_X12_numberNext s81 (nI 2) 1 (nI 400) 
   (fun r82 s83 => vp_in x1 36 ∧ ∀ s85 : yS, s85 = wI s83 184 (ix x1) r82 → 
   ∀ P109_88 : Int32 → yS → Prop, (∀ (x86 : Int32) (s87 : yS), (vp_in x1 36 ∧ 
    ∀ P147_90 : Prop, ((W_X12_numberNext s87 1 0 (nI 6) 
     (fun r91 s92 => vp_in x1 36 ∧ ∀ s94 : yS, s94 = wI s92 185 (ix x1) r91 → 
     ∀ P164_97 : Int32 → yS → Prop, (∀ (x95 : Int32) (s96 : yS), (vp_in x1 36 ∧ 
      (((sI s96 185 (ix x1)) ≤ x95 → Q s96)
      ∧ (¬ (sI s96 185 (ix x1)) ≤ x95 → ((¬ (sI s96 139 15) = 0 → Q s96)
       ∧ ((sI s96 139 15) = 0 → ∀ x99 : Int32, x99 = (((nI 144) + ((nI 6) * v1)) + x95) → 
        vp_in x1 36 ∧ 
        W_X12_numberNext s96 (nI 2) 0 ((sI s96 184 (ix x1)) - 1) 
        (fun r101 s102 => vp_in x99 216 ∧ ∀ s104 : yS, s104 = wI s102 188 (ix x99) r101 → 
        vp_in x99 216 ∧ 
        vp_in x1 36 ∧ 
        W_X12_numberNext s104 (nI 2) ((sI s104 188 (ix x99)) + 1) (sI s104 184 (ix x1)) 
        (fun r107 s108 => vp_in x99 216 ∧ ∀ s110 : yS, s110 = wI s108 189 (ix x99) r107 → 
        vp_in x1 36 ∧ 
        W_X12_numberNext s110 (nI 2) 0 ((sI s110 184 (ix x1)) - 1) 
        (fun r112 s113 => vp_in x99 216 ∧ ∀ s115 : yS, s115 = wI s113 190 (ix x99) r112 → 
        W_X12_numberNext s115 1 0 1 
        (fun r116 s117 => ((¬ r116 = 0 → vp_in x99 216 ∧ ∀ s119 : yS, s119 = wI s117 191 (ix x99) (vp_nar .boolean 0) → 
         vp_in x99 216 ∧ 
         (((sI s119 191 (ix x99)) = 0 → W_X12_numberNext s119 (nI 4) ((-2147483648)) ((2147483647)) 
          (fun r121 s122 => vp_in x99 216 ∧ ∀ s124 : yS, s124 = wI s122 192 (ix x99) r121 → 
          ∀ x125 : Int32, x125 = (x95 + 1) → 
          P164_97 x125 s124))
         ∧ (¬ (sI s119 191 (ix x99)) = 0 → vp_in x99 216 ∧ ∀ s127 : yS, s127 = wI s119 192 (ix x99) 0 → 
          ∀ x128 : Int32, x128 = (x95 + 1) → 
          P164_97 x128 s127)))
        ∧ (r116 = 0 → vp_in x99 216 ∧ ∀ s130 : yS, s130 = wI s117 191 (ix x99) (vp_nar .boolean 1) → 
         vp_in x99 216 ∧ 
         (((sI s130 191 (ix x99)) = 0 → W_X12_numberNext s130 (nI 4) ((-2147483648)) ((2147483647)) 
          (fun r132 s133 => vp_in x99 216 ∧ ∀ s135 : yS, s135 = wI s133 192 (ix x99) r132 → 
          ∀ x136 : Int32, x136 = (x95 + 1) → 
          P164_97 x136 s135))
         ∧ (¬ (sI s130 191 (ix x99)) = 0 → vp_in x99 216 ∧ ∀ s138 : yS, s138 = wI s130 192 (ix x99) 0 → 
          ∀ x139 : Int32, x139 = (x95 + 1) → 
          P164_97 x139 s138))))))))))))) → P164_97 x95 s96) → 
     P164_97 0 s94)) → P147_90) → 
    (((sI s87 184 (ix x1)) ≤ x86 → P147_90)
    ∧ (¬ (sI s87 184 (ix x1)) ≤ x86 → ((¬ (sI s87 139 15) = 0 → P147_90)
     ∧ ((sI s87 139 15) = 0 → vp_in x1 36 ∧ 
      W_X12_readInstruction s87 v1 x86 (sI s87 184 (ix x1)) v2 
      (fun s141 => ∀ x142 : Int32, x142 = (x86 + 1) → 
      P109_88 x142 s141)))))) → P109_88 x86 s87) → 
   P109_88 0 s85))))))))
 ∧ (v1 = 0 → W_X12_numberNext s 1 0 0 
  (fun r143 s144 => vp_in x1 36 ∧ ∀ s146 : yS, s146 = wI s144 179 (ix x1) r143 → 
  vp_in x1 36 ∧ 
  W_X12_numberNext s146 1 (sI s146 179 (ix x1)) (nI 12) 
  (fun r148 s149 => vp_in x1 36 ∧ ∀ s151 : yS, s151 = wI s149 180 (ix x1) r148 → 
  vp_in x1 36 ∧ 
  W_X12_numberNext s151 (nI 2) 0 ((1 <<< (((sI s151 180 (ix x1)) &&& (nI 15)) &&& 31)) - 1) 
  (fun r153 s154 => vp_in x1 36 ∧ ∀ s156 : yS, s156 = wI s154 181 (ix x1) r153 → 
  ((¬ v1 = 0 → W_X12_numberNext s156 1 0 (nI 2) 
   (fun r157 s158 => vp_in x1 36 ∧ ∀ s160 : yS, s160 = wI s158 182 (ix x1) r157 → 
   W_X12_numberNext s160 (nI 2) 1 (nI 400) 
   (fun r161 s162 => vp_in x1 36 ∧ ∀ s164 : yS, s164 = wI s162 184 (ix x1) r161 → 
   ∀ P109_167 : Int32 → yS → Prop, (∀ (x165 : Int32) (s166 : yS), (vp_in x1 36 ∧ 
    ∀ P147_169 : Prop, ((W_X12_numberNext s166 1 0 (nI 6) 
     (fun r170 s171 => vp_in x1 36 ∧ ∀ s173 : yS, s173 = wI s171 185 (ix x1) r170 → 
     ∀ P164_176 : Int32 → yS → Prop, (∀ (x174 : Int32) (s175 : yS), (vp_in x1 36 ∧ 
      (((sI s175 185 (ix x1)) ≤ x174 → Q s175)
      ∧ (¬ (sI s175 185 (ix x1)) ≤ x174 → ((¬ (sI s175 139 15) = 0 → Q s175)
       ∧ ((sI s175 139 15) = 0 → ∀ x178 : Int32, x178 = (((nI 144) + ((nI 6) * v1)) + x174) → 
        vp_in x1 36 ∧ 
        W_X12_numberNext s175 (nI 2) 0 ((sI s175 184 (ix x1)) - 1) 
        (fun r180 s181 => vp_in x178 216 ∧ ∀ s183 : yS, s183 = wI s181 188 (ix x178) r180 → 
        vp_in x178 216 ∧ 
        vp_in x1 36 ∧ 
        W_X12_numberNext s183 (nI 2) ((sI s183 188 (ix x178)) + 1) (sI s183 184 (ix x1)) 
        (fun r186 s187 => vp_in x178 216 ∧ ∀ s189 : yS, s189 = wI s187 189 (ix x178) r186 → 
        vp_in x1 36 ∧ 
        W_X12_numberNext s189 (nI 2) 0 ((sI s189 184 (ix x1)) - 1) 
        (fun r191 s192 => vp_in x178 216 ∧ ∀ s194 : yS, s194 = wI s192 190 (ix x178) r191 → 
        W_X12_numberNext s194 1 0 1 
        (fun r195 s196 => ((¬ r195 = 0 → vp_in x178 216 ∧ ∀ s198 : yS, s198 = wI s196 191 (ix x178) (vp_nar .boolean 0) → 
         vp_in x178 216 ∧ 
         (((sI s198 191 (ix x178)) = 0 → W_X12_numberNext s198 (nI 4) ((-2147483648)) ((2147483647)) 
          (fun r200 s201 => vp_in x178 216 ∧ ∀ s203 : yS, s203 = wI s201 192 (ix x178) r200 → 
          ∀ x204 : Int32, x204 = (x174 + 1) → 
          P164_176 x204 s203))
         ∧ (¬ (sI s198 191 (ix x178)) = 0 → vp_in x178 216 ∧ ∀ s206 : yS, s206 = wI s198 192 (ix x178) 0 → 
          ∀ x207 : Int32, x207 = (x174 + 1) → 
          P164_176 x207 s206)))
        ∧ (r195 = 0 → vp_in x178 216 ∧ ∀ s209 : yS, s209 = wI s196 191 (ix x178) (vp_nar .boolean 1) → 
         vp_in x178 216 ∧ 
         (((sI s209 191 (ix x178)) = 0 → W_X12_numberNext s209 (nI 4) ((-2147483648)) ((2147483647)) 
          (fun r211 s212 => vp_in x178 216 ∧ ∀ s214 : yS, s214 = wI s212 192 (ix x178) r211 → 
          ∀ x215 : Int32, x215 = (x174 + 1) → 
          P164_176 x215 s214))
         ∧ (¬ (sI s209 191 (ix x178)) = 0 → vp_in x178 216 ∧ ∀ s217 : yS, s217 = wI s209 192 (ix x178) 0 → 
          ∀ x218 : Int32, x218 = (x174 + 1) → 
          P164_176 x218 s217))))))))))))) → P164_176 x174 s175) → 
     P164_176 0 s173)) → P147_169) → 
    (((sI s166 184 (ix x1)) ≤ x165 → P147_169)
    ∧ (¬ (sI s166 184 (ix x1)) ≤ x165 → ((¬ (sI s166 139 15) = 0 → P147_169)
     ∧ ((sI s166 139 15) = 0 → vp_in x1 36 ∧ 
      W_X12_readInstruction s166 v1 x165 (sI s166 184 (ix x1)) v2 
      (fun s220 => ∀ x221 : Int32, x221 = (x165 + 1) → 
      P109_167 x221 s220)))))) → P109_167 x165 s166) → 
   P109_167 0 s164)))
  ∧ (v1 = 0 → W_X12_numberNext s156 1 0 1 
   (fun r222 s223 => vp_in x1 36 ∧ ∀ s225 : yS, s225 = wI s223 182 (ix x1) r222 → 
   W_X12_numberNext s225 (nI 2) 1 (nI 400) 
   (fun r226 s227 => vp_in x1 36 ∧ ∀ s229 : yS, s229 = wI s227 184 (ix x1) r226 → 
   ∀ P109_232 : Int32 → yS → Prop, (∀ (x230 : Int32) (s231 : yS), (vp_in x1 36 ∧ 
    ∀ P147_234 : Prop, ((W_X12_numberNext s231 1 0 (nI 6) 
     (fun r235 s236 => vp_in x1 36 ∧ ∀ s238 : yS, s238 = wI s236 185 (ix x1) r235 → 
     ∀ P164_241 : Int32 → yS → Prop, (∀ (x239 : Int32) (s240 : yS), (vp_in x1 36 ∧ 
      (((sI s240 185 (ix x1)) ≤ x239 → Q s240)
      ∧ (¬ (sI s240 185 (ix x1)) ≤ x239 → ((¬ (sI s240 139 15) = 0 → Q s240)
       ∧ ((sI s240 139 15) = 0 → ∀ x243 : Int32, x243 = (((nI 144) + ((nI 6) * v1)) + x239) → 
        vp_in x1 36 ∧ 
        W_X12_numberNext s240 (nI 2) 0 ((sI s240 184 (ix x1)) - 1) 
        (fun r245 s246 => vp_in x243 216 ∧ ∀ s248 : yS, s248 = wI s246 188 (ix x243) r245 → 
        vp_in x243 216 ∧ 
        vp_in x1 36 ∧ 
        W_X12_numberNext s248 (nI 2) ((sI s248 188 (ix x243)) + 1) (sI s248 184 (ix x1)) 
        (fun r251 s252 => vp_in x243 216 ∧ ∀ s254 : yS, s254 = wI s252 189 (ix x243) r251 → 
        vp_in x1 36 ∧ 
        W_X12_numberNext s254 (nI 2) 0 ((sI s254 184 (ix x1)) - 1) 
        (fun r256 s257 => vp_in x243 216 ∧ ∀ s259 : yS, s259 = wI s257 190 (ix x243) r256 → 
        W_X12_numberNext s259 1 0 1 
        (fun r260 s261 => ((¬ r260 = 0 → vp_in x243 216 ∧ ∀ s263 : yS, s263 = wI s261 191 (ix x243) (vp_nar .boolean 0) → 
         vp_in x243 216 ∧ 
         (((sI s263 191 (ix x243)) = 0 → W_X12_numberNext s263 (nI 4) ((-2147483648)) ((2147483647)) 
          (fun r265 s266 => vp_in x243 216 ∧ ∀ s268 : yS, s268 = wI s266 192 (ix x243) r265 → 
          ∀ x269 : Int32, x269 = (x239 + 1) → 
          P164_241 x269 s268))
         ∧ (¬ (sI s263 191 (ix x243)) = 0 → vp_in x243 216 ∧ ∀ s271 : yS, s271 = wI s263 192 (ix x243) 0 → 
          ∀ x272 : Int32, x272 = (x239 + 1) → 
          P164_241 x272 s271)))
        ∧ (r260 = 0 → vp_in x243 216 ∧ ∀ s274 : yS, s274 = wI s261 191 (ix x243) (vp_nar .boolean 1) → 
         vp_in x243 216 ∧ 
         (((sI s274 191 (ix x243)) = 0 → W_X12_numberNext s274 (nI 4) ((-2147483648)) ((2147483647)) 
          (fun r276 s277 => vp_in x243 216 ∧ ∀ s279 : yS, s279 = wI s277 192 (ix x243) r276 → 
          ∀ x280 : Int32, x280 = (x239 + 1) → 
          P164_241 x280 s279))
         ∧ (¬ (sI s274 191 (ix x243)) = 0 → vp_in x243 216 ∧ ∀ s282 : yS, s282 = wI s274 192 (ix x243) 0 → 
          ∀ x283 : Int32, x283 = (x239 + 1) → 
          P164_241 x283 s282))))))))))))) → P164_241 x239 s240) → 
     P164_241 0 s238)) → P147_234) → 
    (((sI s231 184 (ix x1)) ≤ x230 → P147_234)
    ∧ (¬ (sI s231 184 (ix x1)) ≤ x230 → ((¬ (sI s231 139 15) = 0 → P147_234)
     ∧ ((sI s231 139 15) = 0 → vp_in x1 36 ∧ 
      W_X12_readInstruction s231 v1 x230 (sI s231 184 (ix x1)) v2 
      (fun s285 => ∀ x286 : Int32, x286 = (x230 + 1) → 
      P109_232 x286 s285)))))) → P109_232 x230 s231) → 
   P109_232 0 s229)))))))))
set_option maxRecDepth 100000 in
set_option maxHeartbeats 40000000 in
theorem w_X12_readFunction {G : xG} (hG : yG G) {z : Nat} {s : yS} {v1 : Int32} {v2 : Int32} {Q : yS → Prop} (H : W_X12_readFunction s v1 v2 Q) : xC G mX12_readFunction [.ref (q_b G + 139), .int v1, .int v2] (hS G s) z 0 0 (yQv G z Q) := by
  have hW := hG.1
  have hcl := hG.2.1
  have hty := hG.2.2.1
  have hO : xO G mX12_readFunction tbX12_readFunction ptX12_readFunction := ⟨tkX12_readFunction, pkX12_readFunction hcl⟩
  unfold W_X12_readFunction at H
  refine xC.of hW (by decide) rfl (Nat.le_of_ble_eq_true rfl) ?_
  refine s_bipush (x := (nI 24)) (nx := 2) hO rfl (by decide) rfl ?_
  refine s_iload_n (nx := 3) hO rfl rfl rfl ?_
  refine s_iadd (nx := 4) hO rfl rfl ?_
  refine goV (((nI 24) + v1)) (fun x1 ex1 => ?_)
  replace H := H x1 ex1
  refine e_istore_n (nx := 5) (l' := [(3, .int x1), (0, .ref (q_b G + 139)), (1, .int v1), (2, .int v2)]) ex1 hO rfl (by decide) rfl rfl ?_
  refine s_aload_n (nx := 6) hO rfl rfl rfl ?_
  refine s_getf (v := .ref (q_b G + 179)) (nx := 9) hO rfl rfl (hs_o12 kc139) rfl rfl ?_
  refine s_iload_n (nx := 10) hO rfl rfl rfl ?_
  refine s_aload_n (nx := 11) hO rfl rfl rfl ?_
  refine s_iconst (x := 1) (nx := 12) hO rfl (by decide) rfl ?_
  refine s_iconst (x := 0) (nx := 13) hO rfl (by decide) rfl ?_
  refine s_iload_n (nx := 14) hO rfl rfl rfl ?_
  refine s_if_ne (nx := 17) hO rfl rfl (fun c14 => ?_) (fun c14 => ?_)
  · replace H := H.1 c14
    refine s_iconst (x := (nI 4)) (nx := 22) hO rfl (by decide) rfl ?_
    refine s_callV [.int 1, .int 0, .int (nI 4)] (ci := 12) (F := TX12) (N := 116) (nx := 25) hO rfl kX12_readFunction_529 (by rw [hcl]; rfl) (hs_o12 kc139) (w_X12_numberNext hG H) rfl rfl (Nat.le_of_ble_eq_true rfl) (Nat.zero_le _) (Nat.zero_le _) rfl (k_Qi (fun r2 s3 H => ?_))
    obtain ⟨b4, H⟩ := H
    refine goV (wI s3 179 (ix x1) r2) (fun s5 es5 => ?_)
    replace H := H s5 es5
    refine s_iast (nx := 26) hO rfl (hs_I kc179) b4 rfl ?_
    refine xEx.at (up_I kc179 es5) ?_
    refine s_aload_n (nx := 27) hO rfl rfl rfl ?_
    refine s_getf (v := .ref (q_b G + 180)) (nx := 30) hO rfl rfl (hs_o12 kc139) rfl rfl ?_
    refine s_iload_n (nx := 31) hO rfl rfl rfl ?_
    refine s_aload_n (nx := 32) hO rfl rfl rfl ?_
    refine s_iconst (x := 1) (nx := 33) hO rfl (by decide) rfl ?_
    refine s_aload_n (nx := 34) hO rfl rfl rfl ?_
    refine s_getf (v := .ref (q_b G + 179)) (nx := 37) hO rfl rfl (hs_o12 kc139) rfl rfl ?_
    refine s_iload_n (nx := 38) hO rfl rfl rfl ?_
    obtain ⟨b6, H⟩ := H
    refine s_iald (nx := 39) hO rfl (hs_I kc179) b6 rfl ?_
    refine s_bipush (x := (nI 12)) (nx := 41) hO rfl (by decide) rfl ?_
    refine s_callV [.int 1, .int (sI s5 179 (ix x1)), .int (nI 12)] (ci := 12) (F := TX12) (N := 116) (nx := 44) hO rfl kX12_readFunction_529 (by rw [hcl]; rfl) (hs_o12 kc139) (w_X12_numberNext hG H) rfl rfl (Nat.le_of_ble_eq_true rfl) (Nat.zero_le _) (Nat.zero_le _) rfl (k_Qi (fun r7 s8 H => ?_))
    obtain ⟨b9, H⟩ := H
    refine goV (wI s8 180 (ix x1) r7) (fun s10 es10 => ?_)
    replace H := H s10 es10
    refine s_iast (nx := 45) hO rfl (hs_I kc180) b9 rfl ?_
    refine xEx.at (up_I kc180 es10) ?_
    refine s_aload_n (nx := 46) hO rfl rfl rfl ?_
    refine s_getf (v := .ref (q_b G + 181)) (nx := 49) hO rfl rfl (hs_o12 kc139) rfl rfl ?_
    refine s_iload_n (nx := 50) hO rfl rfl rfl ?_
    refine s_aload_n (nx := 51) hO rfl rfl rfl ?_
    refine s_iconst (x := (nI 2)) (nx := 52) hO rfl (by decide) rfl ?_
    refine s_iconst (x := 0) (nx := 53) hO rfl (by decide) rfl ?_
    refine s_iconst (x := 1) (nx := 54) hO rfl (by decide) rfl ?_
    refine s_aload_n (nx := 55) hO rfl rfl rfl ?_
    refine s_getf (v := .ref (q_b G + 180)) (nx := 58) hO rfl rfl (hs_o12 kc139) rfl rfl ?_
    refine s_iload_n (nx := 59) hO rfl rfl rfl ?_
    obtain ⟨b11, H⟩ := H
    refine s_iald (nx := 60) hO rfl (hs_I kc180) b11 rfl ?_
    refine s_bipush (x := (nI 15)) (nx := 62) hO rfl (by decide) rfl ?_
    refine s_iand (nx := 63) hO rfl rfl ?_
    refine s_ishl (nx := 64) hO rfl rfl ?_
    refine s_iconst (x := 1) (nx := 65) hO rfl (by decide) rfl ?_
    refine s_isub (nx := 66) hO rfl rfl ?_
    refine s_callV [.int (nI 2), .int 0, .int ((1 <<< (((sI s10 180 (ix x1)) &&& (nI 15)) &&& 31)) - 1)] (ci := 12) (F := TX12) (N := 116) (nx := 69) hO rfl kX12_readFunction_529 (by rw [hcl]; rfl) (hs_o12 kc139) (w_X12_numberNext hG H) rfl rfl (Nat.le_of_ble_eq_true rfl) (Nat.zero_le _) (Nat.zero_le _) rfl (k_Qi (fun r12 s13 H => ?_))
    obtain ⟨b14, H⟩ := H
    refine goV (wI s13 181 (ix x1) r12) (fun s15 es15 => ?_)
    replace H := H s15 es15
    refine s_iast (nx := 70) hO rfl (hs_I kc181) b14 rfl ?_
    refine xEx.at (up_I kc181 es15) ?_
    refine s_aload_n (nx := 71) hO rfl rfl rfl ?_
    refine s_getf (v := .ref (q_b G + 182)) (nx := 74) hO rfl rfl (hs_o12 kc139) rfl rfl ?_
    refine s_iload_n (nx := 75) hO rfl rfl rfl ?_
    refine s_aload_n (nx := 76) hO rfl rfl rfl ?_
    refine s_iconst (x := 1) (nx := 77) hO rfl (by decide) rfl ?_
    refine s_iconst (x := 0) (nx := 78) hO rfl (by decide) rfl ?_
    refine s_iload_n (nx := 79) hO rfl rfl rfl ?_
    refine s_if_ne (nx := 82) hO rfl rfl (fun c79 => ?_) (fun c79 => ?_)
    · replace H := H.1 c79
      refine s_iconst (x := (nI 2)) (nx := 87) hO rfl (by decide) rfl ?_
      refine s_callV [.int 1, .int 0, .int (nI 2)] (ci := 12) (F := TX12) (N := 116) (nx := 90) hO rfl kX12_readFunction_529 (by rw [hcl]; rfl) (hs_o12 kc139) (w_X12_numberNext hG H) rfl rfl (Nat.le_of_ble_eq_true rfl) (Nat.zero_le _) (Nat.zero_le _) rfl (k_Qi (fun r16 s17 H => ?_))
      obtain ⟨b18, H⟩ := H
      refine goV (wI s17 182 (ix x1) r16) (fun s19 es19 => ?_)
      replace H := H s19 es19
      refine s_iast (nx := 91) hO rfl (hs_I kc182) b18 rfl ?_
      refine xEx.at (up_I kc182 es19) ?_
      refine s_aload_n (nx := 92) hO rfl rfl rfl ?_
      refine s_getf (v := .ref (q_b G + 184)) (nx := 95) hO rfl rfl (hs_o12 kc139) rfl rfl ?_
      refine s_iload_n (nx := 96) hO rfl rfl rfl ?_
      refine s_aload_n (nx := 97) hO rfl rfl rfl ?_
      refine s_iconst (x := (nI 2)) (nx := 98) hO rfl (by decide) rfl ?_
      refine s_iconst (x := 1) (nx := 99) hO rfl (by decide) rfl ?_
      refine s_sipush (x := (nI 400)) (nx := 102) hO rfl (by decide) rfl ?_
      refine s_callV [.int (nI 2), .int 1, .int (nI 400)] (ci := 12) (F := TX12) (N := 116) (nx := 105) hO rfl kX12_readFunction_529 (by rw [hcl]; rfl) (hs_o12 kc139) (w_X12_numberNext hG H) rfl rfl (Nat.le_of_ble_eq_true rfl) (Nat.zero_le _) (Nat.zero_le _) rfl (k_Qi (fun r20 s21 H => ?_))
      obtain ⟨b22, H⟩ := H
      refine goV (wI s21 184 (ix x1) r20) (fun s23 es23 => ?_)
      replace H := H s23 es23
      refine s_iast (nx := 106) hO rfl (hs_I kc184) b22 rfl ?_
      refine xEx.at (up_I kc184 es23) ?_
      refine s_iconst (x := 0) (nx := 107) hO rfl (by decide) rfl ?_
      refine goK (H (fun (x24 : Int32) (s25 : yS) => xEx G mX12_readFunction 109 [(0, .ref (q_b G + 139)), (1, .int v1), (2, .int v2), (3, .int x1), (4, .int x24)] [] (hS G s25) z 0 0 (yQv G z Q)) (fun x24 s25 H => ?_)) (fun H => ?_)
      · show xEx G mX12_readFunction 109 [(0, .ref (q_b G + 139)), (1, .int v1), (2, .int v2), (3, .int x1), (4, .int x24)] [] (hS G s25) z 0 0 (yQv G z Q)
        refine s_iload (nx := 111) hO rfl rfl rfl ?_
        refine s_aload_n (nx := 112) hO rfl rfl rfl ?_
        refine s_getf (v := .ref (q_b G + 184)) (nx := 115) hO rfl rfl (hs_o12 kc139) rfl rfl ?_
        refine s_iload_n (nx := 116) hO rfl rfl rfl ?_
        obtain ⟨b26, H⟩ := H
        refine s_iald (nx := 117) hO rfl (hs_I kc184) b26 rfl ?_
        refine goK (H (xEx G mX12_readFunction 147 [(0, .ref (q_b G + 139)), (1, .int v1), (3, .int x1)] [] (hS G s25) z 0 0 (yQv G z Q)) (fun H => ?_)) (fun H => ?_)
        · show xEx G mX12_readFunction 147 [(0, .ref (q_b G + 139)), (1, .int v1), (3, .int x1)] [] (hS G s25) z 0 0 (yQv G z Q)
          refine s_aload_n (nx := 148) hO rfl rfl rfl ?_
          refine s_getf (v := .ref (q_b G + 185)) (nx := 151) hO rfl rfl (hs_o12 kc139) rfl rfl ?_
          refine s_iload_n (nx := 152) hO rfl rfl rfl ?_
          refine s_aload_n (nx := 153) hO rfl rfl rfl ?_
          refine s_iconst (x := 1) (nx := 154) hO rfl (by decide) rfl ?_
          refine s_iconst (x := 0) (nx := 155) hO rfl (by decide) rfl ?_
          refine s_bipush (x := (nI 6)) (nx := 157) hO rfl (by decide) rfl ?_
          refine s_callV [.int 1, .int 0, .int (nI 6)] (ci := 12) (F := TX12) (N := 116) (nx := 160) hO rfl kX12_readFunction_529 (by rw [hcl]; rfl) (hs_o12 kc139) (w_X12_numberNext hG H) rfl rfl (Nat.le_of_ble_eq_true rfl) (Nat.zero_le _) (Nat.zero_le _) rfl (k_Qi (fun r27 s28 H => ?_))
          obtain ⟨b29, H⟩ := H
          refine goV (wI s28 185 (ix x1) r27) (fun s30 es30 => ?_)
          replace H := H s30 es30
          refine s_iast (nx := 161) hO rfl (hs_I kc185) b29 rfl ?_
          refine xEx.at (up_I kc185 es30) ?_
          refine s_iconst (x := 0) (nx := 162) hO rfl (by decide) rfl ?_
          refine goK (H (fun (x31 : Int32) (s32 : yS) => xEx G mX12_readFunction 164 [(0, .ref (q_b G + 139)), (1, .int v1), (3, .int x1), (4, .int x31)] [] (hS G s32) z 0 0 (yQv G z Q)) (fun x31 s32 H => ?_)) (fun H => ?_)
          · show xEx G mX12_readFunction 164 [(0, .ref (q_b G + 139)), (1, .int v1), (3, .int x1), (4, .int x31)] [] (hS G s32) z 0 0 (yQv G z Q)
            refine s_iload (nx := 166) hO rfl rfl rfl ?_
            refine s_aload_n (nx := 167) hO rfl rfl rfl ?_
            refine s_getf (v := .ref (q_b G + 185)) (nx := 170) hO rfl rfl (hs_o12 kc139) rfl rfl ?_
            refine s_iload_n (nx := 171) hO rfl rfl rfl ?_
            obtain ⟨b33, H⟩ := H
            refine s_iald (nx := 172) hO rfl (hs_I kc185) b33 rfl ?_
            refine s_icmp_ge (nx := 175) hO rfl rfl (fun c172 => ?_) (fun c172 => ?_)
            · replace H := H.1 c172
              exact s_vret hO rfl rfl ⟨rfl, _, rfl, rfl, H⟩
            · replace H := H.2 c172
              refine s_aload_n (nx := 176) hO rfl rfl rfl ?_
              refine s_getf (v := .int (sI s32 139 15)) (nx := 179) hO rfl rfl (hs_o12 kc139) rfl rfl ?_
              refine s_if_ne (nx := 182) hO rfl rfl (fun c179 => ?_) (fun c179 => ?_)
              · replace H := H.1 c179
                exact s_vret hO rfl rfl ⟨rfl, _, rfl, rfl, H⟩
              · replace H := H.2 c179
                refine s_sipush (x := (nI 144)) (nx := 185) hO rfl (by decide) rfl ?_
                refine s_bipush (x := (nI 6)) (nx := 187) hO rfl (by decide) rfl ?_
                refine s_iload_n (nx := 188) hO rfl rfl rfl ?_
                refine s_imul (nx := 189) hO rfl rfl ?_
                refine s_iadd (nx := 190) hO rfl rfl ?_
                refine s_iload (nx := 192) hO rfl rfl rfl ?_
                refine s_iadd (nx := 193) hO rfl rfl ?_
                refine goV ((((nI 144) + ((nI 6) * v1)) + x31)) (fun x34 ex34 => ?_)
                replace H := H x34 ex34
                refine e_istore (nx := 195) (l' := [(5, .int x34), (0, .ref (q_b G + 139)), (1, .int v1), (3, .int x1), (4, .int x31)]) ex34 hO rfl (by decide) rfl rfl ?_
                refine s_aload_n (nx := 196) hO rfl rfl rfl ?_
                refine s_getf (v := .ref (q_b G + 188)) (nx := 199) hO rfl rfl (hs_o12 kc139) rfl rfl ?_
                refine s_iload (nx := 201) hO rfl rfl rfl ?_
                refine s_aload_n (nx := 202) hO rfl rfl rfl ?_
                refine s_iconst (x := (nI 2)) (nx := 203) hO rfl (by decide) rfl ?_
                refine s_iconst (x := 0) (nx := 204) hO rfl (by decide) rfl ?_
                refine s_aload_n (nx := 205) hO rfl rfl rfl ?_
                refine s_getf (v := .ref (q_b G + 184)) (nx := 208) hO rfl rfl (hs_o12 kc139) rfl rfl ?_
                refine s_iload_n (nx := 209) hO rfl rfl rfl ?_
                obtain ⟨b35, H⟩ := H
                refine s_iald (nx := 210) hO rfl (hs_I kc184) b35 rfl ?_
                refine s_iconst (x := 1) (nx := 211) hO rfl (by decide) rfl ?_
                refine s_isub (nx := 212) hO rfl rfl ?_
                refine s_callV [.int (nI 2), .int 0, .int ((sI s32 184 (ix x1)) - 1)] (ci := 12) (F := TX12) (N := 116) (nx := 215) hO rfl kX12_readFunction_529 (by rw [hcl]; rfl) (hs_o12 kc139) (w_X12_numberNext hG H) rfl rfl (Nat.le_of_ble_eq_true rfl) (Nat.zero_le _) (Nat.zero_le _) rfl (k_Qi (fun r36 s37 H => ?_))
                obtain ⟨b38, H⟩ := H
                refine goV (wI s37 188 (ix x34) r36) (fun s39 es39 => ?_)
                replace H := H s39 es39
                refine s_iast (nx := 216) hO rfl (hs_I kc188) b38 rfl ?_
                refine xEx.at (up_I kc188 es39) ?_
                refine s_aload_n (nx := 217) hO rfl rfl rfl ?_
                refine s_getf (v := .ref (q_b G + 189)) (nx := 220) hO rfl rfl (hs_o12 kc139) rfl rfl ?_
                refine s_iload (nx := 222) hO rfl rfl rfl ?_
                refine s_aload_n (nx := 223) hO rfl rfl rfl ?_
                refine s_iconst (x := (nI 2)) (nx := 224) hO rfl (by decide) rfl ?_
                refine s_aload_n (nx := 225) hO rfl rfl rfl ?_
                refine s_getf (v := .ref (q_b G + 188)) (nx := 228) hO rfl rfl (hs_o12 kc139) rfl rfl ?_
                refine s_iload (nx := 230) hO rfl rfl rfl ?_
                obtain ⟨b40, H⟩ := H
                refine s_iald (nx := 231) hO rfl (hs_I kc188) b40 rfl ?_
                refine s_iconst (x := 1) (nx := 232) hO rfl (by decide) rfl ?_
                refine s_iadd (nx := 233) hO rfl rfl ?_
                refine s_aload_n (nx := 234) hO rfl rfl rfl ?_
                refine s_getf (v := .ref (q_b G + 184)) (nx := 237) hO rfl rfl (hs_o12 kc139) rfl rfl ?_
                refine s_iload_n (nx := 238) hO rfl rfl rfl ?_
                obtain ⟨b41, H⟩ := H
                refine s_iald (nx := 239) hO rfl (hs_I kc184) b41 rfl ?_
                refine s_callV [.int (nI 2), .int ((sI s39 188 (ix x34)) + 1), .int (sI s39 184 (ix x1))] (ci := 12) (F := TX12) (N := 116) (nx := 242) hO rfl kX12_readFunction_529 (by rw [hcl]; rfl) (hs_o12 kc139) (w_X12_numberNext hG H) rfl rfl (Nat.le_of_ble_eq_true rfl) (Nat.zero_le _) (Nat.zero_le _) rfl (k_Qi (fun r42 s43 H => ?_))
                obtain ⟨b44, H⟩ := H
                refine goV (wI s43 189 (ix x34) r42) (fun s45 es45 => ?_)
                replace H := H s45 es45
                refine s_iast (nx := 243) hO rfl (hs_I kc189) b44 rfl ?_
                refine xEx.at (up_I kc189 es45) ?_
                refine s_aload_n (nx := 244) hO rfl rfl rfl ?_
                refine s_getf (v := .ref (q_b G + 190)) (nx := 247) hO rfl rfl (hs_o12 kc139) rfl rfl ?_
                refine s_iload (nx := 249) hO rfl rfl rfl ?_
                refine s_aload_n (nx := 250) hO rfl rfl rfl ?_
                refine s_iconst (x := (nI 2)) (nx := 251) hO rfl (by decide) rfl ?_
                refine s_iconst (x := 0) (nx := 252) hO rfl (by decide) rfl ?_
                refine s_aload_n (nx := 253) hO rfl rfl rfl ?_
                refine s_getf (v := .ref (q_b G + 184)) (nx := 256) hO rfl rfl (hs_o12 kc139) rfl rfl ?_
                refine s_iload_n (nx := 257) hO rfl rfl rfl ?_
                obtain ⟨b46, H⟩ := H
                refine s_iald (nx := 258) hO rfl (hs_I kc184) b46 rfl ?_
                refine s_iconst (x := 1) (nx := 259) hO rfl (by decide) rfl ?_
                refine s_isub (nx := 260) hO rfl rfl ?_
                refine s_callV [.int (nI 2), .int 0, .int ((sI s45 184 (ix x1)) - 1)] (ci := 12) (F := TX12) (N := 116) (nx := 263) hO rfl kX12_readFunction_529 (by rw [hcl]; rfl) (hs_o12 kc139) (w_X12_numberNext hG H) rfl rfl (Nat.le_of_ble_eq_true rfl) (Nat.zero_le _) (Nat.zero_le _) rfl (k_Qi (fun r47 s48 H => ?_))
                obtain ⟨b49, H⟩ := H
                refine goV (wI s48 190 (ix x34) r47) (fun s50 es50 => ?_)
                replace H := H s50 es50
                refine s_iast (nx := 264) hO rfl (hs_I kc190) b49 rfl ?_
                refine xEx.at (up_I kc190 es50) ?_
                refine s_aload_n (nx := 265) hO rfl rfl rfl ?_
                refine s_getf (v := .ref (q_b G + 191)) (nx := 268) hO rfl rfl (hs_o12 kc139) rfl rfl ?_
                refine s_iload (nx := 270) hO rfl rfl rfl ?_
                refine s_aload_n (nx := 271) hO rfl rfl rfl ?_
                refine s_iconst (x := 1) (nx := 272) hO rfl (by decide) rfl ?_
                refine s_iconst (x := 0) (nx := 273) hO rfl (by decide) rfl ?_
                refine s_iconst (x := 1) (nx := 274) hO rfl (by decide) rfl ?_
                refine s_callV [.int 1, .int 0, .int 1] (ci := 12) (F := TX12) (N := 116) (nx := 277) hO rfl kX12_readFunction_529 (by rw [hcl]; rfl) (hs_o12 kc139) (w_X12_numberNext hG H) rfl rfl (Nat.le_of_ble_eq_true rfl) (Nat.zero_le _) (Nat.zero_le _) rfl (k_Qi (fun r51 s52 H => ?_))
                refine s_if_ne (nx := 280) hO rfl rfl (fun c277 => ?_) (fun c277 => ?_)
                · replace H := H.1 c277
                  refine s_iconst (x := 0) (nx := 285) hO rfl (by decide) rfl ?_
                  obtain ⟨b53, H⟩ := H
                  refine goV (wI s52 191 (ix x34) (vp_nar .boolean 0)) (fun s54 es54 => ?_)
                  replace H := H s54 es54
                  refine s_zast (nx := 286) hO rfl (hs_Z kc191) b53 rfl ?_
                  refine xEx.at (up_Z kc191 es54) ?_
                  refine s_aload_n (nx := 287) hO rfl rfl rfl ?_
                  refine s_getf (v := .ref (q_b G + 192)) (nx := 290) hO rfl rfl (hs_o12 kc139) rfl rfl ?_
                  refine s_iload (nx := 292) hO rfl rfl rfl ?_
                  refine s_aload_n (nx := 293) hO rfl rfl rfl ?_
                  refine s_getf (v := .ref (q_b G + 191)) (nx := 296) hO rfl rfl (hs_o12 kc139) rfl rfl ?_
                  refine s_iload (nx := 298) hO rfl rfl rfl ?_
                  obtain ⟨b55, H⟩ := H
                  refine s_zald (nx := 299) hO rfl (hs_Z kc191) b55 rfl ?_
                  refine s_if_eq (nx := 302) hO rfl rfl (fun c299 => ?_) (fun c299 => ?_)
                  · replace H := H.1 c299
                    refine s_aload_n (nx := 307) hO rfl rfl rfl ?_
                    refine s_iconst (x := (nI 4)) (nx := 308) hO rfl (by decide) rfl ?_
                    refine s_ldc_w (x := ((-2147483648))) (nx := 311) hO rfl rfl rfl ?_
                    refine s_ldc_w (x := ((2147483647))) (nx := 314) hO rfl rfl rfl ?_
                    refine s_callV [.int (nI 4), .int ((-2147483648)), .int ((2147483647))] (ci := 12) (F := TX12) (N := 116) (nx := 317) hO rfl kX12_readFunction_529 (by rw [hcl]; rfl) (hs_o12 kc139) (w_X12_numberNext hG H) rfl rfl (Nat.le_of_ble_eq_true rfl) (Nat.zero_le _) (Nat.zero_le _) rfl (k_Qi (fun r56 s57 H => ?_))
                    obtain ⟨b58, H⟩ := H
                    refine goV (wI s57 192 (ix x34) r56) (fun s59 es59 => ?_)
                    replace H := H s59 es59
                    refine s_iast (nx := 318) hO rfl (hs_I kc192) b58 rfl ?_
                    refine xEx.at (up_I kc192 es59) ?_
                    refine goV ((x31 + 1)) (fun x60 ex60 => ?_)
                    replace H := H x60 ex60
                    refine e_iinc (nx := 321) (l' := [(4, .int x60), (5, .int x34), (0, .ref (q_b G + 139)), (1, .int v1), (3, .int x1)]) ex60 hO rfl (by decide) rfl rfl rfl rfl ?_
                    refine s_goto hO rfl ?_
                    exact xEx.loc (x_sub1 (List.Mem.tail _ (List.Mem.tail _ (List.Mem.head _))) (x_sub1 (List.Mem.tail _ (List.Mem.tail _ (List.Mem.tail _ (List.Mem.head _)))) (x_sub1 (List.Mem.tail _ (List.Mem.tail _ (List.Mem.tail _ (List.Mem.tail _ (List.Mem.head _))))) (x_sub1 (List.Mem.head _) x_sub0)))) H
                  · replace H := H.2 c299
                    refine s_iconst (x := 0) (nx := 303) hO rfl (by decide) rfl ?_
                    refine s_goto hO rfl ?_
                    obtain ⟨b61, H⟩ := H
                    refine goV (wI s54 192 (ix x34) 0) (fun s62 es62 => ?_)
                    replace H := H s62 es62
                    refine s_iast (nx := 318) hO rfl (hs_I kc192) b61 rfl ?_
                    refine xEx.at (up_I kc192 es62) ?_
                    refine goV ((x31 + 1)) (fun x63 ex63 => ?_)
                    replace H := H x63 ex63
                    refine e_iinc (nx := 321) (l' := [(4, .int x63), (5, .int x34), (0, .ref (q_b G + 139)), (1, .int v1), (3, .int x1)]) ex63 hO rfl (by decide) rfl rfl rfl rfl ?_
                    refine s_goto hO rfl ?_
                    exact xEx.loc (x_sub1 (List.Mem.tail _ (List.Mem.tail _ (List.Mem.head _))) (x_sub1 (List.Mem.tail _ (List.Mem.tail _ (List.Mem.tail _ (List.Mem.head _)))) (x_sub1 (List.Mem.tail _ (List.Mem.tail _ (List.Mem.tail _ (List.Mem.tail _ (List.Mem.head _))))) (x_sub1 (List.Mem.head _) x_sub0)))) H
                · replace H := H.2 c277
                  refine s_iconst (x := 1) (nx := 281) hO rfl (by decide) rfl ?_
                  refine s_goto hO rfl ?_
                  obtain ⟨b64, H⟩ := H
                  refine goV (wI s52 191 (ix x34) (vp_nar .boolean 1)) (fun s65 es65 => ?_)
                  replace H := H s65 es65
                  refine s_zast (nx := 286) hO rfl (hs_Z kc191) b64 rfl ?_
                  refine xEx.at (up_Z kc191 es65) ?_
                  refine s_aload_n (nx := 287) hO rfl rfl rfl ?_
                  refine s_getf (v := .ref (q_b G + 192)) (nx := 290) hO rfl rfl (hs_o12 kc139) rfl rfl ?_
                  refine s_iload (nx := 292) hO rfl rfl rfl ?_
                  refine s_aload_n (nx := 293) hO rfl rfl rfl ?_
                  refine s_getf (v := .ref (q_b G + 191)) (nx := 296) hO rfl rfl (hs_o12 kc139) rfl rfl ?_
                  refine s_iload (nx := 298) hO rfl rfl rfl ?_
                  obtain ⟨b66, H⟩ := H
                  refine s_zald (nx := 299) hO rfl (hs_Z kc191) b66 rfl ?_
                  refine s_if_eq (nx := 302) hO rfl rfl (fun c299 => ?_) (fun c299 => ?_)
                  · replace H := H.1 c299
                    refine s_aload_n (nx := 307) hO rfl rfl rfl ?_
                    refine s_iconst (x := (nI 4)) (nx := 308) hO rfl (by decide) rfl ?_
                    refine s_ldc_w (x := ((-2147483648))) (nx := 311) hO rfl rfl rfl ?_
                    refine s_ldc_w (x := ((2147483647))) (nx := 314) hO rfl rfl rfl ?_
                    refine s_callV [.int (nI 4), .int ((-2147483648)), .int ((2147483647))] (ci := 12) (F := TX12) (N := 116) (nx := 317) hO rfl kX12_readFunction_529 (by rw [hcl]; rfl) (hs_o12 kc139) (w_X12_numberNext hG H) rfl rfl (Nat.le_of_ble_eq_true rfl) (Nat.zero_le _) (Nat.zero_le _) rfl (k_Qi (fun r67 s68 H => ?_))
                    obtain ⟨b69, H⟩ := H
                    refine goV (wI s68 192 (ix x34) r67) (fun s70 es70 => ?_)
                    replace H := H s70 es70
                    refine s_iast (nx := 318) hO rfl (hs_I kc192) b69 rfl ?_
                    refine xEx.at (up_I kc192 es70) ?_
                    refine goV ((x31 + 1)) (fun x71 ex71 => ?_)
                    replace H := H x71 ex71
                    refine e_iinc (nx := 321) (l' := [(4, .int x71), (5, .int x34), (0, .ref (q_b G + 139)), (1, .int v1), (3, .int x1)]) ex71 hO rfl (by decide) rfl rfl rfl rfl ?_
                    refine s_goto hO rfl ?_
                    exact xEx.loc (x_sub1 (List.Mem.tail _ (List.Mem.tail _ (List.Mem.head _))) (x_sub1 (List.Mem.tail _ (List.Mem.tail _ (List.Mem.tail _ (List.Mem.head _)))) (x_sub1 (List.Mem.tail _ (List.Mem.tail _ (List.Mem.tail _ (List.Mem.tail _ (List.Mem.head _))))) (x_sub1 (List.Mem.head _) x_sub0)))) H
                  · replace H := H.2 c299
                    refine s_iconst (x := 0) (nx := 303) hO rfl (by decide) rfl ?_
                    refine s_goto hO rfl ?_
                    obtain ⟨b72, H⟩ := H
                    refine goV (wI s65 192 (ix x34) 0) (fun s73 es73 => ?_)
                    replace H := H s73 es73
                    refine s_iast (nx := 318) hO rfl (hs_I kc192) b72 rfl ?_
                    refine xEx.at (up_I kc192 es73) ?_
                    refine goV ((x31 + 1)) (fun x74 ex74 => ?_)
                    replace H := H x74 ex74
                    refine e_iinc (nx := 321) (l' := [(4, .int x74), (5, .int x34), (0, .ref (q_b G + 139)), (1, .int v1), (3, .int x1)]) ex74 hO rfl (by decide) rfl rfl rfl rfl ?_
                    refine s_goto hO rfl ?_
                    exact xEx.loc (x_sub1 (List.Mem.tail _ (List.Mem.tail _ (List.Mem.head _))) (x_sub1 (List.Mem.tail _ (List.Mem.tail _ (List.Mem.tail _ (List.Mem.head _)))) (x_sub1 (List.Mem.tail _ (List.Mem.tail _ (List.Mem.tail _ (List.Mem.tail _ (List.Mem.head _))))) (x_sub1 (List.Mem.head _) x_sub0)))) H
          refine s_istore (nx := 164) (l' := [(4, .int 0), (0, .ref (q_b G + 139)), (1, .int v1), (3, .int x1)]) hO rfl (by decide) rfl rfl ?_
          exact xEx.loc (x_sub1 (List.Mem.tail _ (List.Mem.head _)) (x_sub1 (List.Mem.tail _ (List.Mem.tail _ (List.Mem.head _))) (x_sub1 (List.Mem.tail _ (List.Mem.tail _ (List.Mem.tail _ (List.Mem.head _)))) (x_sub1 (List.Mem.head _) x_sub0)))) H
        refine s_icmp_ge (nx := 120) hO rfl rfl (fun c117 => ?_) (fun c117 => ?_)
        · replace H := H.1 c117
          exact xEx.loc (x_sub1 (List.Mem.head _) (x_sub1 (List.Mem.tail _ (List.Mem.head _)) (x_sub1 (List.Mem.tail _ (List.Mem.tail _ (List.Mem.tail _ (List.Mem.head _)))) x_sub0))) H
        · replace H := H.2 c117
          refine s_aload_n (nx := 121) hO rfl rfl rfl ?_
          refine s_getf (v := .int (sI s25 139 15)) (nx := 124) hO rfl rfl (hs_o12 kc139) rfl rfl ?_
          refine s_if_ne (nx := 127) hO rfl rfl (fun c124 => ?_) (fun c124 => ?_)
          · replace H := H.1 c124
            exact xEx.loc (x_sub1 (List.Mem.head _) (x_sub1 (List.Mem.tail _ (List.Mem.head _)) (x_sub1 (List.Mem.tail _ (List.Mem.tail _ (List.Mem.tail _ (List.Mem.head _)))) x_sub0))) H
          · replace H := H.2 c124
            refine s_aload_n (nx := 128) hO rfl rfl rfl ?_
            refine s_iload_n (nx := 129) hO rfl rfl rfl ?_
            refine s_iload (nx := 131) hO rfl rfl rfl ?_
            refine s_aload_n (nx := 132) hO rfl rfl rfl ?_
            refine s_getf (v := .ref (q_b G + 184)) (nx := 135) hO rfl rfl (hs_o12 kc139) rfl rfl ?_
            refine s_iload_n (nx := 136) hO rfl rfl rfl ?_
            obtain ⟨b75, H⟩ := H
            refine s_iald (nx := 137) hO rfl (hs_I kc184) b75 rfl ?_
            refine s_iload_n (nx := 138) hO rfl rfl rfl ?_
            refine s_callV [.int v1, .int x24, .int (sI s25 184 (ix x1)), .int v2] (ci := 12) (F := TX12) (N := 116) (nx := 141) hO rfl kX12_readFunction_533 (by rw [hcl]; rfl) (hs_o12 kc139) (w_X12_readInstruction hG H) rfl rfl (Nat.le_of_ble_eq_true rfl) (Nat.zero_le _) (Nat.zero_le _) rfl (k_Qv (fun s76 H => ?_))
            refine goV ((x24 + 1)) (fun x77 ex77 => ?_)
            replace H := H x77 ex77
            refine e_iinc (nx := 144) (l' := [(4, .int x77), (0, .ref (q_b G + 139)), (1, .int v1), (2, .int v2), (3, .int x1)]) ex77 hO rfl (by decide) rfl rfl rfl rfl ?_
            refine s_goto hO rfl ?_
            exact xEx.loc (x_sub1 (List.Mem.tail _ (List.Mem.head _)) (x_sub1 (List.Mem.tail _ (List.Mem.tail _ (List.Mem.head _))) (x_sub1 (List.Mem.tail _ (List.Mem.tail _ (List.Mem.tail _ (List.Mem.head _)))) (x_sub1 (List.Mem.tail _ (List.Mem.tail _ (List.Mem.tail _ (List.Mem.tail _ (List.Mem.head _))))) (x_sub1 (List.Mem.head _) x_sub0))))) H
      refine s_istore (nx := 109) (l' := [(4, .int 0), (3, .int x1), (0, .ref (q_b G + 139)), (1, .int v1), (2, .int v2)]) hO rfl (by decide) rfl rfl ?_
      exact xEx.loc (x_sub1 (List.Mem.tail _ (List.Mem.tail _ (List.Mem.head _))) (x_sub1 (List.Mem.tail _ (List.Mem.tail _ (List.Mem.tail _ (List.Mem.head _)))) (x_sub1 (List.Mem.tail _ (List.Mem.tail _ (List.Mem.tail _ (List.Mem.tail _ (List.Mem.head _))))) (x_sub1 (List.Mem.tail _ (List.Mem.head _)) (x_sub1 (List.Mem.head _) x_sub0))))) H
    · replace H := H.2 c79
      refine s_iconst (x := 1) (nx := 83) hO rfl (by decide) rfl ?_
      refine s_goto hO rfl ?_
      refine s_callV [.int 1, .int 0, .int 1] (ci := 12) (F := TX12) (N := 116) (nx := 90) hO rfl kX12_readFunction_529 (by rw [hcl]; rfl) (hs_o12 kc139) (w_X12_numberNext hG H) rfl rfl (Nat.le_of_ble_eq_true rfl) (Nat.zero_le _) (Nat.zero_le _) rfl (k_Qi (fun r78 s79 H => ?_))
      obtain ⟨b80, H⟩ := H
      refine goV (wI s79 182 (ix x1) r78) (fun s81 es81 => ?_)
      replace H := H s81 es81
      refine s_iast (nx := 91) hO rfl (hs_I kc182) b80 rfl ?_
      refine xEx.at (up_I kc182 es81) ?_
      refine s_aload_n (nx := 92) hO rfl rfl rfl ?_
      refine s_getf (v := .ref (q_b G + 184)) (nx := 95) hO rfl rfl (hs_o12 kc139) rfl rfl ?_
      refine s_iload_n (nx := 96) hO rfl rfl rfl ?_
      refine s_aload_n (nx := 97) hO rfl rfl rfl ?_
      refine s_iconst (x := (nI 2)) (nx := 98) hO rfl (by decide) rfl ?_
      refine s_iconst (x := 1) (nx := 99) hO rfl (by decide) rfl ?_
      refine s_sipush (x := (nI 400)) (nx := 102) hO rfl (by decide) rfl ?_
      refine s_callV [.int (nI 2), .int 1, .int (nI 400)] (ci := 12) (F := TX12) (N := 116) (nx := 105) hO rfl kX12_readFunction_529 (by rw [hcl]; rfl) (hs_o12 kc139) (w_X12_numberNext hG H) rfl rfl (Nat.le_of_ble_eq_true rfl) (Nat.zero_le _) (Nat.zero_le _) rfl (k_Qi (fun r82 s83 H => ?_))
      obtain ⟨b84, H⟩ := H
      refine goV (wI s83 184 (ix x1) r82) (fun s85 es85 => ?_)
      replace H := H s85 es85
      refine s_iast (nx := 106) hO rfl (hs_I kc184) b84 rfl ?_
      refine xEx.at (up_I kc184 es85) ?_
      refine s_iconst (x := 0) (nx := 107) hO rfl (by decide) rfl ?_
      refine goK (H (fun (x86 : Int32) (s87 : yS) => xEx G mX12_readFunction 109 [(0, .ref (q_b G + 139)), (1, .int v1), (2, .int v2), (3, .int x1), (4, .int x86)] [] (hS G s87) z 0 0 (yQv G z Q)) (fun x86 s87 H => ?_)) (fun H => ?_)
      · show xEx G mX12_readFunction 109 [(0, .ref (q_b G + 139)), (1, .int v1), (2, .int v2), (3, .int x1), (4, .int x86)] [] (hS G s87) z 0 0 (yQv G z Q)
        refine s_iload (nx := 111) hO rfl rfl rfl ?_
        refine s_aload_n (nx := 112) hO rfl rfl rfl ?_
        refine s_getf (v := .ref (q_b G + 184)) (nx := 115) hO rfl rfl (hs_o12 kc139) rfl rfl ?_
        refine s_iload_n (nx := 116) hO rfl rfl rfl ?_
        obtain ⟨b89, H⟩ := H
        refine s_iald (nx := 117) hO rfl (hs_I kc184) b89 rfl ?_
        refine goK (H (xEx G mX12_readFunction 147 [(0, .ref (q_b G + 139)), (1, .int v1), (3, .int x1)] [] (hS G s87) z 0 0 (yQv G z Q)) (fun H => ?_)) (fun H => ?_)
        · show xEx G mX12_readFunction 147 [(0, .ref (q_b G + 139)), (1, .int v1), (3, .int x1)] [] (hS G s87) z 0 0 (yQv G z Q)
          refine s_aload_n (nx := 148) hO rfl rfl rfl ?_
          refine s_getf (v := .ref (q_b G + 185)) (nx := 151) hO rfl rfl (hs_o12 kc139) rfl rfl ?_
          refine s_iload_n (nx := 152) hO rfl rfl rfl ?_
          refine s_aload_n (nx := 153) hO rfl rfl rfl ?_
          refine s_iconst (x := 1) (nx := 154) hO rfl (by decide) rfl ?_
          refine s_iconst (x := 0) (nx := 155) hO rfl (by decide) rfl ?_
          refine s_bipush (x := (nI 6)) (nx := 157) hO rfl (by decide) rfl ?_
          refine s_callV [.int 1, .int 0, .int (nI 6)] (ci := 12) (F := TX12) (N := 116) (nx := 160) hO rfl kX12_readFunction_529 (by rw [hcl]; rfl) (hs_o12 kc139) (w_X12_numberNext hG H) rfl rfl (Nat.le_of_ble_eq_true rfl) (Nat.zero_le _) (Nat.zero_le _) rfl (k_Qi (fun r91 s92 H => ?_))
          obtain ⟨b93, H⟩ := H
          refine goV (wI s92 185 (ix x1) r91) (fun s94 es94 => ?_)
          replace H := H s94 es94
          refine s_iast (nx := 161) hO rfl (hs_I kc185) b93 rfl ?_
          refine xEx.at (up_I kc185 es94) ?_
          refine s_iconst (x := 0) (nx := 162) hO rfl (by decide) rfl ?_
          refine goK (H (fun (x95 : Int32) (s96 : yS) => xEx G mX12_readFunction 164 [(0, .ref (q_b G + 139)), (1, .int v1), (3, .int x1), (4, .int x95)] [] (hS G s96) z 0 0 (yQv G z Q)) (fun x95 s96 H => ?_)) (fun H => ?_)
          · show xEx G mX12_readFunction 164 [(0, .ref (q_b G + 139)), (1, .int v1), (3, .int x1), (4, .int x95)] [] (hS G s96) z 0 0 (yQv G z Q)
            refine s_iload (nx := 166) hO rfl rfl rfl ?_
            refine s_aload_n (nx := 167) hO rfl rfl rfl ?_
            refine s_getf (v := .ref (q_b G + 185)) (nx := 170) hO rfl rfl (hs_o12 kc139) rfl rfl ?_
            refine s_iload_n (nx := 171) hO rfl rfl rfl ?_
            obtain ⟨b98, H⟩ := H
            refine s_iald (nx := 172) hO rfl (hs_I kc185) b98 rfl ?_
            refine s_icmp_ge (nx := 175) hO rfl rfl (fun c172 => ?_) (fun c172 => ?_)
            · replace H := H.1 c172
              exact s_vret hO rfl rfl ⟨rfl, _, rfl, rfl, H⟩
            · replace H := H.2 c172
              refine s_aload_n (nx := 176) hO rfl rfl rfl ?_
              refine s_getf (v := .int (sI s96 139 15)) (nx := 179) hO rfl rfl (hs_o12 kc139) rfl rfl ?_
              refine s_if_ne (nx := 182) hO rfl rfl (fun c179 => ?_) (fun c179 => ?_)
              · replace H := H.1 c179
                exact s_vret hO rfl rfl ⟨rfl, _, rfl, rfl, H⟩
              · replace H := H.2 c179
                refine s_sipush (x := (nI 144)) (nx := 185) hO rfl (by decide) rfl ?_
                refine s_bipush (x := (nI 6)) (nx := 187) hO rfl (by decide) rfl ?_
                refine s_iload_n (nx := 188) hO rfl rfl rfl ?_
                refine s_imul (nx := 189) hO rfl rfl ?_
                refine s_iadd (nx := 190) hO rfl rfl ?_
                refine s_iload (nx := 192) hO rfl rfl rfl ?_
                refine s_iadd (nx := 193) hO rfl rfl ?_
                refine goV ((((nI 144) + ((nI 6) * v1)) + x95)) (fun x99 ex99 => ?_)
                replace H := H x99 ex99
                refine e_istore (nx := 195) (l' := [(5, .int x99), (0, .ref (q_b G + 139)), (1, .int v1), (3, .int x1), (4, .int x95)]) ex99 hO rfl (by decide) rfl rfl ?_
                refine s_aload_n (nx := 196) hO rfl rfl rfl ?_
                refine s_getf (v := .ref (q_b G + 188)) (nx := 199) hO rfl rfl (hs_o12 kc139) rfl rfl ?_
                refine s_iload (nx := 201) hO rfl rfl rfl ?_
                refine s_aload_n (nx := 202) hO rfl rfl rfl ?_
                refine s_iconst (x := (nI 2)) (nx := 203) hO rfl (by decide) rfl ?_
                refine s_iconst (x := 0) (nx := 204) hO rfl (by decide) rfl ?_
                refine s_aload_n (nx := 205) hO rfl rfl rfl ?_
                refine s_getf (v := .ref (q_b G + 184)) (nx := 208) hO rfl rfl (hs_o12 kc139) rfl rfl ?_
                refine s_iload_n (nx := 209) hO rfl rfl rfl ?_
                obtain ⟨b100, H⟩ := H
                refine s_iald (nx := 210) hO rfl (hs_I kc184) b100 rfl ?_
                refine s_iconst (x := 1) (nx := 211) hO rfl (by decide) rfl ?_
                refine s_isub (nx := 212) hO rfl rfl ?_
                refine s_callV [.int (nI 2), .int 0, .int ((sI s96 184 (ix x1)) - 1)] (ci := 12) (F := TX12) (N := 116) (nx := 215) hO rfl kX12_readFunction_529 (by rw [hcl]; rfl) (hs_o12 kc139) (w_X12_numberNext hG H) rfl rfl (Nat.le_of_ble_eq_true rfl) (Nat.zero_le _) (Nat.zero_le _) rfl (k_Qi (fun r101 s102 H => ?_))
                obtain ⟨b103, H⟩ := H
                refine goV (wI s102 188 (ix x99) r101) (fun s104 es104 => ?_)
                replace H := H s104 es104
                refine s_iast (nx := 216) hO rfl (hs_I kc188) b103 rfl ?_
                refine xEx.at (up_I kc188 es104) ?_
                refine s_aload_n (nx := 217) hO rfl rfl rfl ?_
                refine s_getf (v := .ref (q_b G + 189)) (nx := 220) hO rfl rfl (hs_o12 kc139) rfl rfl ?_
                refine s_iload (nx := 222) hO rfl rfl rfl ?_
                refine s_aload_n (nx := 223) hO rfl rfl rfl ?_
                refine s_iconst (x := (nI 2)) (nx := 224) hO rfl (by decide) rfl ?_
                refine s_aload_n (nx := 225) hO rfl rfl rfl ?_
                refine s_getf (v := .ref (q_b G + 188)) (nx := 228) hO rfl rfl (hs_o12 kc139) rfl rfl ?_
                refine s_iload (nx := 230) hO rfl rfl rfl ?_
                obtain ⟨b105, H⟩ := H
                refine s_iald (nx := 231) hO rfl (hs_I kc188) b105 rfl ?_
                refine s_iconst (x := 1) (nx := 232) hO rfl (by decide) rfl ?_
                refine s_iadd (nx := 233) hO rfl rfl ?_
                refine s_aload_n (nx := 234) hO rfl rfl rfl ?_
                refine s_getf (v := .ref (q_b G + 184)) (nx := 237) hO rfl rfl (hs_o12 kc139) rfl rfl ?_
                refine s_iload_n (nx := 238) hO rfl rfl rfl ?_
                obtain ⟨b106, H⟩ := H
                refine s_iald (nx := 239) hO rfl (hs_I kc184) b106 rfl ?_
                refine s_callV [.int (nI 2), .int ((sI s104 188 (ix x99)) + 1), .int (sI s104 184 (ix x1))] (ci := 12) (F := TX12) (N := 116) (nx := 242) hO rfl kX12_readFunction_529 (by rw [hcl]; rfl) (hs_o12 kc139) (w_X12_numberNext hG H) rfl rfl (Nat.le_of_ble_eq_true rfl) (Nat.zero_le _) (Nat.zero_le _) rfl (k_Qi (fun r107 s108 H => ?_))
                obtain ⟨b109, H⟩ := H
                refine goV (wI s108 189 (ix x99) r107) (fun s110 es110 => ?_)
                replace H := H s110 es110
                refine s_iast (nx := 243) hO rfl (hs_I kc189) b109 rfl ?_
                refine xEx.at (up_I kc189 es110) ?_
                refine s_aload_n (nx := 244) hO rfl rfl rfl ?_
                refine s_getf (v := .ref (q_b G + 190)) (nx := 247) hO rfl rfl (hs_o12 kc139) rfl rfl ?_
                refine s_iload (nx := 249) hO rfl rfl rfl ?_
                refine s_aload_n (nx := 250) hO rfl rfl rfl ?_
                refine s_iconst (x := (nI 2)) (nx := 251) hO rfl (by decide) rfl ?_
                refine s_iconst (x := 0) (nx := 252) hO rfl (by decide) rfl ?_
                refine s_aload_n (nx := 253) hO rfl rfl rfl ?_
                refine s_getf (v := .ref (q_b G + 184)) (nx := 256) hO rfl rfl (hs_o12 kc139) rfl rfl ?_
                refine s_iload_n (nx := 257) hO rfl rfl rfl ?_
                obtain ⟨b111, H⟩ := H
                refine s_iald (nx := 258) hO rfl (hs_I kc184) b111 rfl ?_
                refine s_iconst (x := 1) (nx := 259) hO rfl (by decide) rfl ?_
                refine s_isub (nx := 260) hO rfl rfl ?_
                refine s_callV [.int (nI 2), .int 0, .int ((sI s110 184 (ix x1)) - 1)] (ci := 12) (F := TX12) (N := 116) (nx := 263) hO rfl kX12_readFunction_529 (by rw [hcl]; rfl) (hs_o12 kc139) (w_X12_numberNext hG H) rfl rfl (Nat.le_of_ble_eq_true rfl) (Nat.zero_le _) (Nat.zero_le _) rfl (k_Qi (fun r112 s113 H => ?_))
                obtain ⟨b114, H⟩ := H
                refine goV (wI s113 190 (ix x99) r112) (fun s115 es115 => ?_)
                replace H := H s115 es115
                refine s_iast (nx := 264) hO rfl (hs_I kc190) b114 rfl ?_
                refine xEx.at (up_I kc190 es115) ?_
                refine s_aload_n (nx := 265) hO rfl rfl rfl ?_
                refine s_getf (v := .ref (q_b G + 191)) (nx := 268) hO rfl rfl (hs_o12 kc139) rfl rfl ?_
                refine s_iload (nx := 270) hO rfl rfl rfl ?_
                refine s_aload_n (nx := 271) hO rfl rfl rfl ?_
                refine s_iconst (x := 1) (nx := 272) hO rfl (by decide) rfl ?_
                refine s_iconst (x := 0) (nx := 273) hO rfl (by decide) rfl ?_
                refine s_iconst (x := 1) (nx := 274) hO rfl (by decide) rfl ?_
                refine s_callV [.int 1, .int 0, .int 1] (ci := 12) (F := TX12) (N := 116) (nx := 277) hO rfl kX12_readFunction_529 (by rw [hcl]; rfl) (hs_o12 kc139) (w_X12_numberNext hG H) rfl rfl (Nat.le_of_ble_eq_true rfl) (Nat.zero_le _) (Nat.zero_le _) rfl (k_Qi (fun r116 s117 H => ?_))
                refine s_if_ne (nx := 280) hO rfl rfl (fun c277 => ?_) (fun c277 => ?_)
                · replace H := H.1 c277
                  refine s_iconst (x := 0) (nx := 285) hO rfl (by decide) rfl ?_
                  obtain ⟨b118, H⟩ := H
                  refine goV (wI s117 191 (ix x99) (vp_nar .boolean 0)) (fun s119 es119 => ?_)
                  replace H := H s119 es119
                  refine s_zast (nx := 286) hO rfl (hs_Z kc191) b118 rfl ?_
                  refine xEx.at (up_Z kc191 es119) ?_
                  refine s_aload_n (nx := 287) hO rfl rfl rfl ?_
                  refine s_getf (v := .ref (q_b G + 192)) (nx := 290) hO rfl rfl (hs_o12 kc139) rfl rfl ?_
                  refine s_iload (nx := 292) hO rfl rfl rfl ?_
                  refine s_aload_n (nx := 293) hO rfl rfl rfl ?_
                  refine s_getf (v := .ref (q_b G + 191)) (nx := 296) hO rfl rfl (hs_o12 kc139) rfl rfl ?_
                  refine s_iload (nx := 298) hO rfl rfl rfl ?_
                  obtain ⟨b120, H⟩ := H
                  refine s_zald (nx := 299) hO rfl (hs_Z kc191) b120 rfl ?_
                  refine s_if_eq (nx := 302) hO rfl rfl (fun c299 => ?_) (fun c299 => ?_)
                  · replace H := H.1 c299
                    refine s_aload_n (nx := 307) hO rfl rfl rfl ?_
                    refine s_iconst (x := (nI 4)) (nx := 308) hO rfl (by decide) rfl ?_
                    refine s_ldc_w (x := ((-2147483648))) (nx := 311) hO rfl rfl rfl ?_
                    refine s_ldc_w (x := ((2147483647))) (nx := 314) hO rfl rfl rfl ?_
                    refine s_callV [.int (nI 4), .int ((-2147483648)), .int ((2147483647))] (ci := 12) (F := TX12) (N := 116) (nx := 317) hO rfl kX12_readFunction_529 (by rw [hcl]; rfl) (hs_o12 kc139) (w_X12_numberNext hG H) rfl rfl (Nat.le_of_ble_eq_true rfl) (Nat.zero_le _) (Nat.zero_le _) rfl (k_Qi (fun r121 s122 H => ?_))
                    obtain ⟨b123, H⟩ := H
                    refine goV (wI s122 192 (ix x99) r121) (fun s124 es124 => ?_)
                    replace H := H s124 es124
                    refine s_iast (nx := 318) hO rfl (hs_I kc192) b123 rfl ?_
                    refine xEx.at (up_I kc192 es124) ?_
                    refine goV ((x95 + 1)) (fun x125 ex125 => ?_)
                    replace H := H x125 ex125
                    refine e_iinc (nx := 321) (l' := [(4, .int x125), (5, .int x99), (0, .ref (q_b G + 139)), (1, .int v1), (3, .int x1)]) ex125 hO rfl (by decide) rfl rfl rfl rfl ?_
                    refine s_goto hO rfl ?_
                    exact xEx.loc (x_sub1 (List.Mem.tail _ (List.Mem.tail _ (List.Mem.head _))) (x_sub1 (List.Mem.tail _ (List.Mem.tail _ (List.Mem.tail _ (List.Mem.head _)))) (x_sub1 (List.Mem.tail _ (List.Mem.tail _ (List.Mem.tail _ (List.Mem.tail _ (List.Mem.head _))))) (x_sub1 (List.Mem.head _) x_sub0)))) H
                  · replace H := H.2 c299
                    refine s_iconst (x := 0) (nx := 303) hO rfl (by decide) rfl ?_
                    refine s_goto hO rfl ?_
                    obtain ⟨b126, H⟩ := H
                    refine goV (wI s119 192 (ix x99) 0) (fun s127 es127 => ?_)
                    replace H := H s127 es127
                    refine s_iast (nx := 318) hO rfl (hs_I kc192) b126 rfl ?_
                    refine xEx.at (up_I kc192 es127) ?_
                    refine goV ((x95 + 1)) (fun x128 ex128 => ?_)
                    replace H := H x128 ex128
                    refine e_iinc (nx := 321) (l' := [(4, .int x128), (5, .int x99), (0, .ref (q_b G + 139)), (1, .int v1), (3, .int x1)]) ex128 hO rfl (by decide) rfl rfl rfl rfl ?_
                    refine s_goto hO rfl ?_
                    exact xEx.loc (x_sub1 (List.Mem.tail _ (List.Mem.tail _ (List.Mem.head _))) (x_sub1 (List.Mem.tail _ (List.Mem.tail _ (List.Mem.tail _ (List.Mem.head _)))) (x_sub1 (List.Mem.tail _ (List.Mem.tail _ (List.Mem.tail _ (List.Mem.tail _ (List.Mem.head _))))) (x_sub1 (List.Mem.head _) x_sub0)))) H
                · replace H := H.2 c277
                  refine s_iconst (x := 1) (nx := 281) hO rfl (by decide) rfl ?_
                  refine s_goto hO rfl ?_
                  obtain ⟨b129, H⟩ := H
                  refine goV (wI s117 191 (ix x99) (vp_nar .boolean 1)) (fun s130 es130 => ?_)
                  replace H := H s130 es130
                  refine s_zast (nx := 286) hO rfl (hs_Z kc191) b129 rfl ?_
                  refine xEx.at (up_Z kc191 es130) ?_
                  refine s_aload_n (nx := 287) hO rfl rfl rfl ?_
                  refine s_getf (v := .ref (q_b G + 192)) (nx := 290) hO rfl rfl (hs_o12 kc139) rfl rfl ?_
                  refine s_iload (nx := 292) hO rfl rfl rfl ?_
                  refine s_aload_n (nx := 293) hO rfl rfl rfl ?_
                  refine s_getf (v := .ref (q_b G + 191)) (nx := 296) hO rfl rfl (hs_o12 kc139) rfl rfl ?_
                  refine s_iload (nx := 298) hO rfl rfl rfl ?_
                  obtain ⟨b131, H⟩ := H
                  refine s_zald (nx := 299) hO rfl (hs_Z kc191) b131 rfl ?_
                  refine s_if_eq (nx := 302) hO rfl rfl (fun c299 => ?_) (fun c299 => ?_)
                  · replace H := H.1 c299
                    refine s_aload_n (nx := 307) hO rfl rfl rfl ?_
                    refine s_iconst (x := (nI 4)) (nx := 308) hO rfl (by decide) rfl ?_
                    refine s_ldc_w (x := ((-2147483648))) (nx := 311) hO rfl rfl rfl ?_
                    refine s_ldc_w (x := ((2147483647))) (nx := 314) hO rfl rfl rfl ?_
                    refine s_callV [.int (nI 4), .int ((-2147483648)), .int ((2147483647))] (ci := 12) (F := TX12) (N := 116) (nx := 317) hO rfl kX12_readFunction_529 (by rw [hcl]; rfl) (hs_o12 kc139) (w_X12_numberNext hG H) rfl rfl (Nat.le_of_ble_eq_true rfl) (Nat.zero_le _) (Nat.zero_le _) rfl (k_Qi (fun r132 s133 H => ?_))
                    obtain ⟨b134, H⟩ := H
                    refine goV (wI s133 192 (ix x99) r132) (fun s135 es135 => ?_)
                    replace H := H s135 es135
                    refine s_iast (nx := 318) hO rfl (hs_I kc192) b134 rfl ?_
                    refine xEx.at (up_I kc192 es135) ?_
                    refine goV ((x95 + 1)) (fun x136 ex136 => ?_)
                    replace H := H x136 ex136
                    refine e_iinc (nx := 321) (l' := [(4, .int x136), (5, .int x99), (0, .ref (q_b G + 139)), (1, .int v1), (3, .int x1)]) ex136 hO rfl (by decide) rfl rfl rfl rfl ?_
                    refine s_goto hO rfl ?_
                    exact xEx.loc (x_sub1 (List.Mem.tail _ (List.Mem.tail _ (List.Mem.head _))) (x_sub1 (List.Mem.tail _ (List.Mem.tail _ (List.Mem.tail _ (List.Mem.head _)))) (x_sub1 (List.Mem.tail _ (List.Mem.tail _ (List.Mem.tail _ (List.Mem.tail _ (List.Mem.head _))))) (x_sub1 (List.Mem.head _) x_sub0)))) H
                  · replace H := H.2 c299
                    refine s_iconst (x := 0) (nx := 303) hO rfl (by decide) rfl ?_
                    refine s_goto hO rfl ?_
                    obtain ⟨b137, H⟩ := H
                    refine goV (wI s130 192 (ix x99) 0) (fun s138 es138 => ?_)
                    replace H := H s138 es138
                    refine s_iast (nx := 318) hO rfl (hs_I kc192) b137 rfl ?_
                    refine xEx.at (up_I kc192 es138) ?_
                    refine goV ((x95 + 1)) (fun x139 ex139 => ?_)
                    replace H := H x139 ex139
                    refine e_iinc (nx := 321) (l' := [(4, .int x139), (5, .int x99), (0, .ref (q_b G + 139)), (1, .int v1), (3, .int x1)]) ex139 hO rfl (by decide) rfl rfl rfl rfl ?_
                    refine s_goto hO rfl ?_
                    exact xEx.loc (x_sub1 (List.Mem.tail _ (List.Mem.tail _ (List.Mem.head _))) (x_sub1 (List.Mem.tail _ (List.Mem.tail _ (List.Mem.tail _ (List.Mem.head _)))) (x_sub1 (List.Mem.tail _ (List.Mem.tail _ (List.Mem.tail _ (List.Mem.tail _ (List.Mem.head _))))) (x_sub1 (List.Mem.head _) x_sub0)))) H
          refine s_istore (nx := 164) (l' := [(4, .int 0), (0, .ref (q_b G + 139)), (1, .int v1), (3, .int x1)]) hO rfl (by decide) rfl rfl ?_
          exact xEx.loc (x_sub1 (List.Mem.tail _ (List.Mem.head _)) (x_sub1 (List.Mem.tail _ (List.Mem.tail _ (List.Mem.head _))) (x_sub1 (List.Mem.tail _ (List.Mem.tail _ (List.Mem.tail _ (List.Mem.head _)))) (x_sub1 (List.Mem.head _) x_sub0)))) H
        refine s_icmp_ge (nx := 120) hO rfl rfl (fun c117 => ?_) (fun c117 => ?_)
        · replace H := H.1 c117
          exact xEx.loc (x_sub1 (List.Mem.head _) (x_sub1 (List.Mem.tail _ (List.Mem.head _)) (x_sub1 (List.Mem.tail _ (List.Mem.tail _ (List.Mem.tail _ (List.Mem.head _)))) x_sub0))) H
        · replace H := H.2 c117
          refine s_aload_n (nx := 121) hO rfl rfl rfl ?_
          refine s_getf (v := .int (sI s87 139 15)) (nx := 124) hO rfl rfl (hs_o12 kc139) rfl rfl ?_
          refine s_if_ne (nx := 127) hO rfl rfl (fun c124 => ?_) (fun c124 => ?_)
          · replace H := H.1 c124
            exact xEx.loc (x_sub1 (List.Mem.head _) (x_sub1 (List.Mem.tail _ (List.Mem.head _)) (x_sub1 (List.Mem.tail _ (List.Mem.tail _ (List.Mem.tail _ (List.Mem.head _)))) x_sub0))) H
          · replace H := H.2 c124
            refine s_aload_n (nx := 128) hO rfl rfl rfl ?_
            refine s_iload_n (nx := 129) hO rfl rfl rfl ?_
            refine s_iload (nx := 131) hO rfl rfl rfl ?_
            refine s_aload_n (nx := 132) hO rfl rfl rfl ?_
            refine s_getf (v := .ref (q_b G + 184)) (nx := 135) hO rfl rfl (hs_o12 kc139) rfl rfl ?_
            refine s_iload_n (nx := 136) hO rfl rfl rfl ?_
            obtain ⟨b140, H⟩ := H
            refine s_iald (nx := 137) hO rfl (hs_I kc184) b140 rfl ?_
            refine s_iload_n (nx := 138) hO rfl rfl rfl ?_
            refine s_callV [.int v1, .int x86, .int (sI s87 184 (ix x1)), .int v2] (ci := 12) (F := TX12) (N := 116) (nx := 141) hO rfl kX12_readFunction_533 (by rw [hcl]; rfl) (hs_o12 kc139) (w_X12_readInstruction hG H) rfl rfl (Nat.le_of_ble_eq_true rfl) (Nat.zero_le _) (Nat.zero_le _) rfl (k_Qv (fun s141 H => ?_))
            refine goV ((x86 + 1)) (fun x142 ex142 => ?_)
            replace H := H x142 ex142
            refine e_iinc (nx := 144) (l' := [(4, .int x142), (0, .ref (q_b G + 139)), (1, .int v1), (2, .int v2), (3, .int x1)]) ex142 hO rfl (by decide) rfl rfl rfl rfl ?_
            refine s_goto hO rfl ?_
            exact xEx.loc (x_sub1 (List.Mem.tail _ (List.Mem.head _)) (x_sub1 (List.Mem.tail _ (List.Mem.tail _ (List.Mem.head _))) (x_sub1 (List.Mem.tail _ (List.Mem.tail _ (List.Mem.tail _ (List.Mem.head _)))) (x_sub1 (List.Mem.tail _ (List.Mem.tail _ (List.Mem.tail _ (List.Mem.tail _ (List.Mem.head _))))) (x_sub1 (List.Mem.head _) x_sub0))))) H
      refine s_istore (nx := 109) (l' := [(4, .int 0), (3, .int x1), (0, .ref (q_b G + 139)), (1, .int v1), (2, .int v2)]) hO rfl (by decide) rfl rfl ?_
      exact xEx.loc (x_sub1 (List.Mem.tail _ (List.Mem.tail _ (List.Mem.head _))) (x_sub1 (List.Mem.tail _ (List.Mem.tail _ (List.Mem.tail _ (List.Mem.head _)))) (x_sub1 (List.Mem.tail _ (List.Mem.tail _ (List.Mem.tail _ (List.Mem.tail _ (List.Mem.head _))))) (x_sub1 (List.Mem.tail _ (List.Mem.head _)) (x_sub1 (List.Mem.head _) x_sub0))))) H
  · replace H := H.2 c14
    refine s_iconst (x := 0) (nx := 18) hO rfl (by decide) rfl ?_
    refine s_goto hO rfl ?_
    refine s_callV [.int 1, .int 0, .int 0] (ci := 12) (F := TX12) (N := 116) (nx := 25) hO rfl kX12_readFunction_529 (by rw [hcl]; rfl) (hs_o12 kc139) (w_X12_numberNext hG H) rfl rfl (Nat.le_of_ble_eq_true rfl) (Nat.zero_le _) (Nat.zero_le _) rfl (k_Qi (fun r143 s144 H => ?_))
    obtain ⟨b145, H⟩ := H
    refine goV (wI s144 179 (ix x1) r143) (fun s146 es146 => ?_)
    replace H := H s146 es146
    refine s_iast (nx := 26) hO rfl (hs_I kc179) b145 rfl ?_
    refine xEx.at (up_I kc179 es146) ?_
    refine s_aload_n (nx := 27) hO rfl rfl rfl ?_
    refine s_getf (v := .ref (q_b G + 180)) (nx := 30) hO rfl rfl (hs_o12 kc139) rfl rfl ?_
    refine s_iload_n (nx := 31) hO rfl rfl rfl ?_
    refine s_aload_n (nx := 32) hO rfl rfl rfl ?_
    refine s_iconst (x := 1) (nx := 33) hO rfl (by decide) rfl ?_
    refine s_aload_n (nx := 34) hO rfl rfl rfl ?_
    refine s_getf (v := .ref (q_b G + 179)) (nx := 37) hO rfl rfl (hs_o12 kc139) rfl rfl ?_
    refine s_iload_n (nx := 38) hO rfl rfl rfl ?_
    obtain ⟨b147, H⟩ := H
    refine s_iald (nx := 39) hO rfl (hs_I kc179) b147 rfl ?_
    refine s_bipush (x := (nI 12)) (nx := 41) hO rfl (by decide) rfl ?_
    refine s_callV [.int 1, .int (sI s146 179 (ix x1)), .int (nI 12)] (ci := 12) (F := TX12) (N := 116) (nx := 44) hO rfl kX12_readFunction_529 (by rw [hcl]; rfl) (hs_o12 kc139) (w_X12_numberNext hG H) rfl rfl (Nat.le_of_ble_eq_true rfl) (Nat.zero_le _) (Nat.zero_le _) rfl (k_Qi (fun r148 s149 H => ?_))
    obtain ⟨b150, H⟩ := H
    refine goV (wI s149 180 (ix x1) r148) (fun s151 es151 => ?_)
    replace H := H s151 es151
    refine s_iast (nx := 45) hO rfl (hs_I kc180) b150 rfl ?_
    refine xEx.at (up_I kc180 es151) ?_
    refine s_aload_n (nx := 46) hO rfl rfl rfl ?_
    refine s_getf (v := .ref (q_b G + 181)) (nx := 49) hO rfl rfl (hs_o12 kc139) rfl rfl ?_
    refine s_iload_n (nx := 50) hO rfl rfl rfl ?_
    refine s_aload_n (nx := 51) hO rfl rfl rfl ?_
    refine s_iconst (x := (nI 2)) (nx := 52) hO rfl (by decide) rfl ?_
    refine s_iconst (x := 0) (nx := 53) hO rfl (by decide) rfl ?_
    refine s_iconst (x := 1) (nx := 54) hO rfl (by decide) rfl ?_
    refine s_aload_n (nx := 55) hO rfl rfl rfl ?_
    refine s_getf (v := .ref (q_b G + 180)) (nx := 58) hO rfl rfl (hs_o12 kc139) rfl rfl ?_
    refine s_iload_n (nx := 59) hO rfl rfl rfl ?_
    obtain ⟨b152, H⟩ := H
    refine s_iald (nx := 60) hO rfl (hs_I kc180) b152 rfl ?_
    refine s_bipush (x := (nI 15)) (nx := 62) hO rfl (by decide) rfl ?_
    refine s_iand (nx := 63) hO rfl rfl ?_
    refine s_ishl (nx := 64) hO rfl rfl ?_
    refine s_iconst (x := 1) (nx := 65) hO rfl (by decide) rfl ?_
    refine s_isub (nx := 66) hO rfl rfl ?_
    refine s_callV [.int (nI 2), .int 0, .int ((1 <<< (((sI s151 180 (ix x1)) &&& (nI 15)) &&& 31)) - 1)] (ci := 12) (F := TX12) (N := 116) (nx := 69) hO rfl kX12_readFunction_529 (by rw [hcl]; rfl) (hs_o12 kc139) (w_X12_numberNext hG H) rfl rfl (Nat.le_of_ble_eq_true rfl) (Nat.zero_le _) (Nat.zero_le _) rfl (k_Qi (fun r153 s154 H => ?_))
    obtain ⟨b155, H⟩ := H
    refine goV (wI s154 181 (ix x1) r153) (fun s156 es156 => ?_)
    replace H := H s156 es156
    refine s_iast (nx := 70) hO rfl (hs_I kc181) b155 rfl ?_
    refine xEx.at (up_I kc181 es156) ?_
    refine s_aload_n (nx := 71) hO rfl rfl rfl ?_
    refine s_getf (v := .ref (q_b G + 182)) (nx := 74) hO rfl rfl (hs_o12 kc139) rfl rfl ?_
    refine s_iload_n (nx := 75) hO rfl rfl rfl ?_
    refine s_aload_n (nx := 76) hO rfl rfl rfl ?_
    refine s_iconst (x := 1) (nx := 77) hO rfl (by decide) rfl ?_
    refine s_iconst (x := 0) (nx := 78) hO rfl (by decide) rfl ?_
    refine s_iload_n (nx := 79) hO rfl rfl rfl ?_
    refine s_if_ne (nx := 82) hO rfl rfl (fun c79 => ?_) (fun c79 => ?_)
    · replace H := H.1 c79
      refine s_iconst (x := (nI 2)) (nx := 87) hO rfl (by decide) rfl ?_
      refine s_callV [.int 1, .int 0, .int (nI 2)] (ci := 12) (F := TX12) (N := 116) (nx := 90) hO rfl kX12_readFunction_529 (by rw [hcl]; rfl) (hs_o12 kc139) (w_X12_numberNext hG H) rfl rfl (Nat.le_of_ble_eq_true rfl) (Nat.zero_le _) (Nat.zero_le _) rfl (k_Qi (fun r157 s158 H => ?_))
      obtain ⟨b159, H⟩ := H
      refine goV (wI s158 182 (ix x1) r157) (fun s160 es160 => ?_)
      replace H := H s160 es160
      refine s_iast (nx := 91) hO rfl (hs_I kc182) b159 rfl ?_
      refine xEx.at (up_I kc182 es160) ?_
      refine s_aload_n (nx := 92) hO rfl rfl rfl ?_
      refine s_getf (v := .ref (q_b G + 184)) (nx := 95) hO rfl rfl (hs_o12 kc139) rfl rfl ?_
      refine s_iload_n (nx := 96) hO rfl rfl rfl ?_
      refine s_aload_n (nx := 97) hO rfl rfl rfl ?_
      refine s_iconst (x := (nI 2)) (nx := 98) hO rfl (by decide) rfl ?_
      refine s_iconst (x := 1) (nx := 99) hO rfl (by decide) rfl ?_
      refine s_sipush (x := (nI 400)) (nx := 102) hO rfl (by decide) rfl ?_
      refine s_callV [.int (nI 2), .int 1, .int (nI 400)] (ci := 12) (F := TX12) (N := 116) (nx := 105) hO rfl kX12_readFunction_529 (by rw [hcl]; rfl) (hs_o12 kc139) (w_X12_numberNext hG H) rfl rfl (Nat.le_of_ble_eq_true rfl) (Nat.zero_le _) (Nat.zero_le _) rfl (k_Qi (fun r161 s162 H => ?_))
      obtain ⟨b163, H⟩ := H
      refine goV (wI s162 184 (ix x1) r161) (fun s164 es164 => ?_)
      replace H := H s164 es164
      refine s_iast (nx := 106) hO rfl (hs_I kc184) b163 rfl ?_
      refine xEx.at (up_I kc184 es164) ?_
      refine s_iconst (x := 0) (nx := 107) hO rfl (by decide) rfl ?_
      refine goK (H (fun (x165 : Int32) (s166 : yS) => xEx G mX12_readFunction 109 [(0, .ref (q_b G + 139)), (1, .int v1), (2, .int v2), (3, .int x1), (4, .int x165)] [] (hS G s166) z 0 0 (yQv G z Q)) (fun x165 s166 H => ?_)) (fun H => ?_)
      · show xEx G mX12_readFunction 109 [(0, .ref (q_b G + 139)), (1, .int v1), (2, .int v2), (3, .int x1), (4, .int x165)] [] (hS G s166) z 0 0 (yQv G z Q)
        refine s_iload (nx := 111) hO rfl rfl rfl ?_
        refine s_aload_n (nx := 112) hO rfl rfl rfl ?_
        refine s_getf (v := .ref (q_b G + 184)) (nx := 115) hO rfl rfl (hs_o12 kc139) rfl rfl ?_
        refine s_iload_n (nx := 116) hO rfl rfl rfl ?_
        obtain ⟨b168, H⟩ := H
        refine s_iald (nx := 117) hO rfl (hs_I kc184) b168 rfl ?_
        refine goK (H (xEx G mX12_readFunction 147 [(0, .ref (q_b G + 139)), (1, .int v1), (3, .int x1)] [] (hS G s166) z 0 0 (yQv G z Q)) (fun H => ?_)) (fun H => ?_)
        · show xEx G mX12_readFunction 147 [(0, .ref (q_b G + 139)), (1, .int v1), (3, .int x1)] [] (hS G s166) z 0 0 (yQv G z Q)
          refine s_aload_n (nx := 148) hO rfl rfl rfl ?_
          refine s_getf (v := .ref (q_b G + 185)) (nx := 151) hO rfl rfl (hs_o12 kc139) rfl rfl ?_
          refine s_iload_n (nx := 152) hO rfl rfl rfl ?_
          refine s_aload_n (nx := 153) hO rfl rfl rfl ?_
          refine s_iconst (x := 1) (nx := 154) hO rfl (by decide) rfl ?_
          refine s_iconst (x := 0) (nx := 155) hO rfl (by decide) rfl ?_
          refine s_bipush (x := (nI 6)) (nx := 157) hO rfl (by decide) rfl ?_
          refine s_callV [.int 1, .int 0, .int (nI 6)] (ci := 12) (F := TX12) (N := 116) (nx := 160) hO rfl kX12_readFunction_529 (by rw [hcl]; rfl) (hs_o12 kc139) (w_X12_numberNext hG H) rfl rfl (Nat.le_of_ble_eq_true rfl) (Nat.zero_le _) (Nat.zero_le _) rfl (k_Qi (fun r170 s171 H => ?_))
          obtain ⟨b172, H⟩ := H
          refine goV (wI s171 185 (ix x1) r170) (fun s173 es173 => ?_)
          replace H := H s173 es173
          refine s_iast (nx := 161) hO rfl (hs_I kc185) b172 rfl ?_
          refine xEx.at (up_I kc185 es173) ?_
          refine s_iconst (x := 0) (nx := 162) hO rfl (by decide) rfl ?_
          refine goK (H (fun (x174 : Int32) (s175 : yS) => xEx G mX12_readFunction 164 [(0, .ref (q_b G + 139)), (1, .int v1), (3, .int x1), (4, .int x174)] [] (hS G s175) z 0 0 (yQv G z Q)) (fun x174 s175 H => ?_)) (fun H => ?_)
          · show xEx G mX12_readFunction 164 [(0, .ref (q_b G + 139)), (1, .int v1), (3, .int x1), (4, .int x174)] [] (hS G s175) z 0 0 (yQv G z Q)
            refine s_iload (nx := 166) hO rfl rfl rfl ?_
            refine s_aload_n (nx := 167) hO rfl rfl rfl ?_
            refine s_getf (v := .ref (q_b G + 185)) (nx := 170) hO rfl rfl (hs_o12 kc139) rfl rfl ?_
            refine s_iload_n (nx := 171) hO rfl rfl rfl ?_
            obtain ⟨b177, H⟩ := H
            refine s_iald (nx := 172) hO rfl (hs_I kc185) b177 rfl ?_
            refine s_icmp_ge (nx := 175) hO rfl rfl (fun c172 => ?_) (fun c172 => ?_)
            · replace H := H.1 c172
              exact s_vret hO rfl rfl ⟨rfl, _, rfl, rfl, H⟩
            · replace H := H.2 c172
              refine s_aload_n (nx := 176) hO rfl rfl rfl ?_
              refine s_getf (v := .int (sI s175 139 15)) (nx := 179) hO rfl rfl (hs_o12 kc139) rfl rfl ?_
              refine s_if_ne (nx := 182) hO rfl rfl (fun c179 => ?_) (fun c179 => ?_)
              · replace H := H.1 c179
                exact s_vret hO rfl rfl ⟨rfl, _, rfl, rfl, H⟩
              · replace H := H.2 c179
                refine s_sipush (x := (nI 144)) (nx := 185) hO rfl (by decide) rfl ?_
                refine s_bipush (x := (nI 6)) (nx := 187) hO rfl (by decide) rfl ?_
                refine s_iload_n (nx := 188) hO rfl rfl rfl ?_
                refine s_imul (nx := 189) hO rfl rfl ?_
                refine s_iadd (nx := 190) hO rfl rfl ?_
                refine s_iload (nx := 192) hO rfl rfl rfl ?_
                refine s_iadd (nx := 193) hO rfl rfl ?_
                refine goV ((((nI 144) + ((nI 6) * v1)) + x174)) (fun x178 ex178 => ?_)
                replace H := H x178 ex178
                refine e_istore (nx := 195) (l' := [(5, .int x178), (0, .ref (q_b G + 139)), (1, .int v1), (3, .int x1), (4, .int x174)]) ex178 hO rfl (by decide) rfl rfl ?_
                refine s_aload_n (nx := 196) hO rfl rfl rfl ?_
                refine s_getf (v := .ref (q_b G + 188)) (nx := 199) hO rfl rfl (hs_o12 kc139) rfl rfl ?_
                refine s_iload (nx := 201) hO rfl rfl rfl ?_
                refine s_aload_n (nx := 202) hO rfl rfl rfl ?_
                refine s_iconst (x := (nI 2)) (nx := 203) hO rfl (by decide) rfl ?_
                refine s_iconst (x := 0) (nx := 204) hO rfl (by decide) rfl ?_
                refine s_aload_n (nx := 205) hO rfl rfl rfl ?_
                refine s_getf (v := .ref (q_b G + 184)) (nx := 208) hO rfl rfl (hs_o12 kc139) rfl rfl ?_
                refine s_iload_n (nx := 209) hO rfl rfl rfl ?_
                obtain ⟨b179, H⟩ := H
                refine s_iald (nx := 210) hO rfl (hs_I kc184) b179 rfl ?_
                refine s_iconst (x := 1) (nx := 211) hO rfl (by decide) rfl ?_
                refine s_isub (nx := 212) hO rfl rfl ?_
                refine s_callV [.int (nI 2), .int 0, .int ((sI s175 184 (ix x1)) - 1)] (ci := 12) (F := TX12) (N := 116) (nx := 215) hO rfl kX12_readFunction_529 (by rw [hcl]; rfl) (hs_o12 kc139) (w_X12_numberNext hG H) rfl rfl (Nat.le_of_ble_eq_true rfl) (Nat.zero_le _) (Nat.zero_le _) rfl (k_Qi (fun r180 s181 H => ?_))
                obtain ⟨b182, H⟩ := H
                refine goV (wI s181 188 (ix x178) r180) (fun s183 es183 => ?_)
                replace H := H s183 es183
                refine s_iast (nx := 216) hO rfl (hs_I kc188) b182 rfl ?_
                refine xEx.at (up_I kc188 es183) ?_
                refine s_aload_n (nx := 217) hO rfl rfl rfl ?_
                refine s_getf (v := .ref (q_b G + 189)) (nx := 220) hO rfl rfl (hs_o12 kc139) rfl rfl ?_
                refine s_iload (nx := 222) hO rfl rfl rfl ?_
                refine s_aload_n (nx := 223) hO rfl rfl rfl ?_
                refine s_iconst (x := (nI 2)) (nx := 224) hO rfl (by decide) rfl ?_
                refine s_aload_n (nx := 225) hO rfl rfl rfl ?_
                refine s_getf (v := .ref (q_b G + 188)) (nx := 228) hO rfl rfl (hs_o12 kc139) rfl rfl ?_
                refine s_iload (nx := 230) hO rfl rfl rfl ?_
                obtain ⟨b184, H⟩ := H
                refine s_iald (nx := 231) hO rfl (hs_I kc188) b184 rfl ?_
                refine s_iconst (x := 1) (nx := 232) hO rfl (by decide) rfl ?_
                refine s_iadd (nx := 233) hO rfl rfl ?_
                refine s_aload_n (nx := 234) hO rfl rfl rfl ?_
                refine s_getf (v := .ref (q_b G + 184)) (nx := 237) hO rfl rfl (hs_o12 kc139) rfl rfl ?_
                refine s_iload_n (nx := 238) hO rfl rfl rfl ?_
                obtain ⟨b185, H⟩ := H
                refine s_iald (nx := 239) hO rfl (hs_I kc184) b185 rfl ?_
                refine s_callV [.int (nI 2), .int ((sI s183 188 (ix x178)) + 1), .int (sI s183 184 (ix x1))] (ci := 12) (F := TX12) (N := 116) (nx := 242) hO rfl kX12_readFunction_529 (by rw [hcl]; rfl) (hs_o12 kc139) (w_X12_numberNext hG H) rfl rfl (Nat.le_of_ble_eq_true rfl) (Nat.zero_le _) (Nat.zero_le _) rfl (k_Qi (fun r186 s187 H => ?_))
                obtain ⟨b188, H⟩ := H
                refine goV (wI s187 189 (ix x178) r186) (fun s189 es189 => ?_)
                replace H := H s189 es189
                refine s_iast (nx := 243) hO rfl (hs_I kc189) b188 rfl ?_
                refine xEx.at (up_I kc189 es189) ?_
                refine s_aload_n (nx := 244) hO rfl rfl rfl ?_
                refine s_getf (v := .ref (q_b G + 190)) (nx := 247) hO rfl rfl (hs_o12 kc139) rfl rfl ?_
                refine s_iload (nx := 249) hO rfl rfl rfl ?_
                refine s_aload_n (nx := 250) hO rfl rfl rfl ?_
                refine s_iconst (x := (nI 2)) (nx := 251) hO rfl (by decide) rfl ?_
                refine s_iconst (x := 0) (nx := 252) hO rfl (by decide) rfl ?_
                refine s_aload_n (nx := 253) hO rfl rfl rfl ?_
                refine s_getf (v := .ref (q_b G + 184)) (nx := 256) hO rfl rfl (hs_o12 kc139) rfl rfl ?_
                refine s_iload_n (nx := 257) hO rfl rfl rfl ?_
                obtain ⟨b190, H⟩ := H
                refine s_iald (nx := 258) hO rfl (hs_I kc184) b190 rfl ?_
                refine s_iconst (x := 1) (nx := 259) hO rfl (by decide) rfl ?_
                refine s_isub (nx := 260) hO rfl rfl ?_
                refine s_callV [.int (nI 2), .int 0, .int ((sI s189 184 (ix x1)) - 1)] (ci := 12) (F := TX12) (N := 116) (nx := 263) hO rfl kX12_readFunction_529 (by rw [hcl]; rfl) (hs_o12 kc139) (w_X12_numberNext hG H) rfl rfl (Nat.le_of_ble_eq_true rfl) (Nat.zero_le _) (Nat.zero_le _) rfl (k_Qi (fun r191 s192 H => ?_))
                obtain ⟨b193, H⟩ := H
                refine goV (wI s192 190 (ix x178) r191) (fun s194 es194 => ?_)
                replace H := H s194 es194
                refine s_iast (nx := 264) hO rfl (hs_I kc190) b193 rfl ?_
                refine xEx.at (up_I kc190 es194) ?_
                refine s_aload_n (nx := 265) hO rfl rfl rfl ?_
                refine s_getf (v := .ref (q_b G + 191)) (nx := 268) hO rfl rfl (hs_o12 kc139) rfl rfl ?_
                refine s_iload (nx := 270) hO rfl rfl rfl ?_
                refine s_aload_n (nx := 271) hO rfl rfl rfl ?_
                refine s_iconst (x := 1) (nx := 272) hO rfl (by decide) rfl ?_
                refine s_iconst (x := 0) (nx := 273) hO rfl (by decide) rfl ?_
                refine s_iconst (x := 1) (nx := 274) hO rfl (by decide) rfl ?_
                refine s_callV [.int 1, .int 0, .int 1] (ci := 12) (F := TX12) (N := 116) (nx := 277) hO rfl kX12_readFunction_529 (by rw [hcl]; rfl) (hs_o12 kc139) (w_X12_numberNext hG H) rfl rfl (Nat.le_of_ble_eq_true rfl) (Nat.zero_le _) (Nat.zero_le _) rfl (k_Qi (fun r195 s196 H => ?_))
                refine s_if_ne (nx := 280) hO rfl rfl (fun c277 => ?_) (fun c277 => ?_)
                · replace H := H.1 c277
                  refine s_iconst (x := 0) (nx := 285) hO rfl (by decide) rfl ?_
                  obtain ⟨b197, H⟩ := H
                  refine goV (wI s196 191 (ix x178) (vp_nar .boolean 0)) (fun s198 es198 => ?_)
                  replace H := H s198 es198
                  refine s_zast (nx := 286) hO rfl (hs_Z kc191) b197 rfl ?_
                  refine xEx.at (up_Z kc191 es198) ?_
                  refine s_aload_n (nx := 287) hO rfl rfl rfl ?_
                  refine s_getf (v := .ref (q_b G + 192)) (nx := 290) hO rfl rfl (hs_o12 kc139) rfl rfl ?_
                  refine s_iload (nx := 292) hO rfl rfl rfl ?_
                  refine s_aload_n (nx := 293) hO rfl rfl rfl ?_
                  refine s_getf (v := .ref (q_b G + 191)) (nx := 296) hO rfl rfl (hs_o12 kc139) rfl rfl ?_
                  refine s_iload (nx := 298) hO rfl rfl rfl ?_
                  obtain ⟨b199, H⟩ := H
                  refine s_zald (nx := 299) hO rfl (hs_Z kc191) b199 rfl ?_
                  refine s_if_eq (nx := 302) hO rfl rfl (fun c299 => ?_) (fun c299 => ?_)
                  · replace H := H.1 c299
                    refine s_aload_n (nx := 307) hO rfl rfl rfl ?_
                    refine s_iconst (x := (nI 4)) (nx := 308) hO rfl (by decide) rfl ?_
                    refine s_ldc_w (x := ((-2147483648))) (nx := 311) hO rfl rfl rfl ?_
                    refine s_ldc_w (x := ((2147483647))) (nx := 314) hO rfl rfl rfl ?_
                    refine s_callV [.int (nI 4), .int ((-2147483648)), .int ((2147483647))] (ci := 12) (F := TX12) (N := 116) (nx := 317) hO rfl kX12_readFunction_529 (by rw [hcl]; rfl) (hs_o12 kc139) (w_X12_numberNext hG H) rfl rfl (Nat.le_of_ble_eq_true rfl) (Nat.zero_le _) (Nat.zero_le _) rfl (k_Qi (fun r200 s201 H => ?_))
                    obtain ⟨b202, H⟩ := H
                    refine goV (wI s201 192 (ix x178) r200) (fun s203 es203 => ?_)
                    replace H := H s203 es203
                    refine s_iast (nx := 318) hO rfl (hs_I kc192) b202 rfl ?_
                    refine xEx.at (up_I kc192 es203) ?_
                    refine goV ((x174 + 1)) (fun x204 ex204 => ?_)
                    replace H := H x204 ex204
                    refine e_iinc (nx := 321) (l' := [(4, .int x204), (5, .int x178), (0, .ref (q_b G + 139)), (1, .int v1), (3, .int x1)]) ex204 hO rfl (by decide) rfl rfl rfl rfl ?_
                    refine s_goto hO rfl ?_
                    exact xEx.loc (x_sub1 (List.Mem.tail _ (List.Mem.tail _ (List.Mem.head _))) (x_sub1 (List.Mem.tail _ (List.Mem.tail _ (List.Mem.tail _ (List.Mem.head _)))) (x_sub1 (List.Mem.tail _ (List.Mem.tail _ (List.Mem.tail _ (List.Mem.tail _ (List.Mem.head _))))) (x_sub1 (List.Mem.head _) x_sub0)))) H
                  · replace H := H.2 c299
                    refine s_iconst (x := 0) (nx := 303) hO rfl (by decide) rfl ?_
                    refine s_goto hO rfl ?_
                    obtain ⟨b205, H⟩ := H
                    refine goV (wI s198 192 (ix x178) 0) (fun s206 es206 => ?_)
                    replace H := H s206 es206
                    refine s_iast (nx := 318) hO rfl (hs_I kc192) b205 rfl ?_
                    refine xEx.at (up_I kc192 es206) ?_
                    refine goV ((x174 + 1)) (fun x207 ex207 => ?_)
                    replace H := H x207 ex207
                    refine e_iinc (nx := 321) (l' := [(4, .int x207), (5, .int x178), (0, .ref (q_b G + 139)), (1, .int v1), (3, .int x1)]) ex207 hO rfl (by decide) rfl rfl rfl rfl ?_
                    refine s_goto hO rfl ?_
                    exact xEx.loc (x_sub1 (List.Mem.tail _ (List.Mem.tail _ (List.Mem.head _))) (x_sub1 (List.Mem.tail _ (List.Mem.tail _ (List.Mem.tail _ (List.Mem.head _)))) (x_sub1 (List.Mem.tail _ (List.Mem.tail _ (List.Mem.tail _ (List.Mem.tail _ (List.Mem.head _))))) (x_sub1 (List.Mem.head _) x_sub0)))) H
                · replace H := H.2 c277
                  refine s_iconst (x := 1) (nx := 281) hO rfl (by decide) rfl ?_
                  refine s_goto hO rfl ?_
                  obtain ⟨b208, H⟩ := H
                  refine goV (wI s196 191 (ix x178) (vp_nar .boolean 1)) (fun s209 es209 => ?_)
                  replace H := H s209 es209
                  refine s_zast (nx := 286) hO rfl (hs_Z kc191) b208 rfl ?_
                  refine xEx.at (up_Z kc191 es209) ?_
                  refine s_aload_n (nx := 287) hO rfl rfl rfl ?_
                  refine s_getf (v := .ref (q_b G + 192)) (nx := 290) hO rfl rfl (hs_o12 kc139) rfl rfl ?_
                  refine s_iload (nx := 292) hO rfl rfl rfl ?_
                  refine s_aload_n (nx := 293) hO rfl rfl rfl ?_
                  refine s_getf (v := .ref (q_b G + 191)) (nx := 296) hO rfl rfl (hs_o12 kc139) rfl rfl ?_
                  refine s_iload (nx := 298) hO rfl rfl rfl ?_
                  obtain ⟨b210, H⟩ := H
                  refine s_zald (nx := 299) hO rfl (hs_Z kc191) b210 rfl ?_
                  refine s_if_eq (nx := 302) hO rfl rfl (fun c299 => ?_) (fun c299 => ?_)
                  · replace H := H.1 c299
                    refine s_aload_n (nx := 307) hO rfl rfl rfl ?_
                    refine s_iconst (x := (nI 4)) (nx := 308) hO rfl (by decide) rfl ?_
                    refine s_ldc_w (x := ((-2147483648))) (nx := 311) hO rfl rfl rfl ?_
                    refine s_ldc_w (x := ((2147483647))) (nx := 314) hO rfl rfl rfl ?_
                    refine s_callV [.int (nI 4), .int ((-2147483648)), .int ((2147483647))] (ci := 12) (F := TX12) (N := 116) (nx := 317) hO rfl kX12_readFunction_529 (by rw [hcl]; rfl) (hs_o12 kc139) (w_X12_numberNext hG H) rfl rfl (Nat.le_of_ble_eq_true rfl) (Nat.zero_le _) (Nat.zero_le _) rfl (k_Qi (fun r211 s212 H => ?_))
                    obtain ⟨b213, H⟩ := H
                    refine goV (wI s212 192 (ix x178) r211) (fun s214 es214 => ?_)
                    replace H := H s214 es214
                    refine s_iast (nx := 318) hO rfl (hs_I kc192) b213 rfl ?_
                    refine xEx.at (up_I kc192 es214) ?_
                    refine goV ((x174 + 1)) (fun x215 ex215 => ?_)
                    replace H := H x215 ex215
                    refine e_iinc (nx := 321) (l' := [(4, .int x215), (5, .int x178), (0, .ref (q_b G + 139)), (1, .int v1), (3, .int x1)]) ex215 hO rfl (by decide) rfl rfl rfl rfl ?_
                    refine s_goto hO rfl ?_
                    exact xEx.loc (x_sub1 (List.Mem.tail _ (List.Mem.tail _ (List.Mem.head _))) (x_sub1 (List.Mem.tail _ (List.Mem.tail _ (List.Mem.tail _ (List.Mem.head _)))) (x_sub1 (List.Mem.tail _ (List.Mem.tail _ (List.Mem.tail _ (List.Mem.tail _ (List.Mem.head _))))) (x_sub1 (List.Mem.head _) x_sub0)))) H
                  · replace H := H.2 c299
                    refine s_iconst (x := 0) (nx := 303) hO rfl (by decide) rfl ?_
                    refine s_goto hO rfl ?_
                    obtain ⟨b216, H⟩ := H
                    refine goV (wI s209 192 (ix x178) 0) (fun s217 es217 => ?_)
                    replace H := H s217 es217
                    refine s_iast (nx := 318) hO rfl (hs_I kc192) b216 rfl ?_
                    refine xEx.at (up_I kc192 es217) ?_
                    refine goV ((x174 + 1)) (fun x218 ex218 => ?_)
                    replace H := H x218 ex218
                    refine e_iinc (nx := 321) (l' := [(4, .int x218), (5, .int x178), (0, .ref (q_b G + 139)), (1, .int v1), (3, .int x1)]) ex218 hO rfl (by decide) rfl rfl rfl rfl ?_
                    refine s_goto hO rfl ?_
                    exact xEx.loc (x_sub1 (List.Mem.tail _ (List.Mem.tail _ (List.Mem.head _))) (x_sub1 (List.Mem.tail _ (List.Mem.tail _ (List.Mem.tail _ (List.Mem.head _)))) (x_sub1 (List.Mem.tail _ (List.Mem.tail _ (List.Mem.tail _ (List.Mem.tail _ (List.Mem.head _))))) (x_sub1 (List.Mem.head _) x_sub0)))) H
          refine s_istore (nx := 164) (l' := [(4, .int 0), (0, .ref (q_b G + 139)), (1, .int v1), (3, .int x1)]) hO rfl (by decide) rfl rfl ?_
          exact xEx.loc (x_sub1 (List.Mem.tail _ (List.Mem.head _)) (x_sub1 (List.Mem.tail _ (List.Mem.tail _ (List.Mem.head _))) (x_sub1 (List.Mem.tail _ (List.Mem.tail _ (List.Mem.tail _ (List.Mem.head _)))) (x_sub1 (List.Mem.head _) x_sub0)))) H
        refine s_icmp_ge (nx := 120) hO rfl rfl (fun c117 => ?_) (fun c117 => ?_)
        · replace H := H.1 c117
          exact xEx.loc (x_sub1 (List.Mem.head _) (x_sub1 (List.Mem.tail _ (List.Mem.head _)) (x_sub1 (List.Mem.tail _ (List.Mem.tail _ (List.Mem.tail _ (List.Mem.head _)))) x_sub0))) H
        · replace H := H.2 c117
          refine s_aload_n (nx := 121) hO rfl rfl rfl ?_
          refine s_getf (v := .int (sI s166 139 15)) (nx := 124) hO rfl rfl (hs_o12 kc139) rfl rfl ?_
          refine s_if_ne (nx := 127) hO rfl rfl (fun c124 => ?_) (fun c124 => ?_)
          · replace H := H.1 c124
            exact xEx.loc (x_sub1 (List.Mem.head _) (x_sub1 (List.Mem.tail _ (List.Mem.head _)) (x_sub1 (List.Mem.tail _ (List.Mem.tail _ (List.Mem.tail _ (List.Mem.head _)))) x_sub0))) H
          · replace H := H.2 c124
            refine s_aload_n (nx := 128) hO rfl rfl rfl ?_
            refine s_iload_n (nx := 129) hO rfl rfl rfl ?_
            refine s_iload (nx := 131) hO rfl rfl rfl ?_
            refine s_aload_n (nx := 132) hO rfl rfl rfl ?_
            refine s_getf (v := .ref (q_b G + 184)) (nx := 135) hO rfl rfl (hs_o12 kc139) rfl rfl ?_
            refine s_iload_n (nx := 136) hO rfl rfl rfl ?_
            obtain ⟨b219, H⟩ := H
            refine s_iald (nx := 137) hO rfl (hs_I kc184) b219 rfl ?_
            refine s_iload_n (nx := 138) hO rfl rfl rfl ?_
            refine s_callV [.int v1, .int x165, .int (sI s166 184 (ix x1)), .int v2] (ci := 12) (F := TX12) (N := 116) (nx := 141) hO rfl kX12_readFunction_533 (by rw [hcl]; rfl) (hs_o12 kc139) (w_X12_readInstruction hG H) rfl rfl (Nat.le_of_ble_eq_true rfl) (Nat.zero_le _) (Nat.zero_le _) rfl (k_Qv (fun s220 H => ?_))
            refine goV ((x165 + 1)) (fun x221 ex221 => ?_)
            replace H := H x221 ex221
            refine e_iinc (nx := 144) (l' := [(4, .int x221), (0, .ref (q_b G + 139)), (1, .int v1), (2, .int v2), (3, .int x1)]) ex221 hO rfl (by decide) rfl rfl rfl rfl ?_
            refine s_goto hO rfl ?_
            exact xEx.loc (x_sub1 (List.Mem.tail _ (List.Mem.head _)) (x_sub1 (List.Mem.tail _ (List.Mem.tail _ (List.Mem.head _))) (x_sub1 (List.Mem.tail _ (List.Mem.tail _ (List.Mem.tail _ (List.Mem.head _)))) (x_sub1 (List.Mem.tail _ (List.Mem.tail _ (List.Mem.tail _ (List.Mem.tail _ (List.Mem.head _))))) (x_sub1 (List.Mem.head _) x_sub0))))) H
      refine s_istore (nx := 109) (l' := [(4, .int 0), (3, .int x1), (0, .ref (q_b G + 139)), (1, .int v1), (2, .int v2)]) hO rfl (by decide) rfl rfl ?_
      exact xEx.loc (x_sub1 (List.Mem.tail _ (List.Mem.tail _ (List.Mem.head _))) (x_sub1 (List.Mem.tail _ (List.Mem.tail _ (List.Mem.tail _ (List.Mem.head _)))) (x_sub1 (List.Mem.tail _ (List.Mem.tail _ (List.Mem.tail _ (List.Mem.tail _ (List.Mem.head _))))) (x_sub1 (List.Mem.tail _ (List.Mem.head _)) (x_sub1 (List.Mem.head _) x_sub0))))) H
    · replace H := H.2 c79
      refine s_iconst (x := 1) (nx := 83) hO rfl (by decide) rfl ?_
      refine s_goto hO rfl ?_
      refine s_callV [.int 1, .int 0, .int 1] (ci := 12) (F := TX12) (N := 116) (nx := 90) hO rfl kX12_readFunction_529 (by rw [hcl]; rfl) (hs_o12 kc139) (w_X12_numberNext hG H) rfl rfl (Nat.le_of_ble_eq_true rfl) (Nat.zero_le _) (Nat.zero_le _) rfl (k_Qi (fun r222 s223 H => ?_))
      obtain ⟨b224, H⟩ := H
      refine goV (wI s223 182 (ix x1) r222) (fun s225 es225 => ?_)
      replace H := H s225 es225
      refine s_iast (nx := 91) hO rfl (hs_I kc182) b224 rfl ?_
      refine xEx.at (up_I kc182 es225) ?_
      refine s_aload_n (nx := 92) hO rfl rfl rfl ?_
      refine s_getf (v := .ref (q_b G + 184)) (nx := 95) hO rfl rfl (hs_o12 kc139) rfl rfl ?_
      refine s_iload_n (nx := 96) hO rfl rfl rfl ?_
      refine s_aload_n (nx := 97) hO rfl rfl rfl ?_
      refine s_iconst (x := (nI 2)) (nx := 98) hO rfl (by decide) rfl ?_
      refine s_iconst (x := 1) (nx := 99) hO rfl (by decide) rfl ?_
      refine s_sipush (x := (nI 400)) (nx := 102) hO rfl (by decide) rfl ?_
      refine s_callV [.int (nI 2), .int 1, .int (nI 400)] (ci := 12) (F := TX12) (N := 116) (nx := 105) hO rfl kX12_readFunction_529 (by rw [hcl]; rfl) (hs_o12 kc139) (w_X12_numberNext hG H) rfl rfl (Nat.le_of_ble_eq_true rfl) (Nat.zero_le _) (Nat.zero_le _) rfl (k_Qi (fun r226 s227 H => ?_))
      obtain ⟨b228, H⟩ := H
      refine goV (wI s227 184 (ix x1) r226) (fun s229 es229 => ?_)
      replace H := H s229 es229
      refine s_iast (nx := 106) hO rfl (hs_I kc184) b228 rfl ?_
      refine xEx.at (up_I kc184 es229) ?_
      refine s_iconst (x := 0) (nx := 107) hO rfl (by decide) rfl ?_
      refine goK (H (fun (x230 : Int32) (s231 : yS) => xEx G mX12_readFunction 109 [(0, .ref (q_b G + 139)), (1, .int v1), (2, .int v2), (3, .int x1), (4, .int x230)] [] (hS G s231) z 0 0 (yQv G z Q)) (fun x230 s231 H => ?_)) (fun H => ?_)
      · show xEx G mX12_readFunction 109 [(0, .ref (q_b G + 139)), (1, .int v1), (2, .int v2), (3, .int x1), (4, .int x230)] [] (hS G s231) z 0 0 (yQv G z Q)
        refine s_iload (nx := 111) hO rfl rfl rfl ?_
        refine s_aload_n (nx := 112) hO rfl rfl rfl ?_
        refine s_getf (v := .ref (q_b G + 184)) (nx := 115) hO rfl rfl (hs_o12 kc139) rfl rfl ?_
        refine s_iload_n (nx := 116) hO rfl rfl rfl ?_
        obtain ⟨b233, H⟩ := H
        refine s_iald (nx := 117) hO rfl (hs_I kc184) b233 rfl ?_
        refine goK (H (xEx G mX12_readFunction 147 [(0, .ref (q_b G + 139)), (1, .int v1), (3, .int x1)] [] (hS G s231) z 0 0 (yQv G z Q)) (fun H => ?_)) (fun H => ?_)
        · show xEx G mX12_readFunction 147 [(0, .ref (q_b G + 139)), (1, .int v1), (3, .int x1)] [] (hS G s231) z 0 0 (yQv G z Q)
          refine s_aload_n (nx := 148) hO rfl rfl rfl ?_
          refine s_getf (v := .ref (q_b G + 185)) (nx := 151) hO rfl rfl (hs_o12 kc139) rfl rfl ?_
          refine s_iload_n (nx := 152) hO rfl rfl rfl ?_
          refine s_aload_n (nx := 153) hO rfl rfl rfl ?_
          refine s_iconst (x := 1) (nx := 154) hO rfl (by decide) rfl ?_
          refine s_iconst (x := 0) (nx := 155) hO rfl (by decide) rfl ?_
          refine s_bipush (x := (nI 6)) (nx := 157) hO rfl (by decide) rfl ?_
          refine s_callV [.int 1, .int 0, .int (nI 6)] (ci := 12) (F := TX12) (N := 116) (nx := 160) hO rfl kX12_readFunction_529 (by rw [hcl]; rfl) (hs_o12 kc139) (w_X12_numberNext hG H) rfl rfl (Nat.le_of_ble_eq_true rfl) (Nat.zero_le _) (Nat.zero_le _) rfl (k_Qi (fun r235 s236 H => ?_))
          obtain ⟨b237, H⟩ := H
          refine goV (wI s236 185 (ix x1) r235) (fun s238 es238 => ?_)
          replace H := H s238 es238
          refine s_iast (nx := 161) hO rfl (hs_I kc185) b237 rfl ?_
          refine xEx.at (up_I kc185 es238) ?_
          refine s_iconst (x := 0) (nx := 162) hO rfl (by decide) rfl ?_
          refine goK (H (fun (x239 : Int32) (s240 : yS) => xEx G mX12_readFunction 164 [(0, .ref (q_b G + 139)), (1, .int v1), (3, .int x1), (4, .int x239)] [] (hS G s240) z 0 0 (yQv G z Q)) (fun x239 s240 H => ?_)) (fun H => ?_)
          · show xEx G mX12_readFunction 164 [(0, .ref (q_b G + 139)), (1, .int v1), (3, .int x1), (4, .int x239)] [] (hS G s240) z 0 0 (yQv G z Q)
            refine s_iload (nx := 166) hO rfl rfl rfl ?_
            refine s_aload_n (nx := 167) hO rfl rfl rfl ?_
            refine s_getf (v := .ref (q_b G + 185)) (nx := 170) hO rfl rfl (hs_o12 kc139) rfl rfl ?_
            refine s_iload_n (nx := 171) hO rfl rfl rfl ?_
            obtain ⟨b242, H⟩ := H
            refine s_iald (nx := 172) hO rfl (hs_I kc185) b242 rfl ?_
            refine s_icmp_ge (nx := 175) hO rfl rfl (fun c172 => ?_) (fun c172 => ?_)
            · replace H := H.1 c172
              exact s_vret hO rfl rfl ⟨rfl, _, rfl, rfl, H⟩
            · replace H := H.2 c172
              refine s_aload_n (nx := 176) hO rfl rfl rfl ?_
              refine s_getf (v := .int (sI s240 139 15)) (nx := 179) hO rfl rfl (hs_o12 kc139) rfl rfl ?_
              refine s_if_ne (nx := 182) hO rfl rfl (fun c179 => ?_) (fun c179 => ?_)
              · replace H := H.1 c179
                exact s_vret hO rfl rfl ⟨rfl, _, rfl, rfl, H⟩
              · replace H := H.2 c179
                refine s_sipush (x := (nI 144)) (nx := 185) hO rfl (by decide) rfl ?_
                refine s_bipush (x := (nI 6)) (nx := 187) hO rfl (by decide) rfl ?_
                refine s_iload_n (nx := 188) hO rfl rfl rfl ?_
                refine s_imul (nx := 189) hO rfl rfl ?_
                refine s_iadd (nx := 190) hO rfl rfl ?_
                refine s_iload (nx := 192) hO rfl rfl rfl ?_
                refine s_iadd (nx := 193) hO rfl rfl ?_
                refine goV ((((nI 144) + ((nI 6) * v1)) + x239)) (fun x243 ex243 => ?_)
                replace H := H x243 ex243
                refine e_istore (nx := 195) (l' := [(5, .int x243), (0, .ref (q_b G + 139)), (1, .int v1), (3, .int x1), (4, .int x239)]) ex243 hO rfl (by decide) rfl rfl ?_
                refine s_aload_n (nx := 196) hO rfl rfl rfl ?_
                refine s_getf (v := .ref (q_b G + 188)) (nx := 199) hO rfl rfl (hs_o12 kc139) rfl rfl ?_
                refine s_iload (nx := 201) hO rfl rfl rfl ?_
                refine s_aload_n (nx := 202) hO rfl rfl rfl ?_
                refine s_iconst (x := (nI 2)) (nx := 203) hO rfl (by decide) rfl ?_
                refine s_iconst (x := 0) (nx := 204) hO rfl (by decide) rfl ?_
                refine s_aload_n (nx := 205) hO rfl rfl rfl ?_
                refine s_getf (v := .ref (q_b G + 184)) (nx := 208) hO rfl rfl (hs_o12 kc139) rfl rfl ?_
                refine s_iload_n (nx := 209) hO rfl rfl rfl ?_
                obtain ⟨b244, H⟩ := H
                refine s_iald (nx := 210) hO rfl (hs_I kc184) b244 rfl ?_
                refine s_iconst (x := 1) (nx := 211) hO rfl (by decide) rfl ?_
                refine s_isub (nx := 212) hO rfl rfl ?_
                refine s_callV [.int (nI 2), .int 0, .int ((sI s240 184 (ix x1)) - 1)] (ci := 12) (F := TX12) (N := 116) (nx := 215) hO rfl kX12_readFunction_529 (by rw [hcl]; rfl) (hs_o12 kc139) (w_X12_numberNext hG H) rfl rfl (Nat.le_of_ble_eq_true rfl) (Nat.zero_le _) (Nat.zero_le _) rfl (k_Qi (fun r245 s246 H => ?_))
                obtain ⟨b247, H⟩ := H
                refine goV (wI s246 188 (ix x243) r245) (fun s248 es248 => ?_)
                replace H := H s248 es248
                refine s_iast (nx := 216) hO rfl (hs_I kc188) b247 rfl ?_
                refine xEx.at (up_I kc188 es248) ?_
                refine s_aload_n (nx := 217) hO rfl rfl rfl ?_
                refine s_getf (v := .ref (q_b G + 189)) (nx := 220) hO rfl rfl (hs_o12 kc139) rfl rfl ?_
                refine s_iload (nx := 222) hO rfl rfl rfl ?_
                refine s_aload_n (nx := 223) hO rfl rfl rfl ?_
                refine s_iconst (x := (nI 2)) (nx := 224) hO rfl (by decide) rfl ?_
                refine s_aload_n (nx := 225) hO rfl rfl rfl ?_
                refine s_getf (v := .ref (q_b G + 188)) (nx := 228) hO rfl rfl (hs_o12 kc139) rfl rfl ?_
                refine s_iload (nx := 230) hO rfl rfl rfl ?_
                obtain ⟨b249, H⟩ := H
                refine s_iald (nx := 231) hO rfl (hs_I kc188) b249 rfl ?_
                refine s_iconst (x := 1) (nx := 232) hO rfl (by decide) rfl ?_
                refine s_iadd (nx := 233) hO rfl rfl ?_
                refine s_aload_n (nx := 234) hO rfl rfl rfl ?_
                refine s_getf (v := .ref (q_b G + 184)) (nx := 237) hO rfl rfl (hs_o12 kc139) rfl rfl ?_
                refine s_iload_n (nx := 238) hO rfl rfl rfl ?_
                obtain ⟨b250, H⟩ := H
                refine s_iald (nx := 239) hO rfl (hs_I kc184) b250 rfl ?_
                refine s_callV [.int (nI 2), .int ((sI s248 188 (ix x243)) + 1), .int (sI s248 184 (ix x1))] (ci := 12) (F := TX12) (N := 116) (nx := 242) hO rfl kX12_readFunction_529 (by rw [hcl]; rfl) (hs_o12 kc139) (w_X12_numberNext hG H) rfl rfl (Nat.le_of_ble_eq_true rfl) (Nat.zero_le _) (Nat.zero_le _) rfl (k_Qi (fun r251 s252 H => ?_))
                obtain ⟨b253, H⟩ := H
                refine goV (wI s252 189 (ix x243) r251) (fun s254 es254 => ?_)
                replace H := H s254 es254
                refine s_iast (nx := 243) hO rfl (hs_I kc189) b253 rfl ?_
                refine xEx.at (up_I kc189 es254) ?_
                refine s_aload_n (nx := 244) hO rfl rfl rfl ?_
                refine s_getf (v := .ref (q_b G + 190)) (nx := 247) hO rfl rfl (hs_o12 kc139) rfl rfl ?_
                refine s_iload (nx := 249) hO rfl rfl rfl ?_
                refine s_aload_n (nx := 250) hO rfl rfl rfl ?_
                refine s_iconst (x := (nI 2)) (nx := 251) hO rfl (by decide) rfl ?_
                refine s_iconst (x := 0) (nx := 252) hO rfl (by decide) rfl ?_
                refine s_aload_n (nx := 253) hO rfl rfl rfl ?_
                refine s_getf (v := .ref (q_b G + 184)) (nx := 256) hO rfl rfl (hs_o12 kc139) rfl rfl ?_
                refine s_iload_n (nx := 257) hO rfl rfl rfl ?_
                obtain ⟨b255, H⟩ := H
                refine s_iald (nx := 258) hO rfl (hs_I kc184) b255 rfl ?_
                refine s_iconst (x := 1) (nx := 259) hO rfl (by decide) rfl ?_
                refine s_isub (nx := 260) hO rfl rfl ?_
                refine s_callV [.int (nI 2), .int 0, .int ((sI s254 184 (ix x1)) - 1)] (ci := 12) (F := TX12) (N := 116) (nx := 263) hO rfl kX12_readFunction_529 (by rw [hcl]; rfl) (hs_o12 kc139) (w_X12_numberNext hG H) rfl rfl (Nat.le_of_ble_eq_true rfl) (Nat.zero_le _) (Nat.zero_le _) rfl (k_Qi (fun r256 s257 H => ?_))
                obtain ⟨b258, H⟩ := H
                refine goV (wI s257 190 (ix x243) r256) (fun s259 es259 => ?_)
                replace H := H s259 es259
                refine s_iast (nx := 264) hO rfl (hs_I kc190) b258 rfl ?_
                refine xEx.at (up_I kc190 es259) ?_
                refine s_aload_n (nx := 265) hO rfl rfl rfl ?_
                refine s_getf (v := .ref (q_b G + 191)) (nx := 268) hO rfl rfl (hs_o12 kc139) rfl rfl ?_
                refine s_iload (nx := 270) hO rfl rfl rfl ?_
                refine s_aload_n (nx := 271) hO rfl rfl rfl ?_
                refine s_iconst (x := 1) (nx := 272) hO rfl (by decide) rfl ?_
                refine s_iconst (x := 0) (nx := 273) hO rfl (by decide) rfl ?_
                refine s_iconst (x := 1) (nx := 274) hO rfl (by decide) rfl ?_
                refine s_callV [.int 1, .int 0, .int 1] (ci := 12) (F := TX12) (N := 116) (nx := 277) hO rfl kX12_readFunction_529 (by rw [hcl]; rfl) (hs_o12 kc139) (w_X12_numberNext hG H) rfl rfl (Nat.le_of_ble_eq_true rfl) (Nat.zero_le _) (Nat.zero_le _) rfl (k_Qi (fun r260 s261 H => ?_))
                refine s_if_ne (nx := 280) hO rfl rfl (fun c277 => ?_) (fun c277 => ?_)
                · replace H := H.1 c277
                  refine s_iconst (x := 0) (nx := 285) hO rfl (by decide) rfl ?_
                  obtain ⟨b262, H⟩ := H
                  refine goV (wI s261 191 (ix x243) (vp_nar .boolean 0)) (fun s263 es263 => ?_)
                  replace H := H s263 es263
                  refine s_zast (nx := 286) hO rfl (hs_Z kc191) b262 rfl ?_
                  refine xEx.at (up_Z kc191 es263) ?_
                  refine s_aload_n (nx := 287) hO rfl rfl rfl ?_
                  refine s_getf (v := .ref (q_b G + 192)) (nx := 290) hO rfl rfl (hs_o12 kc139) rfl rfl ?_
                  refine s_iload (nx := 292) hO rfl rfl rfl ?_
                  refine s_aload_n (nx := 293) hO rfl rfl rfl ?_
                  refine s_getf (v := .ref (q_b G + 191)) (nx := 296) hO rfl rfl (hs_o12 kc139) rfl rfl ?_
                  refine s_iload (nx := 298) hO rfl rfl rfl ?_
                  obtain ⟨b264, H⟩ := H
                  refine s_zald (nx := 299) hO rfl (hs_Z kc191) b264 rfl ?_
                  refine s_if_eq (nx := 302) hO rfl rfl (fun c299 => ?_) (fun c299 => ?_)
                  · replace H := H.1 c299
                    refine s_aload_n (nx := 307) hO rfl rfl rfl ?_
                    refine s_iconst (x := (nI 4)) (nx := 308) hO rfl (by decide) rfl ?_
                    refine s_ldc_w (x := ((-2147483648))) (nx := 311) hO rfl rfl rfl ?_
                    refine s_ldc_w (x := ((2147483647))) (nx := 314) hO rfl rfl rfl ?_
                    refine s_callV [.int (nI 4), .int ((-2147483648)), .int ((2147483647))] (ci := 12) (F := TX12) (N := 116) (nx := 317) hO rfl kX12_readFunction_529 (by rw [hcl]; rfl) (hs_o12 kc139) (w_X12_numberNext hG H) rfl rfl (Nat.le_of_ble_eq_true rfl) (Nat.zero_le _) (Nat.zero_le _) rfl (k_Qi (fun r265 s266 H => ?_))
                    obtain ⟨b267, H⟩ := H
                    refine goV (wI s266 192 (ix x243) r265) (fun s268 es268 => ?_)
                    replace H := H s268 es268
                    refine s_iast (nx := 318) hO rfl (hs_I kc192) b267 rfl ?_
                    refine xEx.at (up_I kc192 es268) ?_
                    refine goV ((x239 + 1)) (fun x269 ex269 => ?_)
                    replace H := H x269 ex269
                    refine e_iinc (nx := 321) (l' := [(4, .int x269), (5, .int x243), (0, .ref (q_b G + 139)), (1, .int v1), (3, .int x1)]) ex269 hO rfl (by decide) rfl rfl rfl rfl ?_
                    refine s_goto hO rfl ?_
                    exact xEx.loc (x_sub1 (List.Mem.tail _ (List.Mem.tail _ (List.Mem.head _))) (x_sub1 (List.Mem.tail _ (List.Mem.tail _ (List.Mem.tail _ (List.Mem.head _)))) (x_sub1 (List.Mem.tail _ (List.Mem.tail _ (List.Mem.tail _ (List.Mem.tail _ (List.Mem.head _))))) (x_sub1 (List.Mem.head _) x_sub0)))) H
                  · replace H := H.2 c299
                    refine s_iconst (x := 0) (nx := 303) hO rfl (by decide) rfl ?_
                    refine s_goto hO rfl ?_
                    obtain ⟨b270, H⟩ := H
                    refine goV (wI s263 192 (ix x243) 0) (fun s271 es271 => ?_)
                    replace H := H s271 es271
                    refine s_iast (nx := 318) hO rfl (hs_I kc192) b270 rfl ?_
                    refine xEx.at (up_I kc192 es271) ?_
                    refine goV ((x239 + 1)) (fun x272 ex272 => ?_)
                    replace H := H x272 ex272
                    refine e_iinc (nx := 321) (l' := [(4, .int x272), (5, .int x243), (0, .ref (q_b G + 139)), (1, .int v1), (3, .int x1)]) ex272 hO rfl (by decide) rfl rfl rfl rfl ?_
                    refine s_goto hO rfl ?_
                    exact xEx.loc (x_sub1 (List.Mem.tail _ (List.Mem.tail _ (List.Mem.head _))) (x_sub1 (List.Mem.tail _ (List.Mem.tail _ (List.Mem.tail _ (List.Mem.head _)))) (x_sub1 (List.Mem.tail _ (List.Mem.tail _ (List.Mem.tail _ (List.Mem.tail _ (List.Mem.head _))))) (x_sub1 (List.Mem.head _) x_sub0)))) H
                · replace H := H.2 c277
                  refine s_iconst (x := 1) (nx := 281) hO rfl (by decide) rfl ?_
                  refine s_goto hO rfl ?_
                  obtain ⟨b273, H⟩ := H
                  refine goV (wI s261 191 (ix x243) (vp_nar .boolean 1)) (fun s274 es274 => ?_)
                  replace H := H s274 es274
                  refine s_zast (nx := 286) hO rfl (hs_Z kc191) b273 rfl ?_
                  refine xEx.at (up_Z kc191 es274) ?_
                  refine s_aload_n (nx := 287) hO rfl rfl rfl ?_
                  refine s_getf (v := .ref (q_b G + 192)) (nx := 290) hO rfl rfl (hs_o12 kc139) rfl rfl ?_
                  refine s_iload (nx := 292) hO rfl rfl rfl ?_
                  refine s_aload_n (nx := 293) hO rfl rfl rfl ?_
                  refine s_getf (v := .ref (q_b G + 191)) (nx := 296) hO rfl rfl (hs_o12 kc139) rfl rfl ?_
                  refine s_iload (nx := 298) hO rfl rfl rfl ?_
                  obtain ⟨b275, H⟩ := H
                  refine s_zald (nx := 299) hO rfl (hs_Z kc191) b275 rfl ?_
                  refine s_if_eq (nx := 302) hO rfl rfl (fun c299 => ?_) (fun c299 => ?_)
                  · replace H := H.1 c299
                    refine s_aload_n (nx := 307) hO rfl rfl rfl ?_
                    refine s_iconst (x := (nI 4)) (nx := 308) hO rfl (by decide) rfl ?_
                    refine s_ldc_w (x := ((-2147483648))) (nx := 311) hO rfl rfl rfl ?_
                    refine s_ldc_w (x := ((2147483647))) (nx := 314) hO rfl rfl rfl ?_
                    refine s_callV [.int (nI 4), .int ((-2147483648)), .int ((2147483647))] (ci := 12) (F := TX12) (N := 116) (nx := 317) hO rfl kX12_readFunction_529 (by rw [hcl]; rfl) (hs_o12 kc139) (w_X12_numberNext hG H) rfl rfl (Nat.le_of_ble_eq_true rfl) (Nat.zero_le _) (Nat.zero_le _) rfl (k_Qi (fun r276 s277 H => ?_))
                    obtain ⟨b278, H⟩ := H
                    refine goV (wI s277 192 (ix x243) r276) (fun s279 es279 => ?_)
                    replace H := H s279 es279
                    refine s_iast (nx := 318) hO rfl (hs_I kc192) b278 rfl ?_
                    refine xEx.at (up_I kc192 es279) ?_
                    refine goV ((x239 + 1)) (fun x280 ex280 => ?_)
                    replace H := H x280 ex280
                    refine e_iinc (nx := 321) (l' := [(4, .int x280), (5, .int x243), (0, .ref (q_b G + 139)), (1, .int v1), (3, .int x1)]) ex280 hO rfl (by decide) rfl rfl rfl rfl ?_
                    refine s_goto hO rfl ?_
                    exact xEx.loc (x_sub1 (List.Mem.tail _ (List.Mem.tail _ (List.Mem.head _))) (x_sub1 (List.Mem.tail _ (List.Mem.tail _ (List.Mem.tail _ (List.Mem.head _)))) (x_sub1 (List.Mem.tail _ (List.Mem.tail _ (List.Mem.tail _ (List.Mem.tail _ (List.Mem.head _))))) (x_sub1 (List.Mem.head _) x_sub0)))) H
                  · replace H := H.2 c299
                    refine s_iconst (x := 0) (nx := 303) hO rfl (by decide) rfl ?_
                    refine s_goto hO rfl ?_
                    obtain ⟨b281, H⟩ := H
                    refine goV (wI s274 192 (ix x243) 0) (fun s282 es282 => ?_)
                    replace H := H s282 es282
                    refine s_iast (nx := 318) hO rfl (hs_I kc192) b281 rfl ?_
                    refine xEx.at (up_I kc192 es282) ?_
                    refine goV ((x239 + 1)) (fun x283 ex283 => ?_)
                    replace H := H x283 ex283
                    refine e_iinc (nx := 321) (l' := [(4, .int x283), (5, .int x243), (0, .ref (q_b G + 139)), (1, .int v1), (3, .int x1)]) ex283 hO rfl (by decide) rfl rfl rfl rfl ?_
                    refine s_goto hO rfl ?_
                    exact xEx.loc (x_sub1 (List.Mem.tail _ (List.Mem.tail _ (List.Mem.head _))) (x_sub1 (List.Mem.tail _ (List.Mem.tail _ (List.Mem.tail _ (List.Mem.head _)))) (x_sub1 (List.Mem.tail _ (List.Mem.tail _ (List.Mem.tail _ (List.Mem.tail _ (List.Mem.head _))))) (x_sub1 (List.Mem.head _) x_sub0)))) H
          refine s_istore (nx := 164) (l' := [(4, .int 0), (0, .ref (q_b G + 139)), (1, .int v1), (3, .int x1)]) hO rfl (by decide) rfl rfl ?_
          exact xEx.loc (x_sub1 (List.Mem.tail _ (List.Mem.head _)) (x_sub1 (List.Mem.tail _ (List.Mem.tail _ (List.Mem.head _))) (x_sub1 (List.Mem.tail _ (List.Mem.tail _ (List.Mem.tail _ (List.Mem.head _)))) (x_sub1 (List.Mem.head _) x_sub0)))) H
        refine s_icmp_ge (nx := 120) hO rfl rfl (fun c117 => ?_) (fun c117 => ?_)
        · replace H := H.1 c117
          exact xEx.loc (x_sub1 (List.Mem.head _) (x_sub1 (List.Mem.tail _ (List.Mem.head _)) (x_sub1 (List.Mem.tail _ (List.Mem.tail _ (List.Mem.tail _ (List.Mem.head _)))) x_sub0))) H
        · replace H := H.2 c117
          refine s_aload_n (nx := 121) hO rfl rfl rfl ?_
          refine s_getf (v := .int (sI s231 139 15)) (nx := 124) hO rfl rfl (hs_o12 kc139) rfl rfl ?_
          refine s_if_ne (nx := 127) hO rfl rfl (fun c124 => ?_) (fun c124 => ?_)
          · replace H := H.1 c124
            exact xEx.loc (x_sub1 (List.Mem.head _) (x_sub1 (List.Mem.tail _ (List.Mem.head _)) (x_sub1 (List.Mem.tail _ (List.Mem.tail _ (List.Mem.tail _ (List.Mem.head _)))) x_sub0))) H
          · replace H := H.2 c124
            refine s_aload_n (nx := 128) hO rfl rfl rfl ?_
            refine s_iload_n (nx := 129) hO rfl rfl rfl ?_
            refine s_iload (nx := 131) hO rfl rfl rfl ?_
            refine s_aload_n (nx := 132) hO rfl rfl rfl ?_
            refine s_getf (v := .ref (q_b G + 184)) (nx := 135) hO rfl rfl (hs_o12 kc139) rfl rfl ?_
            refine s_iload_n (nx := 136) hO rfl rfl rfl ?_
            obtain ⟨b284, H⟩ := H
            refine s_iald (nx := 137) hO rfl (hs_I kc184) b284 rfl ?_
            refine s_iload_n (nx := 138) hO rfl rfl rfl ?_
            refine s_callV [.int v1, .int x230, .int (sI s231 184 (ix x1)), .int v2] (ci := 12) (F := TX12) (N := 116) (nx := 141) hO rfl kX12_readFunction_533 (by rw [hcl]; rfl) (hs_o12 kc139) (w_X12_readInstruction hG H) rfl rfl (Nat.le_of_ble_eq_true rfl) (Nat.zero_le _) (Nat.zero_le _) rfl (k_Qv (fun s285 H => ?_))
            refine goV ((x230 + 1)) (fun x286 ex286 => ?_)
            replace H := H x286 ex286
            refine e_iinc (nx := 144) (l' := [(4, .int x286), (0, .ref (q_b G + 139)), (1, .int v1), (2, .int v2), (3, .int x1)]) ex286 hO rfl (by decide) rfl rfl rfl rfl ?_
            refine s_goto hO rfl ?_
            exact xEx.loc (x_sub1 (List.Mem.tail _ (List.Mem.head _)) (x_sub1 (List.Mem.tail _ (List.Mem.tail _ (List.Mem.head _))) (x_sub1 (List.Mem.tail _ (List.Mem.tail _ (List.Mem.tail _ (List.Mem.head _)))) (x_sub1 (List.Mem.tail _ (List.Mem.tail _ (List.Mem.tail _ (List.Mem.tail _ (List.Mem.head _))))) (x_sub1 (List.Mem.head _) x_sub0))))) H
      refine s_istore (nx := 109) (l' := [(4, .int 0), (3, .int x1), (0, .ref (q_b G + 139)), (1, .int v1), (2, .int v2)]) hO rfl (by decide) rfl rfl ?_
      exact xEx.loc (x_sub1 (List.Mem.tail _ (List.Mem.tail _ (List.Mem.head _))) (x_sub1 (List.Mem.tail _ (List.Mem.tail _ (List.Mem.tail _ (List.Mem.head _)))) (x_sub1 (List.Mem.tail _ (List.Mem.tail _ (List.Mem.tail _ (List.Mem.tail _ (List.Mem.head _))))) (x_sub1 (List.Mem.tail _ (List.Mem.head _)) (x_sub1 (List.Mem.head _) x_sub0))))) H

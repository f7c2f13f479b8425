def W_X12_comeTo (s : yS) (v1 : Int32) (v2 : Int32) (v3 : Int32) (v4 : Int32) (v5 : Int32) (Q : yS → Prop) : Prop :=
 ∀ x1 : Int32, x1 = ((((nI 4800) * v1) + ((nI 400) * v2)) + v3) → 
 vp_in x1 14400 ∧ 
 ((0 ≤ (sI s 193 (ix x1)) → vp_in x1 14400 ∧ 
  ∀ P77 : Prop, ((W_X12_wrong s (nI 7) (((nI 512) * v2) + v3) 
   (fun s4 => Q s4)) → P77) → 
  ((¬ (sI s 193 (ix x1)) = v4 → P77)
  ∧ ((sI s 193 (ix x1)) = v4 → vp_in x1 14400 ∧ 
   (((sI s 194 (ix x1)) = v5 → Q s)
   ∧ (¬ (sI s 194 (ix x1)) = v5 → P77)))))
 ∧ (¬ 0 ≤ (sI s 193 (ix x1)) → vp_in x1 14400 ∧ ∀ s7 : yS, s7 = wI s 193 (ix x1) v4 → 
  vp_in x1 14400 ∧ ∀ s9 : yS, s9 = wI s7 194 (ix x1) v5 → 
  vp_in v3 400 ∧ ∀ s11 : yS, s11 = wI s9 195 (ix v3) (vp_nar .boolean 1) → 
  Q s11))
set_option maxRecDepth 100000 in
set_option maxHeartbeats 40000000 in
theorem w_X12_comeTo {G : xG} (hG : yG G) {z : Nat} {s : yS} {v1 : Int32} {v2 : Int32} {v3 : Int32} {v4 : Int32} {v5 : Int32} {Q : yS → Prop} (H : W_X12_comeTo s v1 v2 v3 v4 v5 Q) : xC G mX12_comeTo [.ref (q_b G + 139), .int v1, .int v2, .int v3, .int v4, .int v5] (hS G s) z 0 0 (yQv G z Q) := by
  have hW := hG.1
  have hcl := hG.2.1
  have hty := hG.2.2.1
  have hO : xO G mX12_comeTo tbX12_comeTo ptX12_comeTo := ⟨tkX12_comeTo, pkX12_comeTo hcl⟩
  unfold W_X12_comeTo at H
  refine xC.of hW (by decide) rfl (Nat.le_of_ble_eq_true rfl) ?_
  refine s_sipush (x := (nI 4800)) (nx := 3) hO rfl (by decide) rfl ?_
  refine s_iload_n (nx := 4) hO rfl rfl rfl ?_
  refine s_imul (nx := 5) hO rfl rfl ?_
  refine s_sipush (x := (nI 400)) (nx := 8) hO rfl (by decide) rfl ?_
  refine s_iload_n (nx := 9) hO rfl rfl rfl ?_
  refine s_imul (nx := 10) hO rfl rfl ?_
  refine s_iadd (nx := 11) hO rfl rfl ?_
  refine s_iload_n (nx := 12) hO rfl rfl rfl ?_
  refine s_iadd (nx := 13) hO rfl rfl ?_
  refine goV (((((nI 4800) * v1) + ((nI 400) * v2)) + v3)) (fun x1 ex1 => ?_)
  replace H := H x1 ex1
  refine e_istore (nx := 15) (l' := [(6, .int x1), (0, .ref (q_b G + 139)), (1, .int v1), (2, .int v2), (3, .int v3), (4, .int v4), (5, .int v5)]) ex1 hO rfl (by decide) rfl rfl ?_
  refine s_aload_n (nx := 16) hO rfl rfl rfl ?_
  refine s_getf (v := .ref (q_b G + 193)) (nx := 19) hO rfl rfl (hs_o12 kc139) rfl rfl ?_
  refine s_iload (nx := 21) hO rfl rfl rfl ?_
  obtain ⟨b2, H⟩ := H
  refine s_iald (nx := 22) hO rfl (hs_I kc193) b2 rfl ?_
  refine s_if_ge (nx := 25) hO rfl rfl (fun c22 => ?_) (fun c22 => ?_)
  · replace H := H.1 c22
    refine s_aload_n (nx := 54) hO rfl rfl rfl ?_
    refine s_getf (v := .ref (q_b G + 193)) (nx := 57) hO rfl rfl (hs_o12 kc139) rfl rfl ?_
    refine s_iload (nx := 59) hO rfl rfl rfl ?_
    obtain ⟨b3, H⟩ := H
    refine s_iald (nx := 60) hO rfl (hs_I kc193) b3 rfl ?_
    refine s_iload (nx := 62) hO rfl rfl rfl ?_
    refine goK (H (xEx G mX12_comeTo 77 [(0, .ref (q_b G + 139)), (2, .int v2), (3, .int v3)] [] (hS G s) z 0 0 (yQv G z Q)) (fun H => ?_)) (fun H => ?_)
    · show xEx G mX12_comeTo 77 [(0, .ref (q_b G + 139)), (2, .int v2), (3, .int v3)] [] (hS G s) z 0 0 (yQv G z Q)
      refine s_aload_n (nx := 78) hO rfl rfl rfl ?_
      refine s_bipush (x := (nI 7)) (nx := 80) hO rfl (by decide) rfl ?_
      refine s_sipush (x := (nI 512)) (nx := 83) hO rfl (by decide) rfl ?_
      refine s_iload_n (nx := 84) hO rfl rfl rfl ?_
      refine s_imul (nx := 85) hO rfl rfl ?_
      refine s_iload_n (nx := 86) hO rfl rfl rfl ?_
      refine s_iadd (nx := 87) hO rfl rfl ?_
      refine s_callV [.int (nI 7), .int (((nI 512) * v2) + v3)] (ci := 12) (F := TX12) (N := 116) (nx := 90) hO rfl kX12_comeTo_303 (by rw [hcl]; rfl) (hs_o12 kc139) (w_X12_wrong hG H) rfl rfl (Nat.le_of_ble_eq_true rfl) (Nat.zero_le _) (Nat.zero_le _) rfl (k_Qv (fun s4 H => ?_))
      exact s_vret hO rfl rfl ⟨rfl, _, rfl, rfl, H⟩
    refine s_icmp_ne (nx := 65) hO rfl rfl (fun c62 => ?_) (fun c62 => ?_)
    · replace H := H.1 c62
      exact xEx.loc (x_sub1 (List.Mem.tail _ (List.Mem.head _)) (x_sub1 (List.Mem.tail _ (List.Mem.tail _ (List.Mem.tail _ (List.Mem.head _)))) (x_sub1 (List.Mem.tail _ (List.Mem.tail _ (List.Mem.tail _ (List.Mem.tail _ (List.Mem.head _))))) x_sub0))) H
    · replace H := H.2 c62
      refine s_aload_n (nx := 66) hO rfl rfl rfl ?_
      refine s_getf (v := .ref (q_b G + 194)) (nx := 69) hO rfl rfl (hs_o12 kc139) rfl rfl ?_
      refine s_iload (nx := 71) hO rfl rfl rfl ?_
      obtain ⟨b5, H⟩ := H
      refine s_iald (nx := 72) hO rfl (hs_I kc194) b5 rfl ?_
      refine s_iload (nx := 74) hO rfl rfl rfl ?_
      refine s_icmp_eq (nx := 77) hO rfl rfl (fun c74 => ?_) (fun c74 => ?_)
      · replace H := H.1 c74
        exact s_vret hO rfl rfl ⟨rfl, _, rfl, rfl, H⟩
      · replace H := H.2 c74
        exact xEx.loc (x_sub1 (List.Mem.tail _ (List.Mem.head _)) (x_sub1 (List.Mem.tail _ (List.Mem.tail _ (List.Mem.tail _ (List.Mem.head _)))) (x_sub1 (List.Mem.tail _ (List.Mem.tail _ (List.Mem.tail _ (List.Mem.tail _ (List.Mem.head _))))) x_sub0))) H
  · replace H := H.2 c22
    refine s_aload_n (nx := 26) hO rfl rfl rfl ?_
    refine s_getf (v := .ref (q_b G + 193)) (nx := 29) hO rfl rfl (hs_o12 kc139) rfl rfl ?_
    refine s_iload (nx := 31) hO rfl rfl rfl ?_
    refine s_iload (nx := 33) hO rfl rfl rfl ?_
    obtain ⟨b6, H⟩ := H
    refine goV (wI s 193 (ix x1) v4) (fun s7 es7 => ?_)
    replace H := H s7 es7
    refine s_iast (nx := 34) hO rfl (hs_I kc193) b6 rfl ?_
    refine xEx.at (up_I kc193 es7) ?_
    refine s_aload_n (nx := 35) hO rfl rfl rfl ?_
    refine s_getf (v := .ref (q_b G + 194)) (nx := 38) hO rfl rfl (hs_o12 kc139) rfl rfl ?_
    refine s_iload (nx := 40) hO rfl rfl rfl ?_
    refine s_iload (nx := 42) hO rfl rfl rfl ?_
    obtain ⟨b8, H⟩ := H
    refine goV (wI s7 194 (ix x1) v5) (fun s9 es9 => ?_)
    replace H := H s9 es9
    refine s_iast (nx := 43) hO rfl (hs_I kc194) b8 rfl ?_
    refine xEx.at (up_I kc194 es9) ?_
    refine s_aload_n (nx := 44) hO rfl rfl rfl ?_
    refine s_getf (v := .ref (q_b G + 195)) (nx := 47) hO rfl rfl (hs_o12 kc139) rfl rfl ?_
    refine s_iload_n (nx := 48) hO rfl rfl rfl ?_
    refine s_iconst (x := 1) (nx := 49) hO rfl (by decide) rfl ?_
    obtain ⟨b10, H⟩ := H
    refine goV (wI s9 195 (ix v3) (vp_nar .boolean 1)) (fun s11 es11 => ?_)
    replace H := H s11 es11
    refine s_zast (nx := 50) hO rfl (hs_Z kc195) b10 rfl ?_
    refine xEx.at (up_Z kc195 es11) ?_
    refine s_goto hO rfl ?_
    exact s_vret hO rfl rfl ⟨rfl, _, rfl, rfl, H⟩
def W_X12_puts (s : yS) (v1 : Int32) (Q : yS → Prop) : Prop :=
 ∀ s1 : yS, s1 = wI s 139 115 ((sI s 139 115) ||| (v1 <<< ((sI s 139 114) &&& 31))) → 
 ∀ s2 : yS, s2 = wI s1 139 114 ((sI s1 139 114) + 1) → 
 Q s2
set_option maxRecDepth 100000 in
set_option maxHeartbeats 40000000 in
theorem w_X12_puts {G : xG} (hG : yG G) {z : Nat} {s : yS} {v1 : Int32} {Q : yS → Prop} (H : W_X12_puts s v1 Q) : xC G mX12_puts [.ref (q_b G + 139), .int v1] (hS G s) z 0 0 (yQv G z Q) := by
  have hW := hG.1
  have hcl := hG.2.1
  have hty := hG.2.2.1
  have hO : xO G mX12_puts tbX12_puts ptX12_puts := ⟨tkX12_puts, pkX12_puts hcl⟩
  unfold W_X12_puts at H
  refine xC.of hW (by decide) rfl (Nat.le_of_ble_eq_true rfl) ?_
  refine s_aload_n (nx := 1) hO rfl rfl rfl ?_
  refine s_dup (nx := 2) hO rfl rfl rfl ?_
  refine s_getf (v := .int (sI s 139 115)) (nx := 5) hO rfl rfl (hs_o12 kc139) rfl rfl ?_
  refine s_iload_n (nx := 6) hO rfl rfl rfl ?_
  refine s_aload_n (nx := 7) hO rfl rfl rfl ?_
  refine s_getf (v := .int (sI s 139 114)) (nx := 10) hO rfl rfl (hs_o12 kc139) rfl rfl ?_
  refine s_ishl (nx := 11) hO rfl rfl ?_
  refine s_ior (nx := 12) hO rfl rfl ?_
  refine goV (wI s 139 115 ((sI s 139 115) ||| (v1 <<< ((sI s 139 114) &&& 31)))) (fun s1 es1 => ?_)
  replace H := H s1 es1
  refine s_putf (nx := 15) hO rfl rfl (hs_o12 kc139) (Nat.le_of_ble_eq_true rfl) (by rw [hty]; rfl) (by rw [hty]; rfl) pX12_115 rfl ?_
  refine xEx.at (up_oI12 kc139 es1) ?_
  refine s_aload_n (nx := 16) hO rfl rfl rfl ?_
  refine s_dup (nx := 17) hO rfl rfl rfl ?_
  refine s_getf (v := .int (sI s1 139 114)) (nx := 20) hO rfl rfl (hs_o12 kc139) rfl rfl ?_
  refine s_iconst (x := 1) (nx := 21) hO rfl (by decide) rfl ?_
  refine s_iadd (nx := 22) hO rfl rfl ?_
  refine goV (wI s1 139 114 ((sI s1 139 114) + 1)) (fun s2 es2 => ?_)
  replace H := H s2 es2
  refine s_putf (nx := 25) hO rfl rfl (hs_o12 kc139) (Nat.le_of_ble_eq_true rfl) (by rw [hty]; rfl) (by rw [hty]; rfl) pX12_114 rfl ?_
  refine xEx.at (up_oI12 kc139 es2) ?_
  exact s_vret hO rfl rfl ⟨rfl, _, rfl, rfl, H⟩
def W_X12_takes (s : yS) (v1 : Int32) (Q : Int32 → yS → Prop) : Prop :=
 ((¬ (sI s 139 114) = 0 → ∀ s1 : yS, s1 = wI s 139 114 ((sI s 139 114) - 1) → 
  ∀ x2 : Int32, x2 = (((sI s1 139 115) >>> ((sI s1 139 114) &&& 31)) &&& 1) → 
  ∀ s3 : yS, s3 = wI s1 139 115 ((sI s1 139 115) &&& ((1 <<< ((sI s1 139 114) &&& 31)) - 1)) → 
  ((v1 = (nI 2) → Q 1 s3)
  ∧ (¬ v1 = (nI 2) → ((¬ v1 = x2 → Q 0 s3)
   ∧ (v1 = x2 → Q 1 s3)))))
 ∧ ((sI s 139 114) = 0 → Q 0 s))
set_option maxRecDepth 100000 in
set_option maxHeartbeats 40000000 in
theorem w_X12_takes {G : xG} (hG : yG G) {z : Nat} {s : yS} {v1 : Int32} {Q : Int32 → yS → Prop} (H : W_X12_takes s v1 Q) : xC G mX12_takes [.ref (q_b G + 139), .int v1] (hS G s) z 0 0 (yQi G z Q) := by
  have hW := hG.1
  have hcl := hG.2.1
  have hty := hG.2.2.1
  have hO : xO G mX12_takes tbX12_takes ptX12_takes := ⟨tkX12_takes, pkX12_takes hcl⟩
  unfold W_X12_takes at H
  refine xC.of hW (by decide) rfl (Nat.le_of_ble_eq_true rfl) ?_
  refine s_aload_n (nx := 1) hO rfl rfl rfl ?_
  refine s_getf (v := .int (sI s 139 114)) (nx := 4) hO rfl rfl (hs_o12 kc139) rfl rfl ?_
  refine s_if_ne (nx := 7) hO rfl rfl (fun c4 => ?_) (fun c4 => ?_)
  · replace H := H.1 c4
    refine s_aload_n (nx := 10) hO rfl rfl rfl ?_
    refine s_dup (nx := 11) hO rfl rfl rfl ?_
    refine s_getf (v := .int (sI s 139 114)) (nx := 14) hO rfl rfl (hs_o12 kc139) rfl rfl ?_
    refine s_iconst (x := 1) (nx := 15) hO rfl (by decide) rfl ?_
    refine s_isub (nx := 16) hO rfl rfl ?_
    refine goV (wI s 139 114 ((sI s 139 114) - 1)) (fun s1 es1 => ?_)
    replace H := H s1 es1
    refine s_putf (nx := 19) hO rfl rfl (hs_o12 kc139) (Nat.le_of_ble_eq_true rfl) (by rw [hty]; rfl) (by rw [hty]; rfl) pX12_114 rfl ?_
    refine xEx.at (up_oI12 kc139 es1) ?_
    refine s_aload_n (nx := 20) hO rfl rfl rfl ?_
    refine s_getf (v := .int (sI s1 139 115)) (nx := 23) hO rfl rfl (hs_o12 kc139) rfl rfl ?_
    refine s_aload_n (nx := 24) hO rfl rfl rfl ?_
    refine s_getf (v := .int (sI s1 139 114)) (nx := 27) hO rfl rfl (hs_o12 kc139) rfl rfl ?_
    refine s_ishr (nx := 28) hO rfl rfl ?_
    refine s_iconst (x := 1) (nx := 29) hO rfl (by decide) rfl ?_
    refine s_iand (nx := 30) hO rfl rfl ?_
    refine goV ((((sI s1 139 115) >>> ((sI s1 139 114) &&& 31)) &&& 1)) (fun x2 ex2 => ?_)
    replace H := H x2 ex2
    refine e_istore_n (nx := 31) (l' := [(2, .int x2), (0, .ref (q_b G + 139)), (1, .int v1)]) ex2 hO rfl (by decide) rfl rfl ?_
    refine s_aload_n (nx := 32) hO rfl rfl rfl ?_
    refine s_dup (nx := 33) hO rfl rfl rfl ?_
    refine s_getf (v := .int (sI s1 139 115)) (nx := 36) hO rfl rfl (hs_o12 kc139) rfl rfl ?_
    refine s_iconst (x := 1) (nx := 37) hO rfl (by decide) rfl ?_
    refine s_aload_n (nx := 38) hO rfl rfl rfl ?_
    refine s_getf (v := .int (sI s1 139 114)) (nx := 41) hO rfl rfl (hs_o12 kc139) rfl rfl ?_
    refine s_ishl (nx := 42) hO rfl rfl ?_
    refine s_iconst (x := 1) (nx := 43) hO rfl (by decide) rfl ?_
    refine s_isub (nx := 44) hO rfl rfl ?_
    refine s_iand (nx := 45) hO rfl rfl ?_
    refine goV (wI s1 139 115 ((sI s1 139 115) &&& ((1 <<< ((sI s1 139 114) &&& 31)) - 1))) (fun s3 es3 => ?_)
    replace H := H s3 es3
    refine s_putf (nx := 48) hO rfl rfl (hs_o12 kc139) (Nat.le_of_ble_eq_true rfl) (by rw [hty]; rfl) (by rw [hty]; rfl) pX12_115 rfl ?_
    refine xEx.at (up_oI12 kc139 es3) ?_
    refine s_iload_n (nx := 49) hO rfl rfl rfl ?_
    refine s_iconst (x := (nI 2)) (nx := 50) hO rfl (by decide) rfl ?_
    refine s_icmp_eq (nx := 53) hO rfl rfl (fun c50 => ?_) (fun c50 => ?_)
    · replace H := H.1 c50
      refine s_iconst (x := 1) (nx := 59) hO rfl (by decide) rfl ?_
      refine s_goto hO rfl ?_
      exact s_iret hO rfl rfl rfl ⟨rfl, _, _, rfl, rfl, H⟩
    · replace H := H.2 c50
      refine s_iload_n (nx := 54) hO rfl rfl rfl ?_
      refine s_iload_n (nx := 55) hO rfl rfl rfl ?_
      refine s_icmp_ne (nx := 58) hO rfl rfl (fun c55 => ?_) (fun c55 => ?_)
      · replace H := H.1 c55
        refine s_iconst (x := 0) (nx := 63) hO rfl (by decide) rfl ?_
        exact s_iret hO rfl rfl rfl ⟨rfl, _, _, rfl, rfl, H⟩
      · replace H := H.2 c55
        refine s_iconst (x := 1) (nx := 59) hO rfl (by decide) rfl ?_
        refine s_goto hO rfl ?_
        exact s_iret hO rfl rfl rfl ⟨rfl, _, _, rfl, rfl, H⟩
  · replace H := H.2 c4
    refine s_iconst (x := 0) (nx := 8) hO rfl (by decide) rfl ?_
    exact s_iret hO rfl rfl rfl ⟨rfl, _, _, rfl, rfl, H⟩
def W_X12_isRow (s : yS) (v1 : Int32) (v2 : Int32) (Q : Int32 → Prop) : Prop :=
 vp_in v1 36 ∧ 
 Q (((sI s 181 (ix v1)) >>> (v2 &&& 31)) &&& 1)
set_option maxRecDepth 100000 in
set_option maxHeartbeats 40000000 in
theorem w_X12_isRow {G : xG} (hG : yG G) {z : Nat} {s : yS} {v1 : Int32} {v2 : Int32} {Q : Int32 → Prop} (H : W_X12_isRow s v1 v2 Q) : xC G mX12_isRow [.ref (q_b G + 139), .int v1, .int v2] (hS G s) z 0 0 (yPi G z s Q) := by
  have hW := hG.1
  have hcl := hG.2.1
  have hty := hG.2.2.1
  have hO : xO G mX12_isRow tbX12_isRow ptX12_isRow := ⟨tkX12_isRow, pkX12_isRow hcl⟩
  unfold W_X12_isRow at H
  refine xC.of hW (by decide) rfl (Nat.le_of_ble_eq_true rfl) ?_
  refine s_aload_n (nx := 1) hO rfl rfl rfl ?_
  refine s_getf (v := .ref (q_b G + 181)) (nx := 4) hO rfl rfl (hs_o12 kc139) rfl rfl ?_
  refine s_iload_n (nx := 5) hO rfl rfl rfl ?_
  obtain ⟨b1, H⟩ := H
  refine s_iald (nx := 6) hO rfl (hs_I kc181) b1 rfl ?_
  refine s_iload_n (nx := 7) hO rfl rfl rfl ?_
  refine s_ishr (nx := 8) hO rfl rfl ?_
  refine s_iconst (x := 1) (nx := 9) hO rfl (by decide) rfl ?_
  refine s_iand (nx := 10) hO rfl rfl ?_
  exact s_iret hO rfl rfl rfl ⟨rfl, _, rfl, rfl, H⟩
def W_X12_takesInts (s : yS) (v1 : Int32) (Q : Int32 → yS → Prop) : Prop :=
 ∀ P4 : Int32 → Int32 → yS → Prop, (∀ (x1 : Int32) (x2 : Int32) (s3 : yS), (((v1 ≤ x2 → zb x1 ∧ Q x1 s3)
  ∧ (¬ v1 ≤ x2 → ∀ P26 : Int32 → yS → Prop, (∀ (y5 : Int32) (s6 : yS), (∀ x7 : Int32, x7 = (x2 + 1) → 
    P4 y5 x7 s6) → P26 y5 s6) → 
   ((x1 = 0 → P26 0 s3)
   ∧ (¬ x1 = 0 → W_X12_takes s3 0 
    (fun r8 s9 => ((r8 = 0 → P26 0 s9)
    ∧ (¬ r8 = 0 → P26 1 s9)))))))) → P4 x1 x2 s3) → 
 P4 1 0 s
set_option maxRecDepth 100000 in
set_option maxHeartbeats 40000000 in
theorem w_X12_takesInts {G : xG} (hG : yG G) {z : Nat} {s : yS} {v1 : Int32} {Q : Int32 → yS → Prop} (H : W_X12_takesInts s v1 Q) : xC G mX12_takesInts [.ref (q_b G + 139), .int v1] (hS G s) z 0 0 (yQi G z Q) := by
  have hW := hG.1
  have hcl := hG.2.1
  have hty := hG.2.2.1
  have hO : xO G mX12_takesInts tbX12_takesInts ptX12_takesInts := ⟨tkX12_takesInts, pkX12_takesInts hcl⟩
  unfold W_X12_takesInts at H
  refine xC.of hW (by decide) rfl (Nat.le_of_ble_eq_true rfl) ?_
  refine s_iconst (x := 1) (nx := 1) hO rfl (by decide) rfl ?_
  refine s_istore_n (nx := 2) (l' := [(2, .int 1), (0, .ref (q_b G + 139)), (1, .int v1)]) hO rfl (by decide) rfl rfl ?_
  refine s_iconst (x := 0) (nx := 3) hO rfl (by decide) rfl ?_
  refine goK (H (fun (x1 : Int32) (x2 : Int32) (s3 : yS) => xEx G mX12_takesInts 4 [(0, .ref (q_b G + 139)), (1, .int v1), (2, .int x1), (3, .int x2)] [] (hS G s3) z 0 0 (yQi G z Q)) (fun x1 x2 s3 H => ?_)) (fun H => ?_)
  · show xEx G mX12_takesInts 4 [(0, .ref (q_b G + 139)), (1, .int v1), (2, .int x1), (3, .int x2)] [] (hS G s3) z 0 0 (yQi G z Q)
    refine s_iload_n (nx := 5) hO rfl rfl rfl ?_
    refine s_iload_n (nx := 6) hO rfl rfl rfl ?_
    refine s_icmp_ge (nx := 9) hO rfl rfl (fun c6 => ?_) (fun c6 => ?_)
    · replace H := H.1 c6
      refine s_iload_n (nx := 34) hO rfl rfl rfl ?_
      obtain ⟨b4, H⟩ := H
      exact s_iret hO rfl rfl (zb_n b4) ⟨rfl, _, _, rfl, rfl, H⟩
    · replace H := H.2 c6
      refine s_iload_n (nx := 10) hO rfl rfl rfl ?_
      refine goK (H (fun (y5 : Int32) (s6 : yS) => xEx G mX12_takesInts 26 [(0, .ref (q_b G + 139)), (1, .int v1), (3, .int x2)] [.int y5] (hS G s6) z 0 0 (yQi G z Q)) (fun y5 s6 H => ?_)) (fun H => ?_)
      · show xEx G mX12_takesInts 26 [(0, .ref (q_b G + 139)), (1, .int v1), (3, .int x2)] [.int y5] (hS G s6) z 0 0 (yQi G z Q)
        refine s_istore_n (nx := 27) (l' := [(2, .int y5), (0, .ref (q_b G + 139)), (1, .int v1), (3, .int x2)]) hO rfl (by decide) rfl rfl ?_
        refine goV ((x2 + 1)) (fun x7 ex7 => ?_)
        replace H := H x7 ex7
        refine e_iinc (nx := 30) (l' := [(3, .int x7), (2, .int y5), (0, .ref (q_b G + 139)), (1, .int v1)]) ex7 hO rfl (by decide) rfl rfl rfl rfl ?_
        refine s_goto hO rfl ?_
        exact xEx.loc (x_sub1 (List.Mem.tail _ (List.Mem.tail _ (List.Mem.head _))) (x_sub1 (List.Mem.tail _ (List.Mem.tail _ (List.Mem.tail _ (List.Mem.head _)))) (x_sub1 (List.Mem.tail _ (List.Mem.head _)) (x_sub1 (List.Mem.head _) x_sub0)))) H
      refine s_if_eq (nx := 13) hO rfl rfl (fun c10 => ?_) (fun c10 => ?_)
      · replace H := H.1 c10
        refine s_iconst (x := 0) (nx := 26) hO rfl (by decide) rfl ?_
        exact xEx.loc (x_sub1 (List.Mem.head _) (x_sub1 (List.Mem.tail _ (List.Mem.head _)) (x_sub1 (List.Mem.tail _ (List.Mem.tail _ (List.Mem.tail _ (List.Mem.head _)))) x_sub0))) H
      · replace H := H.2 c10
        refine s_aload_n (nx := 14) hO rfl rfl rfl ?_
        refine s_iconst (x := 0) (nx := 15) hO rfl (by decide) rfl ?_
        refine s_callV [.int 0] (ci := 12) (F := TX12) (N := 116) (nx := 18) hO rfl kX12_takesInts_555 (by rw [hcl]; rfl) (hs_o12 kc139) (w_X12_takes hG H) rfl rfl (Nat.le_of_ble_eq_true rfl) (Nat.zero_le _) (Nat.zero_le _) rfl (k_Qi (fun r8 s9 H => ?_))
        refine s_if_eq (nx := 21) hO rfl rfl (fun c18 => ?_) (fun c18 => ?_)
        · replace H := H.1 c18
          refine s_iconst (x := 0) (nx := 26) hO rfl (by decide) rfl ?_
          exact xEx.loc (x_sub1 (List.Mem.head _) (x_sub1 (List.Mem.tail _ (List.Mem.head _)) (x_sub1 (List.Mem.tail _ (List.Mem.tail _ (List.Mem.tail _ (List.Mem.head _)))) x_sub0))) H
        · replace H := H.2 c18
          refine s_iconst (x := 1) (nx := 22) hO rfl (by decide) rfl ?_
          refine s_goto hO rfl ?_
          exact xEx.loc (x_sub1 (List.Mem.head _) (x_sub1 (List.Mem.tail _ (List.Mem.head _)) (x_sub1 (List.Mem.tail _ (List.Mem.tail _ (List.Mem.tail _ (List.Mem.head _)))) x_sub0))) H
  refine s_istore_n (nx := 4) (l' := [(3, .int 0), (2, .int 1), (0, .ref (q_b G + 139)), (1, .int v1)]) hO rfl (by decide) rfl rfl ?_
  exact xEx.loc (x_sub1 (List.Mem.tail _ (List.Mem.tail _ (List.Mem.head _))) (x_sub1 (List.Mem.tail _ (List.Mem.tail _ (List.Mem.tail _ (List.Mem.head _)))) (x_sub1 (List.Mem.tail _ (List.Mem.head _)) (x_sub1 (List.Mem.head _) x_sub0)))) H
def W_X12_moves (s : yS) (v1 : Int32) (v2 : Int32) (v3 : Int32) (v4 : Int32) (Q : Int32 → yS → Prop) : Prop :=
 ∀ x1 : Int32, x1 = (((nI 12) * v1) + v2) → 
 ((¬ v3 = 0 → ((¬ v3 = 1 → ((¬ v3 = (nI 2) → ((¬ v3 = (nI 3) → ((¬ v3 = (nI 4) → ((¬ v3 = (nI 5) → (((nI 18) ≤ v3 → ∀ P283 : Prop, ((W_X12_takes s 0 
         (fun r2 s3 => zb r2 ∧ Q r2 s3)) → P283) → 
        ((v3 = (nI 19) → P283)
        ∧ (¬ v3 = (nI 19) → ((v3 = (nI 20) → P283)
         ∧ (¬ v3 = (nI 20) → ((¬ v3 = (nI 28) → ((¬ v3 = (nI 21) → ((¬ v3 = (nI 22) → ((¬ v3 = (nI 23) → ((¬ v3 = (nI 24) → ((¬ v3 = (nI 25) → ((¬ v3 = (nI 26) → ∀ P552 : Prop, ((((¬ v3 = (nI 29) → Q 1 s)
                  ∧ (v3 = (nI 29) → W_X12_takesInts s (v4 - v4 / (nI 4) * (nI 4)) 
                   (fun r5 s6 => ∀ P571 : Int32 → yS → Prop, (∀ (x7 : Int32) (s8 : yS), ((((v4 - v4 / (nI 4) * (nI 4)) ≤ x7 → zb r5 ∧ Q r5 s8)
                    ∧ (¬ (v4 - v4 / (nI 4) * (nI 4)) ≤ x7 → W_X12_puts s8 0 
                     (fun s10 => ∀ x11 : Int32, x11 = (x7 + 1) → 
                     P571 x11 s10)))) → P571 x7 s8) → 
                   P571 0 s6)))) → P552) → 
                 ((¬ v3 = (nI 27) → P552)
                 ∧ (v3 = (nI 27) → vp_in x1 36 ∧ 
                  (((sI s 182 (ix x1)) ≤ 0 → P552)
                  ∧ (¬ (sI s 182 (ix x1)) ≤ 0 → vp_in x1 36 ∧ 
                   W_X12_takes s ((sI s 182 (ix x1)) - 1) 
                   (fun r14 s15 => zb r14 ∧ Q r14 s15))))))
                ∧ (v3 = (nI 26) → W_X12_takesInts s (v4 - v4 / (nI 4) * (nI 4)) 
                 (fun r17 s18 => W_X12_puts s18 0 
                 (fun s19 => zb r17 ∧ Q r17 s19)))))
               ∧ (v3 = (nI 25) → ∀ x21 : Int32, x21 = (((nI 12) * v1) + v4) → 
                vp_in x21 36 ∧ 
                ∀ P430 : Int32 → Int32 → yS → Prop, (∀ (x23 : Int32) (x24 : Int32) (s25 : yS), (((x24 < 0 → vp_in x21 36 ∧ 
                  (((sI s25 182 (ix x21)) ≤ 0 → zb x23 ∧ Q x23 s25)
                  ∧ (¬ (sI s25 182 (ix x21)) ≤ 0 → vp_in x21 36 ∧ 
                   W_X12_puts s25 ((sI s25 182 (ix x21)) - 1) 
                   (fun s29 => zb x23 ∧ Q x23 s29))))
                 ∧ (¬ x24 < 0 → ∀ P460 : Int32 → yS → Prop, (∀ (y31 : Int32) (s32 : yS), (∀ x33 : Int32, x33 = (x24 + (-1)) → 
                   P430 y31 x33 s32) → P460 y31 s32) → 
                  ((x23 = 0 → P460 0 s25)
                  ∧ (¬ x23 = 0 → W_X12_isRow s25 x21 x24 
                   (fun r34 => W_X12_takes s25 r34 
                   (fun r35 s36 => ((r35 = 0 → P460 0 s36)
                   ∧ (¬ r35 = 0 → P460 1 s36))))))))) → P430 x23 x24 s25) → 
                ∀ x37 : Int32, x37 = ((sI s 179 (ix x21)) - 1) → 
                P430 1 x37 s)))
              ∧ (v3 = (nI 24) → W_X12_takes s 1 
               (fun r38 s39 => W_X12_puts s39 0 
               (fun s40 => zb r38 ∧ Q r38 s40)))))
             ∧ (v3 = (nI 23) → W_X12_takesInts s (nI 2) 
              (fun r42 s43 => ((r42 = 0 → Q 0 s43)
              ∧ (¬ r42 = 0 → W_X12_takes s43 1 
               (fun r44 s45 => ((r44 = 0 → Q 0 s45)
               ∧ (¬ r44 = 0 → Q 1 s45)))))))))
            ∧ (v3 = (nI 22) → W_X12_takes s 0 
             (fun r46 s47 => ∀ P341 : Int32 → yS → Prop, (∀ (y48 : Int32) (s49 : yS), (W_X12_puts s49 0 
              (fun s50 => zb y48 ∧ Q y48 s50)) → P341 y48 s49) → 
             ((r46 = 0 → P341 0 s47)
             ∧ (¬ r46 = 0 → W_X12_takes s47 1 
              (fun r52 s53 => ((r52 = 0 → P341 0 s53)
              ∧ (¬ r52 = 0 → P341 1 s53)))))))))
           ∧ (v3 = (nI 21) → W_X12_takes s 0 
            (fun r54 s55 => W_X12_puts s55 1 
            (fun s56 => zb r54 ∧ Q r54 s56)))))
          ∧ (v3 = (nI 28) → P283)))))))
       ∧ (¬ (nI 18) ≤ v3 → W_X12_takesInts s (nI 2) 
        (fun r58 s59 => W_X12_puts s59 0 
        (fun s60 => zb r58 ∧ Q r58 s60)))))
      ∧ (v3 = (nI 5) → W_X12_isRow s x1 v4 
       (fun r62 => W_X12_takes s r62 
       (fun r63 s64 => zb r63 ∧ Q r63 s64)))))
     ∧ (v3 = (nI 4) → W_X12_isRow s x1 v4 
      (fun r66 => W_X12_puts s r66 
      (fun s67 => Q 1 s67)))))
    ∧ (v3 = (nI 3) → ∀ P104 : Int32 → Prop, (∀ (y68 : Int32), (∀ P128 : Int32 → Prop, (∀ (y69 : Int32), (∀ P152 : Int32 → Prop, (∀ (y70 : Int32), (∀ P180 : Int32 → yS → Prop, (∀ (y71 : Int32) (s72 : yS), (((y71 = 0 → zb y71 ∧ Q y71 s72)
         ∧ (¬ y71 = 0 → W_X12_puts s72 y69 
          (fun s74 => W_X12_puts s74 y70 
          (fun s75 => zb y71 ∧ Q y71 s75))))) → P180 y71 s72) → 
        ((y68 = 0 → P180 0 s)
        ∧ (¬ y68 = 0 → W_X12_takes s (nI 2) 
         (fun r77 s78 => ((r77 = 0 → P180 0 s78)
         ∧ (¬ r77 = 0 → W_X12_takes s78 (nI 2) 
          (fun r79 s80 => ((r79 = 0 → P180 0 s80)
          ∧ (¬ r79 = 0 → P180 1 s80))))))))) → P152 y70) → 
       ((y68 = 0 → P152 0)
       ∧ (¬ y68 = 0 → P152 (((sI s 139 115) >>> (((sI s 139 114) - (nI 2)) &&& 31)) &&& 1)))) → P128 y69) → 
      ((y68 = 0 → P128 0)
      ∧ (¬ y68 = 0 → P128 (((sI s 139 115) >>> (((sI s 139 114) - 1) &&& 31)) &&& 1)))) → P104 y68) → 
     (((sI s 139 114) ≤ 1 → P104 0)
     ∧ (¬ (sI s 139 114) ≤ 1 → P104 1)))))
   ∧ (v3 = (nI 2) → ∀ P55 : Int32 → Prop, (∀ (y81 : Int32), (∀ P80 : Int32 → Prop, (∀ (y82 : Int32), (W_X12_puts s y82 
      (fun s83 => zb y81 ∧ Q y81 s83)) → P80 y82) → 
     ((y81 = 0 → P80 0)
     ∧ (¬ y81 = 0 → P80 (((sI s 139 115) >>> (((sI s 139 114) - 1) &&& 31)) &&& 1)))) → P55 y81) → 
    (((sI s 139 114) ≤ 0 → P55 0)
    ∧ (¬ (sI s 139 114) ≤ 0 → P55 1)))))
  ∧ (v3 = 1 → W_X12_takes s (nI 2) 
   (fun r85 s86 => zb r85 ∧ Q r85 s86))))
 ∧ (v3 = 0 → W_X12_puts s 0 
  (fun s88 => Q 1 s88)))
set_option maxRecDepth 100000 in
set_option maxHeartbeats 40000000 in
theorem w_X12_moves {G : xG} (hG : yG G) {z : Nat} {s : yS} {v1 : Int32} {v2 : Int32} {v3 : Int32} {v4 : Int32} {Q : Int32 → yS → Prop} (H : W_X12_moves s v1 v2 v3 v4 Q) : xC G mX12_moves [.ref (q_b G + 139), .int v1, .int v2, .int v3, .int v4] (hS G s) z 0 0 (yQi G z Q) := by
  have hW := hG.1
  have hcl := hG.2.1
  have hty := hG.2.2.1
  have hO : xO G mX12_moves tbX12_moves ptX12_moves := ⟨tkX12_moves, pkX12_moves hcl⟩
  unfold W_X12_moves at H
  refine xC.of hW (by decide) rfl (Nat.le_of_ble_eq_true rfl) ?_
  refine s_bipush (x := (nI 12)) (nx := 2) hO rfl (by decide) rfl ?_
  refine s_iload_n (nx := 3) hO rfl rfl rfl ?_
  refine s_imul (nx := 4) hO rfl rfl ?_
  refine s_iload_n (nx := 5) hO rfl rfl rfl ?_
  refine s_iadd (nx := 6) hO rfl rfl ?_
  refine goV ((((nI 12) * v1) + v2)) (fun x1 ex1 => ?_)
  replace H := H x1 ex1
  refine e_istore (nx := 8) (l' := [(5, .int x1), (0, .ref (q_b G + 139)), (1, .int v1), (2, .int v2), (3, .int v3), (4, .int v4)]) ex1 hO rfl (by decide) rfl rfl ?_
  refine s_iconst (x := 1) (nx := 9) hO rfl (by decide) rfl ?_
  refine s_istore (nx := 11) (l' := [(6, .int 1), (5, .int x1), (0, .ref (q_b G + 139)), (1, .int v1), (2, .int v2), (3, .int v3), (4, .int v4)]) hO rfl (by decide) rfl rfl ?_
  refine s_iload_n (nx := 12) hO rfl rfl rfl ?_
  refine s_if_ne (nx := 15) hO rfl rfl (fun c12 => ?_) (fun c12 => ?_)
  · replace H := H.1 c12
    refine s_iload_n (nx := 24) hO rfl rfl rfl ?_
    refine s_iconst (x := 1) (nx := 25) hO rfl (by decide) rfl ?_
    refine s_icmp_ne (nx := 28) hO rfl rfl (fun c25 => ?_) (fun c25 => ?_)
    · replace H := H.1 c25
      refine s_iload_n (nx := 39) hO rfl rfl rfl ?_
      refine s_iconst (x := (nI 2)) (nx := 40) hO rfl (by decide) rfl ?_
      refine s_icmp_ne (nx := 43) hO rfl rfl (fun c40 => ?_) (fun c40 => ?_)
      · replace H := H.1 c40
        refine s_iload_n (nx := 87) hO rfl rfl rfl ?_
        refine s_iconst (x := (nI 3)) (nx := 88) hO rfl (by decide) rfl ?_
        refine s_icmp_ne (nx := 91) hO rfl rfl (fun c88 => ?_) (fun c88 => ?_)
        · replace H := H.1 c88
          refine s_iload_n (nx := 203) hO rfl rfl rfl ?_
          refine s_iconst (x := (nI 4)) (nx := 204) hO rfl (by decide) rfl ?_
          refine s_icmp_ne (nx := 207) hO rfl rfl (fun c204 => ?_) (fun c204 => ?_)
          · replace H := H.1 c204
            refine s_iload_n (nx := 223) hO rfl rfl rfl ?_
            refine s_iconst (x := (nI 5)) (nx := 224) hO rfl (by decide) rfl ?_
            refine s_icmp_ne (nx := 227) hO rfl rfl (fun c224 => ?_) (fun c224 => ?_)
            · replace H := H.1 c224
              refine s_iload_n (nx := 245) hO rfl rfl rfl ?_
              refine s_bipush (x := (nI 18)) (nx := 247) hO rfl (by decide) rfl ?_
              refine s_icmp_ge (nx := 250) hO rfl rfl (fun c247 => ?_) (fun c247 => ?_)
              · replace H := H.1 c247
                refine s_iload_n (nx := 266) hO rfl rfl rfl ?_
                refine s_bipush (x := (nI 19)) (nx := 268) hO rfl (by decide) rfl ?_
                refine goK (H (xEx G mX12_moves 283 [(0, .ref (q_b G + 139))] [] (hS G s) z 0 0 (yQi G z Q)) (fun H => ?_)) (fun H => ?_)
                · show xEx G mX12_moves 283 [(0, .ref (q_b G + 139))] [] (hS G s) z 0 0 (yQi G z Q)
                  refine s_aload_n (nx := 284) hO rfl rfl rfl ?_
                  refine s_iconst (x := 0) (nx := 285) hO rfl (by decide) rfl ?_
                  refine s_callV [.int 0] (ci := 12) (F := TX12) (N := 116) (nx := 288) hO rfl kX12_moves_555 (by rw [hcl]; rfl) (hs_o12 kc139) (w_X12_takes hG H) rfl rfl (Nat.le_of_ble_eq_true rfl) (Nat.zero_le _) (Nat.zero_le _) rfl (k_Qi (fun r2 s3 H => ?_))
                  refine s_istore (nx := 290) (l' := [(6, .int r2), (0, .ref (q_b G + 139))]) hO rfl (by decide) rfl rfl ?_
                  refine s_goto hO rfl ?_
                  refine s_iload (nx := 593) hO rfl rfl rfl ?_
                  obtain ⟨b4, H⟩ := H
                  exact s_iret hO rfl rfl (zb_n b4) ⟨rfl, _, _, rfl, rfl, H⟩
                refine s_icmp_eq (nx := 271) hO rfl rfl (fun c268 => ?_) (fun c268 => ?_)
                · replace H := H.1 c268
                  exact xEx.loc (x_sub1 (List.Mem.tail _ (List.Mem.tail _ (List.Mem.head _))) x_sub0) H
                · replace H := H.2 c268
                  refine s_iload_n (nx := 272) hO rfl rfl rfl ?_
                  refine s_bipush (x := (nI 20)) (nx := 274) hO rfl (by decide) rfl ?_
                  refine s_icmp_eq (nx := 277) hO rfl rfl (fun c274 => ?_) (fun c274 => ?_)
                  · replace H := H.1 c274
                    exact xEx.loc (x_sub1 (List.Mem.tail _ (List.Mem.tail _ (List.Mem.head _))) x_sub0) H
                  · replace H := H.2 c274
                    refine s_iload_n (nx := 278) hO rfl rfl rfl ?_
                    refine s_bipush (x := (nI 28)) (nx := 280) hO rfl (by decide) rfl ?_
                    refine s_icmp_ne (nx := 283) hO rfl rfl (fun c280 => ?_) (fun c280 => ?_)
                    · replace H := H.1 c280
                      refine s_iload_n (nx := 294) hO rfl rfl rfl ?_
                      refine s_bipush (x := (nI 21)) (nx := 296) hO rfl (by decide) rfl ?_
                      refine s_icmp_ne (nx := 299) hO rfl rfl (fun c296 => ?_) (fun c296 => ?_)
                      · replace H := H.1 c296
                        refine s_iload_n (nx := 315) hO rfl rfl rfl ?_
                        refine s_bipush (x := (nI 22)) (nx := 317) hO rfl (by decide) rfl ?_
                        refine s_icmp_ne (nx := 320) hO rfl rfl (fun c317 => ?_) (fun c317 => ?_)
                        · replace H := H.1 c317
                          refine s_iload_n (nx := 352) hO rfl rfl rfl ?_
                          refine s_bipush (x := (nI 23)) (nx := 354) hO rfl (by decide) rfl ?_
                          refine s_icmp_ne (nx := 357) hO rfl rfl (fun c354 => ?_) (fun c354 => ?_)
                          · replace H := H.1 c354
                            refine s_iload_n (nx := 384) hO rfl rfl rfl ?_
                            refine s_bipush (x := (nI 24)) (nx := 386) hO rfl (by decide) rfl ?_
                            refine s_icmp_ne (nx := 389) hO rfl rfl (fun c386 => ?_) (fun c386 => ?_)
                            · replace H := H.1 c386
                              refine s_iload_n (nx := 405) hO rfl rfl rfl ?_
                              refine s_bipush (x := (nI 25)) (nx := 407) hO rfl (by decide) rfl ?_
                              refine s_icmp_ne (nx := 410) hO rfl rfl (fun c407 => ?_) (fun c407 => ?_)
                              · replace H := H.1 c407
                                refine s_iload_n (nx := 495) hO rfl rfl rfl ?_
                                refine s_bipush (x := (nI 26)) (nx := 497) hO rfl (by decide) rfl ?_
                                refine s_icmp_ne (nx := 500) hO rfl rfl (fun c497 => ?_) (fun c497 => ?_)
                                · replace H := H.1 c497
                                  refine s_iload_n (nx := 519) hO rfl rfl rfl ?_
                                  refine s_bipush (x := (nI 27)) (nx := 521) hO rfl (by decide) rfl ?_
                                  refine goK (H (xEx G mX12_moves 552 [(0, .ref (q_b G + 139)), (3, .int v3), (4, .int v4), (6, .int 1)] [] (hS G s) z 0 0 (yQi G z Q)) (fun H => ?_)) (fun H => ?_)
                                  · show xEx G mX12_moves 552 [(0, .ref (q_b G + 139)), (3, .int v3), (4, .int v4), (6, .int 1)] [] (hS G s) z 0 0 (yQi G z Q)
                                    refine s_iload_n (nx := 553) hO rfl rfl rfl ?_
                                    refine s_bipush (x := (nI 29)) (nx := 555) hO rfl (by decide) rfl ?_
                                    refine s_icmp_ne (nx := 558) hO rfl rfl (fun c555 => ?_) (fun c555 => ?_)
                                    · replace H := H.1 c555
                                      refine s_iload (nx := 593) hO rfl rfl rfl ?_
                                      exact s_iret hO rfl rfl rfl ⟨rfl, _, _, rfl, rfl, H⟩
                                    · replace H := H.2 c555
                                      refine s_aload_n (nx := 559) hO rfl rfl rfl ?_
                                      refine s_iload (nx := 561) hO rfl rfl rfl ?_
                                      refine s_iconst (x := (nI 4)) (nx := 562) hO rfl (by decide) rfl ?_
                                      refine s_irem (nx := 563) hO rfl (by decide) rfl ?_
                                      refine s_callV [.int (v4 - v4 / (nI 4) * (nI 4))] (ci := 12) (F := TX12) (N := 116) (nx := 566) hO rfl kX12_moves_564 (by rw [hcl]; rfl) (hs_o12 kc139) (w_X12_takesInts hG H) rfl rfl (Nat.le_of_ble_eq_true rfl) (Nat.zero_le _) (Nat.zero_le _) rfl (k_Qi (fun r5 s6 H => ?_))
                                      refine s_istore (nx := 568) (l' := [(6, .int r5), (0, .ref (q_b G + 139)), (3, .int v3), (4, .int v4)]) hO rfl (by decide) rfl rfl ?_
                                      refine s_iconst (x := 0) (nx := 569) hO rfl (by decide) rfl ?_
                                      refine goK (H (fun (x7 : Int32) (s8 : yS) => xEx G mX12_moves 571 [(0, .ref (q_b G + 139)), (4, .int v4), (6, .int r5), (7, .int x7)] [] (hS G s8) z 0 0 (yQi G z Q)) (fun x7 s8 H => ?_)) (fun H => ?_)
                                      · show xEx G mX12_moves 571 [(0, .ref (q_b G + 139)), (4, .int v4), (6, .int r5), (7, .int x7)] [] (hS G s8) z 0 0 (yQi G z Q)
                                        refine s_iload (nx := 573) hO rfl rfl rfl ?_
                                        refine s_iload (nx := 575) hO rfl rfl rfl ?_
                                        refine s_iconst (x := (nI 4)) (nx := 576) hO rfl (by decide) rfl ?_
                                        refine s_irem (nx := 577) hO rfl (by decide) rfl ?_
                                        refine s_icmp_ge (nx := 580) hO rfl rfl (fun c577 => ?_) (fun c577 => ?_)
                                        · replace H := H.1 c577
                                          refine s_iload (nx := 593) hO rfl rfl rfl ?_
                                          obtain ⟨b9, H⟩ := H
                                          exact s_iret hO rfl rfl (zb_n b9) ⟨rfl, _, _, rfl, rfl, H⟩
                                        · replace H := H.2 c577
                                          refine s_aload_n (nx := 581) hO rfl rfl rfl ?_
                                          refine s_iconst (x := 0) (nx := 582) hO rfl (by decide) rfl ?_
                                          refine s_callV [.int 0] (ci := 12) (F := TX12) (N := 116) (nx := 585) hO rfl kX12_moves_558 (by rw [hcl]; rfl) (hs_o12 kc139) (w_X12_puts hG H) rfl rfl (Nat.le_of_ble_eq_true rfl) (Nat.zero_le _) (Nat.zero_le _) rfl (k_Qv (fun s10 H => ?_))
                                          refine goV ((x7 + 1)) (fun x11 ex11 => ?_)
                                          replace H := H x11 ex11
                                          refine e_iinc (nx := 588) (l' := [(7, .int x11), (0, .ref (q_b G + 139)), (4, .int v4), (6, .int r5)]) ex11 hO rfl (by decide) rfl rfl rfl rfl ?_
                                          refine s_goto hO rfl ?_
                                          exact xEx.loc (x_sub1 (List.Mem.tail _ (List.Mem.head _)) (x_sub1 (List.Mem.tail _ (List.Mem.tail _ (List.Mem.head _))) (x_sub1 (List.Mem.tail _ (List.Mem.tail _ (List.Mem.tail _ (List.Mem.head _)))) (x_sub1 (List.Mem.head _) x_sub0)))) H
                                      refine s_istore (nx := 571) (l' := [(7, .int 0), (6, .int r5), (0, .ref (q_b G + 139)), (3, .int v3), (4, .int v4)]) hO rfl (by decide) rfl rfl ?_
                                      exact xEx.loc (x_sub1 (List.Mem.tail _ (List.Mem.tail _ (List.Mem.head _))) (x_sub1 (List.Mem.tail _ (List.Mem.tail _ (List.Mem.tail _ (List.Mem.tail _ (List.Mem.head _))))) (x_sub1 (List.Mem.tail _ (List.Mem.head _)) (x_sub1 (List.Mem.head _) x_sub0)))) H
                                  refine s_icmp_ne (nx := 524) hO rfl rfl (fun c521 => ?_) (fun c521 => ?_)
                                  · replace H := H.1 c521
                                    exact xEx.loc (x_sub1 (List.Mem.tail _ (List.Mem.tail _ (List.Mem.head _))) (x_sub1 (List.Mem.tail _ (List.Mem.tail _ (List.Mem.tail _ (List.Mem.tail _ (List.Mem.tail _ (List.Mem.head _)))))) (x_sub1 (List.Mem.tail _ (List.Mem.tail _ (List.Mem.tail _ (List.Mem.tail _ (List.Mem.tail _ (List.Mem.tail _ (List.Mem.head _))))))) (x_sub1 (List.Mem.head _) x_sub0)))) H
                                  · replace H := H.2 c521
                                    refine s_aload_n (nx := 525) hO rfl rfl rfl ?_
                                    refine s_getf (v := .ref (q_b G + 182)) (nx := 528) hO rfl rfl (hs_o12 kc139) rfl rfl ?_
                                    refine s_iload (nx := 530) hO rfl rfl rfl ?_
                                    obtain ⟨b12, H⟩ := H
                                    refine s_iald (nx := 531) hO rfl (hs_I kc182) b12 rfl ?_
                                    refine s_if_le (nx := 534) hO rfl rfl (fun c531 => ?_) (fun c531 => ?_)
                                    · replace H := H.1 c531
                                      exact xEx.loc (x_sub1 (List.Mem.tail _ (List.Mem.tail _ (List.Mem.head _))) (x_sub1 (List.Mem.tail _ (List.Mem.tail _ (List.Mem.tail _ (List.Mem.tail _ (List.Mem.tail _ (List.Mem.head _)))))) (x_sub1 (List.Mem.tail _ (List.Mem.tail _ (List.Mem.tail _ (List.Mem.tail _ (List.Mem.tail _ (List.Mem.tail _ (List.Mem.head _))))))) (x_sub1 (List.Mem.head _) x_sub0)))) H
                                    · replace H := H.2 c531
                                      refine s_aload_n (nx := 535) hO rfl rfl rfl ?_
                                      refine s_aload_n (nx := 536) hO rfl rfl rfl ?_
                                      refine s_getf (v := .ref (q_b G + 182)) (nx := 539) hO rfl rfl (hs_o12 kc139) rfl rfl ?_
                                      refine s_iload (nx := 541) hO rfl rfl rfl ?_
                                      obtain ⟨b13, H⟩ := H
                                      refine s_iald (nx := 542) hO rfl (hs_I kc182) b13 rfl ?_
                                      refine s_iconst (x := 1) (nx := 543) hO rfl (by decide) rfl ?_
                                      refine s_isub (nx := 544) hO rfl rfl ?_
                                      refine s_callV [.int ((sI s 182 (ix x1)) - 1)] (ci := 12) (F := TX12) (N := 116) (nx := 547) hO rfl kX12_moves_555 (by rw [hcl]; rfl) (hs_o12 kc139) (w_X12_takes hG H) rfl rfl (Nat.le_of_ble_eq_true rfl) (Nat.zero_le _) (Nat.zero_le _) rfl (k_Qi (fun r14 s15 H => ?_))
                                      refine s_istore (nx := 549) (l' := [(6, .int r14), (5, .int x1), (0, .ref (q_b G + 139)), (1, .int v1), (2, .int v2), (3, .int v3), (4, .int v4)]) hO rfl (by decide) rfl rfl ?_
                                      refine s_goto hO rfl ?_
                                      refine s_iload (nx := 593) hO rfl rfl rfl ?_
                                      obtain ⟨b16, H⟩ := H
                                      exact s_iret hO rfl rfl (zb_n b16) ⟨rfl, _, _, rfl, rfl, H⟩
                                · replace H := H.2 c497
                                  refine s_aload_n (nx := 501) hO rfl rfl rfl ?_
                                  refine s_iload (nx := 503) hO rfl rfl rfl ?_
                                  refine s_iconst (x := (nI 4)) (nx := 504) hO rfl (by decide) rfl ?_
                                  refine s_irem (nx := 505) hO rfl (by decide) rfl ?_
                                  refine s_callV [.int (v4 - v4 / (nI 4) * (nI 4))] (ci := 12) (F := TX12) (N := 116) (nx := 508) hO rfl kX12_moves_564 (by rw [hcl]; rfl) (hs_o12 kc139) (w_X12_takesInts hG H) rfl rfl (Nat.le_of_ble_eq_true rfl) (Nat.zero_le _) (Nat.zero_le _) rfl (k_Qi (fun r17 s18 H => ?_))
                                  refine s_istore (nx := 510) (l' := [(6, .int r17), (5, .int x1), (0, .ref (q_b G + 139)), (1, .int v1), (2, .int v2), (3, .int v3), (4, .int v4)]) hO rfl (by decide) rfl rfl ?_
                                  refine s_aload_n (nx := 511) hO rfl rfl rfl ?_
                                  refine s_iconst (x := 0) (nx := 512) hO rfl (by decide) rfl ?_
                                  refine s_callV [.int 0] (ci := 12) (F := TX12) (N := 116) (nx := 515) hO rfl kX12_moves_558 (by rw [hcl]; rfl) (hs_o12 kc139) (w_X12_puts hG H) rfl rfl (Nat.le_of_ble_eq_true rfl) (Nat.zero_le _) (Nat.zero_le _) rfl (k_Qv (fun s19 H => ?_))
                                  refine s_goto hO rfl ?_
                                  refine s_iload (nx := 593) hO rfl rfl rfl ?_
                                  obtain ⟨b20, H⟩ := H
                                  exact s_iret hO rfl rfl (zb_n b20) ⟨rfl, _, _, rfl, rfl, H⟩
                              · replace H := H.2 c407
                                refine s_bipush (x := (nI 12)) (nx := 412) hO rfl (by decide) rfl ?_
                                refine s_iload_n (nx := 413) hO rfl rfl rfl ?_
                                refine s_imul (nx := 414) hO rfl rfl ?_
                                refine s_iload (nx := 416) hO rfl rfl rfl ?_
                                refine s_iadd (nx := 417) hO rfl rfl ?_
                                refine goV ((((nI 12) * v1) + v4)) (fun x21 ex21 => ?_)
                                replace H := H x21 ex21
                                refine e_istore (nx := 419) (l' := [(7, .int x21), (6, .int 1), (5, .int x1), (0, .ref (q_b G + 139)), (1, .int v1), (2, .int v2), (3, .int v3), (4, .int v4)]) ex21 hO rfl (by decide) rfl rfl ?_
                                refine s_aload_n (nx := 420) hO rfl rfl rfl ?_
                                refine s_getf (v := .ref (q_b G + 179)) (nx := 423) hO rfl rfl (hs_o12 kc139) rfl rfl ?_
                                refine s_iload (nx := 425) hO rfl rfl rfl ?_
                                obtain ⟨b22, H⟩ := H
                                refine s_iald (nx := 426) hO rfl (hs_I kc179) b22 rfl ?_
                                refine s_iconst (x := 1) (nx := 427) hO rfl (by decide) rfl ?_
                                refine s_isub (nx := 428) hO rfl rfl ?_
                                refine goK (H (fun (x23 : Int32) (x24 : Int32) (s25 : yS) => xEx G mX12_moves 430 [(0, .ref (q_b G + 139)), (6, .int x23), (7, .int x21), (8, .int x24)] [] (hS G s25) z 0 0 (yQi G z Q)) (fun x23 x24 s25 H => ?_)) (fun H => ?_)
                                · show xEx G mX12_moves 430 [(0, .ref (q_b G + 139)), (6, .int x23), (7, .int x21), (8, .int x24)] [] (hS G s25) z 0 0 (yQi G z Q)
                                  refine s_iload (nx := 432) hO rfl rfl rfl ?_
                                  refine s_if_lt (nx := 435) hO rfl rfl (fun c432 => ?_) (fun c432 => ?_)
                                  · replace H := H.1 c432
                                    refine s_aload_n (nx := 469) hO rfl rfl rfl ?_
                                    refine s_getf (v := .ref (q_b G + 182)) (nx := 472) hO rfl rfl (hs_o12 kc139) rfl rfl ?_
                                    refine s_iload (nx := 474) hO rfl rfl rfl ?_
                                    obtain ⟨b26, H⟩ := H
                                    refine s_iald (nx := 475) hO rfl (hs_I kc182) b26 rfl ?_
                                    refine s_if_le (nx := 478) hO rfl rfl (fun c475 => ?_) (fun c475 => ?_)
                                    · replace H := H.1 c475
                                      refine s_goto hO rfl ?_
                                      refine s_iload (nx := 593) hO rfl rfl rfl ?_
                                      obtain ⟨b27, H⟩ := H
                                      exact s_iret hO rfl rfl (zb_n b27) ⟨rfl, _, _, rfl, rfl, H⟩
                                    · replace H := H.2 c475
                                      refine s_aload_n (nx := 479) hO rfl rfl rfl ?_
                                      refine s_aload_n (nx := 480) hO rfl rfl rfl ?_
                                      refine s_getf (v := .ref (q_b G + 182)) (nx := 483) hO rfl rfl (hs_o12 kc139) rfl rfl ?_
                                      refine s_iload (nx := 485) hO rfl rfl rfl ?_
                                      obtain ⟨b28, H⟩ := H
                                      refine s_iald (nx := 486) hO rfl (hs_I kc182) b28 rfl ?_
                                      refine s_iconst (x := 1) (nx := 487) hO rfl (by decide) rfl ?_
                                      refine s_isub (nx := 488) hO rfl rfl ?_
                                      refine s_callV [.int ((sI s25 182 (ix x21)) - 1)] (ci := 12) (F := TX12) (N := 116) (nx := 491) hO rfl kX12_moves_558 (by rw [hcl]; rfl) (hs_o12 kc139) (w_X12_puts hG H) rfl rfl (Nat.le_of_ble_eq_true rfl) (Nat.zero_le _) (Nat.zero_le _) rfl (k_Qv (fun s29 H => ?_))
                                      refine s_goto hO rfl ?_
                                      refine s_iload (nx := 593) hO rfl rfl rfl ?_
                                      obtain ⟨b30, H⟩ := H
                                      exact s_iret hO rfl rfl (zb_n b30) ⟨rfl, _, _, rfl, rfl, H⟩
                                  · replace H := H.2 c432
                                    refine s_iload (nx := 437) hO rfl rfl rfl ?_
                                    refine goK (H (fun (y31 : Int32) (s32 : yS) => xEx G mX12_moves 460 [(0, .ref (q_b G + 139)), (7, .int x21), (8, .int x24)] [.int y31] (hS G s32) z 0 0 (yQi G z Q)) (fun y31 s32 H => ?_)) (fun H => ?_)
                                    · show xEx G mX12_moves 460 [(0, .ref (q_b G + 139)), (7, .int x21), (8, .int x24)] [.int y31] (hS G s32) z 0 0 (yQi G z Q)
                                      refine s_istore (nx := 462) (l' := [(6, .int y31), (0, .ref (q_b G + 139)), (7, .int x21), (8, .int x24)]) hO rfl (by decide) rfl rfl ?_
                                      refine goV ((x24 + (-1))) (fun x33 ex33 => ?_)
                                      replace H := H x33 ex33
                                      refine e_iinc (nx := 465) (l' := [(8, .int x33), (6, .int y31), (0, .ref (q_b G + 139)), (7, .int x21)]) ex33 hO rfl (by decide) rfl rfl rfl rfl ?_
                                      refine s_goto hO rfl ?_
                                      exact xEx.loc (x_sub1 (List.Mem.tail _ (List.Mem.tail _ (List.Mem.head _))) (x_sub1 (List.Mem.tail _ (List.Mem.head _)) (x_sub1 (List.Mem.tail _ (List.Mem.tail _ (List.Mem.tail _ (List.Mem.head _)))) (x_sub1 (List.Mem.head _) x_sub0)))) H
                                    refine s_if_eq (nx := 440) hO rfl rfl (fun c437 => ?_) (fun c437 => ?_)
                                    · replace H := H.1 c437
                                      refine s_iconst (x := 0) (nx := 460) hO rfl (by decide) rfl ?_
                                      exact xEx.loc (x_sub1 (List.Mem.head _) (x_sub1 (List.Mem.tail _ (List.Mem.tail _ (List.Mem.head _))) (x_sub1 (List.Mem.tail _ (List.Mem.tail _ (List.Mem.tail _ (List.Mem.head _)))) x_sub0))) H
                                    · replace H := H.2 c437
                                      refine s_aload_n (nx := 441) hO rfl rfl rfl ?_
                                      refine s_aload_n (nx := 442) hO rfl rfl rfl ?_
                                      refine s_iload (nx := 444) hO rfl rfl rfl ?_
                                      refine s_iload (nx := 446) hO rfl rfl rfl ?_
                                      refine s_callV [.int x21, .int x24] (ci := 12) (F := TX12) (N := 116) (nx := 449) hO rfl kX12_moves_561 (by rw [hcl]; rfl) (hs_o12 kc139) (w_X12_isRow hG H) rfl rfl (Nat.le_of_ble_eq_true rfl) (Nat.zero_le _) (Nat.zero_le _) rfl (k_Pi (fun r34 H => ?_))
                                      refine s_callV [.int r34] (ci := 12) (F := TX12) (N := 116) (nx := 452) hO rfl kX12_moves_555 (by rw [hcl]; rfl) (hs_o12 kc139) (w_X12_takes hG H) rfl rfl (Nat.le_of_ble_eq_true rfl) (Nat.zero_le _) (Nat.zero_le _) rfl (k_Qi (fun r35 s36 H => ?_))
                                      refine s_if_eq (nx := 455) hO rfl rfl (fun c452 => ?_) (fun c452 => ?_)
                                      · replace H := H.1 c452
                                        refine s_iconst (x := 0) (nx := 460) hO rfl (by decide) rfl ?_
                                        exact xEx.loc (x_sub1 (List.Mem.head _) (x_sub1 (List.Mem.tail _ (List.Mem.tail _ (List.Mem.head _))) (x_sub1 (List.Mem.tail _ (List.Mem.tail _ (List.Mem.tail _ (List.Mem.head _)))) x_sub0))) H
                                      · replace H := H.2 c452
                                        refine s_iconst (x := 1) (nx := 456) hO rfl (by decide) rfl ?_
                                        refine s_goto hO rfl ?_
                                        exact xEx.loc (x_sub1 (List.Mem.head _) (x_sub1 (List.Mem.tail _ (List.Mem.tail _ (List.Mem.head _))) (x_sub1 (List.Mem.tail _ (List.Mem.tail _ (List.Mem.tail _ (List.Mem.head _)))) x_sub0))) H
                                refine goV (((sI s 179 (ix x21)) - 1)) (fun x37 ex37 => ?_)
                                replace H := H x37 ex37
                                refine e_istore (nx := 430) (l' := [(8, .int x37), (7, .int x21), (6, .int 1), (5, .int x1), (0, .ref (q_b G + 139)), (1, .int v1), (2, .int v2), (3, .int v3), (4, .int v4)]) ex37 hO rfl (by decide) rfl rfl ?_
                                exact xEx.loc (x_sub1 (List.Mem.tail _ (List.Mem.tail _ (List.Mem.tail _ (List.Mem.tail _ (List.Mem.head _))))) (x_sub1 (List.Mem.tail _ (List.Mem.tail _ (List.Mem.head _))) (x_sub1 (List.Mem.tail _ (List.Mem.head _)) (x_sub1 (List.Mem.head _) x_sub0)))) H
                            · replace H := H.2 c386
                              refine s_aload_n (nx := 390) hO rfl rfl rfl ?_
                              refine s_iconst (x := 1) (nx := 391) hO rfl (by decide) rfl ?_
                              refine s_callV [.int 1] (ci := 12) (F := TX12) (N := 116) (nx := 394) hO rfl kX12_moves_555 (by rw [hcl]; rfl) (hs_o12 kc139) (w_X12_takes hG H) rfl rfl (Nat.le_of_ble_eq_true rfl) (Nat.zero_le _) (Nat.zero_le _) rfl (k_Qi (fun r38 s39 H => ?_))
                              refine s_istore (nx := 396) (l' := [(6, .int r38), (5, .int x1), (0, .ref (q_b G + 139)), (1, .int v1), (2, .int v2), (3, .int v3), (4, .int v4)]) hO rfl (by decide) rfl rfl ?_
                              refine s_aload_n (nx := 397) hO rfl rfl rfl ?_
                              refine s_iconst (x := 0) (nx := 398) hO rfl (by decide) rfl ?_
                              refine s_callV [.int 0] (ci := 12) (F := TX12) (N := 116) (nx := 401) hO rfl kX12_moves_558 (by rw [hcl]; rfl) (hs_o12 kc139) (w_X12_puts hG H) rfl rfl (Nat.le_of_ble_eq_true rfl) (Nat.zero_le _) (Nat.zero_le _) rfl (k_Qv (fun s40 H => ?_))
                              refine s_goto hO rfl ?_
                              refine s_iload (nx := 593) hO rfl rfl rfl ?_
                              obtain ⟨b41, H⟩ := H
                              exact s_iret hO rfl rfl (zb_n b41) ⟨rfl, _, _, rfl, rfl, H⟩
                          · replace H := H.2 c354
                            refine s_aload_n (nx := 358) hO rfl rfl rfl ?_
                            refine s_iconst (x := (nI 2)) (nx := 359) hO rfl (by decide) rfl ?_
                            refine s_callV [.int (nI 2)] (ci := 12) (F := TX12) (N := 116) (nx := 362) hO rfl kX12_moves_564 (by rw [hcl]; rfl) (hs_o12 kc139) (w_X12_takesInts hG H) rfl rfl (Nat.le_of_ble_eq_true rfl) (Nat.zero_le _) (Nat.zero_le _) rfl (k_Qi (fun r42 s43 H => ?_))
                            refine s_if_eq (nx := 365) hO rfl rfl (fun c362 => ?_) (fun c362 => ?_)
                            · replace H := H.1 c362
                              refine s_iconst (x := 0) (nx := 378) hO rfl (by decide) rfl ?_
                              refine s_istore (nx := 380) (l' := [(6, .int 0), (5, .int x1), (0, .ref (q_b G + 139)), (1, .int v1), (2, .int v2), (3, .int v3), (4, .int v4)]) hO rfl (by decide) rfl rfl ?_
                              refine s_goto hO rfl ?_
                              refine s_iload (nx := 593) hO rfl rfl rfl ?_
                              exact s_iret hO rfl rfl rfl ⟨rfl, _, _, rfl, rfl, H⟩
                            · replace H := H.2 c362
                              refine s_aload_n (nx := 366) hO rfl rfl rfl ?_
                              refine s_iconst (x := 1) (nx := 367) hO rfl (by decide) rfl ?_
                              refine s_callV [.int 1] (ci := 12) (F := TX12) (N := 116) (nx := 370) hO rfl kX12_moves_555 (by rw [hcl]; rfl) (hs_o12 kc139) (w_X12_takes hG H) rfl rfl (Nat.le_of_ble_eq_true rfl) (Nat.zero_le _) (Nat.zero_le _) rfl (k_Qi (fun r44 s45 H => ?_))
                              refine s_if_eq (nx := 373) hO rfl rfl (fun c370 => ?_) (fun c370 => ?_)
                              · replace H := H.1 c370
                                refine s_iconst (x := 0) (nx := 378) hO rfl (by decide) rfl ?_
                                refine s_istore (nx := 380) (l' := [(6, .int 0), (5, .int x1), (0, .ref (q_b G + 139)), (1, .int v1), (2, .int v2), (3, .int v3), (4, .int v4)]) hO rfl (by decide) rfl rfl ?_
                                refine s_goto hO rfl ?_
                                refine s_iload (nx := 593) hO rfl rfl rfl ?_
                                exact s_iret hO rfl rfl rfl ⟨rfl, _, _, rfl, rfl, H⟩
                              · replace H := H.2 c370
                                refine s_iconst (x := 1) (nx := 374) hO rfl (by decide) rfl ?_
                                refine s_goto hO rfl ?_
                                refine s_istore (nx := 380) (l' := [(6, .int 1), (5, .int x1), (0, .ref (q_b G + 139)), (1, .int v1), (2, .int v2), (3, .int v3), (4, .int v4)]) hO rfl (by decide) rfl rfl ?_
                                refine s_goto hO rfl ?_
                                refine s_iload (nx := 593) hO rfl rfl rfl ?_
                                exact s_iret hO rfl rfl rfl ⟨rfl, _, _, rfl, rfl, H⟩
                        · replace H := H.2 c317
                          refine s_aload_n (nx := 321) hO rfl rfl rfl ?_
                          refine s_iconst (x := 0) (nx := 322) hO rfl (by decide) rfl ?_
                          refine s_callV [.int 0] (ci := 12) (F := TX12) (N := 116) (nx := 325) hO rfl kX12_moves_555 (by rw [hcl]; rfl) (hs_o12 kc139) (w_X12_takes hG H) rfl rfl (Nat.le_of_ble_eq_true rfl) (Nat.zero_le _) (Nat.zero_le _) rfl (k_Qi (fun r46 s47 H => ?_))
                          refine goK (H (fun (y48 : Int32) (s49 : yS) => xEx G mX12_moves 341 [(0, .ref (q_b G + 139))] [.int y48] (hS G s49) z 0 0 (yQi G z Q)) (fun y48 s49 H => ?_)) (fun H => ?_)
                          · show xEx G mX12_moves 341 [(0, .ref (q_b G + 139))] [.int y48] (hS G s49) z 0 0 (yQi G z Q)
                            refine s_istore (nx := 343) (l' := [(6, .int y48), (0, .ref (q_b G + 139))]) hO rfl (by decide) rfl rfl ?_
                            refine s_aload_n (nx := 344) hO rfl rfl rfl ?_
                            refine s_iconst (x := 0) (nx := 345) hO rfl (by decide) rfl ?_
                            refine s_callV [.int 0] (ci := 12) (F := TX12) (N := 116) (nx := 348) hO rfl kX12_moves_558 (by rw [hcl]; rfl) (hs_o12 kc139) (w_X12_puts hG H) rfl rfl (Nat.le_of_ble_eq_true rfl) (Nat.zero_le _) (Nat.zero_le _) rfl (k_Qv (fun s50 H => ?_))
                            refine s_goto hO rfl ?_
                            refine s_iload (nx := 593) hO rfl rfl rfl ?_
                            obtain ⟨b51, H⟩ := H
                            exact s_iret hO rfl rfl (zb_n b51) ⟨rfl, _, _, rfl, rfl, H⟩
                          refine s_if_eq (nx := 328) hO rfl rfl (fun c325 => ?_) (fun c325 => ?_)
                          · replace H := H.1 c325
                            refine s_iconst (x := 0) (nx := 341) hO rfl (by decide) rfl ?_
                            exact xEx.loc (x_sub1 (List.Mem.tail _ (List.Mem.tail _ (List.Mem.head _))) x_sub0) H
                          · replace H := H.2 c325
                            refine s_aload_n (nx := 329) hO rfl rfl rfl ?_
                            refine s_iconst (x := 1) (nx := 330) hO rfl (by decide) rfl ?_
                            refine s_callV [.int 1] (ci := 12) (F := TX12) (N := 116) (nx := 333) hO rfl kX12_moves_555 (by rw [hcl]; rfl) (hs_o12 kc139) (w_X12_takes hG H) rfl rfl (Nat.le_of_ble_eq_true rfl) (Nat.zero_le _) (Nat.zero_le _) rfl (k_Qi (fun r52 s53 H => ?_))
                            refine s_if_eq (nx := 336) hO rfl rfl (fun c333 => ?_) (fun c333 => ?_)
                            · replace H := H.1 c333
                              refine s_iconst (x := 0) (nx := 341) hO rfl (by decide) rfl ?_
                              exact xEx.loc (x_sub1 (List.Mem.tail _ (List.Mem.tail _ (List.Mem.head _))) x_sub0) H
                            · replace H := H.2 c333
                              refine s_iconst (x := 1) (nx := 337) hO rfl (by decide) rfl ?_
                              refine s_goto hO rfl ?_
                              exact xEx.loc (x_sub1 (List.Mem.tail _ (List.Mem.tail _ (List.Mem.head _))) x_sub0) H
                      · replace H := H.2 c296
                        refine s_aload_n (nx := 300) hO rfl rfl rfl ?_
                        refine s_iconst (x := 0) (nx := 301) hO rfl (by decide) rfl ?_
                        refine s_callV [.int 0] (ci := 12) (F := TX12) (N := 116) (nx := 304) hO rfl kX12_moves_555 (by rw [hcl]; rfl) (hs_o12 kc139) (w_X12_takes hG H) rfl rfl (Nat.le_of_ble_eq_true rfl) (Nat.zero_le _) (Nat.zero_le _) rfl (k_Qi (fun r54 s55 H => ?_))
                        refine s_istore (nx := 306) (l' := [(6, .int r54), (5, .int x1), (0, .ref (q_b G + 139)), (1, .int v1), (2, .int v2), (3, .int v3), (4, .int v4)]) hO rfl (by decide) rfl rfl ?_
                        refine s_aload_n (nx := 307) hO rfl rfl rfl ?_
                        refine s_iconst (x := 1) (nx := 308) hO rfl (by decide) rfl ?_
                        refine s_callV [.int 1] (ci := 12) (F := TX12) (N := 116) (nx := 311) hO rfl kX12_moves_558 (by rw [hcl]; rfl) (hs_o12 kc139) (w_X12_puts hG H) rfl rfl (Nat.le_of_ble_eq_true rfl) (Nat.zero_le _) (Nat.zero_le _) rfl (k_Qv (fun s56 H => ?_))
                        refine s_goto hO rfl ?_
                        refine s_iload (nx := 593) hO rfl rfl rfl ?_
                        obtain ⟨b57, H⟩ := H
                        exact s_iret hO rfl rfl (zb_n b57) ⟨rfl, _, _, rfl, rfl, H⟩
                    · replace H := H.2 c280
                      exact xEx.loc (x_sub1 (List.Mem.tail _ (List.Mem.tail _ (List.Mem.head _))) x_sub0) H
              · replace H := H.2 c247
                refine s_aload_n (nx := 251) hO rfl rfl rfl ?_
                refine s_iconst (x := (nI 2)) (nx := 252) hO rfl (by decide) rfl ?_
                refine s_callV [.int (nI 2)] (ci := 12) (F := TX12) (N := 116) (nx := 255) hO rfl kX12_moves_564 (by rw [hcl]; rfl) (hs_o12 kc139) (w_X12_takesInts hG H) rfl rfl (Nat.le_of_ble_eq_true rfl) (Nat.zero_le _) (Nat.zero_le _) rfl (k_Qi (fun r58 s59 H => ?_))
                refine s_istore (nx := 257) (l' := [(6, .int r58), (5, .int x1), (0, .ref (q_b G + 139)), (1, .int v1), (2, .int v2), (3, .int v3), (4, .int v4)]) hO rfl (by decide) rfl rfl ?_
                refine s_aload_n (nx := 258) hO rfl rfl rfl ?_
                refine s_iconst (x := 0) (nx := 259) hO rfl (by decide) rfl ?_
                refine s_callV [.int 0] (ci := 12) (F := TX12) (N := 116) (nx := 262) hO rfl kX12_moves_558 (by rw [hcl]; rfl) (hs_o12 kc139) (w_X12_puts hG H) rfl rfl (Nat.le_of_ble_eq_true rfl) (Nat.zero_le _) (Nat.zero_le _) rfl (k_Qv (fun s60 H => ?_))
                refine s_goto hO rfl ?_
                refine s_iload (nx := 593) hO rfl rfl rfl ?_
                obtain ⟨b61, H⟩ := H
                exact s_iret hO rfl rfl (zb_n b61) ⟨rfl, _, _, rfl, rfl, H⟩
            · replace H := H.2 c224
              refine s_aload_n (nx := 228) hO rfl rfl rfl ?_
              refine s_aload_n (nx := 229) hO rfl rfl rfl ?_
              refine s_iload (nx := 231) hO rfl rfl rfl ?_
              refine s_iload (nx := 233) hO rfl rfl rfl ?_
              refine s_callV [.int x1, .int v4] (ci := 12) (F := TX12) (N := 116) (nx := 236) hO rfl kX12_moves_561 (by rw [hcl]; rfl) (hs_o12 kc139) (w_X12_isRow hG H) rfl rfl (Nat.le_of_ble_eq_true rfl) (Nat.zero_le _) (Nat.zero_le _) rfl (k_Pi (fun r62 H => ?_))
              refine s_callV [.int r62] (ci := 12) (F := TX12) (N := 116) (nx := 239) hO rfl kX12_moves_555 (by rw [hcl]; rfl) (hs_o12 kc139) (w_X12_takes hG H) rfl rfl (Nat.le_of_ble_eq_true rfl) (Nat.zero_le _) (Nat.zero_le _) rfl (k_Qi (fun r63 s64 H => ?_))
              refine s_istore (nx := 241) (l' := [(6, .int r63), (5, .int x1), (0, .ref (q_b G + 139)), (1, .int v1), (2, .int v2), (3, .int v3), (4, .int v4)]) hO rfl (by decide) rfl rfl ?_
              refine s_goto hO rfl ?_
              refine s_iload (nx := 593) hO rfl rfl rfl ?_
              obtain ⟨b65, H⟩ := H
              exact s_iret hO rfl rfl (zb_n b65) ⟨rfl, _, _, rfl, rfl, H⟩
          · replace H := H.2 c204
            refine s_aload_n (nx := 208) hO rfl rfl rfl ?_
            refine s_aload_n (nx := 209) hO rfl rfl rfl ?_
            refine s_iload (nx := 211) hO rfl rfl rfl ?_
            refine s_iload (nx := 213) hO rfl rfl rfl ?_
            refine s_callV [.int x1, .int v4] (ci := 12) (F := TX12) (N := 116) (nx := 216) hO rfl kX12_moves_561 (by rw [hcl]; rfl) (hs_o12 kc139) (w_X12_isRow hG H) rfl rfl (Nat.le_of_ble_eq_true rfl) (Nat.zero_le _) (Nat.zero_le _) rfl (k_Pi (fun r66 H => ?_))
            refine s_callV [.int r66] (ci := 12) (F := TX12) (N := 116) (nx := 219) hO rfl kX12_moves_558 (by rw [hcl]; rfl) (hs_o12 kc139) (w_X12_puts hG H) rfl rfl (Nat.le_of_ble_eq_true rfl) (Nat.zero_le _) (Nat.zero_le _) rfl (k_Qv (fun s67 H => ?_))
            refine s_goto hO rfl ?_
            refine s_iload (nx := 593) hO rfl rfl rfl ?_
            exact s_iret hO rfl rfl rfl ⟨rfl, _, _, rfl, rfl, H⟩
        · replace H := H.2 c88
          refine s_aload_n (nx := 92) hO rfl rfl rfl ?_
          refine s_getf (v := .int (sI s 139 114)) (nx := 95) hO rfl rfl (hs_o12 kc139) rfl rfl ?_
          refine s_iconst (x := 1) (nx := 96) hO rfl (by decide) rfl ?_
          refine goK (H (fun (y68 : Int32) => xEx G mX12_moves 104 [(0, .ref (q_b G + 139))] [.int y68] (hS G s) z 0 0 (yQi G z Q)) (fun y68 H => ?_)) (fun H => ?_)
          · show xEx G mX12_moves 104 [(0, .ref (q_b G + 139))] [.int y68] (hS G s) z 0 0 (yQi G z Q)
            refine s_istore (nx := 106) (l' := [(6, .int y68), (0, .ref (q_b G + 139))]) hO rfl (by decide) rfl rfl ?_
            refine s_iload (nx := 108) hO rfl rfl rfl ?_
            refine goK (H (fun (y69 : Int32) => xEx G mX12_moves 128 [(0, .ref (q_b G + 139)), (6, .int y68)] [.int y69] (hS G s) z 0 0 (yQi G z Q)) (fun y69 H => ?_)) (fun H => ?_)
            · show xEx G mX12_moves 128 [(0, .ref (q_b G + 139)), (6, .int y68)] [.int y69] (hS G s) z 0 0 (yQi G z Q)
              refine s_istore (nx := 130) (l' := [(7, .int y69), (0, .ref (q_b G + 139)), (6, .int y68)]) hO rfl (by decide) rfl rfl ?_
              refine s_iload (nx := 132) hO rfl rfl rfl ?_
              refine goK (H (fun (y70 : Int32) => xEx G mX12_moves 152 [(0, .ref (q_b G + 139)), (6, .int y68), (7, .int y69)] [.int y70] (hS G s) z 0 0 (yQi G z Q)) (fun y70 H => ?_)) (fun H => ?_)
              · show xEx G mX12_moves 152 [(0, .ref (q_b G + 139)), (6, .int y68), (7, .int y69)] [.int y70] (hS G s) z 0 0 (yQi G z Q)
                refine s_istore (nx := 154) (l' := [(8, .int y70), (0, .ref (q_b G + 139)), (6, .int y68), (7, .int y69)]) hO rfl (by decide) rfl rfl ?_
                refine s_iload (nx := 156) hO rfl rfl rfl ?_
                refine goK (H (fun (y71 : Int32) (s72 : yS) => xEx G mX12_moves 180 [(0, .ref (q_b G + 139)), (7, .int y69), (8, .int y70)] [.int y71] (hS G s72) z 0 0 (yQi G z Q)) (fun y71 s72 H => ?_)) (fun H => ?_)
                · show xEx G mX12_moves 180 [(0, .ref (q_b G + 139)), (7, .int y69), (8, .int y70)] [.int y71] (hS G s72) z 0 0 (yQi G z Q)
                  refine s_istore (nx := 182) (l' := [(6, .int y71), (0, .ref (q_b G + 139)), (7, .int y69), (8, .int y70)]) hO rfl (by decide) rfl rfl ?_
                  refine s_iload (nx := 184) hO rfl rfl rfl ?_
                  refine s_if_eq (nx := 187) hO rfl rfl (fun c184 => ?_) (fun c184 => ?_)
                  · replace H := H.1 c184
                    refine s_goto hO rfl ?_
                    refine s_iload (nx := 593) hO rfl rfl rfl ?_
                    obtain ⟨b73, H⟩ := H
                    exact s_iret hO rfl rfl (zb_n b73) ⟨rfl, _, _, rfl, rfl, H⟩
                  · replace H := H.2 c184
                    refine s_aload_n (nx := 188) hO rfl rfl rfl ?_
                    refine s_iload (nx := 190) hO rfl rfl rfl ?_
                    refine s_callV [.int y69] (ci := 12) (F := TX12) (N := 116) (nx := 193) hO rfl kX12_moves_558 (by rw [hcl]; rfl) (hs_o12 kc139) (w_X12_puts hG H) rfl rfl (Nat.le_of_ble_eq_true rfl) (Nat.zero_le _) (Nat.zero_le _) rfl (k_Qv (fun s74 H => ?_))
                    refine s_aload_n (nx := 194) hO rfl rfl rfl ?_
                    refine s_iload (nx := 196) hO rfl rfl rfl ?_
                    refine s_callV [.int y70] (ci := 12) (F := TX12) (N := 116) (nx := 199) hO rfl kX12_moves_558 (by rw [hcl]; rfl) (hs_o12 kc139) (w_X12_puts hG H) rfl rfl (Nat.le_of_ble_eq_true rfl) (Nat.zero_le _) (Nat.zero_le _) rfl (k_Qv (fun s75 H => ?_))
                    refine s_goto hO rfl ?_
                    refine s_iload (nx := 593) hO rfl rfl rfl ?_
                    obtain ⟨b76, H⟩ := H
                    exact s_iret hO rfl rfl (zb_n b76) ⟨rfl, _, _, rfl, rfl, H⟩
                refine s_if_eq (nx := 159) hO rfl rfl (fun c156 => ?_) (fun c156 => ?_)
                · replace H := H.1 c156
                  refine s_iconst (x := 0) (nx := 180) hO rfl (by decide) rfl ?_
                  exact xEx.loc (x_sub1 (List.Mem.tail _ (List.Mem.head _)) (x_sub1 (List.Mem.tail _ (List.Mem.tail _ (List.Mem.tail _ (List.Mem.head _)))) (x_sub1 (List.Mem.head _) x_sub0))) H
                · replace H := H.2 c156
                  refine s_aload_n (nx := 160) hO rfl rfl rfl ?_
                  refine s_iconst (x := (nI 2)) (nx := 161) hO rfl (by decide) rfl ?_
                  refine s_callV [.int (nI 2)] (ci := 12) (F := TX12) (N := 116) (nx := 164) hO rfl kX12_moves_555 (by rw [hcl]; rfl) (hs_o12 kc139) (w_X12_takes hG H) rfl rfl (Nat.le_of_ble_eq_true rfl) (Nat.zero_le _) (Nat.zero_le _) rfl (k_Qi (fun r77 s78 H => ?_))
                  refine s_if_eq (nx := 167) hO rfl rfl (fun c164 => ?_) (fun c164 => ?_)
                  · replace H := H.1 c164
                    refine s_iconst (x := 0) (nx := 180) hO rfl (by decide) rfl ?_
                    exact xEx.loc (x_sub1 (List.Mem.tail _ (List.Mem.head _)) (x_sub1 (List.Mem.tail _ (List.Mem.tail _ (List.Mem.tail _ (List.Mem.head _)))) (x_sub1 (List.Mem.head _) x_sub0))) H
                  · replace H := H.2 c164
                    refine s_aload_n (nx := 168) hO rfl rfl rfl ?_
                    refine s_iconst (x := (nI 2)) (nx := 169) hO rfl (by decide) rfl ?_
                    refine s_callV [.int (nI 2)] (ci := 12) (F := TX12) (N := 116) (nx := 172) hO rfl kX12_moves_555 (by rw [hcl]; rfl) (hs_o12 kc139) (w_X12_takes hG H) rfl rfl (Nat.le_of_ble_eq_true rfl) (Nat.zero_le _) (Nat.zero_le _) rfl (k_Qi (fun r79 s80 H => ?_))
                    refine s_if_eq (nx := 175) hO rfl rfl (fun c172 => ?_) (fun c172 => ?_)
                    · replace H := H.1 c172
                      refine s_iconst (x := 0) (nx := 180) hO rfl (by decide) rfl ?_
                      exact xEx.loc (x_sub1 (List.Mem.tail _ (List.Mem.head _)) (x_sub1 (List.Mem.tail _ (List.Mem.tail _ (List.Mem.tail _ (List.Mem.head _)))) (x_sub1 (List.Mem.head _) x_sub0))) H
                    · replace H := H.2 c172
                      refine s_iconst (x := 1) (nx := 176) hO rfl (by decide) rfl ?_
                      refine s_goto hO rfl ?_
                      exact xEx.loc (x_sub1 (List.Mem.tail _ (List.Mem.head _)) (x_sub1 (List.Mem.tail _ (List.Mem.tail _ (List.Mem.tail _ (List.Mem.head _)))) (x_sub1 (List.Mem.head _) x_sub0))) H
              refine s_if_eq (nx := 135) hO rfl rfl (fun c132 => ?_) (fun c132 => ?_)
              · replace H := H.1 c132
                refine s_iconst (x := 0) (nx := 152) hO rfl (by decide) rfl ?_
                exact xEx.loc (x_sub1 (List.Mem.tail _ (List.Mem.head _)) (x_sub1 (List.Mem.tail _ (List.Mem.tail _ (List.Mem.head _))) (x_sub1 (List.Mem.head _) x_sub0))) H
              · replace H := H.2 c132
                refine s_aload_n (nx := 136) hO rfl rfl rfl ?_
                refine s_getf (v := .int (sI s 139 115)) (nx := 139) hO rfl rfl (hs_o12 kc139) rfl rfl ?_
                refine s_aload_n (nx := 140) hO rfl rfl rfl ?_
                refine s_getf (v := .int (sI s 139 114)) (nx := 143) hO rfl rfl (hs_o12 kc139) rfl rfl ?_
                refine s_iconst (x := (nI 2)) (nx := 144) hO rfl (by decide) rfl ?_
                refine s_isub (nx := 145) hO rfl rfl ?_
                refine s_ishr (nx := 146) hO rfl rfl ?_
                refine s_iconst (x := 1) (nx := 147) hO rfl (by decide) rfl ?_
                refine s_iand (nx := 148) hO rfl rfl ?_
                refine s_goto hO rfl ?_
                exact xEx.loc (x_sub1 (List.Mem.tail _ (List.Mem.head _)) (x_sub1 (List.Mem.tail _ (List.Mem.tail _ (List.Mem.head _))) (x_sub1 (List.Mem.head _) x_sub0))) H
            refine s_if_eq (nx := 111) hO rfl rfl (fun c108 => ?_) (fun c108 => ?_)
            · replace H := H.1 c108
              refine s_iconst (x := 0) (nx := 128) hO rfl (by decide) rfl ?_
              exact xEx.loc (x_sub1 (List.Mem.tail _ (List.Mem.head _)) (x_sub1 (List.Mem.head _) x_sub0)) H
            · replace H := H.2 c108
              refine s_aload_n (nx := 112) hO rfl rfl rfl ?_
              refine s_getf (v := .int (sI s 139 115)) (nx := 115) hO rfl rfl (hs_o12 kc139) rfl rfl ?_
              refine s_aload_n (nx := 116) hO rfl rfl rfl ?_
              refine s_getf (v := .int (sI s 139 114)) (nx := 119) hO rfl rfl (hs_o12 kc139) rfl rfl ?_
              refine s_iconst (x := 1) (nx := 120) hO rfl (by decide) rfl ?_
              refine s_isub (nx := 121) hO rfl rfl ?_
              refine s_ishr (nx := 122) hO rfl rfl ?_
              refine s_iconst (x := 1) (nx := 123) hO rfl (by decide) rfl ?_
              refine s_iand (nx := 124) hO rfl rfl ?_
              refine s_goto hO rfl ?_
              exact xEx.loc (x_sub1 (List.Mem.tail _ (List.Mem.head _)) (x_sub1 (List.Mem.head _) x_sub0)) H
          refine s_icmp_le (nx := 99) hO rfl rfl (fun c96 => ?_) (fun c96 => ?_)
          · replace H := H.1 c96
            refine s_iconst (x := 0) (nx := 104) hO rfl (by decide) rfl ?_
            exact xEx.loc (x_sub1 (List.Mem.tail _ (List.Mem.tail _ (List.Mem.head _))) x_sub0) H
          · replace H := H.2 c96
            refine s_iconst (x := 1) (nx := 100) hO rfl (by decide) rfl ?_
            refine s_goto hO rfl ?_
            exact xEx.loc (x_sub1 (List.Mem.tail _ (List.Mem.tail _ (List.Mem.head _))) x_sub0) H
      · replace H := H.2 c40
        refine s_aload_n (nx := 44) hO rfl rfl rfl ?_
        refine s_getf (v := .int (sI s 139 114)) (nx := 47) hO rfl rfl (hs_o12 kc139) rfl rfl ?_
        refine goK (H (fun (y81 : Int32) => xEx G mX12_moves 55 [(0, .ref (q_b G + 139))] [.int y81] (hS G s) z 0 0 (yQi G z Q)) (fun y81 H => ?_)) (fun H => ?_)
        · show xEx G mX12_moves 55 [(0, .ref (q_b G + 139))] [.int y81] (hS G s) z 0 0 (yQi G z Q)
          refine s_istore (nx := 57) (l' := [(6, .int y81), (0, .ref (q_b G + 139))]) hO rfl (by decide) rfl rfl ?_
          refine s_aload_n (nx := 58) hO rfl rfl rfl ?_
          refine s_iload (nx := 60) hO rfl rfl rfl ?_
          refine goK (H (fun (y82 : Int32) => xEx G mX12_moves 80 [(6, .int y81)] [.int y82, .ref (q_b G + 139)] (hS G s) z 0 0 (yQi G z Q)) (fun y82 H => ?_)) (fun H => ?_)
          · show xEx G mX12_moves 80 [(6, .int y81)] [.int y82, .ref (q_b G + 139)] (hS G s) z 0 0 (yQi G z Q)
            refine s_callV [.int y82] (ci := 12) (F := TX12) (N := 116) (nx := 83) hO rfl kX12_moves_558 (by rw [hcl]; rfl) (hs_o12 kc139) (w_X12_puts hG H) rfl rfl (Nat.le_of_ble_eq_true rfl) (Nat.zero_le _) (Nat.zero_le _) rfl (k_Qv (fun s83 H => ?_))
            refine s_goto hO rfl ?_
            refine s_iload (nx := 593) hO rfl rfl rfl ?_
            obtain ⟨b84, H⟩ := H
            exact s_iret hO rfl rfl (zb_n b84) ⟨rfl, _, _, rfl, rfl, H⟩
          refine s_if_eq (nx := 63) hO rfl rfl (fun c60 => ?_) (fun c60 => ?_)
          · replace H := H.1 c60
            refine s_iconst (x := 0) (nx := 80) hO rfl (by decide) rfl ?_
            exact xEx.loc (x_sub1 (List.Mem.head _) x_sub0) H
          · replace H := H.2 c60
            refine s_aload_n (nx := 64) hO rfl rfl rfl ?_
            refine s_getf (v := .int (sI s 139 115)) (nx := 67) hO rfl rfl (hs_o12 kc139) rfl rfl ?_
            refine s_aload_n (nx := 68) hO rfl rfl rfl ?_
            refine s_getf (v := .int (sI s 139 114)) (nx := 71) hO rfl rfl (hs_o12 kc139) rfl rfl ?_
            refine s_iconst (x := 1) (nx := 72) hO rfl (by decide) rfl ?_
            refine s_isub (nx := 73) hO rfl rfl ?_
            refine s_ishr (nx := 74) hO rfl rfl ?_
            refine s_iconst (x := 1) (nx := 75) hO rfl (by decide) rfl ?_
            refine s_iand (nx := 76) hO rfl rfl ?_
            refine s_goto hO rfl ?_
            exact xEx.loc (x_sub1 (List.Mem.head _) x_sub0) H
        refine s_if_le (nx := 50) hO rfl rfl (fun c47 => ?_) (fun c47 => ?_)
        · replace H := H.1 c47
          refine s_iconst (x := 0) (nx := 55) hO rfl (by decide) rfl ?_
          exact xEx.loc (x_sub1 (List.Mem.tail _ (List.Mem.tail _ (List.Mem.head _))) x_sub0) H
        · replace H := H.2 c47
          refine s_iconst (x := 1) (nx := 51) hO rfl (by decide) rfl ?_
          refine s_goto hO rfl ?_
          exact xEx.loc (x_sub1 (List.Mem.tail _ (List.Mem.tail _ (List.Mem.head _))) x_sub0) H
    · replace H := H.2 c25
      refine s_aload_n (nx := 29) hO rfl rfl rfl ?_
      refine s_iconst (x := (nI 2)) (nx := 30) hO rfl (by decide) rfl ?_
      refine s_callV [.int (nI 2)] (ci := 12) (F := TX12) (N := 116) (nx := 33) hO rfl kX12_moves_555 (by rw [hcl]; rfl) (hs_o12 kc139) (w_X12_takes hG H) rfl rfl (Nat.le_of_ble_eq_true rfl) (Nat.zero_le _) (Nat.zero_le _) rfl (k_Qi (fun r85 s86 H => ?_))
      refine s_istore (nx := 35) (l' := [(6, .int r85), (5, .int x1), (0, .ref (q_b G + 139)), (1, .int v1), (2, .int v2), (3, .int v3), (4, .int v4)]) hO rfl (by decide) rfl rfl ?_
      refine s_goto hO rfl ?_
      refine s_iload (nx := 593) hO rfl rfl rfl ?_
      obtain ⟨b87, H⟩ := H
      exact s_iret hO rfl rfl (zb_n b87) ⟨rfl, _, _, rfl, rfl, H⟩
  · replace H := H.2 c12
    refine s_aload_n (nx := 16) hO rfl rfl rfl ?_
    refine s_iconst (x := 0) (nx := 17) hO rfl (by decide) rfl ?_
    refine s_callV [.int 0] (ci := 12) (F := TX12) (N := 116) (nx := 20) hO rfl kX12_moves_558 (by rw [hcl]; rfl) (hs_o12 kc139) (w_X12_puts hG H) rfl rfl (Nat.le_of_ble_eq_true rfl) (Nat.zero_le _) (Nat.zero_le _) rfl (k_Qv (fun s88 H => ?_))
    refine s_goto hO rfl ?_
    refine s_iload (nx := 593) hO rfl rfl rfl ?_
    exact s_iret hO rfl rfl rfl ⟨rfl, _, _, rfl, rfl, H⟩
def W_X12_lookAtOne (s : yS) (v1 : Int32) (v2 : Int32) (v3 : Int32) (Q : yS → Prop) : Prop :=
 ∀ x1 : Int32, x1 = (((nI 12) * v1) + v2) → 
 ∀ x2 : Int32, x2 = ((((nI 4800) * v1) + ((nI 400) * v2)) + v3) → 
 vp_in x2 14400 ∧ 
 ∀ x4 : Int32, x4 = (sI s 186 (ix x2)) → 
 vp_in x2 14400 ∧ 
 ∀ s6 : yS, s6 = wI s 139 114 (sI s 193 (ix x2)) → 
 vp_in x2 14400 ∧ 
 ∀ s8 : yS, s8 = wI s6 139 115 (sI s6 194 (ix x2)) → 
 vp_in x2 14400 ∧ 
 W_X12_moves s8 v1 v2 x4 (sI s8 187 (ix x2)) 
 (fun r10 s11 => ∀ P109 : yS → Prop, (∀ (s12 : yS), ((((sI s12 139 15) ≤ 0 → ∀ x13 : Int32, x13 = (sI s12 139 114) → 
   ∀ x14 : Int32, x14 = (sI s12 139 115) → 
   ∀ P140 : Int32 → yS → Prop, (∀ (x15 : Int32) (s16 : yS), (vp_in x1 36 ∧ 
    ∀ P212 : Prop, ((∀ P250 : yS → Prop, (∀ (s18 : yS), (((x4 = (nI 18) → Q s18)
      ∧ (¬ x4 = (nI 18) → ((x4 = (nI 27) → Q s18)
       ∧ (¬ x4 = (nI 27) → ((x4 = (nI 28) → Q s18)
        ∧ (¬ x4 = (nI 28) → ((¬ (sI s18 139 15) = 0 → Q s18)
         ∧ ((sI s18 139 15) = 0 → vp_in x1 36 ∧ 
          ((¬ (v3 + 1) = (sI s18 184 (ix x1)) → W_X12_comeTo s18 v1 v2 (v3 + 1) x13 x14 
           (fun s20 => Q s20))
          ∧ ((v3 + 1) = (sI s18 184 (ix x1)) → W_X12_wrong s18 (nI 8) (((nI 512) * v2) + v3) 
           (fun s21 => Q s21)))))))))))) → P250 s18) → 
     ((x4 ≤ (nI 17) → P250 s16)
     ∧ (¬ x4 ≤ (nI 17) → (((nI 21) ≤ x4 → P250 s16)
      ∧ (¬ (nI 21) ≤ x4 → ((¬ (sI s16 139 15) = 0 → P250 s16)
       ∧ ((sI s16 139 15) = 0 → vp_in x2 14400 ∧ 
        W_X12_comeTo s16 v1 v2 (sI s16 187 (ix x2)) x13 x14 
        (fun s23 => P250 s23)))))))) → P212) → 
    ((((((nI 72) * v1) + ((nI 6) * v2)) + (sI s16 185 (ix x1))) ≤ x15 → P212)
    ∧ (¬ ((((nI 72) * v1) + ((nI 6) * v2)) + (sI s16 185 (ix x1))) ≤ x15 → ((¬ (sI s16 139 15) = 0 → P212)
     ∧ ((sI s16 139 15) = 0 → vp_in x15 216 ∧ 
      ∀ P206 : yS → Prop, (∀ (s25 : yS), (∀ x26 : Int32, x26 = (x15 + 1) → 
       P140 x26 s25) → P206 s25) → 
      ((v3 < (sI s16 188 (ix x15)) → P206 s16)
      ∧ (¬ v3 < (sI s16 188 (ix x15)) → vp_in x15 216 ∧ 
       (((sI s16 189 (ix x15)) ≤ v3 → P206 s16)
       ∧ (¬ (sI s16 189 (ix x15)) ≤ v3 → vp_in x15 216 ∧ 
        W_X12_comeTo s16 v1 v2 (sI s16 190 (ix x15)) 1 0 
        (fun s29 => P206 s29)))))))))) → P140 x15 s16) → 
   ∀ x30 : Int32, x30 = (((nI 72) * v1) + ((nI 6) * v2)) → 
   P140 x30 s12)
  ∧ (¬ (sI s12 139 15) ≤ 0 → Q s12))) → P109 s12) → 
 ((¬ r10 = 0 → (((sI s11 139 114) ≤ (nI 16) → P109 s11)
  ∧ (¬ (sI s11 139 114) ≤ (nI 16) → W_X12_wrong s11 (nI 6) (((nI 512) * v2) + v3) 
   (fun s31 => P109 s31))))
 ∧ (r10 = 0 → W_X12_wrong s11 (nI 5) (((nI 512) * v2) + v3) 
  (fun s32 => P109 s32))))
set_option maxRecDepth 100000 in
set_option maxHeartbeats 40000000 in
theorem w_X12_lookAtOne {G : xG} (hG : yG G) {z : Nat} {s : yS} {v1 : Int32} {v2 : Int32} {v3 : Int32} {Q : yS → Prop} (H : W_X12_lookAtOne s v1 v2 v3 Q) : xC G mX12_lookAtOne [.ref (q_b G + 139), .int v1, .int v2, .int v3] (hS G s) z 0 0 (yQv G z Q) := by
  have hW := hG.1
  have hcl := hG.2.1
  have hty := hG.2.2.1
  have hO : xO G mX12_lookAtOne tbX12_lookAtOne ptX12_lookAtOne := ⟨tkX12_lookAtOne, pkX12_lookAtOne hcl⟩
  unfold W_X12_lookAtOne at H
  refine xC.of hW (by decide) rfl (Nat.le_of_ble_eq_true rfl) ?_
  refine s_bipush (x := (nI 12)) (nx := 2) hO rfl (by decide) rfl ?_
  refine s_iload_n (nx := 3) hO rfl rfl rfl ?_
  refine s_imul (nx := 4) hO rfl rfl ?_
  refine s_iload_n (nx := 5) hO rfl rfl rfl ?_
  refine s_iadd (nx := 6) hO rfl rfl ?_
  refine goV ((((nI 12) * v1) + v2)) (fun x1 ex1 => ?_)
  replace H := H x1 ex1
  refine e_istore (nx := 8) (l' := [(4, .int x1), (0, .ref (q_b G + 139)), (1, .int v1), (2, .int v2), (3, .int v3)]) ex1 hO rfl (by decide) rfl rfl ?_
  refine s_sipush (x := (nI 4800)) (nx := 11) hO rfl (by decide) rfl ?_
  refine s_iload_n (nx := 12) hO rfl rfl rfl ?_
  refine s_imul (nx := 13) hO rfl rfl ?_
  refine s_sipush (x := (nI 400)) (nx := 16) hO rfl (by decide) rfl ?_
  refine s_iload_n (nx := 17) hO rfl rfl rfl ?_
  refine s_imul (nx := 18) hO rfl rfl ?_
  refine s_iadd (nx := 19) hO rfl rfl ?_
  refine s_iload_n (nx := 20) hO rfl rfl rfl ?_
  refine s_iadd (nx := 21) hO rfl rfl ?_
  refine goV (((((nI 4800) * v1) + ((nI 400) * v2)) + v3)) (fun x2 ex2 => ?_)
  replace H := H x2 ex2
  refine e_istore (nx := 23) (l' := [(5, .int x2), (4, .int x1), (0, .ref (q_b G + 139)), (1, .int v1), (2, .int v2), (3, .int v3)]) ex2 hO rfl (by decide) rfl rfl ?_
  refine s_aload_n (nx := 24) hO rfl rfl rfl ?_
  refine s_getf (v := .ref (q_b G + 186)) (nx := 27) hO rfl rfl (hs_o12 kc139) rfl rfl ?_
  refine s_iload (nx := 29) hO rfl rfl rfl ?_
  obtain ⟨b3, H⟩ := H
  refine s_iald (nx := 30) hO rfl (hs_I kc186) b3 rfl ?_
  refine goV ((sI s 186 (ix x2))) (fun x4 ex4 => ?_)
  replace H := H x4 ex4
  refine e_istore (nx := 32) (l' := [(6, .int x4), (5, .int x2), (4, .int x1), (0, .ref (q_b G + 139)), (1, .int v1), (2, .int v2), (3, .int v3)]) ex4 hO rfl (by decide) rfl rfl ?_
  refine s_aload_n (nx := 33) hO rfl rfl rfl ?_
  refine s_aload_n (nx := 34) hO rfl rfl rfl ?_
  refine s_getf (v := .ref (q_b G + 193)) (nx := 37) hO rfl rfl (hs_o12 kc139) rfl rfl ?_
  refine s_iload (nx := 39) hO rfl rfl rfl ?_
  obtain ⟨b5, H⟩ := H
  refine s_iald (nx := 40) hO rfl (hs_I kc193) b5 rfl ?_
  refine goV (wI s 139 114 (sI s 193 (ix x2))) (fun s6 es6 => ?_)
  replace H := H s6 es6
  refine s_putf (nx := 43) hO rfl rfl (hs_o12 kc139) (Nat.le_of_ble_eq_true rfl) (by rw [hty]; rfl) (by rw [hty]; rfl) pX12_114 rfl ?_
  refine xEx.at (up_oI12 kc139 es6) ?_
  refine s_aload_n (nx := 44) hO rfl rfl rfl ?_
  refine s_aload_n (nx := 45) hO rfl rfl rfl ?_
  refine s_getf (v := .ref (q_b G + 194)) (nx := 48) hO rfl rfl (hs_o12 kc139) rfl rfl ?_
  refine s_iload (nx := 50) hO rfl rfl rfl ?_
  obtain ⟨b7, H⟩ := H
  refine s_iald (nx := 51) hO rfl (hs_I kc194) b7 rfl ?_
  refine goV (wI s6 139 115 (sI s6 194 (ix x2))) (fun s8 es8 => ?_)
  replace H := H s8 es8
  refine s_putf (nx := 54) hO rfl rfl (hs_o12 kc139) (Nat.le_of_ble_eq_true rfl) (by rw [hty]; rfl) (by rw [hty]; rfl) pX12_115 rfl ?_
  refine xEx.at (up_oI12 kc139 es8) ?_
  refine s_aload_n (nx := 55) hO rfl rfl rfl ?_
  refine s_iload_n (nx := 56) hO rfl rfl rfl ?_
  refine s_iload_n (nx := 57) hO rfl rfl rfl ?_
  refine s_iload (nx := 59) hO rfl rfl rfl ?_
  refine s_aload_n (nx := 60) hO rfl rfl rfl ?_
  refine s_getf (v := .ref (q_b G + 187)) (nx := 63) hO rfl rfl (hs_o12 kc139) rfl rfl ?_
  refine s_iload (nx := 65) hO rfl rfl rfl ?_
  obtain ⟨b9, H⟩ := H
  refine s_iald (nx := 66) hO rfl (hs_I kc187) b9 rfl ?_
  refine s_callV [.int v1, .int v2, .int x4, .int (sI s8 187 (ix x2))] (ci := 12) (F := TX12) (N := 116) (nx := 69) hO rfl kX12_lookAtOne_574 (by rw [hcl]; rfl) (hs_o12 kc139) (w_X12_moves hG H) rfl rfl (Nat.le_of_ble_eq_true rfl) (Nat.zero_le _) (Nat.zero_le _) rfl (k_Qi (fun r10 s11 H => ?_))
  refine goK (H (fun (s12 : yS) => xEx G mX12_lookAtOne 109 [(0, .ref (q_b G + 139)), (1, .int v1), (2, .int v2), (3, .int v3), (4, .int x1), (5, .int x2), (6, .int x4)] [] (hS G s12) z 0 0 (yQv G z Q)) (fun s12 H => ?_)) (fun H => ?_)
  · show xEx G mX12_lookAtOne 109 [(0, .ref (q_b G + 139)), (1, .int v1), (2, .int v2), (3, .int v3), (4, .int x1), (5, .int x2), (6, .int x4)] [] (hS G s12) z 0 0 (yQv G z Q)
    refine s_aload_n (nx := 110) hO rfl rfl rfl ?_
    refine s_getf (v := .int (sI s12 139 15)) (nx := 113) hO rfl rfl (hs_o12 kc139) rfl rfl ?_
    refine s_if_le (nx := 116) hO rfl rfl (fun c113 => ?_) (fun c113 => ?_)
    · replace H := H.1 c113
      refine s_aload_n (nx := 118) hO rfl rfl rfl ?_
      refine s_getf (v := .int (sI s12 139 114)) (nx := 121) hO rfl rfl (hs_o12 kc139) rfl rfl ?_
      refine goV ((sI s12 139 114)) (fun x13 ex13 => ?_)
      replace H := H x13 ex13
      refine e_istore (nx := 123) (l' := [(7, .int x13), (0, .ref (q_b G + 139)), (1, .int v1), (2, .int v2), (3, .int v3), (4, .int x1), (5, .int x2), (6, .int x4)]) ex13 hO rfl (by decide) rfl rfl ?_
      refine s_aload_n (nx := 124) hO rfl rfl rfl ?_
      refine s_getf (v := .int (sI s12 139 115)) (nx := 127) hO rfl rfl (hs_o12 kc139) rfl rfl ?_
      refine goV ((sI s12 139 115)) (fun x14 ex14 => ?_)
      replace H := H x14 ex14
      refine e_istore (nx := 129) (l' := [(8, .int x14), (7, .int x13), (0, .ref (q_b G + 139)), (1, .int v1), (2, .int v2), (3, .int v3), (4, .int x1), (5, .int x2), (6, .int x4)]) ex14 hO rfl (by decide) rfl rfl ?_
      refine s_bipush (x := (nI 72)) (nx := 131) hO rfl (by decide) rfl ?_
      refine s_iload_n (nx := 132) hO rfl rfl rfl ?_
      refine s_imul (nx := 133) hO rfl rfl ?_
      refine s_bipush (x := (nI 6)) (nx := 135) hO rfl (by decide) rfl ?_
      refine s_iload_n (nx := 136) hO rfl rfl rfl ?_
      refine s_imul (nx := 137) hO rfl rfl ?_
      refine s_iadd (nx := 138) hO rfl rfl ?_
      refine goK (H (fun (x15 : Int32) (s16 : yS) => xEx G mX12_lookAtOne 140 [(0, .ref (q_b G + 139)), (1, .int v1), (2, .int v2), (3, .int v3), (4, .int x1), (5, .int x2), (6, .int x4), (7, .int x13), (8, .int x14), (9, .int x15)] [] (hS G s16) z 0 0 (yQv G z Q)) (fun x15 s16 H => ?_)) (fun H => ?_)
      · show xEx G mX12_lookAtOne 140 [(0, .ref (q_b G + 139)), (1, .int v1), (2, .int v2), (3, .int v3), (4, .int x1), (5, .int x2), (6, .int x4), (7, .int x13), (8, .int x14), (9, .int x15)] [] (hS G s16) z 0 0 (yQv G z Q)
        refine s_iload (nx := 142) hO rfl rfl rfl ?_
        refine s_bipush (x := (nI 72)) (nx := 144) hO rfl (by decide) rfl ?_
        refine s_iload_n (nx := 145) hO rfl rfl rfl ?_
        refine s_imul (nx := 146) hO rfl rfl ?_
        refine s_bipush (x := (nI 6)) (nx := 148) hO rfl (by decide) rfl ?_
        refine s_iload_n (nx := 149) hO rfl rfl rfl ?_
        refine s_imul (nx := 150) hO rfl rfl ?_
        refine s_iadd (nx := 151) hO rfl rfl ?_
        refine s_aload_n (nx := 152) hO rfl rfl rfl ?_
        refine s_getf (v := .ref (q_b G + 185)) (nx := 155) hO rfl rfl (hs_o12 kc139) rfl rfl ?_
        refine s_iload (nx := 157) hO rfl rfl rfl ?_
        obtain ⟨b17, H⟩ := H
        refine s_iald (nx := 158) hO rfl (hs_I kc185) b17 rfl ?_
        refine s_iadd (nx := 159) hO rfl rfl ?_
        refine goK (H (xEx G mX12_lookAtOne 212 [(0, .ref (q_b G + 139)), (1, .int v1), (2, .int v2), (3, .int v3), (4, .int x1), (5, .int x2), (6, .int x4), (7, .int x13), (8, .int x14)] [] (hS G s16) z 0 0 (yQv G z Q)) (fun H => ?_)) (fun H => ?_)
        · show xEx G mX12_lookAtOne 212 [(0, .ref (q_b G + 139)), (1, .int v1), (2, .int v2), (3, .int v3), (4, .int x1), (5, .int x2), (6, .int x4), (7, .int x13), (8, .int x14)] [] (hS G s16) z 0 0 (yQv G z Q)
          refine s_iload (nx := 214) hO rfl rfl rfl ?_
          refine s_bipush (x := (nI 17)) (nx := 216) hO rfl (by decide) rfl ?_
          refine goK (H (fun (s18 : yS) => xEx G mX12_lookAtOne 250 [(0, .ref (q_b G + 139)), (1, .int v1), (2, .int v2), (3, .int v3), (4, .int x1), (6, .int x4), (7, .int x13), (8, .int x14)] [] (hS G s18) z 0 0 (yQv G z Q)) (fun s18 H => ?_)) (fun H => ?_)
          · show xEx G mX12_lookAtOne 250 [(0, .ref (q_b G + 139)), (1, .int v1), (2, .int v2), (3, .int v3), (4, .int x1), (6, .int x4), (7, .int x13), (8, .int x14)] [] (hS G s18) z 0 0 (yQv G z Q)
            refine s_iload (nx := 252) hO rfl rfl rfl ?_
            refine s_bipush (x := (nI 18)) (nx := 254) hO rfl (by decide) rfl ?_
            refine s_icmp_eq (nx := 257) hO rfl rfl (fun c254 => ?_) (fun c254 => ?_)
            · replace H := H.1 c254
              exact s_vret hO rfl rfl ⟨rfl, _, rfl, rfl, H⟩
            · replace H := H.2 c254
              refine s_iload (nx := 259) hO rfl rfl rfl ?_
              refine s_bipush (x := (nI 27)) (nx := 261) hO rfl (by decide) rfl ?_
              refine s_icmp_eq (nx := 264) hO rfl rfl (fun c261 => ?_) (fun c261 => ?_)
              · replace H := H.1 c261
                exact s_vret hO rfl rfl ⟨rfl, _, rfl, rfl, H⟩
              · replace H := H.2 c261
                refine s_iload (nx := 266) hO rfl rfl rfl ?_
                refine s_bipush (x := (nI 28)) (nx := 268) hO rfl (by decide) rfl ?_
                refine s_icmp_eq (nx := 271) hO rfl rfl (fun c268 => ?_) (fun c268 => ?_)
                · replace H := H.1 c268
                  exact s_vret hO rfl rfl ⟨rfl, _, rfl, rfl, H⟩
                · replace H := H.2 c268
                  refine s_aload_n (nx := 272) hO rfl rfl rfl ?_
                  refine s_getf (v := .int (sI s18 139 15)) (nx := 275) hO rfl rfl (hs_o12 kc139) rfl rfl ?_
                  refine s_if_ne (nx := 278) hO rfl rfl (fun c275 => ?_) (fun c275 => ?_)
                  · replace H := H.1 c275
                    exact s_vret hO rfl rfl ⟨rfl, _, rfl, rfl, H⟩
                  · replace H := H.2 c275
                    refine s_iload_n (nx := 279) hO rfl rfl rfl ?_
                    refine s_iconst (x := 1) (nx := 280) hO rfl (by decide) rfl ?_
                    refine s_iadd (nx := 281) hO rfl rfl ?_
                    refine s_aload_n (nx := 282) hO rfl rfl rfl ?_
                    refine s_getf (v := .ref (q_b G + 184)) (nx := 285) hO rfl rfl (hs_o12 kc139) rfl rfl ?_
                    refine s_iload (nx := 287) hO rfl rfl rfl ?_
                    obtain ⟨b19, H⟩ := H
                    refine s_iald (nx := 288) hO rfl (hs_I kc184) b19 rfl ?_
                    refine s_icmp_ne (nx := 291) hO rfl rfl (fun c288 => ?_) (fun c288 => ?_)
                    · replace H := H.1 c288
                      refine s_aload_n (nx := 308) hO rfl rfl rfl ?_
                      refine s_iload_n (nx := 309) hO rfl rfl rfl ?_
                      refine s_iload_n (nx := 310) hO rfl rfl rfl ?_
                      refine s_iload_n (nx := 311) hO rfl rfl rfl ?_
                      refine s_iconst (x := 1) (nx := 312) hO rfl (by decide) rfl ?_
                      refine s_iadd (nx := 313) hO rfl rfl ?_
                      refine s_iload (nx := 315) hO rfl rfl rfl ?_
                      refine s_iload (nx := 317) hO rfl rfl rfl ?_
                      refine s_callV [.int v1, .int v2, .int (v3 + 1), .int x13, .int x14] (ci := 12) (F := TX12) (N := 116) (nx := 320) hO rfl kX12_lookAtOne_567 (by rw [hcl]; rfl) (hs_o12 kc139) (w_X12_comeTo hG H) rfl rfl (Nat.le_of_ble_eq_true rfl) (Nat.zero_le _) (Nat.zero_le _) rfl (k_Qv (fun s20 H => ?_))
                      exact s_vret hO rfl rfl ⟨rfl, _, rfl, rfl, H⟩
                    · replace H := H.2 c288
                      refine s_aload_n (nx := 292) hO rfl rfl rfl ?_
                      refine s_bipush (x := (nI 8)) (nx := 294) hO rfl (by decide) rfl ?_
                      refine s_sipush (x := (nI 512)) (nx := 297) hO rfl (by decide) rfl ?_
                      refine s_iload_n (nx := 298) hO rfl rfl rfl ?_
                      refine s_imul (nx := 299) hO rfl rfl ?_
                      refine s_iload_n (nx := 300) hO rfl rfl rfl ?_
                      refine s_iadd (nx := 301) hO rfl rfl ?_
                      refine s_callV [.int (nI 8), .int (((nI 512) * v2) + v3)] (ci := 12) (F := TX12) (N := 116) (nx := 304) hO rfl kX12_lookAtOne_303 (by rw [hcl]; rfl) (hs_o12 kc139) (w_X12_wrong hG H) rfl rfl (Nat.le_of_ble_eq_true rfl) (Nat.zero_le _) (Nat.zero_le _) rfl (k_Qv (fun s21 H => ?_))
                      refine s_goto hO rfl ?_
                      exact s_vret hO rfl rfl ⟨rfl, _, rfl, rfl, H⟩
          refine s_icmp_le (nx := 219) hO rfl rfl (fun c216 => ?_) (fun c216 => ?_)
          · replace H := H.1 c216
            exact xEx.loc (x_sub1 (List.Mem.head _) (x_sub1 (List.Mem.tail _ (List.Mem.head _)) (x_sub1 (List.Mem.tail _ (List.Mem.tail _ (List.Mem.head _))) (x_sub1 (List.Mem.tail _ (List.Mem.tail _ (List.Mem.tail _ (List.Mem.head _)))) (x_sub1 (List.Mem.tail _ (List.Mem.tail _ (List.Mem.tail _ (List.Mem.tail _ (List.Mem.head _))))) (x_sub1 (List.Mem.tail _ (List.Mem.tail _ (List.Mem.tail _ (List.Mem.tail _ (List.Mem.tail _ (List.Mem.tail _ (List.Mem.head _))))))) (x_sub1 (List.Mem.tail _ (List.Mem.tail _ (List.Mem.tail _ (List.Mem.tail _ (List.Mem.tail _ (List.Mem.tail _ (List.Mem.tail _ (List.Mem.head _)))))))) (x_sub1 (List.Mem.tail _ (List.Mem.tail _ (List.Mem.tail _ (List.Mem.tail _ (List.Mem.tail _ (List.Mem.tail _ (List.Mem.tail _ (List.Mem.tail _ (List.Mem.head _))))))))) x_sub0)))))))) H
          · replace H := H.2 c216
            refine s_iload (nx := 221) hO rfl rfl rfl ?_
            refine s_bipush (x := (nI 21)) (nx := 223) hO rfl (by decide) rfl ?_
            refine s_icmp_ge (nx := 226) hO rfl rfl (fun c223 => ?_) (fun c223 => ?_)
            · replace H := H.1 c223
              exact xEx.loc (x_sub1 (List.Mem.head _) (x_sub1 (List.Mem.tail _ (List.Mem.head _)) (x_sub1 (List.Mem.tail _ (List.Mem.tail _ (List.Mem.head _))) (x_sub1 (List.Mem.tail _ (List.Mem.tail _ (List.Mem.tail _ (List.Mem.head _)))) (x_sub1 (List.Mem.tail _ (List.Mem.tail _ (List.Mem.tail _ (List.Mem.tail _ (List.Mem.head _))))) (x_sub1 (List.Mem.tail _ (List.Mem.tail _ (List.Mem.tail _ (List.Mem.tail _ (List.Mem.tail _ (List.Mem.tail _ (List.Mem.head _))))))) (x_sub1 (List.Mem.tail _ (List.Mem.tail _ (List.Mem.tail _ (List.Mem.tail _ (List.Mem.tail _ (List.Mem.tail _ (List.Mem.tail _ (List.Mem.head _)))))))) (x_sub1 (List.Mem.tail _ (List.Mem.tail _ (List.Mem.tail _ (List.Mem.tail _ (List.Mem.tail _ (List.Mem.tail _ (List.Mem.tail _ (List.Mem.tail _ (List.Mem.head _))))))))) x_sub0)))))))) H
            · replace H := H.2 c223
              refine s_aload_n (nx := 227) hO rfl rfl rfl ?_
              refine s_getf (v := .int (sI s16 139 15)) (nx := 230) hO rfl rfl (hs_o12 kc139) rfl rfl ?_
              refine s_if_ne (nx := 233) hO rfl rfl (fun c230 => ?_) (fun c230 => ?_)
              · replace H := H.1 c230
                exact xEx.loc (x_sub1 (List.Mem.head _) (x_sub1 (List.Mem.tail _ (List.Mem.head _)) (x_sub1 (List.Mem.tail _ (List.Mem.tail _ (List.Mem.head _))) (x_sub1 (List.Mem.tail _ (List.Mem.tail _ (List.Mem.tail _ (List.Mem.head _)))) (x_sub1 (List.Mem.tail _ (List.Mem.tail _ (List.Mem.tail _ (List.Mem.tail _ (List.Mem.head _))))) (x_sub1 (List.Mem.tail _ (List.Mem.tail _ (List.Mem.tail _ (List.Mem.tail _ (List.Mem.tail _ (List.Mem.tail _ (List.Mem.head _))))))) (x_sub1 (List.Mem.tail _ (List.Mem.tail _ (List.Mem.tail _ (List.Mem.tail _ (List.Mem.tail _ (List.Mem.tail _ (List.Mem.tail _ (List.Mem.head _)))))))) (x_sub1 (List.Mem.tail _ (List.Mem.tail _ (List.Mem.tail _ (List.Mem.tail _ (List.Mem.tail _ (List.Mem.tail _ (List.Mem.tail _ (List.Mem.tail _ (List.Mem.head _))))))))) x_sub0)))))))) H
              · replace H := H.2 c230
                refine s_aload_n (nx := 234) hO rfl rfl rfl ?_
                refine s_iload_n (nx := 235) hO rfl rfl rfl ?_
                refine s_iload_n (nx := 236) hO rfl rfl rfl ?_
                refine s_aload_n (nx := 237) hO rfl rfl rfl ?_
                refine s_getf (v := .ref (q_b G + 187)) (nx := 240) hO rfl rfl (hs_o12 kc139) rfl rfl ?_
                refine s_iload (nx := 242) hO rfl rfl rfl ?_
                obtain ⟨b22, H⟩ := H
                refine s_iald (nx := 243) hO rfl (hs_I kc187) b22 rfl ?_
                refine s_iload (nx := 245) hO rfl rfl rfl ?_
                refine s_iload (nx := 247) hO rfl rfl rfl ?_
                refine s_callV [.int v1, .int v2, .int (sI s16 187 (ix x2)), .int x13, .int x14] (ci := 12) (F := TX12) (N := 116) (nx := 250) hO rfl kX12_lookAtOne_567 (by rw [hcl]; rfl) (hs_o12 kc139) (w_X12_comeTo hG H) rfl rfl (Nat.le_of_ble_eq_true rfl) (Nat.zero_le _) (Nat.zero_le _) rfl (k_Qv (fun s23 H => ?_))
                exact xEx.loc (x_sub1 (List.Mem.head _) (x_sub1 (List.Mem.tail _ (List.Mem.head _)) (x_sub1 (List.Mem.tail _ (List.Mem.tail _ (List.Mem.head _))) (x_sub1 (List.Mem.tail _ (List.Mem.tail _ (List.Mem.tail _ (List.Mem.head _)))) (x_sub1 (List.Mem.tail _ (List.Mem.tail _ (List.Mem.tail _ (List.Mem.tail _ (List.Mem.head _))))) (x_sub1 (List.Mem.tail _ (List.Mem.tail _ (List.Mem.tail _ (List.Mem.tail _ (List.Mem.tail _ (List.Mem.tail _ (List.Mem.head _))))))) (x_sub1 (List.Mem.tail _ (List.Mem.tail _ (List.Mem.tail _ (List.Mem.tail _ (List.Mem.tail _ (List.Mem.tail _ (List.Mem.tail _ (List.Mem.head _)))))))) (x_sub1 (List.Mem.tail _ (List.Mem.tail _ (List.Mem.tail _ (List.Mem.tail _ (List.Mem.tail _ (List.Mem.tail _ (List.Mem.tail _ (List.Mem.tail _ (List.Mem.head _))))))))) x_sub0)))))))) H
        refine s_icmp_ge (nx := 162) hO rfl rfl (fun c159 => ?_) (fun c159 => ?_)
        · replace H := H.1 c159
          exact xEx.loc (x_sub1 (List.Mem.head _) (x_sub1 (List.Mem.tail _ (List.Mem.head _)) (x_sub1 (List.Mem.tail _ (List.Mem.tail _ (List.Mem.head _))) (x_sub1 (List.Mem.tail _ (List.Mem.tail _ (List.Mem.tail _ (List.Mem.head _)))) (x_sub1 (List.Mem.tail _ (List.Mem.tail _ (List.Mem.tail _ (List.Mem.tail _ (List.Mem.head _))))) (x_sub1 (List.Mem.tail _ (List.Mem.tail _ (List.Mem.tail _ (List.Mem.tail _ (List.Mem.tail _ (List.Mem.head _)))))) (x_sub1 (List.Mem.tail _ (List.Mem.tail _ (List.Mem.tail _ (List.Mem.tail _ (List.Mem.tail _ (List.Mem.tail _ (List.Mem.head _))))))) (x_sub1 (List.Mem.tail _ (List.Mem.tail _ (List.Mem.tail _ (List.Mem.tail _ (List.Mem.tail _ (List.Mem.tail _ (List.Mem.tail _ (List.Mem.head _)))))))) (x_sub1 (List.Mem.tail _ (List.Mem.tail _ (List.Mem.tail _ (List.Mem.tail _ (List.Mem.tail _ (List.Mem.tail _ (List.Mem.tail _ (List.Mem.tail _ (List.Mem.head _))))))))) x_sub0))))))))) H
        · replace H := H.2 c159
          refine s_aload_n (nx := 163) hO rfl rfl rfl ?_
          refine s_getf (v := .int (sI s16 139 15)) (nx := 166) hO rfl rfl (hs_o12 kc139) rfl rfl ?_
          refine s_if_ne (nx := 169) hO rfl rfl (fun c166 => ?_) (fun c166 => ?_)
          · replace H := H.1 c166
            exact xEx.loc (x_sub1 (List.Mem.head _) (x_sub1 (List.Mem.tail _ (List.Mem.head _)) (x_sub1 (List.Mem.tail _ (List.Mem.tail _ (List.Mem.head _))) (x_sub1 (List.Mem.tail _ (List.Mem.tail _ (List.Mem.tail _ (List.Mem.head _)))) (x_sub1 (List.Mem.tail _ (List.Mem.tail _ (List.Mem.tail _ (List.Mem.tail _ (List.Mem.head _))))) (x_sub1 (List.Mem.tail _ (List.Mem.tail _ (List.Mem.tail _ (List.Mem.tail _ (List.Mem.tail _ (List.Mem.head _)))))) (x_sub1 (List.Mem.tail _ (List.Mem.tail _ (List.Mem.tail _ (List.Mem.tail _ (List.Mem.tail _ (List.Mem.tail _ (List.Mem.head _))))))) (x_sub1 (List.Mem.tail _ (List.Mem.tail _ (List.Mem.tail _ (List.Mem.tail _ (List.Mem.tail _ (List.Mem.tail _ (List.Mem.tail _ (List.Mem.head _)))))))) (x_sub1 (List.Mem.tail _ (List.Mem.tail _ (List.Mem.tail _ (List.Mem.tail _ (List.Mem.tail _ (List.Mem.tail _ (List.Mem.tail _ (List.Mem.tail _ (List.Mem.head _))))))))) x_sub0))))))))) H
          · replace H := H.2 c166
            refine s_aload_n (nx := 170) hO rfl rfl rfl ?_
            refine s_getf (v := .ref (q_b G + 188)) (nx := 173) hO rfl rfl (hs_o12 kc139) rfl rfl ?_
            refine s_iload (nx := 175) hO rfl rfl rfl ?_
            obtain ⟨b24, H⟩ := H
            refine s_iald (nx := 176) hO rfl (hs_I kc188) b24 rfl ?_
            refine s_iload_n (nx := 177) hO rfl rfl rfl ?_
            refine goK (H (fun (s25 : yS) => xEx G mX12_lookAtOne 206 [(0, .ref (q_b G + 139)), (1, .int v1), (2, .int v2), (3, .int v3), (4, .int x1), (5, .int x2), (6, .int x4), (7, .int x13), (8, .int x14), (9, .int x15)] [] (hS G s25) z 0 0 (yQv G z Q)) (fun s25 H => ?_)) (fun H => ?_)
            · show xEx G mX12_lookAtOne 206 [(0, .ref (q_b G + 139)), (1, .int v1), (2, .int v2), (3, .int v3), (4, .int x1), (5, .int x2), (6, .int x4), (7, .int x13), (8, .int x14), (9, .int x15)] [] (hS G s25) z 0 0 (yQv G z Q)
              refine goV ((x15 + 1)) (fun x26 ex26 => ?_)
              replace H := H x26 ex26
              refine e_iinc (nx := 209) (l' := [(9, .int x26), (0, .ref (q_b G + 139)), (1, .int v1), (2, .int v2), (3, .int v3), (4, .int x1), (5, .int x2), (6, .int x4), (7, .int x13), (8, .int x14)]) ex26 hO rfl (by decide) rfl rfl rfl rfl ?_
              refine s_goto hO rfl ?_
              exact xEx.loc (x_sub1 (List.Mem.tail _ (List.Mem.head _)) (x_sub1 (List.Mem.tail _ (List.Mem.tail _ (List.Mem.head _))) (x_sub1 (List.Mem.tail _ (List.Mem.tail _ (List.Mem.tail _ (List.Mem.head _)))) (x_sub1 (List.Mem.tail _ (List.Mem.tail _ (List.Mem.tail _ (List.Mem.tail _ (List.Mem.head _))))) (x_sub1 (List.Mem.tail _ (List.Mem.tail _ (List.Mem.tail _ (List.Mem.tail _ (List.Mem.tail _ (List.Mem.head _)))))) (x_sub1 (List.Mem.tail _ (List.Mem.tail _ (List.Mem.tail _ (List.Mem.tail _ (List.Mem.tail _ (List.Mem.tail _ (List.Mem.head _))))))) (x_sub1 (List.Mem.tail _ (List.Mem.tail _ (List.Mem.tail _ (List.Mem.tail _ (List.Mem.tail _ (List.Mem.tail _ (List.Mem.tail _ (List.Mem.head _)))))))) (x_sub1 (List.Mem.tail _ (List.Mem.tail _ (List.Mem.tail _ (List.Mem.tail _ (List.Mem.tail _ (List.Mem.tail _ (List.Mem.tail _ (List.Mem.tail _ (List.Mem.head _))))))))) (x_sub1 (List.Mem.tail _ (List.Mem.tail _ (List.Mem.tail _ (List.Mem.tail _ (List.Mem.tail _ (List.Mem.tail _ (List.Mem.tail _ (List.Mem.tail _ (List.Mem.tail _ (List.Mem.head _)))))))))) (x_sub1 (List.Mem.head _) x_sub0)))))))))) H
            refine s_icmp_gt (nx := 180) hO rfl rfl (fun c177 => ?_) (fun c177 => ?_)
            · replace H := H.1 c177
              exact xEx.loc (x_sub1 (List.Mem.head _) (x_sub1 (List.Mem.tail _ (List.Mem.head _)) (x_sub1 (List.Mem.tail _ (List.Mem.tail _ (List.Mem.head _))) (x_sub1 (List.Mem.tail _ (List.Mem.tail _ (List.Mem.tail _ (List.Mem.head _)))) (x_sub1 (List.Mem.tail _ (List.Mem.tail _ (List.Mem.tail _ (List.Mem.tail _ (List.Mem.head _))))) (x_sub1 (List.Mem.tail _ (List.Mem.tail _ (List.Mem.tail _ (List.Mem.tail _ (List.Mem.tail _ (List.Mem.head _)))))) (x_sub1 (List.Mem.tail _ (List.Mem.tail _ (List.Mem.tail _ (List.Mem.tail _ (List.Mem.tail _ (List.Mem.tail _ (List.Mem.head _))))))) (x_sub1 (List.Mem.tail _ (List.Mem.tail _ (List.Mem.tail _ (List.Mem.tail _ (List.Mem.tail _ (List.Mem.tail _ (List.Mem.tail _ (List.Mem.head _)))))))) (x_sub1 (List.Mem.tail _ (List.Mem.tail _ (List.Mem.tail _ (List.Mem.tail _ (List.Mem.tail _ (List.Mem.tail _ (List.Mem.tail _ (List.Mem.tail _ (List.Mem.head _))))))))) (x_sub1 (List.Mem.tail _ (List.Mem.tail _ (List.Mem.tail _ (List.Mem.tail _ (List.Mem.tail _ (List.Mem.tail _ (List.Mem.tail _ (List.Mem.tail _ (List.Mem.tail _ (List.Mem.head _)))))))))) x_sub0)))))))))) H
            · replace H := H.2 c177
              refine s_iload_n (nx := 181) hO rfl rfl rfl ?_
              refine s_aload_n (nx := 182) hO rfl rfl rfl ?_
              refine s_getf (v := .ref (q_b G + 189)) (nx := 185) hO rfl rfl (hs_o12 kc139) rfl rfl ?_
              refine s_iload (nx := 187) hO rfl rfl rfl ?_
              obtain ⟨b27, H⟩ := H
              refine s_iald (nx := 188) hO rfl (hs_I kc189) b27 rfl ?_
              refine s_icmp_ge (nx := 191) hO rfl rfl (fun c188 => ?_) (fun c188 => ?_)
              · replace H := H.1 c188
                exact xEx.loc (x_sub1 (List.Mem.head _) (x_sub1 (List.Mem.tail _ (List.Mem.head _)) (x_sub1 (List.Mem.tail _ (List.Mem.tail _ (List.Mem.head _))) (x_sub1 (List.Mem.tail _ (List.Mem.tail _ (List.Mem.tail _ (List.Mem.head _)))) (x_sub1 (List.Mem.tail _ (List.Mem.tail _ (List.Mem.tail _ (List.Mem.tail _ (List.Mem.head _))))) (x_sub1 (List.Mem.tail _ (List.Mem.tail _ (List.Mem.tail _ (List.Mem.tail _ (List.Mem.tail _ (List.Mem.head _)))))) (x_sub1 (List.Mem.tail _ (List.Mem.tail _ (List.Mem.tail _ (List.Mem.tail _ (List.Mem.tail _ (List.Mem.tail _ (List.Mem.head _))))))) (x_sub1 (List.Mem.tail _ (List.Mem.tail _ (List.Mem.tail _ (List.Mem.tail _ (List.Mem.tail _ (List.Mem.tail _ (List.Mem.tail _ (List.Mem.head _)))))))) (x_sub1 (List.Mem.tail _ (List.Mem.tail _ (List.Mem.tail _ (List.Mem.tail _ (List.Mem.tail _ (List.Mem.tail _ (List.Mem.tail _ (List.Mem.tail _ (List.Mem.head _))))))))) (x_sub1 (List.Mem.tail _ (List.Mem.tail _ (List.Mem.tail _ (List.Mem.tail _ (List.Mem.tail _ (List.Mem.tail _ (List.Mem.tail _ (List.Mem.tail _ (List.Mem.tail _ (List.Mem.head _)))))))))) x_sub0)))))))))) H
              · replace H := H.2 c188
                refine s_aload_n (nx := 192) hO rfl rfl rfl ?_
                refine s_iload_n (nx := 193) hO rfl rfl rfl ?_
                refine s_iload_n (nx := 194) hO rfl rfl rfl ?_
                refine s_aload_n (nx := 195) hO rfl rfl rfl ?_
                refine s_getf (v := .ref (q_b G + 190)) (nx := 198) hO rfl rfl (hs_o12 kc139) rfl rfl ?_
                refine s_iload (nx := 200) hO rfl rfl rfl ?_
                obtain ⟨b28, H⟩ := H
                refine s_iald (nx := 201) hO rfl (hs_I kc190) b28 rfl ?_
                refine s_iconst (x := 1) (nx := 202) hO rfl (by decide) rfl ?_
                refine s_iconst (x := 0) (nx := 203) hO rfl (by decide) rfl ?_
                refine s_callV [.int v1, .int v2, .int (sI s16 190 (ix x15)), .int 1, .int 0] (ci := 12) (F := TX12) (N := 116) (nx := 206) hO rfl kX12_lookAtOne_567 (by rw [hcl]; rfl) (hs_o12 kc139) (w_X12_comeTo hG H) rfl rfl (Nat.le_of_ble_eq_true rfl) (Nat.zero_le _) (Nat.zero_le _) rfl (k_Qv (fun s29 H => ?_))
                exact xEx.loc (x_sub1 (List.Mem.head _) (x_sub1 (List.Mem.tail _ (List.Mem.head _)) (x_sub1 (List.Mem.tail _ (List.Mem.tail _ (List.Mem.head _))) (x_sub1 (List.Mem.tail _ (List.Mem.tail _ (List.Mem.tail _ (List.Mem.head _)))) (x_sub1 (List.Mem.tail _ (List.Mem.tail _ (List.Mem.tail _ (List.Mem.tail _ (List.Mem.head _))))) (x_sub1 (List.Mem.tail _ (List.Mem.tail _ (List.Mem.tail _ (List.Mem.tail _ (List.Mem.tail _ (List.Mem.head _)))))) (x_sub1 (List.Mem.tail _ (List.Mem.tail _ (List.Mem.tail _ (List.Mem.tail _ (List.Mem.tail _ (List.Mem.tail _ (List.Mem.head _))))))) (x_sub1 (List.Mem.tail _ (List.Mem.tail _ (List.Mem.tail _ (List.Mem.tail _ (List.Mem.tail _ (List.Mem.tail _ (List.Mem.tail _ (List.Mem.head _)))))))) (x_sub1 (List.Mem.tail _ (List.Mem.tail _ (List.Mem.tail _ (List.Mem.tail _ (List.Mem.tail _ (List.Mem.tail _ (List.Mem.tail _ (List.Mem.tail _ (List.Mem.head _))))))))) (x_sub1 (List.Mem.tail _ (List.Mem.tail _ (List.Mem.tail _ (List.Mem.tail _ (List.Mem.tail _ (List.Mem.tail _ (List.Mem.tail _ (List.Mem.tail _ (List.Mem.tail _ (List.Mem.head _)))))))))) x_sub0)))))))))) H
      refine goV ((((nI 72) * v1) + ((nI 6) * v2))) (fun x30 ex30 => ?_)
      replace H := H x30 ex30
      refine e_istore (nx := 140) (l' := [(9, .int x30), (8, .int x14), (7, .int x13), (0, .ref (q_b G + 139)), (1, .int v1), (2, .int v2), (3, .int v3), (4, .int x1), (5, .int x2), (6, .int x4)]) ex30 hO rfl (by decide) rfl rfl ?_
      exact xEx.loc (x_sub1 (List.Mem.tail _ (List.Mem.tail _ (List.Mem.tail _ (List.Mem.head _)))) (x_sub1 (List.Mem.tail _ (List.Mem.tail _ (List.Mem.tail _ (List.Mem.tail _ (List.Mem.head _))))) (x_sub1 (List.Mem.tail _ (List.Mem.tail _ (List.Mem.tail _ (List.Mem.tail _ (List.Mem.tail _ (List.Mem.head _)))))) (x_sub1 (List.Mem.tail _ (List.Mem.tail _ (List.Mem.tail _ (List.Mem.tail _ (List.Mem.tail _ (List.Mem.tail _ (List.Mem.head _))))))) (x_sub1 (List.Mem.tail _ (List.Mem.tail _ (List.Mem.tail _ (List.Mem.tail _ (List.Mem.tail _ (List.Mem.tail _ (List.Mem.tail _ (List.Mem.head _)))))))) (x_sub1 (List.Mem.tail _ (List.Mem.tail _ (List.Mem.tail _ (List.Mem.tail _ (List.Mem.tail _ (List.Mem.tail _ (List.Mem.tail _ (List.Mem.tail _ (List.Mem.head _))))))))) (x_sub1 (List.Mem.tail _ (List.Mem.tail _ (List.Mem.tail _ (List.Mem.tail _ (List.Mem.tail _ (List.Mem.tail _ (List.Mem.tail _ (List.Mem.tail _ (List.Mem.tail _ (List.Mem.head _)))))))))) (x_sub1 (List.Mem.tail _ (List.Mem.tail _ (List.Mem.head _))) (x_sub1 (List.Mem.tail _ (List.Mem.head _)) (x_sub1 (List.Mem.head _) x_sub0)))))))))) H
    · replace H := H.2 c113
      exact s_vret hO rfl rfl ⟨rfl, _, rfl, rfl, H⟩
  refine s_if_ne (nx := 72) hO rfl rfl (fun c69 => ?_) (fun c69 => ?_)
  · replace H := H.1 c69
    refine s_aload_n (nx := 88) hO rfl rfl rfl ?_
    refine s_getf (v := .int (sI s11 139 114)) (nx := 91) hO rfl rfl (hs_o12 kc139) rfl rfl ?_
    refine s_bipush (x := (nI 16)) (nx := 93) hO rfl (by decide) rfl ?_
    refine s_icmp_le (nx := 96) hO rfl rfl (fun c93 => ?_) (fun c93 => ?_)
    · replace H := H.1 c93
      exact xEx.loc (x_sub1 (List.Mem.tail _ (List.Mem.tail _ (List.Mem.tail _ (List.Mem.head _)))) (x_sub1 (List.Mem.tail _ (List.Mem.tail _ (List.Mem.tail _ (List.Mem.tail _ (List.Mem.head _))))) (x_sub1 (List.Mem.tail _ (List.Mem.tail _ (List.Mem.tail _ (List.Mem.tail _ (List.Mem.tail _ (List.Mem.head _)))))) (x_sub1 (List.Mem.tail _ (List.Mem.tail _ (List.Mem.tail _ (List.Mem.tail _ (List.Mem.tail _ (List.Mem.tail _ (List.Mem.head _))))))) (x_sub1 (List.Mem.tail _ (List.Mem.tail _ (List.Mem.head _))) (x_sub1 (List.Mem.tail _ (List.Mem.head _)) (x_sub1 (List.Mem.head _) x_sub0))))))) H
    · replace H := H.2 c93
      refine s_aload_n (nx := 97) hO rfl rfl rfl ?_
      refine s_bipush (x := (nI 6)) (nx := 99) hO rfl (by decide) rfl ?_
      refine s_sipush (x := (nI 512)) (nx := 102) hO rfl (by decide) rfl ?_
      refine s_iload_n (nx := 103) hO rfl rfl rfl ?_
      refine s_imul (nx := 104) hO rfl rfl ?_
      refine s_iload_n (nx := 105) hO rfl rfl rfl ?_
      refine s_iadd (nx := 106) hO rfl rfl ?_
      refine s_callV [.int (nI 6), .int (((nI 512) * v2) + v3)] (ci := 12) (F := TX12) (N := 116) (nx := 109) hO rfl kX12_lookAtOne_303 (by rw [hcl]; rfl) (hs_o12 kc139) (w_X12_wrong hG H) rfl rfl (Nat.le_of_ble_eq_true rfl) (Nat.zero_le _) (Nat.zero_le _) rfl (k_Qv (fun s31 H => ?_))
      exact xEx.loc (x_sub1 (List.Mem.tail _ (List.Mem.tail _ (List.Mem.tail _ (List.Mem.head _)))) (x_sub1 (List.Mem.tail _ (List.Mem.tail _ (List.Mem.tail _ (List.Mem.tail _ (List.Mem.head _))))) (x_sub1 (List.Mem.tail _ (List.Mem.tail _ (List.Mem.tail _ (List.Mem.tail _ (List.Mem.tail _ (List.Mem.head _)))))) (x_sub1 (List.Mem.tail _ (List.Mem.tail _ (List.Mem.tail _ (List.Mem.tail _ (List.Mem.tail _ (List.Mem.tail _ (List.Mem.head _))))))) (x_sub1 (List.Mem.tail _ (List.Mem.tail _ (List.Mem.head _))) (x_sub1 (List.Mem.tail _ (List.Mem.head _)) (x_sub1 (List.Mem.head _) x_sub0))))))) H
  · replace H := H.2 c69
    refine s_aload_n (nx := 73) hO rfl rfl rfl ?_
    refine s_iconst (x := (nI 5)) (nx := 74) hO rfl (by decide) rfl ?_
    refine s_sipush (x := (nI 512)) (nx := 77) hO rfl (by decide) rfl ?_
    refine s_iload_n (nx := 78) hO rfl rfl rfl ?_
    refine s_imul (nx := 79) hO rfl rfl ?_
    refine s_iload_n (nx := 80) hO rfl rfl rfl ?_
    refine s_iadd (nx := 81) hO rfl rfl ?_
    refine s_callV [.int (nI 5), .int (((nI 512) * v2) + v3)] (ci := 12) (F := TX12) (N := 116) (nx := 84) hO rfl kX12_lookAtOne_303 (by rw [hcl]; rfl) (hs_o12 kc139) (w_X12_wrong hG H) rfl rfl (Nat.le_of_ble_eq_true rfl) (Nat.zero_le _) (Nat.zero_le _) rfl (k_Qv (fun s32 H => ?_))
    refine s_goto hO rfl ?_
    exact xEx.loc (x_sub1 (List.Mem.tail _ (List.Mem.tail _ (List.Mem.tail _ (List.Mem.head _)))) (x_sub1 (List.Mem.tail _ (List.Mem.tail _ (List.Mem.tail _ (List.Mem.tail _ (List.Mem.head _))))) (x_sub1 (List.Mem.tail _ (List.Mem.tail _ (List.Mem.tail _ (List.Mem.tail _ (List.Mem.tail _ (List.Mem.head _)))))) (x_sub1 (List.Mem.tail _ (List.Mem.tail _ (List.Mem.tail _ (List.Mem.tail _ (List.Mem.tail _ (List.Mem.tail _ (List.Mem.head _))))))) (x_sub1 (List.Mem.tail _ (List.Mem.tail _ (List.Mem.head _))) (x_sub1 (List.Mem.tail _ (List.Mem.head _)) (x_sub1 (List.Mem.head _) x_sub0))))))) H
def W_X12_verify (s : yS) (v1 : Int32) (v2 : Int32) (Q : yS → Prop) : Prop :=
 ∀ x1 : Int32, x1 = (((nI 12) * v1) + v2) → 
 ∀ P10 : Int32 → yS → Prop, (∀ (x2 : Int32) (s3 : yS), ((((nI 400) ≤ x2 → W_X12_comeTo s3 v1 v2 0 0 0 
   (fun s4 => ∀ P84 : Int32 → yS → Prop, (∀ (x5 : Int32) (s6 : yS), (((¬ (sI s6 139 15) = 0 → Q s6)
    ∧ ((sI s6 139 15) = 0 → vp_in x1 36 ∧ 
     (((sI s6 184 (ix x1)) ≤ x5 → Q s6)
     ∧ (¬ (sI s6 184 (ix x1)) ≤ x5 → vp_in x5 400 ∧ 
      (((sI s6 195 (ix x5)) = 0 → ∀ x9 : Int32, x9 = (x5 + 1) → 
       P84 x9 s6)
      ∧ (¬ (sI s6 195 (ix x5)) = 0 → vp_in x5 400 ∧ ∀ s11 : yS, s11 = wI s6 195 (ix x5) (vp_nar .boolean 0) → 
       W_X12_lookAtOne s11 v1 v2 x5 
       (fun s12 => P84 0 s12)))))))) → P84 x5 s6) → 
   P84 0 s4))
  ∧ (¬ (nI 400) ≤ x2 → vp_in x2 400 ∧ ∀ s14 : yS, s14 = wI s3 195 (ix x2) (vp_nar .boolean 0) → 
   vp_in ((((nI 4800) * v1) + ((nI 400) * v2)) + x2) 14400 ∧ ∀ s16 : yS, s16 = wI s14 193 (ix ((((nI 4800) * v1) + ((nI 400) * v2)) + x2)) (-1) → 
   vp_in ((((nI 4800) * v1) + ((nI 400) * v2)) + x2) 14400 ∧ ∀ s18 : yS, s18 = wI s16 194 (ix ((((nI 4800) * v1) + ((nI 400) * v2)) + x2)) 0 → 
   ∀ x19 : Int32, x19 = (x2 + 1) → 
   P10 x19 s18))) → P10 x2 s3) → 
 P10 0 s
set_option maxRecDepth 100000 in
set_option maxHeartbeats 40000000 in
theorem w_X12_verify {G : xG} (hG : yG G) {z : Nat} {s : yS} {v1 : Int32} {v2 : Int32} {Q : yS → Prop} (H : W_X12_verify s v1 v2 Q) : xC G mX12_verify [.ref (q_b G + 139), .int v1, .int v2] (hS G s) z 0 0 (yQv G z Q) := by
  have hW := hG.1
  have hcl := hG.2.1
  have hty := hG.2.2.1
  have hO : xO G mX12_verify tbX12_verify ptX12_verify := ⟨tkX12_verify, pkX12_verify hcl⟩
  unfold W_X12_verify at H
  refine xC.of hW (by decide) rfl (Nat.le_of_ble_eq_true rfl) ?_
  refine s_bipush (x := (nI 12)) (nx := 2) hO rfl (by decide) rfl ?_
  refine s_iload_n (nx := 3) hO rfl rfl rfl ?_
  refine s_imul (nx := 4) hO rfl rfl ?_
  refine s_iload_n (nx := 5) hO rfl rfl rfl ?_
  refine s_iadd (nx := 6) hO rfl rfl ?_
  refine goV ((((nI 12) * v1) + v2)) (fun x1 ex1 => ?_)
  replace H := H x1 ex1
  refine e_istore_n (nx := 7) (l' := [(3, .int x1), (0, .ref (q_b G + 139)), (1, .int v1), (2, .int v2)]) ex1 hO rfl (by decide) rfl rfl ?_
  refine s_iconst (x := 0) (nx := 8) hO rfl (by decide) rfl ?_
  refine goK (H (fun (x2 : Int32) (s3 : yS) => xEx G mX12_verify 10 [(0, .ref (q_b G + 139)), (1, .int v1), (2, .int v2), (3, .int x1), (4, .int x2)] [] (hS G s3) z 0 0 (yQv G z Q)) (fun x2 s3 H => ?_)) (fun H => ?_)
  · show xEx G mX12_verify 10 [(0, .ref (q_b G + 139)), (1, .int v1), (2, .int v2), (3, .int x1), (4, .int x2)] [] (hS G s3) z 0 0 (yQv G z Q)
    refine s_iload (nx := 12) hO rfl rfl rfl ?_
    refine s_sipush (x := (nI 400)) (nx := 15) hO rfl (by decide) rfl ?_
    refine s_icmp_ge (nx := 18) hO rfl rfl (fun c15 => ?_) (fun c15 => ?_)
    · replace H := H.1 c15
      refine s_aload_n (nx := 73) hO rfl rfl rfl ?_
      refine s_iload_n (nx := 74) hO rfl rfl rfl ?_
      refine s_iload_n (nx := 75) hO rfl rfl rfl ?_
      refine s_iconst (x := 0) (nx := 76) hO rfl (by decide) rfl ?_
      refine s_iconst (x := 0) (nx := 77) hO rfl (by decide) rfl ?_
      refine s_iconst (x := 0) (nx := 78) hO rfl (by decide) rfl ?_
      refine s_callV [.int v1, .int v2, .int 0, .int 0, .int 0] (ci := 12) (F := TX12) (N := 116) (nx := 81) hO rfl kX12_verify_567 (by rw [hcl]; rfl) (hs_o12 kc139) (w_X12_comeTo hG H) rfl rfl (Nat.le_of_ble_eq_true rfl) (Nat.zero_le _) (Nat.zero_le _) rfl (k_Qv (fun s4 H => ?_))
      refine s_iconst (x := 0) (nx := 82) hO rfl (by decide) rfl ?_
      refine goK (H (fun (x5 : Int32) (s6 : yS) => xEx G mX12_verify 84 [(0, .ref (q_b G + 139)), (1, .int v1), (2, .int v2), (3, .int x1), (4, .int x5)] [] (hS G s6) z 0 0 (yQv G z Q)) (fun x5 s6 H => ?_)) (fun H => ?_)
      · show xEx G mX12_verify 84 [(0, .ref (q_b G + 139)), (1, .int v1), (2, .int v2), (3, .int x1), (4, .int x5)] [] (hS G s6) z 0 0 (yQv G z Q)
        refine s_aload_n (nx := 85) hO rfl rfl rfl ?_
        refine s_getf (v := .int (sI s6 139 15)) (nx := 88) hO rfl rfl (hs_o12 kc139) rfl rfl ?_
        refine s_if_ne (nx := 91) hO rfl rfl (fun c88 => ?_) (fun c88 => ?_)
        · replace H := H.1 c88
          exact s_vret hO rfl rfl ⟨rfl, _, rfl, rfl, H⟩
        · replace H := H.2 c88
          refine s_iload (nx := 93) hO rfl rfl rfl ?_
          refine s_aload_n (nx := 94) hO rfl rfl rfl ?_
          refine s_getf (v := .ref (q_b G + 184)) (nx := 97) hO rfl rfl (hs_o12 kc139) rfl rfl ?_
          refine s_iload_n (nx := 98) hO rfl rfl rfl ?_
          obtain ⟨b7, H⟩ := H
          refine s_iald (nx := 99) hO rfl (hs_I kc184) b7 rfl ?_
          refine s_icmp_ge (nx := 102) hO rfl rfl (fun c99 => ?_) (fun c99 => ?_)
          · replace H := H.1 c99
            exact s_vret hO rfl rfl ⟨rfl, _, rfl, rfl, H⟩
          · replace H := H.2 c99
            refine s_aload_n (nx := 103) hO rfl rfl rfl ?_
            refine s_getf (v := .ref (q_b G + 195)) (nx := 106) hO rfl rfl (hs_o12 kc139) rfl rfl ?_
            refine s_iload (nx := 108) hO rfl rfl rfl ?_
            obtain ⟨b8, H⟩ := H
            refine s_zald (nx := 109) hO rfl (hs_Z kc195) b8 rfl ?_
            refine s_if_eq (nx := 112) hO rfl rfl (fun c109 => ?_) (fun c109 => ?_)
            · replace H := H.1 c109
              refine goV ((x5 + 1)) (fun x9 ex9 => ?_)
              replace H := H x9 ex9
              refine e_iinc (nx := 137) (l' := [(4, .int x9), (0, .ref (q_b G + 139)), (1, .int v1), (2, .int v2), (3, .int x1)]) ex9 hO rfl (by decide) rfl rfl rfl rfl ?_
              refine s_goto hO rfl ?_
              exact xEx.loc (x_sub1 (List.Mem.tail _ (List.Mem.head _)) (x_sub1 (List.Mem.tail _ (List.Mem.tail _ (List.Mem.head _))) (x_sub1 (List.Mem.tail _ (List.Mem.tail _ (List.Mem.tail _ (List.Mem.head _)))) (x_sub1 (List.Mem.tail _ (List.Mem.tail _ (List.Mem.tail _ (List.Mem.tail _ (List.Mem.head _))))) (x_sub1 (List.Mem.head _) x_sub0))))) H
            · replace H := H.2 c109
              refine s_aload_n (nx := 113) hO rfl rfl rfl ?_
              refine s_getf (v := .ref (q_b G + 195)) (nx := 116) hO rfl rfl (hs_o12 kc139) rfl rfl ?_
              refine s_iload (nx := 118) hO rfl rfl rfl ?_
              refine s_iconst (x := 0) (nx := 119) hO rfl (by decide) rfl ?_
              obtain ⟨b10, H⟩ := H
              refine goV (wI s6 195 (ix x5) (vp_nar .boolean 0)) (fun s11 es11 => ?_)
              replace H := H s11 es11
              refine s_zast (nx := 120) hO rfl (hs_Z kc195) b10 rfl ?_
              refine xEx.at (up_Z kc195 es11) ?_
              refine s_aload_n (nx := 121) hO rfl rfl rfl ?_
              refine s_iload_n (nx := 122) hO rfl rfl rfl ?_
              refine s_iload_n (nx := 123) hO rfl rfl rfl ?_
              refine s_iload (nx := 125) hO rfl rfl rfl ?_
              refine s_callV [.int v1, .int v2, .int x5] (ci := 12) (F := TX12) (N := 116) (nx := 128) hO rfl kX12_verify_571 (by rw [hcl]; rfl) (hs_o12 kc139) (w_X12_lookAtOne hG H) rfl rfl (Nat.le_of_ble_eq_true rfl) (Nat.zero_le _) (Nat.zero_le _) rfl (k_Qv (fun s12 H => ?_))
              refine s_iconst (x := 0) (nx := 129) hO rfl (by decide) rfl ?_
              refine s_istore (nx := 131) (l' := [(4, .int 0), (0, .ref (q_b G + 139)), (1, .int v1), (2, .int v2), (3, .int x1)]) hO rfl (by decide) rfl rfl ?_
              refine s_goto hO rfl ?_
              exact xEx.loc (x_sub1 (List.Mem.tail _ (List.Mem.head _)) (x_sub1 (List.Mem.tail _ (List.Mem.tail _ (List.Mem.head _))) (x_sub1 (List.Mem.tail _ (List.Mem.tail _ (List.Mem.tail _ (List.Mem.head _)))) (x_sub1 (List.Mem.tail _ (List.Mem.tail _ (List.Mem.tail _ (List.Mem.tail _ (List.Mem.head _))))) (x_sub1 (List.Mem.head _) x_sub0))))) H
      refine s_istore (nx := 84) (l' := [(4, .int 0), (0, .ref (q_b G + 139)), (1, .int v1), (2, .int v2), (3, .int x1)]) hO rfl (by decide) rfl rfl ?_
      exact xEx.loc (x_sub1 (List.Mem.tail _ (List.Mem.head _)) (x_sub1 (List.Mem.tail _ (List.Mem.tail _ (List.Mem.head _))) (x_sub1 (List.Mem.tail _ (List.Mem.tail _ (List.Mem.tail _ (List.Mem.head _)))) (x_sub1 (List.Mem.tail _ (List.Mem.tail _ (List.Mem.tail _ (List.Mem.tail _ (List.Mem.head _))))) (x_sub1 (List.Mem.head _) x_sub0))))) H
    · replace H := H.2 c15
      refine s_aload_n (nx := 19) hO rfl rfl rfl ?_
      refine s_getf (v := .ref (q_b G + 195)) (nx := 22) hO rfl rfl (hs_o12 kc139) rfl rfl ?_
      refine s_iload (nx := 24) hO rfl rfl rfl ?_
      refine s_iconst (x := 0) (nx := 25) hO rfl (by decide) rfl ?_
      obtain ⟨b13, H⟩ := H
      refine goV (wI s3 195 (ix x2) (vp_nar .boolean 0)) (fun s14 es14 => ?_)
      replace H := H s14 es14
      refine s_zast (nx := 26) hO rfl (hs_Z kc195) b13 rfl ?_
      refine xEx.at (up_Z kc195 es14) ?_
      refine s_aload_n (nx := 27) hO rfl rfl rfl ?_
      refine s_getf (v := .ref (q_b G + 193)) (nx := 30) hO rfl rfl (hs_o12 kc139) rfl rfl ?_
      refine s_sipush (x := (nI 4800)) (nx := 33) hO rfl (by decide) rfl ?_
      refine s_iload_n (nx := 34) hO rfl rfl rfl ?_
      refine s_imul (nx := 35) hO rfl rfl ?_
      refine s_sipush (x := (nI 400)) (nx := 38) hO rfl (by decide) rfl ?_
      refine s_iload_n (nx := 39) hO rfl rfl rfl ?_
      refine s_imul (nx := 40) hO rfl rfl ?_
      refine s_iadd (nx := 41) hO rfl rfl ?_
      refine s_iload (nx := 43) hO rfl rfl rfl ?_
      refine s_iadd (nx := 44) hO rfl rfl ?_
      refine s_iconst (x := (-1)) (nx := 45) hO rfl (by decide) rfl ?_
      obtain ⟨b15, H⟩ := H
      refine goV (wI s14 193 (ix ((((nI 4800) * v1) + ((nI 400) * v2)) + x2)) (-1)) (fun s16 es16 => ?_)
      replace H := H s16 es16
      refine s_iast (nx := 46) hO rfl (hs_I kc193) b15 rfl ?_
      refine xEx.at (up_I kc193 es16) ?_
      refine s_aload_n (nx := 47) hO rfl rfl rfl ?_
      refine s_getf (v := .ref (q_b G + 194)) (nx := 50) hO rfl rfl (hs_o12 kc139) rfl rfl ?_
      refine s_sipush (x := (nI 4800)) (nx := 53) hO rfl (by decide) rfl ?_
      refine s_iload_n (nx := 54) hO rfl rfl rfl ?_
      refine s_imul (nx := 55) hO rfl rfl ?_
      refine s_sipush (x := (nI 400)) (nx := 58) hO rfl (by decide) rfl ?_
      refine s_iload_n (nx := 59) hO rfl rfl rfl ?_
      refine s_imul (nx := 60) hO rfl rfl ?_
      refine s_iadd (nx := 61) hO rfl rfl ?_
      refine s_iload (nx := 63) hO rfl rfl rfl ?_
      refine s_iadd (nx := 64) hO rfl rfl ?_
      refine s_iconst (x := 0) (nx := 65) hO rfl (by decide) rfl ?_
      obtain ⟨b17, H⟩ := H
      refine goV (wI s16 194 (ix ((((nI 4800) * v1) + ((nI 400) * v2)) + x2)) 0) (fun s18 es18 => ?_)
      replace H := H s18 es18
      refine s_iast (nx := 66) hO rfl (hs_I kc194) b17 rfl ?_
      refine xEx.at (up_I kc194 es18) ?_
      refine goV ((x2 + 1)) (fun x19 ex19 => ?_)
      replace H := H x19 ex19
      refine e_iinc (nx := 69) (l' := [(4, .int x19), (0, .ref (q_b G + 139)), (1, .int v1), (2, .int v2), (3, .int x1)]) ex19 hO rfl (by decide) rfl rfl rfl rfl ?_
      refine s_goto hO rfl ?_
      exact xEx.loc (x_sub1 (List.Mem.tail _ (List.Mem.head _)) (x_sub1 (List.Mem.tail _ (List.Mem.tail _ (List.Mem.head _))) (x_sub1 (List.Mem.tail _ (List.Mem.tail _ (List.Mem.tail _ (List.Mem.head _)))) (x_sub1 (List.Mem.tail _ (List.Mem.tail _ (List.Mem.tail _ (List.Mem.tail _ (List.Mem.head _))))) (x_sub1 (List.Mem.head _) x_sub0))))) H
  refine s_istore (nx := 10) (l' := [(4, .int 0), (3, .int x1), (0, .ref (q_b G + 139)), (1, .int v1), (2, .int v2)]) hO rfl (by decide) rfl rfl ?_
  exact xEx.loc (x_sub1 (List.Mem.tail _ (List.Mem.tail _ (List.Mem.head _))) (x_sub1 (List.Mem.tail _ (List.Mem.tail _ (List.Mem.tail _ (List.Mem.head _)))) (x_sub1 (List.Mem.tail _ (List.Mem.tail _ (List.Mem.tail _ (List.Mem.tail _ (List.Mem.head _))))) (x_sub1 (List.Mem.tail _ (List.Mem.head _)) (x_sub1 (List.Mem.head _) x_sub0))))) H
def W_X12_loadProgram (s : yS) (Q : Int32 → yS → Prop) : Prop :=
 ∀ s1 : yS, s1 = wI s 139 0 0 → 
 W_X12_readProgram s1 
 (fun s2 => ∀ P11 : Int32 → yS → Prop, (∀ (x3 : Int32) (s4 : yS), (∀ P40 : Prop, ((∀ s5 : yS, s5 = wI s4 139 6 (sI s4 139 15) → 
   ∀ s6 : yS, s6 = wI s5 139 7 (sI s5 139 16) → 
   (((sI s6 139 6) ≤ 0 → W_X12_copyProgram s6 (nI 2) 0 
    (fun s7 => vp_in 0 2 ∧ ∀ s9 : yS, s9 = wI s7 200 (ix 0) (vp_nar .boolean 0) → 
    vp_in 1 3 ∧ ∀ s11 : yS, s11 = wI s9 177 (ix 1) (vp_nar .boolean 0) → 
    ∀ s12 : yS, s12 = wI s11 139 89 0 → 
    Q 0 s12))
   ∧ (¬ (sI s6 139 6) ≤ 0 → Q (sI s6 139 6) s6))) → P40) → 
  ((¬ (sI s4 139 15) = 0 → P40)
  ∧ ((sI s4 139 15) = 0 → vp_in (nI 2) 3 ∧ 
   (((sI s4 178 (ix (nI 2))) ≤ x3 → P40)
   ∧ (¬ (sI s4 178 (ix (nI 2))) ≤ x3 → W_X12_verify s4 (nI 2) x3 
    (fun s14 => ∀ x15 : Int32, x15 = (x3 + 1) → 
    P11 x15 s14)))))) → P11 x3 s4) → 
 P11 0 s2)
set_option maxRecDepth 100000 in
set_option maxHeartbeats 40000000 in
theorem w_X12_loadProgram {G : xG} (hG : yG G) {z : Nat} {s : yS} {Q : Int32 → yS → Prop} (H : W_X12_loadProgram s Q) : xC G mX12_loadProgram [.ref (q_b G + 139)] (hS G s) z 0 0 (yQi G z Q) := by
  have hW := hG.1
  have hcl := hG.2.1
  have hty := hG.2.2.1
  have hO : xO G mX12_loadProgram tbX12_loadProgram ptX12_loadProgram := ⟨tkX12_loadProgram, pkX12_loadProgram hcl⟩
  unfold W_X12_loadProgram at H
  refine xC.of hW (by decide) rfl (Nat.le_of_ble_eq_true rfl) ?_
  refine s_aload_n (nx := 1) hO rfl rfl rfl ?_
  refine s_iconst (x := 0) (nx := 2) hO rfl (by decide) rfl ?_
  refine goV (wI s 139 0 0) (fun s1 es1 => ?_)
  replace H := H s1 es1
  refine s_putf (nx := 5) hO rfl rfl (hs_o12 kc139) (Nat.le_of_ble_eq_true rfl) (by rw [hty]; rfl) (by rw [hty]; rfl) pX12_0 rfl ?_
  refine xEx.at (up_oI12 kc139 es1) ?_
  refine s_aload_n (nx := 6) hO rfl rfl rfl ?_
  refine s_callV [] (ci := 12) (F := TX12) (N := 116) (nx := 9) hO rfl kX12_loadProgram_540 (by rw [hcl]; rfl) (hs_o12 kc139) (w_X12_readProgram hG H) rfl rfl (Nat.le_of_ble_eq_true rfl) (Nat.zero_le _) (Nat.zero_le _) rfl (k_Qv (fun s2 H => ?_))
  refine s_iconst (x := 0) (nx := 10) hO rfl (by decide) rfl ?_
  refine goK (H (fun (x3 : Int32) (s4 : yS) => xEx G mX12_loadProgram 11 [(0, .ref (q_b G + 139)), (1, .int x3)] [] (hS G s4) z 0 0 (yQi G z Q)) (fun x3 s4 H => ?_)) (fun H => ?_)
  · show xEx G mX12_loadProgram 11 [(0, .ref (q_b G + 139)), (1, .int x3)] [] (hS G s4) z 0 0 (yQi G z Q)
    refine s_aload_n (nx := 12) hO rfl rfl rfl ?_
    refine s_getf (v := .int (sI s4 139 15)) (nx := 15) hO rfl rfl (hs_o12 kc139) rfl rfl ?_
    refine goK (H (xEx G mX12_loadProgram 40 [(0, .ref (q_b G + 139))] [] (hS G s4) z 0 0 (yQi G z Q)) (fun H => ?_)) (fun H => ?_)
    · show xEx G mX12_loadProgram 40 [(0, .ref (q_b G + 139))] [] (hS G s4) z 0 0 (yQi G z Q)
      refine s_aload_n (nx := 41) hO rfl rfl rfl ?_
      refine s_aload_n (nx := 42) hO rfl rfl rfl ?_
      refine s_getf (v := .int (sI s4 139 15)) (nx := 45) hO rfl rfl (hs_o12 kc139) rfl rfl ?_
      refine goV (wI s4 139 6 (sI s4 139 15)) (fun s5 es5 => ?_)
      replace H := H s5 es5
      refine s_putf (nx := 48) hO rfl rfl (hs_o12 kc139) (Nat.le_of_ble_eq_true rfl) (by rw [hty]; rfl) (by rw [hty]; rfl) pX12_6 rfl ?_
      refine xEx.at (up_oI12 kc139 es5) ?_
      refine s_aload_n (nx := 49) hO rfl rfl rfl ?_
      refine s_aload_n (nx := 50) hO rfl rfl rfl ?_
      refine s_getf (v := .int (sI s5 139 16)) (nx := 53) hO rfl rfl (hs_o12 kc139) rfl rfl ?_
      refine goV (wI s5 139 7 (sI s5 139 16)) (fun s6 es6 => ?_)
      replace H := H s6 es6
      refine s_putf (nx := 56) hO rfl rfl (hs_o12 kc139) (Nat.le_of_ble_eq_true rfl) (by rw [hty]; rfl) (by rw [hty]; rfl) pX12_7 rfl ?_
      refine xEx.at (up_oI12 kc139 es6) ?_
      refine s_aload_n (nx := 57) hO rfl rfl rfl ?_
      refine s_getf (v := .int (sI s6 139 6)) (nx := 60) hO rfl rfl (hs_o12 kc139) rfl rfl ?_
      refine s_if_le (nx := 63) hO rfl rfl (fun c60 => ?_) (fun c60 => ?_)
      · replace H := H.1 c60
        refine s_aload_n (nx := 69) hO rfl rfl rfl ?_
        refine s_iconst (x := (nI 2)) (nx := 70) hO rfl (by decide) rfl ?_
        refine s_iconst (x := 0) (nx := 71) hO rfl (by decide) rfl ?_
        refine s_callV [.int (nI 2), .int 0] (ci := 12) (F := TX12) (N := 116) (nx := 74) hO rfl kX12_loadProgram_546 (by rw [hcl]; rfl) (hs_o12 kc139) (w_X12_copyProgram hG H) rfl rfl (Nat.le_of_ble_eq_true rfl) (Nat.zero_le _) (Nat.zero_le _) rfl (k_Qv (fun s7 H => ?_))
        refine s_aload_n (nx := 75) hO rfl rfl rfl ?_
        refine s_getf (v := .ref (q_b G + 200)) (nx := 78) hO rfl rfl (hs_o12 kc139) rfl rfl ?_
        refine s_iconst (x := 0) (nx := 79) hO rfl (by decide) rfl ?_
        refine s_iconst (x := 0) (nx := 80) hO rfl (by decide) rfl ?_
        obtain ⟨b8, H⟩ := H
        refine goV (wI s7 200 (ix 0) (vp_nar .boolean 0)) (fun s9 es9 => ?_)
        replace H := H s9 es9
        refine s_zast (nx := 81) hO rfl (hs_Z kc200) b8 rfl ?_
        refine xEx.at (up_Z kc200 es9) ?_
        refine s_aload_n (nx := 82) hO rfl rfl rfl ?_
        refine s_getf (v := .ref (q_b G + 177)) (nx := 85) hO rfl rfl (hs_o12 kc139) rfl rfl ?_
        refine s_iconst (x := 1) (nx := 86) hO rfl (by decide) rfl ?_
        refine s_iconst (x := 0) (nx := 87) hO rfl (by decide) rfl ?_
        obtain ⟨b10, H⟩ := H
        refine goV (wI s9 177 (ix 1) (vp_nar .boolean 0)) (fun s11 es11 => ?_)
        replace H := H s11 es11
        refine s_zast (nx := 88) hO rfl (hs_Z kc177) b10 rfl ?_
        refine xEx.at (up_Z kc177 es11) ?_
        refine s_aload_n (nx := 89) hO rfl rfl rfl ?_
        refine s_iconst (x := 0) (nx := 90) hO rfl (by decide) rfl ?_
        refine goV (wI s11 139 89 0) (fun s12 es12 => ?_)
        replace H := H s12 es12
        refine s_putf (nx := 93) hO rfl rfl (hs_o12 kc139) (Nat.le_of_ble_eq_true rfl) (by rw [hty]; rfl) (by rw [hty]; rfl) pX12_89 rfl ?_
        refine xEx.at (up_oI12 kc139 es12) ?_
        refine s_iconst (x := 0) (nx := 94) hO rfl (by decide) rfl ?_
        exact s_iret hO rfl rfl rfl ⟨rfl, _, _, rfl, rfl, H⟩
      · replace H := H.2 c60
        refine s_aload_n (nx := 64) hO rfl rfl rfl ?_
        refine s_getf (v := .int (sI s6 139 6)) (nx := 67) hO rfl rfl (hs_o12 kc139) rfl rfl ?_
        exact s_iret hO rfl rfl rfl ⟨rfl, _, _, rfl, rfl, H⟩
    refine s_if_ne (nx := 18) hO rfl rfl (fun c15 => ?_) (fun c15 => ?_)
    · replace H := H.1 c15
      exact xEx.loc (x_sub1 (List.Mem.head _) x_sub0) H
    · replace H := H.2 c15
      refine s_iload_n (nx := 19) hO rfl rfl rfl ?_
      refine s_aload_n (nx := 20) hO rfl rfl rfl ?_
      refine s_getf (v := .ref (q_b G + 178)) (nx := 23) hO rfl rfl (hs_o12 kc139) rfl rfl ?_
      refine s_iconst (x := (nI 2)) (nx := 24) hO rfl (by decide) rfl ?_
      obtain ⟨b13, H⟩ := H
      refine s_iald (nx := 25) hO rfl (hs_I kc178) b13 rfl ?_
      refine s_icmp_ge (nx := 28) hO rfl rfl (fun c25 => ?_) (fun c25 => ?_)
      · replace H := H.1 c25
        exact xEx.loc (x_sub1 (List.Mem.head _) x_sub0) H
      · replace H := H.2 c25
        refine s_aload_n (nx := 29) hO rfl rfl rfl ?_
        refine s_iconst (x := (nI 2)) (nx := 30) hO rfl (by decide) rfl ?_
        refine s_iload_n (nx := 31) hO rfl rfl rfl ?_
        refine s_callV [.int (nI 2), .int x3] (ci := 12) (F := TX12) (N := 116) (nx := 34) hO rfl kX12_loadProgram_543 (by rw [hcl]; rfl) (hs_o12 kc139) (w_X12_verify hG H) rfl rfl (Nat.le_of_ble_eq_true rfl) (Nat.zero_le _) (Nat.zero_le _) rfl (k_Qv (fun s14 H => ?_))
        refine goV ((x3 + 1)) (fun x15 ex15 => ?_)
        replace H := H x15 ex15
        refine e_iinc (nx := 37) (l' := [(1, .int x15), (0, .ref (q_b G + 139))]) ex15 hO rfl (by decide) rfl rfl rfl rfl ?_
        refine s_goto hO rfl ?_
        exact xEx.loc (x_sub1 (List.Mem.tail _ (List.Mem.head _)) (x_sub1 (List.Mem.head _) x_sub0)) H
  refine s_istore_n (nx := 11) (l' := [(1, .int 0), (0, .ref (q_b G + 139))]) hO rfl (by decide) rfl rfl ?_
  exact xEx.loc (x_sub1 (List.Mem.tail _ (List.Mem.head _)) (x_sub1 (List.Mem.head _) x_sub0)) H
def W_X12_isGuarded (s : yS) (v1 : Int32) (v2 : Int32) (v3 : Int32) (Q : Int32 → Prop) : Prop :=
 ∀ x1 : Int32, x1 = (((nI 4800) * v1) + ((nI 400) * v2)) → 
 vp_in (x1 + v3) 14400 ∧ 
 ∀ P91 : Int32 → Prop, (∀ (y3 : Int32), (∀ P96 : Int32 → Int32 → Prop, (∀ (x4 : Int32) (x5 : Int32), (vp_in (((nI 12) * v1) + v2) 36 ∧ 
   (((sI s 184 (ix (((nI 12) * v1) + v2))) ≤ x5 → ∀ P181 : Int32 → Int32 → Prop, (∀ (x7 : Int32) (x8 : Int32), (vp_in (((nI 12) * v1) + v2) 36 ∧ 
     ((((((nI 72) * v1) + ((nI 6) * v2)) + (sI s 185 (ix (((nI 12) * v1) + v2)))) ≤ x8 → zb x7 ∧ Q x7)
     ∧ (¬ ((((nI 72) * v1) + ((nI 6) * v2)) + (sI s 185 (ix (((nI 12) * v1) + v2)))) ≤ x8 → ∀ P228 : Int32 → Prop, (∀ (y11 : Int32), (∀ x12 : Int32, x12 = (x8 + 1) → 
       P181 y11 x12) → P228 y11) → 
      ((x7 = 0 → P228 0)
      ∧ (¬ x7 = 0 → vp_in x8 216 ∧ 
       (((sI s 190 (ix x8)) = v3 → P228 0)
       ∧ (¬ (sI s 190 (ix x8)) = v3 → P228 1))))))) → P181 x7 x8) → 
    ∀ x14 : Int32, x14 = (((nI 72) * v1) + ((nI 6) * v2)) → 
    P181 x4 x14)
   ∧ (¬ (sI s 184 (ix (((nI 12) * v1) + v2))) ≤ x5 → vp_in (x1 + x5) 14400 ∧ 
    ∀ x16 : Int32, x16 = (sI s 186 (ix (x1 + x5))) → 
    ∀ P162 : Int32 → Prop, (∀ (y17 : Int32), (∀ x18 : Int32, x18 = (x5 + 1) → 
     P96 y17 x18) → P162 y17) → 
    ((x4 = 0 → P162 0)
    ∧ (¬ x4 = 0 → ((x16 ≤ (nI 17) → P162 1)
     ∧ (¬ x16 ≤ (nI 17) → (((nI 21) ≤ x16 → P162 1)
      ∧ (¬ (nI 21) ≤ x16 → vp_in (x1 + x5) 14400 ∧ 
       (((sI s 187 (ix (x1 + x5))) = v3 → P162 0)
       ∧ (¬ (sI s 187 (ix (x1 + x5))) = v3 → P162 1))))))))))) → P96 x4 x5) → 
  P96 y3 0) → P91 y3) → 
 ((¬ (sI s 186 (ix (x1 + v3))) = (nI 26) → P91 0)
 ∧ ((sI s 186 (ix (x1 + v3))) = (nI 26) → ((v3 ≤ 0 → P91 0)
  ∧ (¬ v3 ≤ 0 → ∀ P48 : Int32 → Prop, (∀ (y20 : Int32), (vp_in (x1 + y20) 14400 ∧ 
    ((¬ (sI s 186 (ix (x1 + y20))) = (nI 29) → P91 0)
    ∧ ((sI s 186 (ix (x1 + y20))) = (nI 29) → ∀ P72 : Int32 → Prop, (∀ (y22 : Int32), (vp_in (x1 + y22) 14400 ∧ 
      vp_in (x1 + v3) 14400 ∧ 
      ((¬ (sI s 187 (ix (x1 + y22))) = (sI s 187 (ix (x1 + v3))) → P91 0)
      ∧ ((sI s 187 (ix (x1 + y22))) = (sI s 187 (ix (x1 + v3))) → P91 1))) → P72 y22) → 
     ((v3 ≤ 0 → P72 0)
     ∧ (¬ v3 ≤ 0 → P72 (v3 - 1)))))) → P48 y20) → 
   ((v3 ≤ 0 → P48 0)
   ∧ (¬ v3 ≤ 0 → P48 (v3 - 1)))))))
set_option maxRecDepth 100000 in
set_option maxHeartbeats 40000000 in
theorem w_X12_isGuarded {G : xG} (hG : yG G) {z : Nat} {s : yS} {v1 : Int32} {v2 : Int32} {v3 : Int32} {Q : Int32 → Prop} (H : W_X12_isGuarded s v1 v2 v3 Q) : xC G mX12_isGuarded [.ref (q_b G + 139), .int v1, .int v2, .int v3] (hS G s) z 0 0 (yPi G z s Q) := by
  have hW := hG.1
  have hcl := hG.2.1
  have hty := hG.2.2.1
  have hO : xO G mX12_isGuarded tbX12_isGuarded ptX12_isGuarded := ⟨tkX12_isGuarded, pkX12_isGuarded hcl⟩
  unfold W_X12_isGuarded at H
  refine xC.of hW (by decide) rfl (Nat.le_of_ble_eq_true rfl) ?_
  refine s_sipush (x := (nI 4800)) (nx := 3) hO rfl (by decide) rfl ?_
  refine s_iload_n (nx := 4) hO rfl rfl rfl ?_
  refine s_imul (nx := 5) hO rfl rfl ?_
  refine s_sipush (x := (nI 400)) (nx := 8) hO rfl (by decide) rfl ?_
  refine s_iload_n (nx := 9) hO rfl rfl rfl ?_
  refine s_imul (nx := 10) hO rfl rfl ?_
  refine s_iadd (nx := 11) hO rfl rfl ?_
  refine goV ((((nI 4800) * v1) + ((nI 400) * v2))) (fun x1 ex1 => ?_)
  replace H := H x1 ex1
  refine e_istore (nx := 13) (l' := [(4, .int x1), (0, .ref (q_b G + 139)), (1, .int v1), (2, .int v2), (3, .int v3)]) ex1 hO rfl (by decide) rfl rfl ?_
  refine s_aload_n (nx := 14) hO rfl rfl rfl ?_
  refine s_getf (v := .ref (q_b G + 186)) (nx := 17) hO rfl rfl (hs_o12 kc139) rfl rfl ?_
  refine s_iload (nx := 19) hO rfl rfl rfl ?_
  refine s_iload_n (nx := 20) hO rfl rfl rfl ?_
  refine s_iadd (nx := 21) hO rfl rfl ?_
  obtain ⟨b2, H⟩ := H
  refine s_iald (nx := 22) hO rfl (hs_I kc186) b2 rfl ?_
  refine s_bipush (x := (nI 26)) (nx := 24) hO rfl (by decide) rfl ?_
  refine goK (H (fun (y3 : Int32) => xEx G mX12_isGuarded 91 [(0, .ref (q_b G + 139)), (1, .int v1), (2, .int v2), (3, .int v3), (4, .int x1)] [.int y3] (hS G s) z 0 0 (yPi G z s Q)) (fun y3 H => ?_)) (fun H => ?_)
  · show xEx G mX12_isGuarded 91 [(0, .ref (q_b G + 139)), (1, .int v1), (2, .int v2), (3, .int v3), (4, .int x1)] [.int y3] (hS G s) z 0 0 (yPi G z s Q)
    refine s_istore (nx := 93) (l' := [(5, .int y3), (0, .ref (q_b G + 139)), (1, .int v1), (2, .int v2), (3, .int v3), (4, .int x1)]) hO rfl (by decide) rfl rfl ?_
    refine s_iconst (x := 0) (nx := 94) hO rfl (by decide) rfl ?_
    refine goK (H (fun (x4 : Int32) (x5 : Int32) => xEx G mX12_isGuarded 96 [(0, .ref (q_b G + 139)), (1, .int v1), (2, .int v2), (3, .int v3), (4, .int x1), (5, .int x4), (6, .int x5)] [] (hS G s) z 0 0 (yPi G z s Q)) (fun x4 x5 H => ?_)) (fun H => ?_)
    · show xEx G mX12_isGuarded 96 [(0, .ref (q_b G + 139)), (1, .int v1), (2, .int v2), (3, .int v3), (4, .int x1), (5, .int x4), (6, .int x5)] [] (hS G s) z 0 0 (yPi G z s Q)
      refine s_iload (nx := 98) hO rfl rfl rfl ?_
      refine s_aload_n (nx := 99) hO rfl rfl rfl ?_
      refine s_getf (v := .ref (q_b G + 184)) (nx := 102) hO rfl rfl (hs_o12 kc139) rfl rfl ?_
      refine s_bipush (x := (nI 12)) (nx := 104) hO rfl (by decide) rfl ?_
      refine s_iload_n (nx := 105) hO rfl rfl rfl ?_
      refine s_imul (nx := 106) hO rfl rfl ?_
      refine s_iload_n (nx := 107) hO rfl rfl rfl ?_
      refine s_iadd (nx := 108) hO rfl rfl ?_
      obtain ⟨b6, H⟩ := H
      refine s_iald (nx := 109) hO rfl (hs_I kc184) b6 rfl ?_
      refine s_icmp_ge (nx := 112) hO rfl rfl (fun c109 => ?_) (fun c109 => ?_)
      · replace H := H.1 c109
        refine s_bipush (x := (nI 72)) (nx := 172) hO rfl (by decide) rfl ?_
        refine s_iload_n (nx := 173) hO rfl rfl rfl ?_
        refine s_imul (nx := 174) hO rfl rfl ?_
        refine s_bipush (x := (nI 6)) (nx := 176) hO rfl (by decide) rfl ?_
        refine s_iload_n (nx := 177) hO rfl rfl rfl ?_
        refine s_imul (nx := 178) hO rfl rfl ?_
        refine s_iadd (nx := 179) hO rfl rfl ?_
        refine goK (H (fun (x7 : Int32) (x8 : Int32) => xEx G mX12_isGuarded 181 [(0, .ref (q_b G + 139)), (1, .int v1), (2, .int v2), (3, .int v3), (5, .int x7), (6, .int x8)] [] (hS G s) z 0 0 (yPi G z s Q)) (fun x7 x8 H => ?_)) (fun H => ?_)
        · show xEx G mX12_isGuarded 181 [(0, .ref (q_b G + 139)), (1, .int v1), (2, .int v2), (3, .int v3), (5, .int x7), (6, .int x8)] [] (hS G s) z 0 0 (yPi G z s Q)
          refine s_iload (nx := 183) hO rfl rfl rfl ?_
          refine s_bipush (x := (nI 72)) (nx := 185) hO rfl (by decide) rfl ?_
          refine s_iload_n (nx := 186) hO rfl rfl rfl ?_
          refine s_imul (nx := 187) hO rfl rfl ?_
          refine s_bipush (x := (nI 6)) (nx := 189) hO rfl (by decide) rfl ?_
          refine s_iload_n (nx := 190) hO rfl rfl rfl ?_
          refine s_imul (nx := 191) hO rfl rfl ?_
          refine s_iadd (nx := 192) hO rfl rfl ?_
          refine s_aload_n (nx := 193) hO rfl rfl rfl ?_
          refine s_getf (v := .ref (q_b G + 185)) (nx := 196) hO rfl rfl (hs_o12 kc139) rfl rfl ?_
          refine s_bipush (x := (nI 12)) (nx := 198) hO rfl (by decide) rfl ?_
          refine s_iload_n (nx := 199) hO rfl rfl rfl ?_
          refine s_imul (nx := 200) hO rfl rfl ?_
          refine s_iload_n (nx := 201) hO rfl rfl rfl ?_
          refine s_iadd (nx := 202) hO rfl rfl ?_
          obtain ⟨b9, H⟩ := H
          refine s_iald (nx := 203) hO rfl (hs_I kc185) b9 rfl ?_
          refine s_iadd (nx := 204) hO rfl rfl ?_
          refine s_icmp_ge (nx := 207) hO rfl rfl (fun c204 => ?_) (fun c204 => ?_)
          · replace H := H.1 c204
            refine s_iload (nx := 238) hO rfl rfl rfl ?_
            obtain ⟨b10, H⟩ := H
            exact s_iret hO rfl rfl (zb_n b10) ⟨rfl, _, rfl, rfl, H⟩
          · replace H := H.2 c204
            refine s_iload (nx := 209) hO rfl rfl rfl ?_
            refine goK (H (fun (y11 : Int32) => xEx G mX12_isGuarded 228 [(0, .ref (q_b G + 139)), (1, .int v1), (2, .int v2), (3, .int v3), (6, .int x8)] [.int y11] (hS G s) z 0 0 (yPi G z s Q)) (fun y11 H => ?_)) (fun H => ?_)
            · show xEx G mX12_isGuarded 228 [(0, .ref (q_b G + 139)), (1, .int v1), (2, .int v2), (3, .int v3), (6, .int x8)] [.int y11] (hS G s) z 0 0 (yPi G z s Q)
              refine s_istore (nx := 230) (l' := [(5, .int y11), (0, .ref (q_b G + 139)), (1, .int v1), (2, .int v2), (3, .int v3), (6, .int x8)]) hO rfl (by decide) rfl rfl ?_
              refine goV ((x8 + 1)) (fun x12 ex12 => ?_)
              replace H := H x12 ex12
              refine e_iinc (nx := 233) (l' := [(6, .int x12), (5, .int y11), (0, .ref (q_b G + 139)), (1, .int v1), (2, .int v2), (3, .int v3)]) ex12 hO rfl (by decide) rfl rfl rfl rfl ?_
              refine s_goto hO rfl ?_
              exact xEx.loc (x_sub1 (List.Mem.tail _ (List.Mem.tail _ (List.Mem.head _))) (x_sub1 (List.Mem.tail _ (List.Mem.tail _ (List.Mem.tail _ (List.Mem.head _)))) (x_sub1 (List.Mem.tail _ (List.Mem.tail _ (List.Mem.tail _ (List.Mem.tail _ (List.Mem.head _))))) (x_sub1 (List.Mem.tail _ (List.Mem.tail _ (List.Mem.tail _ (List.Mem.tail _ (List.Mem.tail _ (List.Mem.head _)))))) (x_sub1 (List.Mem.tail _ (List.Mem.head _)) (x_sub1 (List.Mem.head _) x_sub0)))))) H
            refine s_if_eq (nx := 212) hO rfl rfl (fun c209 => ?_) (fun c209 => ?_)
            · replace H := H.1 c209
              refine s_iconst (x := 0) (nx := 228) hO rfl (by decide) rfl ?_
              exact xEx.loc (x_sub1 (List.Mem.head _) (x_sub1 (List.Mem.tail _ (List.Mem.head _)) (x_sub1 (List.Mem.tail _ (List.Mem.tail _ (List.Mem.head _))) (x_sub1 (List.Mem.tail _ (List.Mem.tail _ (List.Mem.tail _ (List.Mem.head _)))) (x_sub1 (List.Mem.tail _ (List.Mem.tail _ (List.Mem.tail _ (List.Mem.tail _ (List.Mem.tail _ (List.Mem.head _)))))) x_sub0))))) H
            · replace H := H.2 c209
              refine s_aload_n (nx := 213) hO rfl rfl rfl ?_
              refine s_getf (v := .ref (q_b G + 190)) (nx := 216) hO rfl rfl (hs_o12 kc139) rfl rfl ?_
              refine s_iload (nx := 218) hO rfl rfl rfl ?_
              obtain ⟨b13, H⟩ := H
              refine s_iald (nx := 219) hO rfl (hs_I kc190) b13 rfl ?_
              refine s_iload_n (nx := 220) hO rfl rfl rfl ?_
              refine s_icmp_eq (nx := 223) hO rfl rfl (fun c220 => ?_) (fun c220 => ?_)
              · replace H := H.1 c220
                refine s_iconst (x := 0) (nx := 228) hO rfl (by decide) rfl ?_
                exact xEx.loc (x_sub1 (List.Mem.head _) (x_sub1 (List.Mem.tail _ (List.Mem.head _)) (x_sub1 (List.Mem.tail _ (List.Mem.tail _ (List.Mem.head _))) (x_sub1 (List.Mem.tail _ (List.Mem.tail _ (List.Mem.tail _ (List.Mem.head _)))) (x_sub1 (List.Mem.tail _ (List.Mem.tail _ (List.Mem.tail _ (List.Mem.tail _ (List.Mem.tail _ (List.Mem.head _)))))) x_sub0))))) H
              · replace H := H.2 c220
                refine s_iconst (x := 1) (nx := 224) hO rfl (by decide) rfl ?_
                refine s_goto hO rfl ?_
                exact xEx.loc (x_sub1 (List.Mem.head _) (x_sub1 (List.Mem.tail _ (List.Mem.head _)) (x_sub1 (List.Mem.tail _ (List.Mem.tail _ (List.Mem.head _))) (x_sub1 (List.Mem.tail _ (List.Mem.tail _ (List.Mem.tail _ (List.Mem.head _)))) (x_sub1 (List.Mem.tail _ (List.Mem.tail _ (List.Mem.tail _ (List.Mem.tail _ (List.Mem.tail _ (List.Mem.head _)))))) x_sub0))))) H
        refine goV ((((nI 72) * v1) + ((nI 6) * v2))) (fun x14 ex14 => ?_)
        replace H := H x14 ex14
        refine e_istore (nx := 181) (l' := [(6, .int x14), (0, .ref (q_b G + 139)), (1, .int v1), (2, .int v2), (3, .int v3), (4, .int x1), (5, .int x4)]) ex14 hO rfl (by decide) rfl rfl ?_
        exact xEx.loc (x_sub1 (List.Mem.tail _ (List.Mem.head _)) (x_sub1 (List.Mem.tail _ (List.Mem.tail _ (List.Mem.head _))) (x_sub1 (List.Mem.tail _ (List.Mem.tail _ (List.Mem.tail _ (List.Mem.head _)))) (x_sub1 (List.Mem.tail _ (List.Mem.tail _ (List.Mem.tail _ (List.Mem.tail _ (List.Mem.head _))))) (x_sub1 (List.Mem.tail _ (List.Mem.tail _ (List.Mem.tail _ (List.Mem.tail _ (List.Mem.tail _ (List.Mem.tail _ (List.Mem.head _))))))) (x_sub1 (List.Mem.head _) x_sub0)))))) H
      · replace H := H.2 c109
        refine s_aload_n (nx := 113) hO rfl rfl rfl ?_
        refine s_getf (v := .ref (q_b G + 186)) (nx := 116) hO rfl rfl (hs_o12 kc139) rfl rfl ?_
        refine s_iload (nx := 118) hO rfl rfl rfl ?_
        refine s_iload (nx := 120) hO rfl rfl rfl ?_
        refine s_iadd (nx := 121) hO rfl rfl ?_
        obtain ⟨b15, H⟩ := H
        refine s_iald (nx := 122) hO rfl (hs_I kc186) b15 rfl ?_
        refine goV ((sI s 186 (ix (x1 + x5)))) (fun x16 ex16 => ?_)
        replace H := H x16 ex16
        refine e_istore (nx := 124) (l' := [(7, .int x16), (0, .ref (q_b G + 139)), (1, .int v1), (2, .int v2), (3, .int v3), (4, .int x1), (5, .int x4), (6, .int x5)]) ex16 hO rfl (by decide) rfl rfl ?_
        refine s_iload (nx := 126) hO rfl rfl rfl ?_
        refine goK (H (fun (y17 : Int32) => xEx G mX12_isGuarded 162 [(0, .ref (q_b G + 139)), (1, .int v1), (2, .int v2), (3, .int v3), (4, .int x1), (6, .int x5)] [.int y17] (hS G s) z 0 0 (yPi G z s Q)) (fun y17 H => ?_)) (fun H => ?_)
        · show xEx G mX12_isGuarded 162 [(0, .ref (q_b G + 139)), (1, .int v1), (2, .int v2), (3, .int v3), (4, .int x1), (6, .int x5)] [.int y17] (hS G s) z 0 0 (yPi G z s Q)
          refine s_istore (nx := 164) (l' := [(5, .int y17), (0, .ref (q_b G + 139)), (1, .int v1), (2, .int v2), (3, .int v3), (4, .int x1), (6, .int x5)]) hO rfl (by decide) rfl rfl ?_
          refine goV ((x5 + 1)) (fun x18 ex18 => ?_)
          replace H := H x18 ex18
          refine e_iinc (nx := 167) (l' := [(6, .int x18), (5, .int y17), (0, .ref (q_b G + 139)), (1, .int v1), (2, .int v2), (3, .int v3), (4, .int x1)]) ex18 hO rfl (by decide) rfl rfl rfl rfl ?_
          refine s_goto hO rfl ?_
          exact xEx.loc (x_sub1 (List.Mem.tail _ (List.Mem.tail _ (List.Mem.head _))) (x_sub1 (List.Mem.tail _ (List.Mem.tail _ (List.Mem.tail _ (List.Mem.head _)))) (x_sub1 (List.Mem.tail _ (List.Mem.tail _ (List.Mem.tail _ (List.Mem.tail _ (List.Mem.head _))))) (x_sub1 (List.Mem.tail _ (List.Mem.tail _ (List.Mem.tail _ (List.Mem.tail _ (List.Mem.tail _ (List.Mem.head _)))))) (x_sub1 (List.Mem.tail _ (List.Mem.tail _ (List.Mem.tail _ (List.Mem.tail _ (List.Mem.tail _ (List.Mem.tail _ (List.Mem.head _))))))) (x_sub1 (List.Mem.tail _ (List.Mem.head _)) (x_sub1 (List.Mem.head _) x_sub0))))))) H
        refine s_if_eq (nx := 129) hO rfl rfl (fun c126 => ?_) (fun c126 => ?_)
        · replace H := H.1 c126
          refine s_iconst (x := 0) (nx := 162) hO rfl (by decide) rfl ?_
          exact xEx.loc (x_sub1 (List.Mem.tail _ (List.Mem.head _)) (x_sub1 (List.Mem.tail _ (List.Mem.tail _ (List.Mem.head _))) (x_sub1 (List.Mem.tail _ (List.Mem.tail _ (List.Mem.tail _ (List.Mem.head _)))) (x_sub1 (List.Mem.tail _ (List.Mem.tail _ (List.Mem.tail _ (List.Mem.tail _ (List.Mem.head _))))) (x_sub1 (List.Mem.tail _ (List.Mem.tail _ (List.Mem.tail _ (List.Mem.tail _ (List.Mem.tail _ (List.Mem.head _)))))) (x_sub1 (List.Mem.tail _ (List.Mem.tail _ (List.Mem.tail _ (List.Mem.tail _ (List.Mem.tail _ (List.Mem.tail _ (List.Mem.tail _ (List.Mem.head _)))))))) x_sub0)))))) H
        · replace H := H.2 c126
          refine s_iload (nx := 131) hO rfl rfl rfl ?_
          refine s_bipush (x := (nI 17)) (nx := 133) hO rfl (by decide) rfl ?_
          refine s_icmp_le (nx := 136) hO rfl rfl (fun c133 => ?_) (fun c133 => ?_)
          · replace H := H.1 c133
            refine s_iconst (x := 1) (nx := 158) hO rfl (by decide) rfl ?_
            refine s_goto hO rfl ?_
            exact xEx.loc (x_sub1 (List.Mem.tail _ (List.Mem.head _)) (x_sub1 (List.Mem.tail _ (List.Mem.tail _ (List.Mem.head _))) (x_sub1 (List.Mem.tail _ (List.Mem.tail _ (List.Mem.tail _ (List.Mem.head _)))) (x_sub1 (List.Mem.tail _ (List.Mem.tail _ (List.Mem.tail _ (List.Mem.tail _ (List.Mem.head _))))) (x_sub1 (List.Mem.tail _ (List.Mem.tail _ (List.Mem.tail _ (List.Mem.tail _ (List.Mem.tail _ (List.Mem.head _)))))) (x_sub1 (List.Mem.tail _ (List.Mem.tail _ (List.Mem.tail _ (List.Mem.tail _ (List.Mem.tail _ (List.Mem.tail _ (List.Mem.tail _ (List.Mem.head _)))))))) x_sub0)))))) H
          · replace H := H.2 c133
            refine s_iload (nx := 138) hO rfl rfl rfl ?_
            refine s_bipush (x := (nI 21)) (nx := 140) hO rfl (by decide) rfl ?_
            refine s_icmp_ge (nx := 143) hO rfl rfl (fun c140 => ?_) (fun c140 => ?_)
            · replace H := H.1 c140
              refine s_iconst (x := 1) (nx := 158) hO rfl (by decide) rfl ?_
              refine s_goto hO rfl ?_
              exact xEx.loc (x_sub1 (List.Mem.tail _ (List.Mem.head _)) (x_sub1 (List.Mem.tail _ (List.Mem.tail _ (List.Mem.head _))) (x_sub1 (List.Mem.tail _ (List.Mem.tail _ (List.Mem.tail _ (List.Mem.head _)))) (x_sub1 (List.Mem.tail _ (List.Mem.tail _ (List.Mem.tail _ (List.Mem.tail _ (List.Mem.head _))))) (x_sub1 (List.Mem.tail _ (List.Mem.tail _ (List.Mem.tail _ (List.Mem.tail _ (List.Mem.tail _ (List.Mem.head _)))))) (x_sub1 (List.Mem.tail _ (List.Mem.tail _ (List.Mem.tail _ (List.Mem.tail _ (List.Mem.tail _ (List.Mem.tail _ (List.Mem.tail _ (List.Mem.head _)))))))) x_sub0)))))) H
            · replace H := H.2 c140
              refine s_aload_n (nx := 144) hO rfl rfl rfl ?_
              refine s_getf (v := .ref (q_b G + 187)) (nx := 147) hO rfl rfl (hs_o12 kc139) rfl rfl ?_
              refine s_iload (nx := 149) hO rfl rfl rfl ?_
              refine s_iload (nx := 151) hO rfl rfl rfl ?_
              refine s_iadd (nx := 152) hO rfl rfl ?_
              obtain ⟨b19, H⟩ := H
              refine s_iald (nx := 153) hO rfl (hs_I kc187) b19 rfl ?_
              refine s_iload_n (nx := 154) hO rfl rfl rfl ?_
              refine s_icmp_eq (nx := 157) hO rfl rfl (fun c154 => ?_) (fun c154 => ?_)
              · replace H := H.1 c154
                refine s_iconst (x := 0) (nx := 162) hO rfl (by decide) rfl ?_
                exact xEx.loc (x_sub1 (List.Mem.tail _ (List.Mem.head _)) (x_sub1 (List.Mem.tail _ (List.Mem.tail _ (List.Mem.head _))) (x_sub1 (List.Mem.tail _ (List.Mem.tail _ (List.Mem.tail _ (List.Mem.head _)))) (x_sub1 (List.Mem.tail _ (List.Mem.tail _ (List.Mem.tail _ (List.Mem.tail _ (List.Mem.head _))))) (x_sub1 (List.Mem.tail _ (List.Mem.tail _ (List.Mem.tail _ (List.Mem.tail _ (List.Mem.tail _ (List.Mem.head _)))))) (x_sub1 (List.Mem.tail _ (List.Mem.tail _ (List.Mem.tail _ (List.Mem.tail _ (List.Mem.tail _ (List.Mem.tail _ (List.Mem.tail _ (List.Mem.head _)))))))) x_sub0)))))) H
              · replace H := H.2 c154
                refine s_iconst (x := 1) (nx := 158) hO rfl (by decide) rfl ?_
                refine s_goto hO rfl ?_
                exact xEx.loc (x_sub1 (List.Mem.tail _ (List.Mem.head _)) (x_sub1 (List.Mem.tail _ (List.Mem.tail _ (List.Mem.head _))) (x_sub1 (List.Mem.tail _ (List.Mem.tail _ (List.Mem.tail _ (List.Mem.head _)))) (x_sub1 (List.Mem.tail _ (List.Mem.tail _ (List.Mem.tail _ (List.Mem.tail _ (List.Mem.head _))))) (x_sub1 (List.Mem.tail _ (List.Mem.tail _ (List.Mem.tail _ (List.Mem.tail _ (List.Mem.tail _ (List.Mem.head _)))))) (x_sub1 (List.Mem.tail _ (List.Mem.tail _ (List.Mem.tail _ (List.Mem.tail _ (List.Mem.tail _ (List.Mem.tail _ (List.Mem.tail _ (List.Mem.head _)))))))) x_sub0)))))) H
    refine s_istore (nx := 96) (l' := [(6, .int 0), (5, .int y3), (0, .ref (q_b G + 139)), (1, .int v1), (2, .int v2), (3, .int v3), (4, .int x1)]) hO rfl (by decide) rfl rfl ?_
    exact xEx.loc (x_sub1 (List.Mem.tail _ (List.Mem.tail _ (List.Mem.head _))) (x_sub1 (List.Mem.tail _ (List.Mem.tail _ (List.Mem.tail _ (List.Mem.head _)))) (x_sub1 (List.Mem.tail _ (List.Mem.tail _ (List.Mem.tail _ (List.Mem.tail _ (List.Mem.head _))))) (x_sub1 (List.Mem.tail _ (List.Mem.tail _ (List.Mem.tail _ (List.Mem.tail _ (List.Mem.tail _ (List.Mem.head _)))))) (x_sub1 (List.Mem.tail _ (List.Mem.tail _ (List.Mem.tail _ (List.Mem.tail _ (List.Mem.tail _ (List.Mem.tail _ (List.Mem.head _))))))) (x_sub1 (List.Mem.tail _ (List.Mem.head _)) (x_sub1 (List.Mem.head _) x_sub0))))))) H
  refine s_icmp_ne (nx := 27) hO rfl rfl (fun c24 => ?_) (fun c24 => ?_)
  · replace H := H.1 c24
    refine s_iconst (x := 0) (nx := 91) hO rfl (by decide) rfl ?_
    exact xEx.loc (x_sub1 (List.Mem.tail _ (List.Mem.head _)) (x_sub1 (List.Mem.tail _ (List.Mem.tail _ (List.Mem.head _))) (x_sub1 (List.Mem.tail _ (List.Mem.tail _ (List.Mem.tail _ (List.Mem.head _)))) (x_sub1 (List.Mem.tail _ (List.Mem.tail _ (List.Mem.tail _ (List.Mem.tail _ (List.Mem.head _))))) (x_sub1 (List.Mem.head _) x_sub0))))) H
  · replace H := H.2 c24
    refine s_iload_n (nx := 28) hO rfl rfl rfl ?_
    refine s_if_le (nx := 31) hO rfl rfl (fun c28 => ?_) (fun c28 => ?_)
    · replace H := H.1 c28
      refine s_iconst (x := 0) (nx := 91) hO rfl (by decide) rfl ?_
      exact xEx.loc (x_sub1 (List.Mem.tail _ (List.Mem.head _)) (x_sub1 (List.Mem.tail _ (List.Mem.tail _ (List.Mem.head _))) (x_sub1 (List.Mem.tail _ (List.Mem.tail _ (List.Mem.tail _ (List.Mem.head _)))) (x_sub1 (List.Mem.tail _ (List.Mem.tail _ (List.Mem.tail _ (List.Mem.tail _ (List.Mem.head _))))) (x_sub1 (List.Mem.head _) x_sub0))))) H
    · replace H := H.2 c28
      refine s_aload_n (nx := 32) hO rfl rfl rfl ?_
      refine s_getf (v := .ref (q_b G + 186)) (nx := 35) hO rfl rfl (hs_o12 kc139) rfl rfl ?_
      refine s_iload (nx := 37) hO rfl rfl rfl ?_
      refine s_iload_n (nx := 38) hO rfl rfl rfl ?_
      refine goK (H (fun (y20 : Int32) => xEx G mX12_isGuarded 48 [(0, .ref (q_b G + 139)), (1, .int v1), (2, .int v2), (3, .int v3), (4, .int x1)] [.int y20, .int x1, .ref (q_b G + 186)] (hS G s) z 0 0 (yPi G z s Q)) (fun y20 H => ?_)) (fun H => ?_)
      · show xEx G mX12_isGuarded 48 [(0, .ref (q_b G + 139)), (1, .int v1), (2, .int v2), (3, .int v3), (4, .int x1)] [.int y20, .int x1, .ref (q_b G + 186)] (hS G s) z 0 0 (yPi G z s Q)
        refine s_iadd (nx := 49) hO rfl rfl ?_
        obtain ⟨b21, H⟩ := H
        refine s_iald (nx := 50) hO rfl (hs_I kc186) b21 rfl ?_
        refine s_bipush (x := (nI 29)) (nx := 52) hO rfl (by decide) rfl ?_
        refine s_icmp_ne (nx := 55) hO rfl rfl (fun c52 => ?_) (fun c52 => ?_)
        · replace H := H.1 c52
          refine s_iconst (x := 0) (nx := 91) hO rfl (by decide) rfl ?_
          exact xEx.loc (x_sub1 (List.Mem.head _) (x_sub1 (List.Mem.tail _ (List.Mem.head _)) (x_sub1 (List.Mem.tail _ (List.Mem.tail _ (List.Mem.head _))) (x_sub1 (List.Mem.tail _ (List.Mem.tail _ (List.Mem.tail _ (List.Mem.head _)))) (x_sub1 (List.Mem.tail _ (List.Mem.tail _ (List.Mem.tail _ (List.Mem.tail _ (List.Mem.head _))))) x_sub0))))) H
        · replace H := H.2 c52
          refine s_aload_n (nx := 56) hO rfl rfl rfl ?_
          refine s_getf (v := .ref (q_b G + 187)) (nx := 59) hO rfl rfl (hs_o12 kc139) rfl rfl ?_
          refine s_iload (nx := 61) hO rfl rfl rfl ?_
          refine s_iload_n (nx := 62) hO rfl rfl rfl ?_
          refine goK (H (fun (y22 : Int32) => xEx G mX12_isGuarded 72 [(0, .ref (q_b G + 139)), (1, .int v1), (2, .int v2), (3, .int v3), (4, .int x1)] [.int y22, .int x1, .ref (q_b G + 187)] (hS G s) z 0 0 (yPi G z s Q)) (fun y22 H => ?_)) (fun H => ?_)
          · show xEx G mX12_isGuarded 72 [(0, .ref (q_b G + 139)), (1, .int v1), (2, .int v2), (3, .int v3), (4, .int x1)] [.int y22, .int x1, .ref (q_b G + 187)] (hS G s) z 0 0 (yPi G z s Q)
            refine s_iadd (nx := 73) hO rfl rfl ?_
            obtain ⟨b23, H⟩ := H
            refine s_iald (nx := 74) hO rfl (hs_I kc187) b23 rfl ?_
            refine s_aload_n (nx := 75) hO rfl rfl rfl ?_
            refine s_getf (v := .ref (q_b G + 187)) (nx := 78) hO rfl rfl (hs_o12 kc139) rfl rfl ?_
            refine s_iload (nx := 80) hO rfl rfl rfl ?_
            refine s_iload_n (nx := 81) hO rfl rfl rfl ?_
            refine s_iadd (nx := 82) hO rfl rfl ?_
            obtain ⟨b24, H⟩ := H
            refine s_iald (nx := 83) hO rfl (hs_I kc187) b24 rfl ?_
            refine s_icmp_ne (nx := 86) hO rfl rfl (fun c83 => ?_) (fun c83 => ?_)
            · replace H := H.1 c83
              refine s_iconst (x := 0) (nx := 91) hO rfl (by decide) rfl ?_
              exact xEx.loc (x_sub1 (List.Mem.head _) (x_sub1 (List.Mem.tail _ (List.Mem.head _)) (x_sub1 (List.Mem.tail _ (List.Mem.tail _ (List.Mem.head _))) (x_sub1 (List.Mem.tail _ (List.Mem.tail _ (List.Mem.tail _ (List.Mem.head _)))) (x_sub1 (List.Mem.tail _ (List.Mem.tail _ (List.Mem.tail _ (List.Mem.tail _ (List.Mem.head _))))) x_sub0))))) H
            · replace H := H.2 c83
              refine s_iconst (x := 1) (nx := 87) hO rfl (by decide) rfl ?_
              refine s_goto hO rfl ?_
              exact xEx.loc (x_sub1 (List.Mem.head _) (x_sub1 (List.Mem.tail _ (List.Mem.head _)) (x_sub1 (List.Mem.tail _ (List.Mem.tail _ (List.Mem.head _))) (x_sub1 (List.Mem.tail _ (List.Mem.tail _ (List.Mem.tail _ (List.Mem.head _)))) (x_sub1 (List.Mem.tail _ (List.Mem.tail _ (List.Mem.tail _ (List.Mem.tail _ (List.Mem.head _))))) x_sub0))))) H
          refine s_if_le (nx := 65) hO rfl rfl (fun c62 => ?_) (fun c62 => ?_)
          · replace H := H.1 c62
            refine s_iconst (x := 0) (nx := 72) hO rfl (by decide) rfl ?_
            exact xEx.loc (x_sub1 (List.Mem.head _) (x_sub1 (List.Mem.tail _ (List.Mem.head _)) (x_sub1 (List.Mem.tail _ (List.Mem.tail _ (List.Mem.head _))) (x_sub1 (List.Mem.tail _ (List.Mem.tail _ (List.Mem.tail _ (List.Mem.head _)))) (x_sub1 (List.Mem.tail _ (List.Mem.tail _ (List.Mem.tail _ (List.Mem.tail _ (List.Mem.head _))))) x_sub0))))) H
          · replace H := H.2 c62
            refine s_iload_n (nx := 66) hO rfl rfl rfl ?_
            refine s_iconst (x := 1) (nx := 67) hO rfl (by decide) rfl ?_
            refine s_isub (nx := 68) hO rfl rfl ?_
            refine s_goto hO rfl ?_
            exact xEx.loc (x_sub1 (List.Mem.head _) (x_sub1 (List.Mem.tail _ (List.Mem.head _)) (x_sub1 (List.Mem.tail _ (List.Mem.tail _ (List.Mem.head _))) (x_sub1 (List.Mem.tail _ (List.Mem.tail _ (List.Mem.tail _ (List.Mem.head _)))) (x_sub1 (List.Mem.tail _ (List.Mem.tail _ (List.Mem.tail _ (List.Mem.tail _ (List.Mem.head _))))) x_sub0))))) H
      refine s_if_le (nx := 41) hO rfl rfl (fun c38 => ?_) (fun c38 => ?_)
      · replace H := H.1 c38
        refine s_iconst (x := 0) (nx := 48) hO rfl (by decide) rfl ?_
        exact xEx.loc (x_sub1 (List.Mem.tail _ (List.Mem.head _)) (x_sub1 (List.Mem.tail _ (List.Mem.tail _ (List.Mem.head _))) (x_sub1 (List.Mem.tail _ (List.Mem.tail _ (List.Mem.tail _ (List.Mem.head _)))) (x_sub1 (List.Mem.tail _ (List.Mem.tail _ (List.Mem.tail _ (List.Mem.tail _ (List.Mem.head _))))) (x_sub1 (List.Mem.head _) x_sub0))))) H
      · replace H := H.2 c38
        refine s_iload_n (nx := 42) hO rfl rfl rfl ?_
        refine s_iconst (x := 1) (nx := 43) hO rfl (by decide) rfl ?_
        refine s_isub (nx := 44) hO rfl rfl ?_
        refine s_goto hO rfl ?_
        exact xEx.loc (x_sub1 (List.Mem.tail _ (List.Mem.head _)) (x_sub1 (List.Mem.tail _ (List.Mem.tail _ (List.Mem.head _))) (x_sub1 (List.Mem.tail _ (List.Mem.tail _ (List.Mem.tail _ (List.Mem.head _)))) (x_sub1 (List.Mem.tail _ (List.Mem.tail _ (List.Mem.tail _ (List.Mem.tail _ (List.Mem.head _))))) (x_sub1 (List.Mem.head _) x_sub0))))) H

def W_X12_letterAt (s : yS) (v1 : Int32) (Q : Int32 → Prop) : Prop :=
 (((sI s 139 9) ≤ v1 → Q 0)
 ∧ (¬ (sI s 139 9) ≤ v1 → vp_in v1 8192 ∧ 
  Q (sI s 143 (ix v1))))
set_option maxRecDepth 100000 in
set_option maxHeartbeats 40000000 in
theorem w_X12_letterAt {G : xG} (hG : yG G) {z : Nat} {s : yS} {v1 : Int32} {Q : Int32 → Prop} (H : W_X12_letterAt s v1 Q) : xC G mX12_letterAt [.ref (q_b G + 139), .int v1] (hS G s) z 0 0 (yPi G z s Q) := by
  have hW := hG.1
  have hcl := hG.2.1
  have hty := hG.2.2.1
  have hO : xO G mX12_letterAt tbX12_letterAt ptX12_letterAt := ⟨tkX12_letterAt, pkX12_letterAt hcl⟩
  unfold W_X12_letterAt at H
  refine xC.of hW (by decide) rfl (Nat.le_of_ble_eq_true rfl) ?_
  refine s_iload_n (nx := 1) hO rfl rfl rfl ?_
  refine s_aload_n (nx := 2) hO rfl rfl rfl ?_
  refine s_getf (v := .int (sI s 139 9)) (nx := 5) hO rfl rfl (hs_o12 kc139) rfl rfl ?_
  refine s_icmp_ge (nx := 8) hO rfl rfl (fun c5 => ?_) (fun c5 => ?_)
  · replace H := H.1 c5
    refine s_iconst (x := 0) (nx := 18) hO rfl (by decide) rfl ?_
    exact s_iret hO rfl rfl rfl ⟨rfl, _, rfl, rfl, H⟩
  · replace H := H.2 c5
    refine s_aload_n (nx := 9) hO rfl rfl rfl ?_
    refine s_getf (v := .ref (q_b G + 143)) (nx := 12) hO rfl rfl (hs_o12 kc139) rfl rfl ?_
    refine s_iload_n (nx := 13) hO rfl rfl rfl ?_
    obtain ⟨b1, H⟩ := H
    refine s_iald (nx := 14) hO rfl (hs_I kc143) b1 rfl ?_
    refine s_goto hO rfl ?_
    exact s_iret hO rfl rfl rfl ⟨rfl, _, rfl, rfl, H⟩
def W_X12_isDigit (s : yS) (v1 : Int32) (Q : Int32 → Prop) : Prop :=
 ((v1 < (nI 48) → Q 0)
 ∧ (¬ v1 < (nI 48) → (((nI 57) < v1 → Q 0)
  ∧ (¬ (nI 57) < v1 → Q 1))))
set_option maxRecDepth 100000 in
set_option maxHeartbeats 40000000 in
theorem w_X12_isDigit {G : xG} (hG : yG G) {z : Nat} {s : yS} {v1 : Int32} {Q : Int32 → Prop} (H : W_X12_isDigit s v1 Q) : xC G mX12_isDigit [.int v1] (hS G s) z 0 0 (yPi G z s Q) := by
  have hW := hG.1
  have hcl := hG.2.1
  have hty := hG.2.2.1
  have hO : xO G mX12_isDigit tbX12_isDigit ptX12_isDigit := ⟨tkX12_isDigit, pkX12_isDigit hcl⟩
  unfold W_X12_isDigit at H
  refine xC.of hW (by decide) rfl (Nat.le_of_ble_eq_true rfl) ?_
  refine s_iload_n (nx := 1) hO rfl rfl rfl ?_
  refine s_bipush (x := (nI 48)) (nx := 3) hO rfl (by decide) rfl ?_
  refine s_icmp_lt (nx := 6) hO rfl rfl (fun c3 => ?_) (fun c3 => ?_)
  · replace H := H.1 c3
    refine s_iconst (x := 0) (nx := 17) hO rfl (by decide) rfl ?_
    exact s_iret hO rfl rfl rfl ⟨rfl, _, rfl, rfl, H⟩
  · replace H := H.2 c3
    refine s_iload_n (nx := 7) hO rfl rfl rfl ?_
    refine s_bipush (x := (nI 57)) (nx := 9) hO rfl (by decide) rfl ?_
    refine s_icmp_gt (nx := 12) hO rfl rfl (fun c9 => ?_) (fun c9 => ?_)
    · replace H := H.1 c9
      refine s_iconst (x := 0) (nx := 17) hO rfl (by decide) rfl ?_
      exact s_iret hO rfl rfl rfl ⟨rfl, _, rfl, rfl, H⟩
    · replace H := H.2 c9
      refine s_iconst (x := 1) (nx := 13) hO rfl (by decide) rfl ?_
      refine s_goto hO rfl ?_
      exact s_iret hO rfl rfl rfl ⟨rfl, _, rfl, rfl, H⟩
def W_X12_isSmall (s : yS) (v1 : Int32) (Q : Int32 → Prop) : Prop :=
 ((v1 < (nI 97) → Q 0)
 ∧ (¬ v1 < (nI 97) → (((nI 122) < v1 → Q 0)
  ∧ (¬ (nI 122) < v1 → Q 1))))
set_option maxRecDepth 100000 in
set_option maxHeartbeats 40000000 in
theorem w_X12_isSmall {G : xG} (hG : yG G) {z : Nat} {s : yS} {v1 : Int32} {Q : Int32 → Prop} (H : W_X12_isSmall s v1 Q) : xC G mX12_isSmall [.int v1] (hS G s) z 0 0 (yPi G z s Q) := by
  have hW := hG.1
  have hcl := hG.2.1
  have hty := hG.2.2.1
  have hO : xO G mX12_isSmall tbX12_isSmall ptX12_isSmall := ⟨tkX12_isSmall, pkX12_isSmall hcl⟩
  unfold W_X12_isSmall at H
  refine xC.of hW (by decide) rfl (Nat.le_of_ble_eq_true rfl) ?_
  refine s_iload_n (nx := 1) hO rfl rfl rfl ?_
  refine s_bipush (x := (nI 97)) (nx := 3) hO rfl (by decide) rfl ?_
  refine s_icmp_lt (nx := 6) hO rfl rfl (fun c3 => ?_) (fun c3 => ?_)
  · replace H := H.1 c3
    refine s_iconst (x := 0) (nx := 17) hO rfl (by decide) rfl ?_
    exact s_iret hO rfl rfl rfl ⟨rfl, _, rfl, rfl, H⟩
  · replace H := H.2 c3
    refine s_iload_n (nx := 7) hO rfl rfl rfl ?_
    refine s_bipush (x := (nI 122)) (nx := 9) hO rfl (by decide) rfl ?_
    refine s_icmp_gt (nx := 12) hO rfl rfl (fun c9 => ?_) (fun c9 => ?_)
    · replace H := H.1 c9
      refine s_iconst (x := 0) (nx := 17) hO rfl (by decide) rfl ?_
      exact s_iret hO rfl rfl rfl ⟨rfl, _, rfl, rfl, H⟩
    · replace H := H.2 c9
      refine s_iconst (x := 1) (nx := 13) hO rfl (by decide) rfl ?_
      refine s_goto hO rfl ?_
      exact s_iret hO rfl rfl rfl ⟨rfl, _, rfl, rfl, H⟩
def W_X12_isOfWord (s : yS) (v1 : Int32) (Q : Int32 → Prop) : Prop :=
 W_X12_isDigit s v1 
 (fun r1 => ((¬ r1 = 0 → Q 1)
 ∧ (r1 = 0 → W_X12_isSmall s v1 
  (fun r2 => ((¬ r2 = 0 → Q 1)
  ∧ (r2 = 0 → ((¬ v1 = (nI 45) → Q 0)
   ∧ (v1 = (nI 45) → Q 1))))))))
set_option maxRecDepth 100000 in
set_option maxHeartbeats 40000000 in
theorem w_X12_isOfWord {G : xG} (hG : yG G) {z : Nat} {s : yS} {v1 : Int32} {Q : Int32 → Prop} (H : W_X12_isOfWord s v1 Q) : xC G mX12_isOfWord [.int v1] (hS G s) z 0 0 (yPi G z s Q) := by
  have hW := hG.1
  have hcl := hG.2.1
  have hty := hG.2.2.1
  have hO : xO G mX12_isOfWord tbX12_isOfWord ptX12_isOfWord := ⟨tkX12_isOfWord, pkX12_isOfWord hcl⟩
  unfold W_X12_isOfWord at H
  refine xC.of hW (by decide) rfl (Nat.le_of_ble_eq_true rfl) ?_
  refine s_iload_n (nx := 1) hO rfl rfl rfl ?_
  refine s_callS [.int v1] (nx := 4) hO rfl kX12_isOfWord_280 (w_X12_isDigit hG H) rfl rfl (Nat.le_of_ble_eq_true rfl) (Nat.zero_le _) (Nat.zero_le _) rfl (k_Pi (fun r1 H => ?_))
  refine s_if_ne (nx := 7) hO rfl rfl (fun c4 => ?_) (fun c4 => ?_)
  · replace H := H.1 c4
    refine s_iconst (x := 1) (nx := 21) hO rfl (by decide) rfl ?_
    refine s_goto hO rfl ?_
    exact s_iret hO rfl rfl rfl ⟨rfl, _, rfl, rfl, H⟩
  · replace H := H.2 c4
    refine s_iload_n (nx := 8) hO rfl rfl rfl ?_
    refine s_callS [.int v1] (nx := 11) hO rfl kX12_isOfWord_284 (w_X12_isSmall hG H) rfl rfl (Nat.le_of_ble_eq_true rfl) (Nat.zero_le _) (Nat.zero_le _) rfl (k_Pi (fun r2 H => ?_))
    refine s_if_ne (nx := 14) hO rfl rfl (fun c11 => ?_) (fun c11 => ?_)
    · replace H := H.1 c11
      refine s_iconst (x := 1) (nx := 21) hO rfl (by decide) rfl ?_
      refine s_goto hO rfl ?_
      exact s_iret hO rfl rfl rfl ⟨rfl, _, rfl, rfl, H⟩
    · replace H := H.2 c11
      refine s_iload_n (nx := 15) hO rfl rfl rfl ?_
      refine s_bipush (x := (nI 45)) (nx := 17) hO rfl (by decide) rfl ?_
      refine s_icmp_ne (nx := 20) hO rfl rfl (fun c17 => ?_) (fun c17 => ?_)
      · replace H := H.1 c17
        refine s_iconst (x := 0) (nx := 25) hO rfl (by decide) rfl ?_
        exact s_iret hO rfl rfl rfl ⟨rfl, _, rfl, rfl, H⟩
      · replace H := H.2 c17
        refine s_iconst (x := 1) (nx := 21) hO rfl (by decide) rfl ?_
        refine s_goto hO rfl ?_
        exact s_iret hO rfl rfl rfl ⟨rfl, _, rfl, rfl, H⟩
def W_X12_wrong (s : yS) (v1 : Int32) (v2 : Int32) (Q : yS → Prop) : Prop :=
 ((¬ (sI s 139 15) = 0 → Q s)
 ∧ ((sI s 139 15) = 0 → ∀ s1 : yS, s1 = wI s 139 15 v1 → 
  ∀ s2 : yS, s2 = wI s1 139 16 v2 → 
  Q s2))
set_option maxRecDepth 100000 in
set_option maxHeartbeats 40000000 in
theorem w_X12_wrong {G : xG} (hG : yG G) {z : Nat} {s : yS} {v1 : Int32} {v2 : Int32} {Q : yS → Prop} (H : W_X12_wrong s v1 v2 Q) : xC G mX12_wrong [.ref (q_b G + 139), .int v1, .int v2] (hS G s) z 0 0 (yQv G z Q) := by
  have hW := hG.1
  have hcl := hG.2.1
  have hty := hG.2.2.1
  have hO : xO G mX12_wrong tbX12_wrong ptX12_wrong := ⟨tkX12_wrong, pkX12_wrong hcl⟩
  unfold W_X12_wrong at H
  refine xC.of hW (by decide) rfl (Nat.le_of_ble_eq_true rfl) ?_
  refine s_aload_n (nx := 1) hO rfl rfl rfl ?_
  refine s_getf (v := .int (sI s 139 15)) (nx := 4) hO rfl rfl (hs_o12 kc139) rfl rfl ?_
  refine s_if_ne (nx := 7) hO rfl rfl (fun c4 => ?_) (fun c4 => ?_)
  · replace H := H.1 c4
    exact s_vret hO rfl rfl ⟨rfl, _, rfl, rfl, H⟩
  · replace H := H.2 c4
    refine s_aload_n (nx := 8) hO rfl rfl rfl ?_
    refine s_iload_n (nx := 9) hO rfl rfl rfl ?_
    refine goV (wI s 139 15 v1) (fun s1 es1 => ?_)
    replace H := H s1 es1
    refine s_putf (nx := 12) hO rfl rfl (hs_o12 kc139) (Nat.le_of_ble_eq_true rfl) (by rw [hty]; rfl) (by rw [hty]; rfl) pX12_15 rfl ?_
    refine xEx.at (up_oI12 kc139 es1) ?_
    refine s_aload_n (nx := 13) hO rfl rfl rfl ?_
    refine s_iload_n (nx := 14) hO rfl rfl rfl ?_
    refine goV (wI s1 139 16 v2) (fun s2 es2 => ?_)
    replace H := H s2 es2
    refine s_putf (nx := 17) hO rfl rfl (hs_o12 kc139) (Nat.le_of_ble_eq_true rfl) (by rw [hty]; rfl) (by rw [hty]; rfl) pX12_16 rfl ?_
    refine xEx.at (up_oI12 kc139 es2) ?_
    exact s_vret hO rfl rfl ⟨rfl, _, rfl, rfl, H⟩
def W_X12_takeName (s : yS) (v1 : Int32) (Q : yS → Prop) : Prop :=
 ∀ s1 : yS, s1 = wI s 139 11 (nI 2) → 
 ∀ s2 : yS, s2 = wJ s1 139 13 0 → 
 ∀ P26 : Int32 → Prop, (∀ (y3 : Int32), (∀ P32 : Int32 → Int32 → yS → Prop, (∀ (x4 : Int32) (x5 : Int32) (s6 : yS), (∀ P81 : Prop, ((((¬ x4 = 0 → Q s6)
    ∧ (x4 = 0 → W_X12_wrong s6 1 (sI s6 139 10) 
     (fun s7 => Q s7)))) → P81) → 
   ((v1 ≤ x5 → P81)
   ∧ (¬ v1 ≤ x5 → ((x4 = 0 → P81)
    ∧ (¬ x4 = 0 → vp_in x5 8192 ∧ 
     W_X12_isSmall s6 (sI s6 143 (ix x5)) 
     (fun r9 => vp_in x5 8192 ∧ 
     ∀ s11 : yS, s11 = wJ s6 139 13 (((((27)) * (sJ s6 139 13)) + ((sI s6 143 (ix x5))).toInt64) - ((96))) → 
     ∀ x12 : Int32, x12 = (x5 + 1) → 
     P32 r9 x12 s11)))))) → P32 x4 x5 s6) → 
  ∀ x13 : Int32, x13 = (sI s2 139 10) → 
  P32 y3 x13 s2) → P26 y3) → 
 (((nI 13) ≤ (v1 - (sI s2 139 10)) → P26 0)
 ∧ (¬ (nI 13) ≤ (v1 - (sI s2 139 10)) → P26 1))
set_option maxRecDepth 100000 in
set_option maxHeartbeats 40000000 in
theorem w_X12_takeName {G : xG} (hG : yG G) {z : Nat} {s : yS} {v1 : Int32} {Q : yS → Prop} (H : W_X12_takeName s v1 Q) : xC G mX12_takeName [.ref (q_b G + 139), .int v1] (hS G s) z 0 0 (yQv G z Q) := by
  have hW := hG.1
  have hcl := hG.2.1
  have hty := hG.2.2.1
  have hO : xO G mX12_takeName tbX12_takeName ptX12_takeName := ⟨tkX12_takeName, pkX12_takeName hcl⟩
  unfold W_X12_takeName at H
  refine xC.of hW (by decide) rfl (Nat.le_of_ble_eq_true rfl) ?_
  refine s_aload_n (nx := 1) hO rfl rfl rfl ?_
  refine s_iconst (x := (nI 2)) (nx := 2) hO rfl (by decide) rfl ?_
  refine goV (wI s 139 11 (nI 2)) (fun s1 es1 => ?_)
  replace H := H s1 es1
  refine s_putf (nx := 5) hO rfl rfl (hs_o12 kc139) (Nat.le_of_ble_eq_true rfl) (by rw [hty]; rfl) (by rw [hty]; rfl) pX12_11 rfl ?_
  refine xEx.at (up_oI12 kc139 es1) ?_
  refine s_aload_n (nx := 6) hO rfl rfl rfl ?_
  refine s_lconst (x := 0) (nx := 7) hO rfl (by decide) rfl ?_
  refine goV (wJ s1 139 13 0) (fun s2 es2 => ?_)
  replace H := H s2 es2
  refine s_putf (nx := 10) hO rfl rfl (hs_o12 kc139) (Nat.le_of_ble_eq_true rfl) (by rw [hty]; rfl) (by rw [hty]; rfl) pX12_13 rfl ?_
  refine xEx.at (up_oJ12 kc139 es2) ?_
  refine s_iload_n (nx := 11) hO rfl rfl rfl ?_
  refine s_aload_n (nx := 12) hO rfl rfl rfl ?_
  refine s_getf (v := .int (sI s2 139 10)) (nx := 15) hO rfl rfl (hs_o12 kc139) rfl rfl ?_
  refine s_isub (nx := 16) hO rfl rfl ?_
  refine s_bipush (x := (nI 13)) (nx := 18) hO rfl (by decide) rfl ?_
  refine goK (H (fun (y3 : Int32) => xEx G mX12_takeName 26 [(0, .ref (q_b G + 139)), (1, .int v1)] [.int y3] (hS G s2) z 0 0 (yQv G z Q)) (fun y3 H => ?_)) (fun H => ?_)
  · show xEx G mX12_takeName 26 [(0, .ref (q_b G + 139)), (1, .int v1)] [.int y3] (hS G s2) z 0 0 (yQv G z Q)
    refine s_istore_n (nx := 27) (l' := [(2, .int y3), (0, .ref (q_b G + 139)), (1, .int v1)]) hO rfl (by decide) rfl rfl ?_
    refine s_aload_n (nx := 28) hO rfl rfl rfl ?_
    refine s_getf (v := .int (sI s2 139 10)) (nx := 31) hO rfl rfl (hs_o12 kc139) rfl rfl ?_
    refine goK (H (fun (x4 : Int32) (x5 : Int32) (s6 : yS) => xEx G mX12_takeName 32 [(0, .ref (q_b G + 139)), (1, .int v1), (2, .int x4), (3, .int x5)] [] (hS G s6) z 0 0 (yQv G z Q)) (fun x4 x5 s6 H => ?_)) (fun H => ?_)
    · show xEx G mX12_takeName 32 [(0, .ref (q_b G + 139)), (1, .int v1), (2, .int x4), (3, .int x5)] [] (hS G s6) z 0 0 (yQv G z Q)
      refine s_iload_n (nx := 33) hO rfl rfl rfl ?_
      refine s_iload_n (nx := 34) hO rfl rfl rfl ?_
      refine goK (H (xEx G mX12_takeName 81 [(0, .ref (q_b G + 139)), (2, .int x4)] [] (hS G s6) z 0 0 (yQv G z Q)) (fun H => ?_)) (fun H => ?_)
      · show xEx G mX12_takeName 81 [(0, .ref (q_b G + 139)), (2, .int x4)] [] (hS G s6) z 0 0 (yQv G z Q)
        refine s_iload_n (nx := 82) hO rfl rfl rfl ?_
        refine s_if_ne (nx := 85) hO rfl rfl (fun c82 => ?_) (fun c82 => ?_)
        · replace H := H.1 c82
          exact s_vret hO rfl rfl ⟨rfl, _, rfl, rfl, H⟩
        · replace H := H.2 c82
          refine s_aload_n (nx := 86) hO rfl rfl rfl ?_
          refine s_iconst (x := 1) (nx := 87) hO rfl (by decide) rfl ?_
          refine s_aload_n (nx := 88) hO rfl rfl rfl ?_
          refine s_getf (v := .int (sI s6 139 10)) (nx := 91) hO rfl rfl (hs_o12 kc139) rfl rfl ?_
          refine s_callV [.int 1, .int (sI s6 139 10)] (ci := 12) (F := TX12) (N := 116) (nx := 94) hO rfl kX12_takeName_303 (by rw [hcl]; rfl) (hs_o12 kc139) (w_X12_wrong hG H) rfl rfl (Nat.le_of_ble_eq_true rfl) (Nat.zero_le _) (Nat.zero_le _) rfl (k_Qv (fun s7 H => ?_))
          exact s_vret hO rfl rfl ⟨rfl, _, rfl, rfl, H⟩
      refine s_icmp_ge (nx := 37) hO rfl rfl (fun c34 => ?_) (fun c34 => ?_)
      · replace H := H.1 c34
        exact xEx.loc (x_sub1 (List.Mem.head _) (x_sub1 (List.Mem.tail _ (List.Mem.tail _ (List.Mem.head _))) x_sub0)) H
      · replace H := H.2 c34
        refine s_iload_n (nx := 38) hO rfl rfl rfl ?_
        refine s_if_eq (nx := 41) hO rfl rfl (fun c38 => ?_) (fun c38 => ?_)
        · replace H := H.1 c38
          exact xEx.loc (x_sub1 (List.Mem.head _) (x_sub1 (List.Mem.tail _ (List.Mem.tail _ (List.Mem.head _))) x_sub0)) H
        · replace H := H.2 c38
          refine s_aload_n (nx := 42) hO rfl rfl rfl ?_
          refine s_getf (v := .ref (q_b G + 143)) (nx := 45) hO rfl rfl (hs_o12 kc139) rfl rfl ?_
          refine s_iload_n (nx := 46) hO rfl rfl rfl ?_
          obtain ⟨b8, H⟩ := H
          refine s_iald (nx := 47) hO rfl (hs_I kc143) b8 rfl ?_
          refine s_callS [.int (sI s6 143 (ix x5))] (nx := 50) hO rfl kX12_takeName_284 (w_X12_isSmall hG H) rfl rfl (Nat.le_of_ble_eq_true rfl) (Nat.zero_le _) (Nat.zero_le _) rfl (k_Pi (fun r9 H => ?_))
          refine s_istore_n (nx := 51) (l' := [(2, .int r9), (0, .ref (q_b G + 139)), (1, .int v1), (3, .int x5)]) hO rfl (by decide) rfl rfl ?_
          refine s_aload_n (nx := 52) hO rfl rfl rfl ?_
          refine s_ldc2_w (x := ((27))) (nx := 55) hO rfl rfl rfl ?_
          refine s_aload_n (nx := 56) hO rfl rfl rfl ?_
          refine s_getf (v := .long (sJ s6 139 13)) (nx := 59) hO rfl rfl (hs_o12 kc139) rfl rfl ?_
          refine s_lmul (nx := 60) hO rfl rfl ?_
          refine s_aload_n (nx := 61) hO rfl rfl rfl ?_
          refine s_getf (v := .ref (q_b G + 143)) (nx := 64) hO rfl rfl (hs_o12 kc139) rfl rfl ?_
          refine s_iload_n (nx := 65) hO rfl rfl rfl ?_
          obtain ⟨b10, H⟩ := H
          refine s_iald (nx := 66) hO rfl (hs_I kc143) b10 rfl ?_
          refine s_i2l (nx := 67) hO rfl rfl ?_
          refine s_ladd (nx := 68) hO rfl rfl ?_
          refine s_ldc2_w (x := ((96))) (nx := 71) hO rfl rfl rfl ?_
          refine s_lsub (nx := 72) hO rfl rfl ?_
          refine goV (wJ s6 139 13 (((((27)) * (sJ s6 139 13)) + ((sI s6 143 (ix x5))).toInt64) - ((96)))) (fun s11 es11 => ?_)
          replace H := H s11 es11
          refine s_putf (nx := 75) hO rfl rfl (hs_o12 kc139) (Nat.le_of_ble_eq_true rfl) (by rw [hty]; rfl) (by rw [hty]; rfl) pX12_13 rfl ?_
          refine xEx.at (up_oJ12 kc139 es11) ?_
          refine goV ((x5 + 1)) (fun x12 ex12 => ?_)
          replace H := H x12 ex12
          refine e_iinc (nx := 78) (l' := [(3, .int x12), (2, .int r9), (0, .ref (q_b G + 139)), (1, .int v1)]) ex12 hO rfl (by decide) rfl rfl rfl rfl ?_
          refine s_goto hO rfl ?_
          exact xEx.loc (x_sub1 (List.Mem.tail _ (List.Mem.tail _ (List.Mem.head _))) (x_sub1 (List.Mem.tail _ (List.Mem.tail _ (List.Mem.tail _ (List.Mem.head _)))) (x_sub1 (List.Mem.tail _ (List.Mem.head _)) (x_sub1 (List.Mem.head _) x_sub0)))) H
    refine goV ((sI s2 139 10)) (fun x13 ex13 => ?_)
    replace H := H x13 ex13
    refine e_istore_n (nx := 32) (l' := [(3, .int x13), (2, .int y3), (0, .ref (q_b G + 139)), (1, .int v1)]) ex13 hO rfl (by decide) rfl rfl ?_
    exact xEx.loc (x_sub1 (List.Mem.tail _ (List.Mem.tail _ (List.Mem.head _))) (x_sub1 (List.Mem.tail _ (List.Mem.tail _ (List.Mem.tail _ (List.Mem.head _)))) (x_sub1 (List.Mem.tail _ (List.Mem.head _)) (x_sub1 (List.Mem.head _) x_sub0)))) H
  refine s_icmp_ge (nx := 21) hO rfl rfl (fun c18 => ?_) (fun c18 => ?_)
  · replace H := H.1 c18
    refine s_iconst (x := 0) (nx := 26) hO rfl (by decide) rfl ?_
    exact xEx.loc (x_sub1 (List.Mem.head _) (x_sub1 (List.Mem.tail _ (List.Mem.head _)) x_sub0)) H
  · replace H := H.2 c18
    refine s_iconst (x := 1) (nx := 22) hO rfl (by decide) rfl ?_
    refine s_goto hO rfl ?_
    exact xEx.loc (x_sub1 (List.Mem.head _) (x_sub1 (List.Mem.tail _ (List.Mem.head _)) x_sub0)) H
def W_X12_takeNumber (s : yS) (v1 : Int32) (Q : yS → Prop) : Prop :=
 ∀ s1 : yS, s1 = wI s 139 11 (nI 3) → 
 vp_in (sI s1 139 10) 8192 ∧ 
 ∀ P24 : Int32 → Prop, (∀ (y3 : Int32), (∀ P44 : Int32 → Prop, (∀ (y4 : Int32), (∀ P65 : Int32 → Prop, (∀ (y5 : Int32), (∀ P67 : Int32 → Int64 → Int32 → Prop, (∀ (x6 : Int32) (x7 : Int64) (x8 : Int32), (∀ P129 : Prop, ((((y3 = 0 → ∀ s9 : yS, s9 = wJ s1 139 14 x7 → 
       ∀ P176 : Int32 → Prop, (∀ (y10 : Int32), (((¬ y10 = 0 → Q s9)
        ∧ (y10 = 0 → W_X12_wrong s9 1 (sI s9 139 10) 
         (fun s11 => Q s11)))) → P176 y10) → 
       ((x6 = 0 → P176 0)
       ∧ (¬ x6 = 0 → (((lg_cmp (sJ s9 139 14) ((-2147483648))) < 0 → P176 0)
        ∧ (¬ (lg_cmp (sJ s9 139 14) ((-2147483648))) < 0 → ((0 < (lg_cmp (sJ s9 139 14) ((2147483647))) → P176 0)
         ∧ (¬ 0 < (lg_cmp (sJ s9 139 14) ((2147483647))) → P176 1)))))))
      ∧ (¬ y3 = 0 → ∀ s12 : yS, s12 = wJ s1 139 14 (-x7) → 
       ∀ P176_14 : Int32 → Prop, (∀ (y13 : Int32), (((¬ y13 = 0 → Q s12)
        ∧ (y13 = 0 → W_X12_wrong s12 1 (sI s12 139 10) 
         (fun s15 => Q s15)))) → P176_14 y13) → 
       ((x6 = 0 → P176_14 0)
       ∧ (¬ x6 = 0 → (((lg_cmp (sJ s12 139 14) ((-2147483648))) < 0 → P176_14 0)
        ∧ (¬ (lg_cmp (sJ s12 139 14) ((-2147483648))) < 0 → ((0 < (lg_cmp (sJ s12 139 14) ((2147483647))) → P176_14 0)
         ∧ (¬ 0 < (lg_cmp (sJ s12 139 14) ((2147483647))) → P176_14 1))))))))) → P129) → 
     ((v1 ≤ x8 → P129)
     ∧ (¬ v1 ≤ x8 → ((x6 = 0 → P129)
      ∧ (¬ x6 = 0 → vp_in x8 8192 ∧ 
       W_X12_isDigit s1 (sI s1 143 (ix x8)) 
       (fun r17 => ∀ P121 : Int64 → Prop, (∀ (y18 : Int64), (∀ x19 : Int32, x19 = (x8 + 1) → 
        P67 r17 y18 x19) → P121 y18) → 
       ((0 ≤ (lg_cmp x7 ((100000000000))) → P121 x7)
       ∧ (¬ 0 ≤ (lg_cmp x7 ((100000000000))) → vp_in x8 8192 ∧ 
        P121 (((((10)) * x7) + ((sI s1 143 (ix x8))).toInt64) - ((48))))))))))) → P67 x6 x7 x8) → 
    P67 y4 0 y5) → P65 y5) → 
   ((y3 = 0 → P65 (sI s1 139 10))
   ∧ (¬ y3 = 0 → P65 ((sI s1 139 10) + 1)))) → P44 y4) → 
  ((y3 = 0 → P44 1)
  ∧ (¬ y3 = 0 → ((v1 ≤ ((sI s1 139 10) + 1) → P44 0)
   ∧ (¬ v1 ≤ ((sI s1 139 10) + 1) → P44 1))))) → P24 y3) → 
 ((¬ (sI s1 143 (ix (sI s1 139 10))) = (nI 45) → P24 0)
 ∧ ((sI s1 143 (ix (sI s1 139 10))) = (nI 45) → P24 1))
set_option maxRecDepth 100000 in
set_option maxHeartbeats 40000000 in
theorem w_X12_takeNumber {G : xG} (hG : yG G) {z : Nat} {s : yS} {v1 : Int32} {Q : yS → Prop} (H : W_X12_takeNumber s v1 Q) : xC G mX12_takeNumber [.ref (q_b G + 139), .int v1] (hS G s) z 0 0 (yQv G z Q) := by
  have hW := hG.1
  have hcl := hG.2.1
  have hty := hG.2.2.1
  have hO : xO G mX12_takeNumber tbX12_takeNumber ptX12_takeNumber := ⟨tkX12_takeNumber, pkX12_takeNumber hcl⟩
  unfold W_X12_takeNumber at H
  refine xC.of hW (by decide) rfl (Nat.le_of_ble_eq_true rfl) ?_
  refine s_aload_n (nx := 1) hO rfl rfl rfl ?_
  refine s_iconst (x := (nI 3)) (nx := 2) hO rfl (by decide) rfl ?_
  refine goV (wI s 139 11 (nI 3)) (fun s1 es1 => ?_)
  replace H := H s1 es1
  refine s_putf (nx := 5) hO rfl rfl (hs_o12 kc139) (Nat.le_of_ble_eq_true rfl) (by rw [hty]; rfl) (by rw [hty]; rfl) pX12_11 rfl ?_
  refine xEx.at (up_oI12 kc139 es1) ?_
  refine s_aload_n (nx := 6) hO rfl rfl rfl ?_
  refine s_getf (v := .ref (q_b G + 143)) (nx := 9) hO rfl rfl (hs_o12 kc139) rfl rfl ?_
  refine s_aload_n (nx := 10) hO rfl rfl rfl ?_
  refine s_getf (v := .int (sI s1 139 10)) (nx := 13) hO rfl rfl (hs_o12 kc139) rfl rfl ?_
  obtain ⟨b2, H⟩ := H
  refine s_iald (nx := 14) hO rfl (hs_I kc143) b2 rfl ?_
  refine s_bipush (x := (nI 45)) (nx := 16) hO rfl (by decide) rfl ?_
  refine goK (H (fun (y3 : Int32) => xEx G mX12_takeNumber 24 [(0, .ref (q_b G + 139)), (1, .int v1)] [.int y3] (hS G s1) z 0 0 (yQv G z Q)) (fun y3 H => ?_)) (fun H => ?_)
  · show xEx G mX12_takeNumber 24 [(0, .ref (q_b G + 139)), (1, .int v1)] [.int y3] (hS G s1) z 0 0 (yQv G z Q)
    refine s_istore_n (nx := 25) (l' := [(2, .int y3), (0, .ref (q_b G + 139)), (1, .int v1)]) hO rfl (by decide) rfl rfl ?_
    refine s_iload_n (nx := 26) hO rfl rfl rfl ?_
    refine goK (H (fun (y4 : Int32) => xEx G mX12_takeNumber 44 [(0, .ref (q_b G + 139)), (1, .int v1), (2, .int y3)] [.int y4] (hS G s1) z 0 0 (yQv G z Q)) (fun y4 H => ?_)) (fun H => ?_)
    · show xEx G mX12_takeNumber 44 [(0, .ref (q_b G + 139)), (1, .int v1), (2, .int y3)] [.int y4] (hS G s1) z 0 0 (yQv G z Q)
      refine s_istore_n (nx := 45) (l' := [(3, .int y4), (0, .ref (q_b G + 139)), (1, .int v1), (2, .int y3)]) hO rfl (by decide) rfl rfl ?_
      refine s_lconst (x := 0) (nx := 46) hO rfl (by decide) rfl ?_
      refine s_lstore (nx := 48) (l' := [(4, .long 0), (3, .int y4), (0, .ref (q_b G + 139)), (1, .int v1), (2, .int y3)]) hO rfl (by decide) rfl rfl ?_
      refine s_iload_n (nx := 49) hO rfl rfl rfl ?_
      refine goK (H (fun (y5 : Int32) => xEx G mX12_takeNumber 65 [(0, .ref (q_b G + 139)), (1, .int v1), (2, .int y3), (3, .int y4), (4, .long 0)] [.int y5] (hS G s1) z 0 0 (yQv G z Q)) (fun y5 H => ?_)) (fun H => ?_)
      · show xEx G mX12_takeNumber 65 [(0, .ref (q_b G + 139)), (1, .int v1), (2, .int y3), (3, .int y4), (4, .long 0)] [.int y5] (hS G s1) z 0 0 (yQv G z Q)
        refine goK (H (fun (x6 : Int32) (x7 : Int64) (x8 : Int32) => xEx G mX12_takeNumber 67 [(0, .ref (q_b G + 139)), (1, .int v1), (2, .int y3), (3, .int x6), (4, .long x7), (6, .int x8)] [] (hS G s1) z 0 0 (yQv G z Q)) (fun x6 x7 x8 H => ?_)) (fun H => ?_)
        · show xEx G mX12_takeNumber 67 [(0, .ref (q_b G + 139)), (1, .int v1), (2, .int y3), (3, .int x6), (4, .long x7), (6, .int x8)] [] (hS G s1) z 0 0 (yQv G z Q)
          refine s_iload (nx := 69) hO rfl rfl rfl ?_
          refine s_iload_n (nx := 70) hO rfl rfl rfl ?_
          refine goK (H (xEx G mX12_takeNumber 129 [(0, .ref (q_b G + 139)), (2, .int y3), (3, .int x6), (4, .long x7)] [] (hS G s1) z 0 0 (yQv G z Q)) (fun H => ?_)) (fun H => ?_)
          · show xEx G mX12_takeNumber 129 [(0, .ref (q_b G + 139)), (2, .int y3), (3, .int x6), (4, .long x7)] [] (hS G s1) z 0 0 (yQv G z Q)
            refine s_aload_n (nx := 130) hO rfl rfl rfl ?_
            refine s_iload_n (nx := 131) hO rfl rfl rfl ?_
            refine s_if_eq (nx := 134) hO rfl rfl (fun c131 => ?_) (fun c131 => ?_)
            · replace H := H.1 c131
              refine s_lload (nx := 142) hO rfl rfl rfl ?_
              refine goV (wJ s1 139 14 x7) (fun s9 es9 => ?_)
              replace H := H s9 es9
              refine s_putf (nx := 145) hO rfl rfl (hs_o12 kc139) (Nat.le_of_ble_eq_true rfl) (by rw [hty]; rfl) (by rw [hty]; rfl) pX12_14 rfl ?_
              refine xEx.at (up_oJ12 kc139 es9) ?_
              refine s_iload_n (nx := 146) hO rfl rfl rfl ?_
              refine goK (H (fun (y10 : Int32) => xEx G mX12_takeNumber 176 [(0, .ref (q_b G + 139))] [.int y10] (hS G s9) z 0 0 (yQv G z Q)) (fun y10 H => ?_)) (fun H => ?_)
              · show xEx G mX12_takeNumber 176 [(0, .ref (q_b G + 139))] [.int y10] (hS G s9) z 0 0 (yQv G z Q)
                refine s_istore_n (nx := 177) (l' := [(3, .int y10), (0, .ref (q_b G + 139))]) hO rfl (by decide) rfl rfl ?_
                refine s_iload_n (nx := 178) hO rfl rfl rfl ?_
                refine s_if_ne (nx := 181) hO rfl rfl (fun c178 => ?_) (fun c178 => ?_)
                · replace H := H.1 c178
                  exact s_vret hO rfl rfl ⟨rfl, _, rfl, rfl, H⟩
                · replace H := H.2 c178
                  refine s_aload_n (nx := 182) hO rfl rfl rfl ?_
                  refine s_iconst (x := 1) (nx := 183) hO rfl (by decide) rfl ?_
                  refine s_aload_n (nx := 184) hO rfl rfl rfl ?_
                  refine s_getf (v := .int (sI s9 139 10)) (nx := 187) hO rfl rfl (hs_o12 kc139) rfl rfl ?_
                  refine s_callV [.int 1, .int (sI s9 139 10)] (ci := 12) (F := TX12) (N := 116) (nx := 190) hO rfl kX12_takeNumber_303 (by rw [hcl]; rfl) (hs_o12 kc139) (w_X12_wrong hG H) rfl rfl (Nat.le_of_ble_eq_true rfl) (Nat.zero_le _) (Nat.zero_le _) rfl (k_Qv (fun s11 H => ?_))
                  exact s_vret hO rfl rfl ⟨rfl, _, rfl, rfl, H⟩
              refine s_if_eq (nx := 149) hO rfl rfl (fun c146 => ?_) (fun c146 => ?_)
              · replace H := H.1 c146
                refine s_iconst (x := 0) (nx := 176) hO rfl (by decide) rfl ?_
                exact xEx.loc (x_sub1 (List.Mem.head _) x_sub0) H
              · replace H := H.2 c146
                refine s_aload_n (nx := 150) hO rfl rfl rfl ?_
                refine s_getf (v := .long (sJ s9 139 14)) (nx := 153) hO rfl rfl (hs_o12 kc139) rfl rfl ?_
                refine s_ldc2_w (x := ((-2147483648))) (nx := 156) hO rfl rfl rfl ?_
                refine s_lcmp (nx := 157) hO rfl rfl ?_
                refine s_if_lt (nx := 160) hO rfl rfl (fun c157 => ?_) (fun c157 => ?_)
                · replace H := H.1 c157
                  refine s_iconst (x := 0) (nx := 176) hO rfl (by decide) rfl ?_
                  exact xEx.loc (x_sub1 (List.Mem.head _) x_sub0) H
                · replace H := H.2 c157
                  refine s_aload_n (nx := 161) hO rfl rfl rfl ?_
                  refine s_getf (v := .long (sJ s9 139 14)) (nx := 164) hO rfl rfl (hs_o12 kc139) rfl rfl ?_
                  refine s_ldc2_w (x := ((2147483647))) (nx := 167) hO rfl rfl rfl ?_
                  refine s_lcmp (nx := 168) hO rfl rfl ?_
                  refine s_if_gt (nx := 171) hO rfl rfl (fun c168 => ?_) (fun c168 => ?_)
                  · replace H := H.1 c168
                    refine s_iconst (x := 0) (nx := 176) hO rfl (by decide) rfl ?_
                    exact xEx.loc (x_sub1 (List.Mem.head _) x_sub0) H
                  · replace H := H.2 c168
                    refine s_iconst (x := 1) (nx := 172) hO rfl (by decide) rfl ?_
                    refine s_goto hO rfl ?_
                    exact xEx.loc (x_sub1 (List.Mem.head _) x_sub0) H
            · replace H := H.2 c131
              refine s_lload (nx := 136) hO rfl rfl rfl ?_
              refine s_lneg (nx := 137) hO rfl rfl ?_
              refine s_goto hO rfl ?_
              refine goV (wJ s1 139 14 (-x7)) (fun s12 es12 => ?_)
              replace H := H s12 es12
              refine s_putf (nx := 145) hO rfl rfl (hs_o12 kc139) (Nat.le_of_ble_eq_true rfl) (by rw [hty]; rfl) (by rw [hty]; rfl) pX12_14 rfl ?_
              refine xEx.at (up_oJ12 kc139 es12) ?_
              refine s_iload_n (nx := 146) hO rfl rfl rfl ?_
              refine goK (H (fun (y13 : Int32) => xEx G mX12_takeNumber 176 [(0, .ref (q_b G + 139))] [.int y13] (hS G s12) z 0 0 (yQv G z Q)) (fun y13 H => ?_)) (fun H => ?_)
              · show xEx G mX12_takeNumber 176 [(0, .ref (q_b G + 139))] [.int y13] (hS G s12) z 0 0 (yQv G z Q)
                refine s_istore_n (nx := 177) (l' := [(3, .int y13), (0, .ref (q_b G + 139))]) hO rfl (by decide) rfl rfl ?_
                refine s_iload_n (nx := 178) hO rfl rfl rfl ?_
                refine s_if_ne (nx := 181) hO rfl rfl (fun c178 => ?_) (fun c178 => ?_)
                · replace H := H.1 c178
                  exact s_vret hO rfl rfl ⟨rfl, _, rfl, rfl, H⟩
                · replace H := H.2 c178
                  refine s_aload_n (nx := 182) hO rfl rfl rfl ?_
                  refine s_iconst (x := 1) (nx := 183) hO rfl (by decide) rfl ?_
                  refine s_aload_n (nx := 184) hO rfl rfl rfl ?_
                  refine s_getf (v := .int (sI s12 139 10)) (nx := 187) hO rfl rfl (hs_o12 kc139) rfl rfl ?_
                  refine s_callV [.int 1, .int (sI s12 139 10)] (ci := 12) (F := TX12) (N := 116) (nx := 190) hO rfl kX12_takeNumber_303 (by rw [hcl]; rfl) (hs_o12 kc139) (w_X12_wrong hG H) rfl rfl (Nat.le_of_ble_eq_true rfl) (Nat.zero_le _) (Nat.zero_le _) rfl (k_Qv (fun s15 H => ?_))
                  exact s_vret hO rfl rfl ⟨rfl, _, rfl, rfl, H⟩
              refine s_if_eq (nx := 149) hO rfl rfl (fun c146 => ?_) (fun c146 => ?_)
              · replace H := H.1 c146
                refine s_iconst (x := 0) (nx := 176) hO rfl (by decide) rfl ?_
                exact xEx.loc (x_sub1 (List.Mem.head _) x_sub0) H
              · replace H := H.2 c146
                refine s_aload_n (nx := 150) hO rfl rfl rfl ?_
                refine s_getf (v := .long (sJ s12 139 14)) (nx := 153) hO rfl rfl (hs_o12 kc139) rfl rfl ?_
                refine s_ldc2_w (x := ((-2147483648))) (nx := 156) hO rfl rfl rfl ?_
                refine s_lcmp (nx := 157) hO rfl rfl ?_
                refine s_if_lt (nx := 160) hO rfl rfl (fun c157 => ?_) (fun c157 => ?_)
                · replace H := H.1 c157
                  refine s_iconst (x := 0) (nx := 176) hO rfl (by decide) rfl ?_
                  exact xEx.loc (x_sub1 (List.Mem.head _) x_sub0) H
                · replace H := H.2 c157
                  refine s_aload_n (nx := 161) hO rfl rfl rfl ?_
                  refine s_getf (v := .long (sJ s12 139 14)) (nx := 164) hO rfl rfl (hs_o12 kc139) rfl rfl ?_
                  refine s_ldc2_w (x := ((2147483647))) (nx := 167) hO rfl rfl rfl ?_
                  refine s_lcmp (nx := 168) hO rfl rfl ?_
                  refine s_if_gt (nx := 171) hO rfl rfl (fun c168 => ?_) (fun c168 => ?_)
                  · replace H := H.1 c168
                    refine s_iconst (x := 0) (nx := 176) hO rfl (by decide) rfl ?_
                    exact xEx.loc (x_sub1 (List.Mem.head _) x_sub0) H
                  · replace H := H.2 c168
                    refine s_iconst (x := 1) (nx := 172) hO rfl (by decide) rfl ?_
                    refine s_goto hO rfl ?_
                    exact xEx.loc (x_sub1 (List.Mem.head _) x_sub0) H
          refine s_icmp_ge (nx := 73) hO rfl rfl (fun c70 => ?_) (fun c70 => ?_)
          · replace H := H.1 c70
            exact xEx.loc (x_sub1 (List.Mem.head _) (x_sub1 (List.Mem.tail _ (List.Mem.tail _ (List.Mem.head _))) (x_sub1 (List.Mem.tail _ (List.Mem.tail _ (List.Mem.tail _ (List.Mem.head _)))) (x_sub1 (List.Mem.tail _ (List.Mem.tail _ (List.Mem.tail _ (List.Mem.tail _ (List.Mem.head _))))) x_sub0)))) H
          · replace H := H.2 c70
            refine s_iload_n (nx := 74) hO rfl rfl rfl ?_
            refine s_if_eq (nx := 77) hO rfl rfl (fun c74 => ?_) (fun c74 => ?_)
            · replace H := H.1 c74
              exact xEx.loc (x_sub1 (List.Mem.head _) (x_sub1 (List.Mem.tail _ (List.Mem.tail _ (List.Mem.head _))) (x_sub1 (List.Mem.tail _ (List.Mem.tail _ (List.Mem.tail _ (List.Mem.head _)))) (x_sub1 (List.Mem.tail _ (List.Mem.tail _ (List.Mem.tail _ (List.Mem.tail _ (List.Mem.head _))))) x_sub0)))) H
            · replace H := H.2 c74
              refine s_aload_n (nx := 78) hO rfl rfl rfl ?_
              refine s_getf (v := .ref (q_b G + 143)) (nx := 81) hO rfl rfl (hs_o12 kc139) rfl rfl ?_
              refine s_iload (nx := 83) hO rfl rfl rfl ?_
              obtain ⟨b16, H⟩ := H
              refine s_iald (nx := 84) hO rfl (hs_I kc143) b16 rfl ?_
              refine s_callS [.int (sI s1 143 (ix x8))] (nx := 87) hO rfl kX12_takeNumber_280 (w_X12_isDigit hG H) rfl rfl (Nat.le_of_ble_eq_true rfl) (Nat.zero_le _) (Nat.zero_le _) rfl (k_Pi (fun r17 H => ?_))
              refine s_istore_n (nx := 88) (l' := [(3, .int r17), (0, .ref (q_b G + 139)), (1, .int v1), (2, .int y3), (4, .long x7), (6, .int x8)]) hO rfl (by decide) rfl rfl ?_
              refine s_lload (nx := 90) hO rfl rfl rfl ?_
              refine s_ldc2_w (x := ((100000000000))) (nx := 93) hO rfl rfl rfl ?_
              refine s_lcmp (nx := 94) hO rfl rfl ?_
              refine goK (H (fun (y18 : Int64) => xEx G mX12_takeNumber 121 [(0, .ref (q_b G + 139)), (1, .int v1), (2, .int y3), (3, .int r17), (6, .int x8)] [.long y18] (hS G s1) z 0 0 (yQv G z Q)) (fun y18 H => ?_)) (fun H => ?_)
              · show xEx G mX12_takeNumber 121 [(0, .ref (q_b G + 139)), (1, .int v1), (2, .int y3), (3, .int r17), (6, .int x8)] [.long y18] (hS G s1) z 0 0 (yQv G z Q)
                refine s_lstore (nx := 123) (l' := [(4, .long y18), (0, .ref (q_b G + 139)), (1, .int v1), (2, .int y3), (3, .int r17), (6, .int x8)]) hO rfl (by decide) rfl rfl ?_
                refine goV ((x8 + 1)) (fun x19 ex19 => ?_)
                replace H := H x19 ex19
                refine e_iinc (nx := 126) (l' := [(6, .int x19), (4, .long y18), (0, .ref (q_b G + 139)), (1, .int v1), (2, .int y3), (3, .int r17)]) ex19 hO rfl (by decide) rfl rfl rfl rfl ?_
                refine s_goto hO rfl ?_
                exact xEx.loc (x_sub1 (List.Mem.tail _ (List.Mem.tail _ (List.Mem.head _))) (x_sub1 (List.Mem.tail _ (List.Mem.tail _ (List.Mem.tail _ (List.Mem.head _)))) (x_sub1 (List.Mem.tail _ (List.Mem.tail _ (List.Mem.tail _ (List.Mem.tail _ (List.Mem.head _))))) (x_sub1 (List.Mem.tail _ (List.Mem.tail _ (List.Mem.tail _ (List.Mem.tail _ (List.Mem.tail _ (List.Mem.head _)))))) (x_sub1 (List.Mem.tail _ (List.Mem.head _)) (x_sub1 (List.Mem.head _) x_sub0)))))) H
              refine s_if_ge (nx := 97) hO rfl rfl (fun c94 => ?_) (fun c94 => ?_)
              · replace H := H.1 c94
                refine s_lload (nx := 121) hO rfl rfl rfl ?_
                exact xEx.loc (x_sub1 (List.Mem.tail _ (List.Mem.head _)) (x_sub1 (List.Mem.tail _ (List.Mem.tail _ (List.Mem.head _))) (x_sub1 (List.Mem.tail _ (List.Mem.tail _ (List.Mem.tail _ (List.Mem.head _)))) (x_sub1 (List.Mem.head _) (x_sub1 (List.Mem.tail _ (List.Mem.tail _ (List.Mem.tail _ (List.Mem.tail _ (List.Mem.tail _ (List.Mem.head _)))))) x_sub0))))) H
              · replace H := H.2 c94
                refine s_ldc2_w (x := ((10))) (nx := 100) hO rfl rfl rfl ?_
                refine s_lload (nx := 102) hO rfl rfl rfl ?_
                refine s_lmul (nx := 103) hO rfl rfl ?_
                refine s_aload_n (nx := 104) hO rfl rfl rfl ?_
                refine s_getf (v := .ref (q_b G + 143)) (nx := 107) hO rfl rfl (hs_o12 kc139) rfl rfl ?_
                refine s_iload (nx := 109) hO rfl rfl rfl ?_
                obtain ⟨b20, H⟩ := H
                refine s_iald (nx := 110) hO rfl (hs_I kc143) b20 rfl ?_
                refine s_i2l (nx := 111) hO rfl rfl ?_
                refine s_ladd (nx := 112) hO rfl rfl ?_
                refine s_ldc2_w (x := ((48))) (nx := 115) hO rfl rfl rfl ?_
                refine s_lsub (nx := 116) hO rfl rfl ?_
                refine s_goto hO rfl ?_
                exact xEx.loc (x_sub1 (List.Mem.tail _ (List.Mem.head _)) (x_sub1 (List.Mem.tail _ (List.Mem.tail _ (List.Mem.head _))) (x_sub1 (List.Mem.tail _ (List.Mem.tail _ (List.Mem.tail _ (List.Mem.head _)))) (x_sub1 (List.Mem.head _) (x_sub1 (List.Mem.tail _ (List.Mem.tail _ (List.Mem.tail _ (List.Mem.tail _ (List.Mem.tail _ (List.Mem.head _)))))) x_sub0))))) H
        refine s_istore (nx := 67) (l' := [(6, .int y5), (0, .ref (q_b G + 139)), (1, .int v1), (2, .int y3), (3, .int y4), (4, .long 0)]) hO rfl (by decide) rfl rfl ?_
        exact xEx.loc (x_sub1 (List.Mem.tail _ (List.Mem.head _)) (x_sub1 (List.Mem.tail _ (List.Mem.tail _ (List.Mem.head _))) (x_sub1 (List.Mem.tail _ (List.Mem.tail _ (List.Mem.tail _ (List.Mem.head _)))) (x_sub1 (List.Mem.tail _ (List.Mem.tail _ (List.Mem.tail _ (List.Mem.tail _ (List.Mem.head _))))) (x_sub1 (List.Mem.tail _ (List.Mem.tail _ (List.Mem.tail _ (List.Mem.tail _ (List.Mem.tail _ (List.Mem.head _)))))) (x_sub1 (List.Mem.head _) x_sub0)))))) H
      refine s_if_eq (nx := 52) hO rfl rfl (fun c49 => ?_) (fun c49 => ?_)
      · replace H := H.1 c49
        refine s_aload_n (nx := 62) hO rfl rfl rfl ?_
        refine s_getf (v := .int (sI s1 139 10)) (nx := 65) hO rfl rfl (hs_o12 kc139) rfl rfl ?_
        exact xEx.loc (x_sub1 (List.Mem.tail _ (List.Mem.tail _ (List.Mem.head _))) (x_sub1 (List.Mem.tail _ (List.Mem.tail _ (List.Mem.tail _ (List.Mem.head _)))) (x_sub1 (List.Mem.tail _ (List.Mem.tail _ (List.Mem.tail _ (List.Mem.tail _ (List.Mem.head _))))) (x_sub1 (List.Mem.tail _ (List.Mem.head _)) (x_sub1 (List.Mem.head _) x_sub0))))) H
      · replace H := H.2 c49
        refine s_aload_n (nx := 53) hO rfl rfl rfl ?_
        refine s_getf (v := .int (sI s1 139 10)) (nx := 56) hO rfl rfl (hs_o12 kc139) rfl rfl ?_
        refine s_iconst (x := 1) (nx := 57) hO rfl (by decide) rfl ?_
        refine s_iadd (nx := 58) hO rfl rfl ?_
        refine s_goto hO rfl ?_
        exact xEx.loc (x_sub1 (List.Mem.tail _ (List.Mem.tail _ (List.Mem.head _))) (x_sub1 (List.Mem.tail _ (List.Mem.tail _ (List.Mem.tail _ (List.Mem.head _)))) (x_sub1 (List.Mem.tail _ (List.Mem.tail _ (List.Mem.tail _ (List.Mem.tail _ (List.Mem.head _))))) (x_sub1 (List.Mem.tail _ (List.Mem.head _)) (x_sub1 (List.Mem.head _) x_sub0))))) H
    refine s_if_eq (nx := 29) hO rfl rfl (fun c26 => ?_) (fun c26 => ?_)
    · replace H := H.1 c26
      refine s_iconst (x := 1) (nx := 40) hO rfl (by decide) rfl ?_
      refine s_goto hO rfl ?_
      exact xEx.loc (x_sub1 (List.Mem.tail _ (List.Mem.head _)) (x_sub1 (List.Mem.tail _ (List.Mem.tail _ (List.Mem.head _))) (x_sub1 (List.Mem.head _) x_sub0))) H
    · replace H := H.2 c26
      refine s_iload_n (nx := 30) hO rfl rfl rfl ?_
      refine s_aload_n (nx := 31) hO rfl rfl rfl ?_
      refine s_getf (v := .int (sI s1 139 10)) (nx := 34) hO rfl rfl (hs_o12 kc139) rfl rfl ?_
      refine s_iconst (x := 1) (nx := 35) hO rfl (by decide) rfl ?_
      refine s_iadd (nx := 36) hO rfl rfl ?_
      refine s_icmp_le (nx := 39) hO rfl rfl (fun c36 => ?_) (fun c36 => ?_)
      · replace H := H.1 c36
        refine s_iconst (x := 0) (nx := 44) hO rfl (by decide) rfl ?_
        exact xEx.loc (x_sub1 (List.Mem.tail _ (List.Mem.head _)) (x_sub1 (List.Mem.tail _ (List.Mem.tail _ (List.Mem.head _))) (x_sub1 (List.Mem.head _) x_sub0))) H
      · replace H := H.2 c36
        refine s_iconst (x := 1) (nx := 40) hO rfl (by decide) rfl ?_
        refine s_goto hO rfl ?_
        exact xEx.loc (x_sub1 (List.Mem.tail _ (List.Mem.head _)) (x_sub1 (List.Mem.tail _ (List.Mem.tail _ (List.Mem.head _))) (x_sub1 (List.Mem.head _) x_sub0))) H
  refine s_icmp_ne (nx := 19) hO rfl rfl (fun c16 => ?_) (fun c16 => ?_)
  · replace H := H.1 c16
    refine s_iconst (x := 0) (nx := 24) hO rfl (by decide) rfl ?_
    exact xEx.loc (x_sub1 (List.Mem.head _) (x_sub1 (List.Mem.tail _ (List.Mem.head _)) x_sub0)) H
  · replace H := H.2 c16
    refine s_iconst (x := 1) (nx := 20) hO rfl (by decide) rfl ?_
    refine s_goto hO rfl ?_
    exact xEx.loc (x_sub1 (List.Mem.head _) (x_sub1 (List.Mem.tail _ (List.Mem.head _)) x_sub0)) H
def W_X12_next (s : yS) (Q : yS → Prop) : Prop :=
 ∀ P0 : yS → Prop, (∀ (s1 : yS), (W_X12_letterAt s1 (sI s1 139 10) 
  (fun r2 => ∀ P26 : Prop, ((∀ s3 : yS, s3 = wI s1 139 10 ((sI s1 139 10) + 1) → 
   P0 s3) → P26) → 
  ((r2 = (nI 32) → P26)
  ∧ (¬ r2 = (nI 32) → W_X12_letterAt s1 (sI s1 139 10) 
   (fun r4 => ((¬ r4 = (nI 10) → ∀ s5 : yS, s5 = wI s1 139 12 (sI s1 139 10) → 
    (((sI s5 139 10) < (sI s5 139 9) → vp_in (sI s5 139 10) 8192 ∧ 
     ∀ x7 : Int32, x7 = (sI s5 143 (ix (sI s5 139 10))) → 
     ∀ P86 : Prop, ((∀ s8 : yS, s8 = wI s5 139 11 (x7 - (nI 40)) → 
      ∀ s9 : yS, s9 = wI s8 139 10 ((sI s8 139 10) + 1) → 
      Q s9) → P86) → 
     ((x7 = (nI 40) → P86)
     ∧ (¬ x7 = (nI 40) → ((¬ x7 = (nI 41) → W_X12_isOfWord s5 x7 
       (fun r10 => ((¬ r10 = 0 → ∀ P132 : Int32 → Prop, (∀ (x11 : Int32), (W_X12_letterAt s5 x11 
         (fun r12 => W_X12_isOfWord s5 r12 
         (fun r13 => ((r13 = 0 → W_X12_isSmall s5 x7 
          (fun r14 => ((r14 = 0 → W_X12_takeNumber s5 x11 
           (fun s15 => ∀ s16 : yS, s16 = wI s15 139 10 x11 → 
           Q s16))
          ∧ (¬ r14 = 0 → W_X12_takeName s5 x11 
           (fun s17 => ∀ s18 : yS, s18 = wI s17 139 10 x11 → 
           Q s18)))))
         ∧ (¬ r13 = 0 → ∀ x19 : Int32, x19 = (x11 + 1) → 
          P132 x19))))) → P132 x11) → 
        ∀ x20 : Int32, x20 = (sI s5 139 10) → 
        P132 x20)
       ∧ (r10 = 0 → W_X12_wrong s5 1 (sI s5 139 10) 
        (fun s21 => ∀ s22 : yS, s22 = wI s21 139 11 (nI 4) → 
        Q s22)))))
      ∧ (x7 = (nI 41) → P86)))))
    ∧ (¬ (sI s5 139 10) < (sI s5 139 9) → ∀ s23 : yS, s23 = wI s5 139 11 (nI 4) → 
     Q s23)))
   ∧ (r4 = (nI 10) → P26))))))) → P0 s1) → 
 P0 s
set_option maxRecDepth 100000 in
set_option maxHeartbeats 40000000 in
theorem w_X12_next {G : xG} (hG : yG G) {z : Nat} {s : yS} {Q : yS → Prop} (H : W_X12_next s Q) : xC G mX12_next [.ref (q_b G + 139)] (hS G s) z 0 0 (yQv G z Q) := by
  have hW := hG.1
  have hcl := hG.2.1
  have hty := hG.2.2.1
  have hO : xO G mX12_next tbX12_next ptX12_next := ⟨tkX12_next, pkX12_next hcl⟩
  unfold W_X12_next at H
  refine xC.of hW (by decide) rfl (Nat.le_of_ble_eq_true rfl) ?_
  refine goK (H (fun (s1 : yS) => xEx G mX12_next 0 [(0, .ref (q_b G + 139))] [] (hS G s1) z 0 0 (yQv G z Q)) (fun s1 H => ?_)) (fun H => ?_)
  · show xEx G mX12_next 0 [(0, .ref (q_b G + 139))] [] (hS G s1) z 0 0 (yQv G z Q)
    refine s_aload_n (nx := 1) hO rfl rfl rfl ?_
    refine s_aload_n (nx := 2) hO rfl rfl rfl ?_
    refine s_getf (v := .int (sI s1 139 10)) (nx := 5) hO rfl rfl (hs_o12 kc139) rfl rfl ?_
    refine s_callV [.int (sI s1 139 10)] (ci := 12) (F := TX12) (N := 116) (nx := 8) hO rfl kX12_next_290 (by rw [hcl]; rfl) (hs_o12 kc139) (w_X12_letterAt hG H) rfl rfl (Nat.le_of_ble_eq_true rfl) (Nat.zero_le _) (Nat.zero_le _) rfl (k_Pi (fun r2 H => ?_))
    refine s_bipush (x := (nI 32)) (nx := 10) hO rfl (by decide) rfl ?_
    refine goK (H (xEx G mX12_next 26 [(0, .ref (q_b G + 139))] [] (hS G s1) z 0 0 (yQv G z Q)) (fun H => ?_)) (fun H => ?_)
    · show xEx G mX12_next 26 [(0, .ref (q_b G + 139))] [] (hS G s1) z 0 0 (yQv G z Q)
      refine s_aload_n (nx := 27) hO rfl rfl rfl ?_
      refine s_dup (nx := 28) hO rfl rfl rfl ?_
      refine s_getf (v := .int (sI s1 139 10)) (nx := 31) hO rfl rfl (hs_o12 kc139) rfl rfl ?_
      refine s_iconst (x := 1) (nx := 32) hO rfl (by decide) rfl ?_
      refine s_iadd (nx := 33) hO rfl rfl ?_
      refine goV (wI s1 139 10 ((sI s1 139 10) + 1)) (fun s3 es3 => ?_)
      replace H := H s3 es3
      refine s_putf (nx := 36) hO rfl rfl (hs_o12 kc139) (Nat.le_of_ble_eq_true rfl) (by rw [hty]; rfl) (by rw [hty]; rfl) pX12_10 rfl ?_
      refine xEx.at (up_oI12 kc139 es3) ?_
      refine s_goto hO rfl ?_
      exact xEx.loc (x_sub1 (List.Mem.head _) x_sub0) H
    refine s_icmp_eq (nx := 13) hO rfl rfl (fun c10 => ?_) (fun c10 => ?_)
    · replace H := H.1 c10
      exact xEx.loc (x_sub1 (List.Mem.head _) x_sub0) H
    · replace H := H.2 c10
      refine s_aload_n (nx := 14) hO rfl rfl rfl ?_
      refine s_aload_n (nx := 15) hO rfl rfl rfl ?_
      refine s_getf (v := .int (sI s1 139 10)) (nx := 18) hO rfl rfl (hs_o12 kc139) rfl rfl ?_
      refine s_callV [.int (sI s1 139 10)] (ci := 12) (F := TX12) (N := 116) (nx := 21) hO rfl kX12_next_290 (by rw [hcl]; rfl) (hs_o12 kc139) (w_X12_letterAt hG H) rfl rfl (Nat.le_of_ble_eq_true rfl) (Nat.zero_le _) (Nat.zero_le _) rfl (k_Pi (fun r4 H => ?_))
      refine s_bipush (x := (nI 10)) (nx := 23) hO rfl (by decide) rfl ?_
      refine s_icmp_ne (nx := 26) hO rfl rfl (fun c23 => ?_) (fun c23 => ?_)
      · replace H := H.1 c23
        refine s_aload_n (nx := 40) hO rfl rfl rfl ?_
        refine s_aload_n (nx := 41) hO rfl rfl rfl ?_
        refine s_getf (v := .int (sI s1 139 10)) (nx := 44) hO rfl rfl (hs_o12 kc139) rfl rfl ?_
        refine goV (wI s1 139 12 (sI s1 139 10)) (fun s5 es5 => ?_)
        replace H := H s5 es5
        refine s_putf (nx := 47) hO rfl rfl (hs_o12 kc139) (Nat.le_of_ble_eq_true rfl) (by rw [hty]; rfl) (by rw [hty]; rfl) pX12_12 rfl ?_
        refine xEx.at (up_oI12 kc139 es5) ?_
        refine s_aload_n (nx := 48) hO rfl rfl rfl ?_
        refine s_getf (v := .int (sI s5 139 10)) (nx := 51) hO rfl rfl (hs_o12 kc139) rfl rfl ?_
        refine s_aload_n (nx := 52) hO rfl rfl rfl ?_
        refine s_getf (v := .int (sI s5 139 9)) (nx := 55) hO rfl rfl (hs_o12 kc139) rfl rfl ?_
        refine s_icmp_lt (nx := 58) hO rfl rfl (fun c55 => ?_) (fun c55 => ?_)
        · replace H := H.1 c55
          refine s_aload_n (nx := 65) hO rfl rfl rfl ?_
          refine s_getf (v := .ref (q_b G + 143)) (nx := 68) hO rfl rfl (hs_o12 kc139) rfl rfl ?_
          refine s_aload_n (nx := 69) hO rfl rfl rfl ?_
          refine s_getf (v := .int (sI s5 139 10)) (nx := 72) hO rfl rfl (hs_o12 kc139) rfl rfl ?_
          obtain ⟨b6, H⟩ := H
          refine s_iald (nx := 73) hO rfl (hs_I kc143) b6 rfl ?_
          refine goV ((sI s5 143 (ix (sI s5 139 10)))) (fun x7 ex7 => ?_)
          replace H := H x7 ex7
          refine e_istore_n (nx := 74) (l' := [(1, .int x7), (0, .ref (q_b G + 139))]) ex7 hO rfl (by decide) rfl rfl ?_
          refine s_iload_n (nx := 75) hO rfl rfl rfl ?_
          refine s_bipush (x := (nI 40)) (nx := 77) hO rfl (by decide) rfl ?_
          refine goK (H (xEx G mX12_next 86 [(0, .ref (q_b G + 139)), (1, .int x7)] [] (hS G s5) z 0 0 (yQv G z Q)) (fun H => ?_)) (fun H => ?_)
          · show xEx G mX12_next 86 [(0, .ref (q_b G + 139)), (1, .int x7)] [] (hS G s5) z 0 0 (yQv G z Q)
            refine s_aload_n (nx := 87) hO rfl rfl rfl ?_
            refine s_iload_n (nx := 88) hO rfl rfl rfl ?_
            refine s_bipush (x := (nI 40)) (nx := 90) hO rfl (by decide) rfl ?_
            refine s_isub (nx := 91) hO rfl rfl ?_
            refine goV (wI s5 139 11 (x7 - (nI 40))) (fun s8 es8 => ?_)
            replace H := H s8 es8
            refine s_putf (nx := 94) hO rfl rfl (hs_o12 kc139) (Nat.le_of_ble_eq_true rfl) (by rw [hty]; rfl) (by rw [hty]; rfl) pX12_11 rfl ?_
            refine xEx.at (up_oI12 kc139 es8) ?_
            refine s_aload_n (nx := 95) hO rfl rfl rfl ?_
            refine s_dup (nx := 96) hO rfl rfl rfl ?_
            refine s_getf (v := .int (sI s8 139 10)) (nx := 99) hO rfl rfl (hs_o12 kc139) rfl rfl ?_
            refine s_iconst (x := 1) (nx := 100) hO rfl (by decide) rfl ?_
            refine s_iadd (nx := 101) hO rfl rfl ?_
            refine goV (wI s8 139 10 ((sI s8 139 10) + 1)) (fun s9 es9 => ?_)
            replace H := H s9 es9
            refine s_putf (nx := 104) hO rfl rfl (hs_o12 kc139) (Nat.le_of_ble_eq_true rfl) (by rw [hty]; rfl) (by rw [hty]; rfl) pX12_10 rfl ?_
            refine xEx.at (up_oI12 kc139 es9) ?_
            exact s_vret hO rfl rfl ⟨rfl, _, rfl, rfl, H⟩
          refine s_icmp_eq (nx := 80) hO rfl rfl (fun c77 => ?_) (fun c77 => ?_)
          · replace H := H.1 c77
            exact xEx.loc (x_sub1 (List.Mem.tail _ (List.Mem.head _)) (x_sub1 (List.Mem.head _) x_sub0)) H
          · replace H := H.2 c77
            refine s_iload_n (nx := 81) hO rfl rfl rfl ?_
            refine s_bipush (x := (nI 41)) (nx := 83) hO rfl (by decide) rfl ?_
            refine s_icmp_ne (nx := 86) hO rfl rfl (fun c83 => ?_) (fun c83 => ?_)
            · replace H := H.1 c83
              refine s_iload_n (nx := 106) hO rfl rfl rfl ?_
              refine s_callS [.int x7] (nx := 109) hO rfl kX12_next_300 (w_X12_isOfWord hG H) rfl rfl (Nat.le_of_ble_eq_true rfl) (Nat.zero_le _) (Nat.zero_le _) rfl (k_Pi (fun r10 H => ?_))
              refine s_if_ne (nx := 112) hO rfl rfl (fun c109 => ?_) (fun c109 => ?_)
              · replace H := H.1 c109
                refine s_aload_n (nx := 128) hO rfl rfl rfl ?_
                refine s_getf (v := .int (sI s5 139 10)) (nx := 131) hO rfl rfl (hs_o12 kc139) rfl rfl ?_
                refine goK (H (fun (x11 : Int32) => xEx G mX12_next 132 [(0, .ref (q_b G + 139)), (1, .int x7), (2, .int x11)] [] (hS G s5) z 0 0 (yQv G z Q)) (fun x11 H => ?_)) (fun H => ?_)
                · show xEx G mX12_next 132 [(0, .ref (q_b G + 139)), (1, .int x7), (2, .int x11)] [] (hS G s5) z 0 0 (yQv G z Q)
                  refine s_aload_n (nx := 133) hO rfl rfl rfl ?_
                  refine s_iload_n (nx := 134) hO rfl rfl rfl ?_
                  refine s_callV [.int x11] (ci := 12) (F := TX12) (N := 116) (nx := 137) hO rfl kX12_next_290 (by rw [hcl]; rfl) (hs_o12 kc139) (w_X12_letterAt hG H) rfl rfl (Nat.le_of_ble_eq_true rfl) (Nat.zero_le _) (Nat.zero_le _) rfl (k_Pi (fun r12 H => ?_))
                  refine s_callS [.int r12] (nx := 140) hO rfl kX12_next_300 (w_X12_isOfWord hG H) rfl rfl (Nat.le_of_ble_eq_true rfl) (Nat.zero_le _) (Nat.zero_le _) rfl (k_Pi (fun r13 H => ?_))
                  refine s_if_eq (nx := 143) hO rfl rfl (fun c140 => ?_) (fun c140 => ?_)
                  · replace H := H.1 c140
                    refine s_iload_n (nx := 150) hO rfl rfl rfl ?_
                    refine s_callS [.int x7] (nx := 153) hO rfl kX12_next_284 (w_X12_isSmall hG H) rfl rfl (Nat.le_of_ble_eq_true rfl) (Nat.zero_le _) (Nat.zero_le _) rfl (k_Pi (fun r14 H => ?_))
                    refine s_if_eq (nx := 156) hO rfl rfl (fun c153 => ?_) (fun c153 => ?_)
                    · replace H := H.1 c153
                      refine s_aload_n (nx := 165) hO rfl rfl rfl ?_
                      refine s_iload_n (nx := 166) hO rfl rfl rfl ?_
                      refine s_callV [.int x11] (ci := 12) (F := TX12) (N := 116) (nx := 169) hO rfl kX12_next_311 (by rw [hcl]; rfl) (hs_o12 kc139) (w_X12_takeNumber hG H) rfl rfl (Nat.le_of_ble_eq_true rfl) (Nat.zero_le _) (Nat.zero_le _) rfl (k_Qv (fun s15 H => ?_))
                      refine s_aload_n (nx := 170) hO rfl rfl rfl ?_
                      refine s_iload_n (nx := 171) hO rfl rfl rfl ?_
                      refine goV (wI s15 139 10 x11) (fun s16 es16 => ?_)
                      replace H := H s16 es16
                      refine s_putf (nx := 174) hO rfl rfl (hs_o12 kc139) (Nat.le_of_ble_eq_true rfl) (by rw [hty]; rfl) (by rw [hty]; rfl) pX12_10 rfl ?_
                      refine xEx.at (up_oI12 kc139 es16) ?_
                      exact s_vret hO rfl rfl ⟨rfl, _, rfl, rfl, H⟩
                    · replace H := H.2 c153
                      refine s_aload_n (nx := 157) hO rfl rfl rfl ?_
                      refine s_iload_n (nx := 158) hO rfl rfl rfl ?_
                      refine s_callV [.int x11] (ci := 12) (F := TX12) (N := 116) (nx := 161) hO rfl kX12_next_307 (by rw [hcl]; rfl) (hs_o12 kc139) (w_X12_takeName hG H) rfl rfl (Nat.le_of_ble_eq_true rfl) (Nat.zero_le _) (Nat.zero_le _) rfl (k_Qv (fun s17 H => ?_))
                      refine s_goto hO rfl ?_
                      refine s_aload_n (nx := 170) hO rfl rfl rfl ?_
                      refine s_iload_n (nx := 171) hO rfl rfl rfl ?_
                      refine goV (wI s17 139 10 x11) (fun s18 es18 => ?_)
                      replace H := H s18 es18
                      refine s_putf (nx := 174) hO rfl rfl (hs_o12 kc139) (Nat.le_of_ble_eq_true rfl) (by rw [hty]; rfl) (by rw [hty]; rfl) pX12_10 rfl ?_
                      refine xEx.at (up_oI12 kc139 es18) ?_
                      exact s_vret hO rfl rfl ⟨rfl, _, rfl, rfl, H⟩
                  · replace H := H.2 c140
                    refine goV ((x11 + 1)) (fun x19 ex19 => ?_)
                    replace H := H x19 ex19
                    refine e_iinc (nx := 146) (l' := [(2, .int x19), (0, .ref (q_b G + 139)), (1, .int x7)]) ex19 hO rfl (by decide) rfl rfl rfl rfl ?_
                    refine s_goto hO rfl ?_
                    exact xEx.loc (x_sub1 (List.Mem.tail _ (List.Mem.head _)) (x_sub1 (List.Mem.tail _ (List.Mem.tail _ (List.Mem.head _))) (x_sub1 (List.Mem.head _) x_sub0))) H
                refine goV ((sI s5 139 10)) (fun x20 ex20 => ?_)
                replace H := H x20 ex20
                refine e_istore_n (nx := 132) (l' := [(2, .int x20), (1, .int x7), (0, .ref (q_b G + 139))]) ex20 hO rfl (by decide) rfl rfl ?_
                exact xEx.loc (x_sub1 (List.Mem.tail _ (List.Mem.tail _ (List.Mem.head _))) (x_sub1 (List.Mem.tail _ (List.Mem.head _)) (x_sub1 (List.Mem.head _) x_sub0))) H
              · replace H := H.2 c109
                refine s_aload_n (nx := 113) hO rfl rfl rfl ?_
                refine s_iconst (x := 1) (nx := 114) hO rfl (by decide) rfl ?_
                refine s_aload_n (nx := 115) hO rfl rfl rfl ?_
                refine s_getf (v := .int (sI s5 139 10)) (nx := 118) hO rfl rfl (hs_o12 kc139) rfl rfl ?_
                refine s_callV [.int 1, .int (sI s5 139 10)] (ci := 12) (F := TX12) (N := 116) (nx := 121) hO rfl kX12_next_303 (by rw [hcl]; rfl) (hs_o12 kc139) (w_X12_wrong hG H) rfl rfl (Nat.le_of_ble_eq_true rfl) (Nat.zero_le _) (Nat.zero_le _) rfl (k_Qv (fun s21 H => ?_))
                refine s_aload_n (nx := 122) hO rfl rfl rfl ?_
                refine s_iconst (x := (nI 4)) (nx := 123) hO rfl (by decide) rfl ?_
                refine goV (wI s21 139 11 (nI 4)) (fun s22 es22 => ?_)
                replace H := H s22 es22
                refine s_putf (nx := 126) hO rfl rfl (hs_o12 kc139) (Nat.le_of_ble_eq_true rfl) (by rw [hty]; rfl) (by rw [hty]; rfl) pX12_11 rfl ?_
                refine xEx.at (up_oI12 kc139 es22) ?_
                exact s_vret hO rfl rfl ⟨rfl, _, rfl, rfl, H⟩
            · replace H := H.2 c83
              exact xEx.loc (x_sub1 (List.Mem.tail _ (List.Mem.head _)) (x_sub1 (List.Mem.head _) x_sub0)) H
        · replace H := H.2 c55
          refine s_aload_n (nx := 59) hO rfl rfl rfl ?_
          refine s_iconst (x := (nI 4)) (nx := 60) hO rfl (by decide) rfl ?_
          refine goV (wI s5 139 11 (nI 4)) (fun s23 es23 => ?_)
          replace H := H s23 es23
          refine s_putf (nx := 63) hO rfl rfl (hs_o12 kc139) (Nat.le_of_ble_eq_true rfl) (by rw [hty]; rfl) (by rw [hty]; rfl) pX12_11 rfl ?_
          refine xEx.at (up_oI12 kc139 es23) ?_
          exact s_vret hO rfl rfl ⟨rfl, _, rfl, rfl, H⟩
      · replace H := H.2 c23
        exact xEx.loc (x_sub1 (List.Mem.head _) x_sub0) H
  exact xEx.loc (x_sub1 (List.Mem.head _) x_sub0) H
def W_J7_fill_d0a16 (s : yS) (a1 n1 : Nat) (v2 : Int64) (Q : yS → Prop) : Prop :=
 ∀ P6 : Int32 → Int32 → yS → Prop, (∀ (x1 : Int32) (x2 : Int32) (s3 : yS), (((x2 ≤ x1 → Q s3)
  ∧ (¬ x2 ≤ x1 → vp_in x1 n1 ∧ ∀ s5 : yS, s5 = wJ s3 a1 (ix x1) v2 → 
   ∀ x6 : Int32, x6 = (x1 + 1) → 
   P6 x6 x2 s5))) → P6 x1 x2 s3) → 
 ∀ x7 : Int32, x7 = (nI n1) → 
 P6 0 x7 s
set_option maxRecDepth 100000 in
set_option maxHeartbeats 40000000 in
theorem w_J7_fill_d0a16 {G : xG} (hG : yG G) {z : Nat} {s : yS} {a1 n1 : Nat} {v2 : Int64} {Q : yS → Prop} (ha1 : kd a1 = some (3, n1)) (H : W_J7_fill_d0a16 s a1 n1 v2 Q) : xC G mJ7_fill_d0a16 [.ref (q_b G + a1), .long v2] (hS G s) z 0 0 (yQv G z Q) := by
  have hW := hG.1
  have hcl := hG.2.1
  have hty := hG.2.2.1
  have hO : xO G mJ7_fill_d0a16 tbJ7_fill_d0a16 ptJ7_fill_d0a16 := ⟨tkJ7_fill_d0a16, pkJ7_fill_d0a16 hcl⟩
  unfold W_J7_fill_d0a16 at H
  refine xC.of hW (by decide) rfl (Nat.le_of_ble_eq_true rfl) ?_
  refine s_iconst (x := 0) (nx := 1) hO rfl (by decide) rfl ?_
  refine s_istore_n (nx := 2) (l' := [(3, .int 0), (0, .ref (q_b G + a1)), (1, .long v2)]) hO rfl (by decide) rfl rfl ?_
  refine s_aload_n (nx := 3) hO rfl rfl rfl ?_
  refine s_alenJ (nx := 4) hO rfl (hs_J ha1) rfl ?_
  refine goK (H (fun (x1 : Int32) (x2 : Int32) (s3 : yS) => xEx G mJ7_fill_d0a16 6 [(0, .ref (q_b G + a1)), (1, .long v2), (3, .int x1), (4, .int x2)] [] (hS G s3) z 0 0 (yQv G z Q)) (fun x1 x2 s3 H => ?_)) (fun H => ?_)
  · show xEx G mJ7_fill_d0a16 6 [(0, .ref (q_b G + a1)), (1, .long v2), (3, .int x1), (4, .int x2)] [] (hS G s3) z 0 0 (yQv G z Q)
    refine s_iload_n (nx := 7) hO rfl rfl rfl ?_
    refine s_iload (nx := 9) hO rfl rfl rfl ?_
    refine s_icmp_ge (nx := 12) hO rfl rfl (fun c9 => ?_) (fun c9 => ?_)
    · replace H := H.1 c9
      exact s_vret hO rfl rfl ⟨rfl, _, rfl, rfl, H⟩
    · replace H := H.2 c9
      refine s_aload_n (nx := 13) hO rfl rfl rfl ?_
      refine s_iload_n (nx := 14) hO rfl rfl rfl ?_
      refine s_lload_n (nx := 15) hO rfl rfl rfl ?_
      obtain ⟨b4, H⟩ := H
      refine goV (wJ s3 a1 (ix x1) v2) (fun s5 es5 => ?_)
      replace H := H s5 es5
      refine s_last (nx := 16) hO rfl (hs_J ha1) b4 rfl ?_
      refine xEx.at (up_J ha1 es5) ?_
      refine goV ((x1 + 1)) (fun x6 ex6 => ?_)
      replace H := H x6 ex6
      refine e_iinc (nx := 19) (l' := [(3, .int x6), (0, .ref (q_b G + a1)), (1, .long v2), (4, .int x2)]) ex6 hO rfl (by decide) rfl rfl rfl rfl ?_
      refine s_goto hO rfl ?_
      exact xEx.loc (x_sub1 (List.Mem.tail _ (List.Mem.head _)) (x_sub1 (List.Mem.tail _ (List.Mem.tail _ (List.Mem.head _))) (x_sub1 (List.Mem.head _) (x_sub1 (List.Mem.tail _ (List.Mem.tail _ (List.Mem.tail _ (List.Mem.head _)))) x_sub0)))) H
  refine goV ((nI n1)) (fun x7 ex7 => ?_)
  replace H := H x7 ex7
  refine e_istore (nx := 6) (l' := [(4, .int x7), (3, .int 0), (0, .ref (q_b G + a1)), (1, .long v2)]) ex7 hO rfl (by decide) rfl rfl ?_
  exact xEx.loc (x_sub1 (List.Mem.tail _ (List.Mem.tail _ (List.Mem.head _))) (x_sub1 (List.Mem.tail _ (List.Mem.tail _ (List.Mem.tail _ (List.Mem.head _)))) (x_sub1 (List.Mem.tail _ (List.Mem.head _)) (x_sub1 (List.Mem.head _) x_sub0)))) H
def W_J7_fill_53178 (s : yS) (a1 n1 : Nat) (v2 : Int32) (Q : yS → Prop) : Prop :=
 ∀ P5 : Int32 → Int32 → yS → Prop, (∀ (x1 : Int32) (x2 : Int32) (s3 : yS), (((x2 ≤ x1 → Q s3)
  ∧ (¬ x2 ≤ x1 → vp_in x1 n1 ∧ ∀ s5 : yS, s5 = wI s3 a1 (ix x1) v2 → 
   ∀ x6 : Int32, x6 = (x1 + 1) → 
   P5 x6 x2 s5))) → P5 x1 x2 s3) → 
 ∀ x7 : Int32, x7 = (nI n1) → 
 P5 0 x7 s
set_option maxRecDepth 100000 in
set_option maxHeartbeats 40000000 in
theorem w_J7_fill_53178 {G : xG} (hG : yG G) {z : Nat} {s : yS} {a1 n1 : Nat} {v2 : Int32} {Q : yS → Prop} (ha1 : kd a1 = some (0, n1)) (H : W_J7_fill_53178 s a1 n1 v2 Q) : xC G mJ7_fill_53178 [.ref (q_b G + a1), .int v2] (hS G s) z 0 0 (yQv G z Q) := by
  have hW := hG.1
  have hcl := hG.2.1
  have hty := hG.2.2.1
  have hO : xO G mJ7_fill_53178 tbJ7_fill_53178 ptJ7_fill_53178 := ⟨tkJ7_fill_53178, pkJ7_fill_53178 hcl⟩
  unfold W_J7_fill_53178 at H
  refine xC.of hW (by decide) rfl (Nat.le_of_ble_eq_true rfl) ?_
  refine s_iconst (x := 0) (nx := 1) hO rfl (by decide) rfl ?_
  refine s_istore_n (nx := 2) (l' := [(2, .int 0), (0, .ref (q_b G + a1)), (1, .int v2)]) hO rfl (by decide) rfl rfl ?_
  refine s_aload_n (nx := 3) hO rfl rfl rfl ?_
  refine s_alen (nx := 4) hO rfl (hs_I ha1) (by simp) rfl ?_
  refine goK (H (fun (x1 : Int32) (x2 : Int32) (s3 : yS) => xEx G mJ7_fill_53178 5 [(0, .ref (q_b G + a1)), (1, .int v2), (2, .int x1), (3, .int x2)] [] (hS G s3) z 0 0 (yQv G z Q)) (fun x1 x2 s3 H => ?_)) (fun H => ?_)
  · show xEx G mJ7_fill_53178 5 [(0, .ref (q_b G + a1)), (1, .int v2), (2, .int x1), (3, .int x2)] [] (hS G s3) z 0 0 (yQv G z Q)
    refine s_iload_n (nx := 6) hO rfl rfl rfl ?_
    refine s_iload_n (nx := 7) hO rfl rfl rfl ?_
    refine s_icmp_ge (nx := 10) hO rfl rfl (fun c7 => ?_) (fun c7 => ?_)
    · replace H := H.1 c7
      exact s_vret hO rfl rfl ⟨rfl, _, rfl, rfl, H⟩
    · replace H := H.2 c7
      refine s_aload_n (nx := 11) hO rfl rfl rfl ?_
      refine s_iload_n (nx := 12) hO rfl rfl rfl ?_
      refine s_iload_n (nx := 13) hO rfl rfl rfl ?_
      obtain ⟨b4, H⟩ := H
      refine goV (wI s3 a1 (ix x1) v2) (fun s5 es5 => ?_)
      replace H := H s5 es5
      refine s_iast (nx := 14) hO rfl (hs_I ha1) b4 rfl ?_
      refine xEx.at (up_I ha1 es5) ?_
      refine goV ((x1 + 1)) (fun x6 ex6 => ?_)
      replace H := H x6 ex6
      refine e_iinc (nx := 17) (l' := [(2, .int x6), (0, .ref (q_b G + a1)), (1, .int v2), (3, .int x2)]) ex6 hO rfl (by decide) rfl rfl rfl rfl ?_
      refine s_goto hO rfl ?_
      exact xEx.loc (x_sub1 (List.Mem.tail _ (List.Mem.head _)) (x_sub1 (List.Mem.tail _ (List.Mem.tail _ (List.Mem.head _))) (x_sub1 (List.Mem.head _) (x_sub1 (List.Mem.tail _ (List.Mem.tail _ (List.Mem.tail _ (List.Mem.head _)))) x_sub0)))) H
  refine goV ((nI n1)) (fun x7 ex7 => ?_)
  replace H := H x7 ex7
  refine e_istore_n (nx := 5) (l' := [(3, .int x7), (2, .int 0), (0, .ref (q_b G + a1)), (1, .int v2)]) ex7 hO rfl (by decide) rfl rfl ?_
  exact xEx.loc (x_sub1 (List.Mem.tail _ (List.Mem.tail _ (List.Mem.head _))) (x_sub1 (List.Mem.tail _ (List.Mem.tail _ (List.Mem.tail _ (List.Mem.head _)))) (x_sub1 (List.Mem.tail _ (List.Mem.head _)) (x_sub1 (List.Mem.head _) x_sub0)))) H

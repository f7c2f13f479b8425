def W_X12_cutBytes (s : yS) (v1 : Int32) (Q : Int32 → yS → Prop) : Prop :=
 ∀ s1 : yS, s1 = wI s 139 0 0 → 
 ((v1 < 0 → Q 0 s1)
 ∧ (¬ v1 < 0 → ((v1 ≤ (sI s1 139 2) → ∀ s2 : yS, s2 = wI s1 139 2 v1 → 
   Q 1 s2)
  ∧ (¬ v1 ≤ (sI s1 139 2) → Q 0 s1))))
set_option maxRecDepth 100000 in
set_option maxHeartbeats 40000000 in
theorem w_X12_cutBytes {G : xG} (hG : yG G) {z : Nat} {s : yS} {v1 : Int32} {Q : Int32 → yS → Prop} (H : W_X12_cutBytes s v1 Q) : xC G mX12_cutBytes [.ref (q_b G + 139), .int v1] (hS G s) z 0 0 (yQi G z Q) := by
  have hW := hG.1
  have hcl := hG.2.1
  have hty := hG.2.2.1
  have hO : xO G mX12_cutBytes tbX12_cutBytes ptX12_cutBytes := ⟨tkX12_cutBytes, pkX12_cutBytes hcl⟩
  unfold W_X12_cutBytes at H
  refine xC.of hW (by decide) rfl (Nat.le_of_ble_eq_true rfl) ?_
  refine s_aload_n (nx := 1) hO rfl rfl rfl ?_
  refine s_iconst (x := 0) (nx := 2) hO rfl (by decide) rfl ?_
  refine goV (wI s 139 0 0) (fun s1 es1 => ?_)
  replace H := H s1 es1
  refine s_putf (nx := 5) hO rfl rfl (hs_o12 kc139) (Nat.le_of_ble_eq_true rfl) (by rw [hty]; rfl) (by rw [hty]; rfl) pX12_0 rfl ?_
  refine xEx.at (up_oI12 kc139 es1) ?_
  refine s_iload_n (nx := 6) hO rfl rfl rfl ?_
  refine s_if_lt (nx := 9) hO rfl rfl (fun c6 => ?_) (fun c6 => ?_)
  · replace H := H.1 c6
    refine s_iconst (x := 0) (nx := 18) hO rfl (by decide) rfl ?_
    exact s_iret hO rfl rfl rfl ⟨rfl, _, _, rfl, rfl, H⟩
  · replace H := H.2 c6
    refine s_iload_n (nx := 10) hO rfl rfl rfl ?_
    refine s_aload_n (nx := 11) hO rfl rfl rfl ?_
    refine s_getf (v := .int (sI s1 139 2)) (nx := 14) hO rfl rfl (hs_o12 kc139) rfl rfl ?_
    refine s_icmp_le (nx := 17) hO rfl rfl (fun c14 => ?_) (fun c14 => ?_)
    · replace H := H.1 c14
      refine s_aload_n (nx := 20) hO rfl rfl rfl ?_
      refine s_iload_n (nx := 21) hO rfl rfl rfl ?_
      refine goV (wI s1 139 2 v1) (fun s2 es2 => ?_)
      replace H := H s2 es2
      refine s_putf (nx := 24) hO rfl rfl (hs_o12 kc139) (Nat.le_of_ble_eq_true rfl) (by rw [hty]; rfl) (by rw [hty]; rfl) pX12_2 rfl ?_
      refine xEx.at (up_oI12 kc139 es2) ?_
      refine s_iconst (x := 1) (nx := 25) hO rfl (by decide) rfl ?_
      exact s_iret hO rfl rfl rfl ⟨rfl, _, _, rfl, rfl, H⟩
    · replace H := H.2 c14
      refine s_iconst (x := 0) (nx := 18) hO rfl (by decide) rfl ?_
      exact s_iret hO rfl rfl rfl ⟨rfl, _, _, rfl, rfl, H⟩
def W_X12_pokeByte (s : yS) (v1 : Int32) (v2 : Int32) (Q : Int32 → yS → Prop) : Prop :=
 ∀ s1 : yS, s1 = wI s 139 0 0 → 
 ((v1 < 0 → Q 0 s1)
 ∧ (¬ v1 < 0 → ((v1 < (sI s1 139 2) → vp_in v1 8192 ∧ ∀ s3 : yS, s3 = wI s1 140 (ix v1) (v2 &&& (nI 255)) → 
   Q 1 s3)
  ∧ (¬ v1 < (sI s1 139 2) → Q 0 s1))))
set_option maxRecDepth 100000 in
set_option maxHeartbeats 40000000 in
theorem w_X12_pokeByte {G : xG} (hG : yG G) {z : Nat} {s : yS} {v1 : Int32} {v2 : Int32} {Q : Int32 → yS → Prop} (H : W_X12_pokeByte s v1 v2 Q) : xC G mX12_pokeByte [.ref (q_b G + 139), .int v1, .int v2] (hS G s) z 0 0 (yQi G z Q) := by
  have hW := hG.1
  have hcl := hG.2.1
  have hty := hG.2.2.1
  have hO : xO G mX12_pokeByte tbX12_pokeByte ptX12_pokeByte := ⟨tkX12_pokeByte, pkX12_pokeByte hcl⟩
  unfold W_X12_pokeByte at H
  refine xC.of hW (by decide) rfl (Nat.le_of_ble_eq_true rfl) ?_
  refine s_aload_n (nx := 1) hO rfl rfl rfl ?_
  refine s_iconst (x := 0) (nx := 2) hO rfl (by decide) rfl ?_
  refine goV (wI s 139 0 0) (fun s1 es1 => ?_)
  replace H := H s1 es1
  refine s_putf (nx := 5) hO rfl rfl (hs_o12 kc139) (Nat.le_of_ble_eq_true rfl) (by rw [hty]; rfl) (by rw [hty]; rfl) pX12_0 rfl ?_
  refine xEx.at (up_oI12 kc139 es1) ?_
  refine s_iload_n (nx := 6) hO rfl rfl rfl ?_
  refine s_if_lt (nx := 9) hO rfl rfl (fun c6 => ?_) (fun c6 => ?_)
  · replace H := H.1 c6
    refine s_iconst (x := 0) (nx := 18) hO rfl (by decide) rfl ?_
    exact s_iret hO rfl rfl rfl ⟨rfl, _, _, rfl, rfl, H⟩
  · replace H := H.2 c6
    refine s_iload_n (nx := 10) hO rfl rfl rfl ?_
    refine s_aload_n (nx := 11) hO rfl rfl rfl ?_
    refine s_getf (v := .int (sI s1 139 2)) (nx := 14) hO rfl rfl (hs_o12 kc139) rfl rfl ?_
    refine s_icmp_lt (nx := 17) hO rfl rfl (fun c14 => ?_) (fun c14 => ?_)
    · replace H := H.1 c14
      refine s_aload_n (nx := 20) hO rfl rfl rfl ?_
      refine s_getf (v := .ref (q_b G + 140)) (nx := 23) hO rfl rfl (hs_o12 kc139) rfl rfl ?_
      refine s_iload_n (nx := 24) hO rfl rfl rfl ?_
      refine s_iload_n (nx := 25) hO rfl rfl rfl ?_
      refine s_sipush (x := (nI 255)) (nx := 28) hO rfl (by decide) rfl ?_
      refine s_iand (nx := 29) hO rfl rfl ?_
      obtain ⟨b2, H⟩ := H
      refine goV (wI s1 140 (ix v1) (v2 &&& (nI 255))) (fun s3 es3 => ?_)
      replace H := H s3 es3
      refine s_iast (nx := 30) hO rfl (hs_I kc140) b2 rfl ?_
      refine xEx.at (up_I kc140 es3) ?_
      refine s_iconst (x := 1) (nx := 31) hO rfl (by decide) rfl ?_
      exact s_iret hO rfl rfl rfl ⟨rfl, _, _, rfl, rfl, H⟩
    · replace H := H.2 c14
      refine s_iconst (x := 0) (nx := 18) hO rfl (by decide) rfl ?_
      exact s_iret hO rfl rfl rfl ⟨rfl, _, _, rfl, rfl, H⟩
def W_X12_turnBytes (s : yS) (Q : yS → Prop) : Prop :=
 ∀ s1 : yS, s1 = wI s 139 0 0 → 
 ∀ s2 : yS, s2 = wI s1 139 2 (sI s1 139 5) → 
 ∀ P15 : Int32 → yS → Prop, (∀ (x3 : Int32) (s4 : yS), ((((sI s4 139 2) ≤ x3 → Q s4)
  ∧ (¬ (sI s4 139 2) ≤ x3 → vp_in x3 8192 ∧ 
   vp_in x3 8192 ∧ ∀ s7 : yS, s7 = wI s4 140 (ix x3) (sI s4 141 (ix x3)) → 
   ∀ x8 : Int32, x8 = (x3 + 1) → 
   P15 x8 s7))) → P15 x3 s4) → 
 P15 0 s2
set_option maxRecDepth 100000 in
set_option maxHeartbeats 40000000 in
theorem w_X12_turnBytes {G : xG} (hG : yG G) {z : Nat} {s : yS} {Q : yS → Prop} (H : W_X12_turnBytes s Q) : xC G mX12_turnBytes [.ref (q_b G + 139)] (hS G s) z 0 0 (yQv G z Q) := by
  have hW := hG.1
  have hcl := hG.2.1
  have hty := hG.2.2.1
  have hO : xO G mX12_turnBytes tbX12_turnBytes ptX12_turnBytes := ⟨tkX12_turnBytes, pkX12_turnBytes hcl⟩
  unfold W_X12_turnBytes at H
  refine xC.of hW (by decide) rfl (Nat.le_of_ble_eq_true rfl) ?_
  refine s_aload_n (nx := 1) hO rfl rfl rfl ?_
  refine s_iconst (x := 0) (nx := 2) hO rfl (by decide) rfl ?_
  refine goV (wI s 139 0 0) (fun s1 es1 => ?_)
  replace H := H s1 es1
  refine s_putf (nx := 5) hO rfl rfl (hs_o12 kc139) (Nat.le_of_ble_eq_true rfl) (by rw [hty]; rfl) (by rw [hty]; rfl) pX12_0 rfl ?_
  refine xEx.at (up_oI12 kc139 es1) ?_
  refine s_aload_n (nx := 6) hO rfl rfl rfl ?_
  refine s_aload_n (nx := 7) hO rfl rfl rfl ?_
  refine s_getf (v := .int (sI s1 139 5)) (nx := 10) hO rfl rfl (hs_o12 kc139) rfl rfl ?_
  refine goV (wI s1 139 2 (sI s1 139 5)) (fun s2 es2 => ?_)
  replace H := H s2 es2
  refine s_putf (nx := 13) hO rfl rfl (hs_o12 kc139) (Nat.le_of_ble_eq_true rfl) (by rw [hty]; rfl) (by rw [hty]; rfl) pX12_2 rfl ?_
  refine xEx.at (up_oI12 kc139 es2) ?_
  refine s_iconst (x := 0) (nx := 14) hO rfl (by decide) rfl ?_
  refine goK (H (fun (x3 : Int32) (s4 : yS) => xEx G mX12_turnBytes 15 [(0, .ref (q_b G + 139)), (1, .int x3)] [] (hS G s4) z 0 0 (yQv G z Q)) (fun x3 s4 H => ?_)) (fun H => ?_)
  · show xEx G mX12_turnBytes 15 [(0, .ref (q_b G + 139)), (1, .int x3)] [] (hS G s4) z 0 0 (yQv G z Q)
    refine s_iload_n (nx := 16) hO rfl rfl rfl ?_
    refine s_aload_n (nx := 17) hO rfl rfl rfl ?_
    refine s_getf (v := .int (sI s4 139 2)) (nx := 20) hO rfl rfl (hs_o12 kc139) rfl rfl ?_
    refine s_icmp_ge (nx := 23) hO rfl rfl (fun c20 => ?_) (fun c20 => ?_)
    · replace H := H.1 c20
      exact s_vret hO rfl rfl ⟨rfl, _, rfl, rfl, H⟩
    · replace H := H.2 c20
      refine s_aload_n (nx := 24) hO rfl rfl rfl ?_
      refine s_getf (v := .ref (q_b G + 140)) (nx := 27) hO rfl rfl (hs_o12 kc139) rfl rfl ?_
      refine s_iload_n (nx := 28) hO rfl rfl rfl ?_
      refine s_aload_n (nx := 29) hO rfl rfl rfl ?_
      refine s_getf (v := .ref (q_b G + 141)) (nx := 32) hO rfl rfl (hs_o12 kc139) rfl rfl ?_
      refine s_iload_n (nx := 33) hO rfl rfl rfl ?_
      obtain ⟨b5, H⟩ := H
      refine s_iald (nx := 34) hO rfl (hs_I kc141) b5 rfl ?_
      obtain ⟨b6, H⟩ := H
      refine goV (wI s4 140 (ix x3) (sI s4 141 (ix x3))) (fun s7 es7 => ?_)
      replace H := H s7 es7
      refine s_iast (nx := 35) hO rfl (hs_I kc140) b6 rfl ?_
      refine xEx.at (up_I kc140 es7) ?_
      refine goV ((x3 + 1)) (fun x8 ex8 => ?_)
      replace H := H x8 ex8
      refine e_iinc (nx := 38) (l' := [(1, .int x8), (0, .ref (q_b G + 139))]) ex8 hO rfl (by decide) rfl rfl rfl rfl ?_
      refine s_goto hO rfl ?_
      exact xEx.loc (x_sub1 (List.Mem.tail _ (List.Mem.head _)) (x_sub1 (List.Mem.head _) x_sub0)) H
  refine s_istore_n (nx := 15) (l' := [(1, .int 0), (0, .ref (q_b G + 139))]) hO rfl (by decide) rfl rfl ?_
  exact xEx.loc (x_sub1 (List.Mem.tail _ (List.Mem.head _)) (x_sub1 (List.Mem.head _) x_sub0)) H
def W_X12_byteOf (s : yS) (v1 : Int32) (v2 : Int32) (Q : Int32 → yS → Prop) : Prop :=
 ∀ s1 : yS, s1 = wI s 139 0 0 → 
 ((v1 < 0 → Q (-1) s1)
 ∧ (¬ v1 < 0 → ∀ P25 : Int32 → Prop, (∀ (y2 : Int32), (((v1 < y2 → ((v2 = 0 → vp_in v1 8192 ∧ 
     Q (sI s1 141 (ix v1)) s1)
    ∧ (¬ v2 = 0 → vp_in v1 8192 ∧ 
     Q (sI s1 140 (ix v1)) s1)))
   ∧ (¬ v1 < y2 → Q (-1) s1))) → P25 y2) → 
  ((v2 = 0 → P25 (sI s1 139 5))
  ∧ (¬ v2 = 0 → P25 (sI s1 139 2)))))
set_option maxRecDepth 100000 in
set_option maxHeartbeats 40000000 in
theorem w_X12_byteOf {G : xG} (hG : yG G) {z : Nat} {s : yS} {v1 : Int32} {v2 : Int32} {Q : Int32 → yS → Prop} (H : W_X12_byteOf s v1 v2 Q) : xC G mX12_byteOf [.ref (q_b G + 139), .int v1, .int v2] (hS G s) z 0 0 (yQi G z Q) := by
  have hW := hG.1
  have hcl := hG.2.1
  have hty := hG.2.2.1
  have hO : xO G mX12_byteOf tbX12_byteOf ptX12_byteOf := ⟨tkX12_byteOf, pkX12_byteOf hcl⟩
  unfold W_X12_byteOf at H
  refine xC.of hW (by decide) rfl (Nat.le_of_ble_eq_true rfl) ?_
  refine s_aload_n (nx := 1) hO rfl rfl rfl ?_
  refine s_iconst (x := 0) (nx := 2) hO rfl (by decide) rfl ?_
  refine goV (wI s 139 0 0) (fun s1 es1 => ?_)
  replace H := H s1 es1
  refine s_putf (nx := 5) hO rfl rfl (hs_o12 kc139) (Nat.le_of_ble_eq_true rfl) (by rw [hty]; rfl) (by rw [hty]; rfl) pX12_0 rfl ?_
  refine xEx.at (up_oI12 kc139 es1) ?_
  refine s_iload_n (nx := 6) hO rfl rfl rfl ?_
  refine s_if_lt (nx := 9) hO rfl rfl (fun c6 => ?_) (fun c6 => ?_)
  · replace H := H.1 c6
    refine s_iconst (x := (-1)) (nx := 29) hO rfl (by decide) rfl ?_
    refine s_goto hO rfl ?_
    exact s_iret hO rfl rfl rfl ⟨rfl, _, _, rfl, rfl, H⟩
  · replace H := H.2 c6
    refine s_iload_n (nx := 10) hO rfl rfl rfl ?_
    refine s_iload_n (nx := 11) hO rfl rfl rfl ?_
    refine goK (H (fun (y2 : Int32) => xEx G mX12_byteOf 25 [(0, .ref (q_b G + 139)), (1, .int v1), (2, .int v2)] [.int y2, .int v1] (hS G s1) z 0 0 (yQi G z Q)) (fun y2 H => ?_)) (fun H => ?_)
    · show xEx G mX12_byteOf 25 [(0, .ref (q_b G + 139)), (1, .int v1), (2, .int v2)] [.int y2, .int v1] (hS G s1) z 0 0 (yQi G z Q)
      refine s_icmp_lt (nx := 28) hO rfl rfl (fun c25 => ?_) (fun c25 => ?_)
      · replace H := H.1 c25
        refine s_iload_n (nx := 33) hO rfl rfl rfl ?_
        refine s_if_eq (nx := 36) hO rfl rfl (fun c33 => ?_) (fun c33 => ?_)
        · replace H := H.1 c33
          refine s_aload_n (nx := 46) hO rfl rfl rfl ?_
          refine s_getf (v := .ref (q_b G + 141)) (nx := 49) hO rfl rfl (hs_o12 kc139) rfl rfl ?_
          refine s_iload_n (nx := 50) hO rfl rfl rfl ?_
          obtain ⟨b3, H⟩ := H
          refine s_iald (nx := 51) hO rfl (hs_I kc141) b3 rfl ?_
          exact s_iret hO rfl rfl rfl ⟨rfl, _, _, rfl, rfl, H⟩
        · replace H := H.2 c33
          refine s_aload_n (nx := 37) hO rfl rfl rfl ?_
          refine s_getf (v := .ref (q_b G + 140)) (nx := 40) hO rfl rfl (hs_o12 kc139) rfl rfl ?_
          refine s_iload_n (nx := 41) hO rfl rfl rfl ?_
          obtain ⟨b4, H⟩ := H
          refine s_iald (nx := 42) hO rfl (hs_I kc140) b4 rfl ?_
          refine s_goto hO rfl ?_
          exact s_iret hO rfl rfl rfl ⟨rfl, _, _, rfl, rfl, H⟩
      · replace H := H.2 c25
        refine s_iconst (x := (-1)) (nx := 29) hO rfl (by decide) rfl ?_
        refine s_goto hO rfl ?_
        exact s_iret hO rfl rfl rfl ⟨rfl, _, _, rfl, rfl, H⟩
    refine s_if_eq (nx := 14) hO rfl rfl (fun c11 => ?_) (fun c11 => ?_)
    · replace H := H.1 c11
      refine s_aload_n (nx := 22) hO rfl rfl rfl ?_
      refine s_getf (v := .int (sI s1 139 5)) (nx := 25) hO rfl rfl (hs_o12 kc139) rfl rfl ?_
      exact xEx.loc (x_sub1 (List.Mem.head _) (x_sub1 (List.Mem.tail _ (List.Mem.head _)) (x_sub1 (List.Mem.tail _ (List.Mem.tail _ (List.Mem.head _))) x_sub0))) H
    · replace H := H.2 c11
      refine s_aload_n (nx := 15) hO rfl rfl rfl ?_
      refine s_getf (v := .int (sI s1 139 2)) (nx := 18) hO rfl rfl (hs_o12 kc139) rfl rfl ?_
      refine s_goto hO rfl ?_
      exact xEx.loc (x_sub1 (List.Mem.head _) (x_sub1 (List.Mem.tail _ (List.Mem.head _)) (x_sub1 (List.Mem.tail _ (List.Mem.tail _ (List.Mem.head _))) x_sub0))) H
def W_X12_count (s : yS) (a1 n1 : Nat) (v2 : Int32) (Q : yS → Prop) : Prop :=
 ∀ P2 : Int32 → yS → Prop, (∀ (x1 : Int32) (s2 : yS), ((((sI s2 139 19) ≤ x1 → Q s2)
  ∧ (¬ (sI s2 139 19) ≤ x1 → ∀ P16 : Int32 → Int32 → yS → Prop, (∀ (x3 : Int32) (x4 : Int32) (s5 : yS), ((((sI s5 139 25) ≤ x4 → ∀ x6 : Int32, x6 = (x1 + 1) → 
     P2 x6 s5)
    ∧ (¬ (sI s5 139 25) ≤ x4 → ∀ P67 : Int32 → Prop, (∀ (y7 : Int32), (∀ P139 : Int32 → yS → Prop, (∀ (x8 : Int32) (s9 : yS), (∀ x10 : Int32, x10 = (x4 + 1) → 
       P16 x8 x10 s9) → P139 x8 s9) → 
      ((y7 = 0 → P139 x3 s5)
      ∧ (¬ y7 = 0 → vp_in x4 24 ∧ 
       vp_in x4 24 ∧ 
       W_X12_hold s5 (sI s5 149 (ix x4)) (sI s5 150 (ix x4)) v2 
       (fun r13 => ((r13 = 0 → P139 x3 s5)
       ∧ (¬ r13 = 0 → vp_in x4 24 ∧ 
        ∀ P138 : Int32 → Prop, (∀ (y15 : Int32), (vp_in x1 n1 ∧ ∀ s17 : yS, s17 = wI s5 a1 (ix x1) y15 → 
         P139 1 s17) → P138 y15) → 
        ((¬ (sI s5 147 (ix x4)) = 0 → vp_in x1 n1 ∧ 
         vp_in x1 6 ∧ 
         (((sI s5 145 (ix x1)) ≤ (sI s5 a1 (ix x1)) → vp_in x1 n1 ∧ 
          P138 (sI s5 a1 (ix x1)))
         ∧ (¬ (sI s5 145 (ix x1)) ≤ (sI s5 a1 (ix x1)) → vp_in x1 n1 ∧ 
          P138 ((sI s5 a1 (ix x1)) + 1))))
        ∧ ((sI s5 147 (ix x4)) = 0 → P138 0)))))))) → P67 y7) → 
     ((¬ x3 = 0 → P67 0)
     ∧ (x3 = 0 → vp_in x4 24 ∧ 
      ((¬ (sI s5 146 (ix x4)) = x1 → P67 0)
      ∧ ((sI s5 146 (ix x4)) = x1 → vp_in x4 24 ∧ 
       (((sI s5 148 (ix x4)) < 0 → P67 1)
       ∧ (¬ (sI s5 148 (ix x4)) < 0 → vp_in x4 24 ∧ 
        ((¬ (sI s5 148 (ix x4)) = v2 → P67 0)
        ∧ ((sI s5 148 (ix x4)) = v2 → P67 1))))))))))) → P16 x3 x4 s5) → 
   P16 0 0 s2))) → P2 x1 s2) → 
 P2 0 s
set_option maxRecDepth 100000 in
set_option maxHeartbeats 40000000 in
theorem w_X12_count {G : xG} (hG : yG G) {z : Nat} {s : yS} {a1 n1 : Nat} {v2 : Int32} {Q : yS → Prop} (ha1 : kd a1 = some (0, n1)) (H : W_X12_count s a1 n1 v2 Q) : xC G mX12_count [.ref (q_b G + 139), .ref (q_b G + a1), .int v2] (hS G s) z 0 0 (yQv G z Q) := by
  have hW := hG.1
  have hcl := hG.2.1
  have hty := hG.2.2.1
  have hO : xO G mX12_count tbX12_count ptX12_count := ⟨tkX12_count, pkX12_count hcl⟩
  unfold W_X12_count at H
  refine xC.of hW (by decide) rfl (Nat.le_of_ble_eq_true rfl) ?_
  refine s_iconst (x := 0) (nx := 1) hO rfl (by decide) rfl ?_
  refine goK (H (fun (x1 : Int32) (s2 : yS) => xEx G mX12_count 2 [(0, .ref (q_b G + 139)), (1, .ref (q_b G + a1)), (2, .int v2), (3, .int x1)] [] (hS G s2) z 0 0 (yQv G z Q)) (fun x1 s2 H => ?_)) (fun H => ?_)
  · show xEx G mX12_count 2 [(0, .ref (q_b G + 139)), (1, .ref (q_b G + a1)), (2, .int v2), (3, .int x1)] [] (hS G s2) z 0 0 (yQv G z Q)
    refine s_iload_n (nx := 3) hO rfl rfl rfl ?_
    refine s_aload_n (nx := 4) hO rfl rfl rfl ?_
    refine s_getf (v := .int (sI s2 139 19)) (nx := 7) hO rfl rfl (hs_o12 kc139) rfl rfl ?_
    refine s_icmp_ge (nx := 10) hO rfl rfl (fun c7 => ?_) (fun c7 => ?_)
    · replace H := H.1 c7
      exact s_vret hO rfl rfl ⟨rfl, _, rfl, rfl, H⟩
    · replace H := H.2 c7
      refine s_iconst (x := 0) (nx := 11) hO rfl (by decide) rfl ?_
      refine s_istore (nx := 13) (l' := [(4, .int 0), (0, .ref (q_b G + 139)), (1, .ref (q_b G + a1)), (2, .int v2), (3, .int x1)]) hO rfl (by decide) rfl rfl ?_
      refine s_iconst (x := 0) (nx := 14) hO rfl (by decide) rfl ?_
      refine goK (H (fun (x3 : Int32) (x4 : Int32) (s5 : yS) => xEx G mX12_count 16 [(0, .ref (q_b G + 139)), (1, .ref (q_b G + a1)), (2, .int v2), (3, .int x1), (4, .int x3), (5, .int x4)] [] (hS G s5) z 0 0 (yQv G z Q)) (fun x3 x4 s5 H => ?_)) (fun H => ?_)
      · show xEx G mX12_count 16 [(0, .ref (q_b G + 139)), (1, .ref (q_b G + a1)), (2, .int v2), (3, .int x1), (4, .int x3), (5, .int x4)] [] (hS G s5) z 0 0 (yQv G z Q)
        refine s_iload (nx := 18) hO rfl rfl rfl ?_
        refine s_aload_n (nx := 19) hO rfl rfl rfl ?_
        refine s_getf (v := .int (sI s5 139 25)) (nx := 22) hO rfl rfl (hs_o12 kc139) rfl rfl ?_
        refine s_icmp_ge (nx := 25) hO rfl rfl (fun c22 => ?_) (fun c22 => ?_)
        · replace H := H.1 c22
          refine goV ((x1 + 1)) (fun x6 ex6 => ?_)
          replace H := H x6 ex6
          refine e_iinc (nx := 148) (l' := [(3, .int x6), (0, .ref (q_b G + 139)), (1, .ref (q_b G + a1)), (2, .int v2), (4, .int x3), (5, .int x4)]) ex6 hO rfl (by decide) rfl rfl rfl rfl ?_
          refine s_goto hO rfl ?_
          exact xEx.loc (x_sub1 (List.Mem.tail _ (List.Mem.head _)) (x_sub1 (List.Mem.tail _ (List.Mem.tail _ (List.Mem.head _))) (x_sub1 (List.Mem.tail _ (List.Mem.tail _ (List.Mem.tail _ (List.Mem.head _)))) (x_sub1 (List.Mem.head _) x_sub0)))) H
        · replace H := H.2 c22
          refine s_iload (nx := 27) hO rfl rfl rfl ?_
          refine goK (H (fun (y7 : Int32) => xEx G mX12_count 67 [(0, .ref (q_b G + 139)), (1, .ref (q_b G + a1)), (2, .int v2), (3, .int x1), (4, .int x3), (5, .int x4)] [.int y7] (hS G s5) z 0 0 (yQv G z Q)) (fun y7 H => ?_)) (fun H => ?_)
          · show xEx G mX12_count 67 [(0, .ref (q_b G + 139)), (1, .ref (q_b G + a1)), (2, .int v2), (3, .int x1), (4, .int x3), (5, .int x4)] [.int y7] (hS G s5) z 0 0 (yQv G z Q)
            refine s_istore (nx := 69) (l' := [(6, .int y7), (0, .ref (q_b G + 139)), (1, .ref (q_b G + a1)), (2, .int v2), (3, .int x1), (4, .int x3), (5, .int x4)]) hO rfl (by decide) rfl rfl ?_
            refine s_iload (nx := 71) hO rfl rfl rfl ?_
            refine goK (H (fun (x8 : Int32) (s9 : yS) => xEx G mX12_count 139 [(0, .ref (q_b G + 139)), (1, .ref (q_b G + a1)), (2, .int v2), (3, .int x1), (4, .int x8), (5, .int x4)] [] (hS G s9) z 0 0 (yQv G z Q)) (fun x8 s9 H => ?_)) (fun H => ?_)
            · show xEx G mX12_count 139 [(0, .ref (q_b G + 139)), (1, .ref (q_b G + a1)), (2, .int v2), (3, .int x1), (4, .int x8), (5, .int x4)] [] (hS G s9) z 0 0 (yQv G z Q)
              refine goV ((x4 + 1)) (fun x10 ex10 => ?_)
              replace H := H x10 ex10
              refine e_iinc (nx := 142) (l' := [(5, .int x10), (0, .ref (q_b G + 139)), (1, .ref (q_b G + a1)), (2, .int v2), (3, .int x1), (4, .int x8)]) ex10 hO rfl (by decide) rfl rfl rfl rfl ?_
              refine s_goto hO rfl ?_
              exact xEx.loc (x_sub1 (List.Mem.tail _ (List.Mem.head _)) (x_sub1 (List.Mem.tail _ (List.Mem.tail _ (List.Mem.head _))) (x_sub1 (List.Mem.tail _ (List.Mem.tail _ (List.Mem.tail _ (List.Mem.head _)))) (x_sub1 (List.Mem.tail _ (List.Mem.tail _ (List.Mem.tail _ (List.Mem.tail _ (List.Mem.head _))))) (x_sub1 (List.Mem.tail _ (List.Mem.tail _ (List.Mem.tail _ (List.Mem.tail _ (List.Mem.tail _ (List.Mem.head _)))))) (x_sub1 (List.Mem.head _) x_sub0)))))) H
            refine s_if_eq (nx := 74) hO rfl rfl (fun c71 => ?_) (fun c71 => ?_)
            · replace H := H.1 c71
              exact xEx.loc (x_sub1 (List.Mem.tail _ (List.Mem.head _)) (x_sub1 (List.Mem.tail _ (List.Mem.tail _ (List.Mem.head _))) (x_sub1 (List.Mem.tail _ (List.Mem.tail _ (List.Mem.tail _ (List.Mem.head _)))) (x_sub1 (List.Mem.tail _ (List.Mem.tail _ (List.Mem.tail _ (List.Mem.tail _ (List.Mem.head _))))) (x_sub1 (List.Mem.tail _ (List.Mem.tail _ (List.Mem.tail _ (List.Mem.tail _ (List.Mem.tail _ (List.Mem.head _)))))) (x_sub1 (List.Mem.tail _ (List.Mem.tail _ (List.Mem.tail _ (List.Mem.tail _ (List.Mem.tail _ (List.Mem.tail _ (List.Mem.head _))))))) x_sub0)))))) H
            · replace H := H.2 c71
              refine s_aload_n (nx := 75) hO rfl rfl rfl ?_
              refine s_aload_n (nx := 76) hO rfl rfl rfl ?_
              refine s_getf (v := .ref (q_b G + 149)) (nx := 79) hO rfl rfl (hs_o12 kc139) rfl rfl ?_
              refine s_iload (nx := 81) hO rfl rfl rfl ?_
              obtain ⟨b11, H⟩ := H
              refine s_iald (nx := 82) hO rfl (hs_I kc149) b11 rfl ?_
              refine s_aload_n (nx := 83) hO rfl rfl rfl ?_
              refine s_getf (v := .ref (q_b G + 150)) (nx := 86) hO rfl rfl (hs_o12 kc139) rfl rfl ?_
              refine s_iload (nx := 88) hO rfl rfl rfl ?_
              obtain ⟨b12, H⟩ := H
              refine s_iald (nx := 89) hO rfl (hs_I kc150) b12 rfl ?_
              refine s_iload_n (nx := 90) hO rfl rfl rfl ?_
              refine s_callV [.int (sI s5 149 (ix x4)), .int (sI s5 150 (ix x4)), .int v2] (ci := 12) (F := TX12) (N := 116) (nx := 93) hO rfl kX12_count_471 (by rw [hcl]; rfl) (hs_o12 kc139) (w_X12_hold hG H) rfl rfl (Nat.le_of_ble_eq_true rfl) (Nat.zero_le _) (Nat.zero_le _) rfl (k_Pi (fun r13 H => ?_))
              refine s_if_eq (nx := 96) hO rfl rfl (fun c93 => ?_) (fun c93 => ?_)
              · replace H := H.1 c93
                exact xEx.loc (x_sub1 (List.Mem.tail _ (List.Mem.head _)) (x_sub1 (List.Mem.tail _ (List.Mem.tail _ (List.Mem.head _))) (x_sub1 (List.Mem.tail _ (List.Mem.tail _ (List.Mem.tail _ (List.Mem.head _)))) (x_sub1 (List.Mem.tail _ (List.Mem.tail _ (List.Mem.tail _ (List.Mem.tail _ (List.Mem.head _))))) (x_sub1 (List.Mem.tail _ (List.Mem.tail _ (List.Mem.tail _ (List.Mem.tail _ (List.Mem.tail _ (List.Mem.head _)))))) (x_sub1 (List.Mem.tail _ (List.Mem.tail _ (List.Mem.tail _ (List.Mem.tail _ (List.Mem.tail _ (List.Mem.tail _ (List.Mem.head _))))))) x_sub0)))))) H
              · replace H := H.2 c93
                refine s_iconst (x := 1) (nx := 97) hO rfl (by decide) rfl ?_
                refine s_istore (nx := 99) (l' := [(4, .int 1), (6, .int y7), (0, .ref (q_b G + 139)), (1, .ref (q_b G + a1)), (2, .int v2), (3, .int x1), (5, .int x4)]) hO rfl (by decide) rfl rfl ?_
                refine s_aload_n (nx := 100) hO rfl rfl rfl ?_
                refine s_iload_n (nx := 101) hO rfl rfl rfl ?_
                refine s_aload_n (nx := 102) hO rfl rfl rfl ?_
                refine s_getf (v := .ref (q_b G + 147)) (nx := 105) hO rfl rfl (hs_o12 kc139) rfl rfl ?_
                refine s_iload (nx := 107) hO rfl rfl rfl ?_
                obtain ⟨b14, H⟩ := H
                refine s_zald (nx := 108) hO rfl (hs_Z kc147) b14 rfl ?_
                refine goK (H (fun (y15 : Int32) => xEx G mX12_count 138 [(0, .ref (q_b G + 139)), (1, .ref (q_b G + a1)), (2, .int v2), (3, .int x1), (4, .int 1), (5, .int x4)] [.int y15, .int x1, .ref (q_b G + a1)] (hS G s5) z 0 0 (yQv G z Q)) (fun y15 H => ?_)) (fun H => ?_)
                · show xEx G mX12_count 138 [(0, .ref (q_b G + 139)), (1, .ref (q_b G + a1)), (2, .int v2), (3, .int x1), (4, .int 1), (5, .int x4)] [.int y15, .int x1, .ref (q_b G + a1)] (hS G s5) z 0 0 (yQv G z Q)
                  obtain ⟨b16, H⟩ := H
                  refine goV (wI s5 a1 (ix x1) y15) (fun s17 es17 => ?_)
                  replace H := H s17 es17
                  refine s_iast (nx := 139) hO rfl (hs_I ha1) b16 rfl ?_
                  refine xEx.at (up_I ha1 es17) ?_
                  exact xEx.loc (x_sub1 (List.Mem.head _) (x_sub1 (List.Mem.tail _ (List.Mem.head _)) (x_sub1 (List.Mem.tail _ (List.Mem.tail _ (List.Mem.head _))) (x_sub1 (List.Mem.tail _ (List.Mem.tail _ (List.Mem.tail _ (List.Mem.head _)))) (x_sub1 (List.Mem.tail _ (List.Mem.tail _ (List.Mem.tail _ (List.Mem.tail _ (List.Mem.head _))))) (x_sub1 (List.Mem.tail _ (List.Mem.tail _ (List.Mem.tail _ (List.Mem.tail _ (List.Mem.tail _ (List.Mem.head _)))))) x_sub0)))))) H
                refine s_if_ne (nx := 111) hO rfl rfl (fun c108 => ?_) (fun c108 => ?_)
                · replace H := H.1 c108
                  refine s_aload_n (nx := 116) hO rfl rfl rfl ?_
                  refine s_iload_n (nx := 117) hO rfl rfl rfl ?_
                  obtain ⟨b18, H⟩ := H
                  refine s_iald (nx := 118) hO rfl (hs_I ha1) b18 rfl ?_
                  refine s_aload_n (nx := 119) hO rfl rfl rfl ?_
                  refine s_getf (v := .ref (q_b G + 145)) (nx := 122) hO rfl rfl (hs_o12 kc139) rfl rfl ?_
                  refine s_iload_n (nx := 123) hO rfl rfl rfl ?_
                  obtain ⟨b19, H⟩ := H
                  refine s_iald (nx := 124) hO rfl (hs_I kc145) b19 rfl ?_
                  refine s_icmp_ge (nx := 127) hO rfl rfl (fun c124 => ?_) (fun c124 => ?_)
                  · replace H := H.1 c124
                    refine s_aload_n (nx := 136) hO rfl rfl rfl ?_
                    refine s_iload_n (nx := 137) hO rfl rfl rfl ?_
                    obtain ⟨b20, H⟩ := H
                    refine s_iald (nx := 138) hO rfl (hs_I ha1) b20 rfl ?_
                    exact xEx.loc (x_sub1 (List.Mem.tail _ (List.Mem.tail _ (List.Mem.head _))) (x_sub1 (List.Mem.tail _ (List.Mem.tail _ (List.Mem.tail _ (List.Mem.head _)))) (x_sub1 (List.Mem.tail _ (List.Mem.tail _ (List.Mem.tail _ (List.Mem.tail _ (List.Mem.head _))))) (x_sub1 (List.Mem.tail _ (List.Mem.tail _ (List.Mem.tail _ (List.Mem.tail _ (List.Mem.tail _ (List.Mem.head _)))))) (x_sub1 (List.Mem.head _) (x_sub1 (List.Mem.tail _ (List.Mem.tail _ (List.Mem.tail _ (List.Mem.tail _ (List.Mem.tail _ (List.Mem.tail _ (List.Mem.head _))))))) x_sub0)))))) H
                  · replace H := H.2 c124
                    refine s_aload_n (nx := 128) hO rfl rfl rfl ?_
                    refine s_iload_n (nx := 129) hO rfl rfl rfl ?_
                    obtain ⟨b21, H⟩ := H
                    refine s_iald (nx := 130) hO rfl (hs_I ha1) b21 rfl ?_
                    refine s_iconst (x := 1) (nx := 131) hO rfl (by decide) rfl ?_
                    refine s_iadd (nx := 132) hO rfl rfl ?_
                    refine s_goto hO rfl ?_
                    exact xEx.loc (x_sub1 (List.Mem.tail _ (List.Mem.tail _ (List.Mem.head _))) (x_sub1 (List.Mem.tail _ (List.Mem.tail _ (List.Mem.tail _ (List.Mem.head _)))) (x_sub1 (List.Mem.tail _ (List.Mem.tail _ (List.Mem.tail _ (List.Mem.tail _ (List.Mem.head _))))) (x_sub1 (List.Mem.tail _ (List.Mem.tail _ (List.Mem.tail _ (List.Mem.tail _ (List.Mem.tail _ (List.Mem.head _)))))) (x_sub1 (List.Mem.head _) (x_sub1 (List.Mem.tail _ (List.Mem.tail _ (List.Mem.tail _ (List.Mem.tail _ (List.Mem.tail _ (List.Mem.tail _ (List.Mem.head _))))))) x_sub0)))))) H
                · replace H := H.2 c108
                  refine s_iconst (x := 0) (nx := 112) hO rfl (by decide) rfl ?_
                  refine s_goto hO rfl ?_
                  exact xEx.loc (x_sub1 (List.Mem.tail _ (List.Mem.tail _ (List.Mem.head _))) (x_sub1 (List.Mem.tail _ (List.Mem.tail _ (List.Mem.tail _ (List.Mem.head _)))) (x_sub1 (List.Mem.tail _ (List.Mem.tail _ (List.Mem.tail _ (List.Mem.tail _ (List.Mem.head _))))) (x_sub1 (List.Mem.tail _ (List.Mem.tail _ (List.Mem.tail _ (List.Mem.tail _ (List.Mem.tail _ (List.Mem.head _)))))) (x_sub1 (List.Mem.head _) (x_sub1 (List.Mem.tail _ (List.Mem.tail _ (List.Mem.tail _ (List.Mem.tail _ (List.Mem.tail _ (List.Mem.tail _ (List.Mem.head _))))))) x_sub0)))))) H
          refine s_if_ne (nx := 30) hO rfl rfl (fun c27 => ?_) (fun c27 => ?_)
          · replace H := H.1 c27
            refine s_iconst (x := 0) (nx := 67) hO rfl (by decide) rfl ?_
            exact xEx.loc (x_sub1 (List.Mem.head _) (x_sub1 (List.Mem.tail _ (List.Mem.head _)) (x_sub1 (List.Mem.tail _ (List.Mem.tail _ (List.Mem.head _))) (x_sub1 (List.Mem.tail _ (List.Mem.tail _ (List.Mem.tail _ (List.Mem.head _)))) (x_sub1 (List.Mem.tail _ (List.Mem.tail _ (List.Mem.tail _ (List.Mem.tail _ (List.Mem.head _))))) (x_sub1 (List.Mem.tail _ (List.Mem.tail _ (List.Mem.tail _ (List.Mem.tail _ (List.Mem.tail _ (List.Mem.head _)))))) x_sub0)))))) H
          · replace H := H.2 c27
            refine s_aload_n (nx := 31) hO rfl rfl rfl ?_
            refine s_getf (v := .ref (q_b G + 146)) (nx := 34) hO rfl rfl (hs_o12 kc139) rfl rfl ?_
            refine s_iload (nx := 36) hO rfl rfl rfl ?_
            obtain ⟨b22, H⟩ := H
            refine s_iald (nx := 37) hO rfl (hs_I kc146) b22 rfl ?_
            refine s_iload_n (nx := 38) hO rfl rfl rfl ?_
            refine s_icmp_ne (nx := 41) hO rfl rfl (fun c38 => ?_) (fun c38 => ?_)
            · replace H := H.1 c38
              refine s_iconst (x := 0) (nx := 67) hO rfl (by decide) rfl ?_
              exact xEx.loc (x_sub1 (List.Mem.head _) (x_sub1 (List.Mem.tail _ (List.Mem.head _)) (x_sub1 (List.Mem.tail _ (List.Mem.tail _ (List.Mem.head _))) (x_sub1 (List.Mem.tail _ (List.Mem.tail _ (List.Mem.tail _ (List.Mem.head _)))) (x_sub1 (List.Mem.tail _ (List.Mem.tail _ (List.Mem.tail _ (List.Mem.tail _ (List.Mem.head _))))) (x_sub1 (List.Mem.tail _ (List.Mem.tail _ (List.Mem.tail _ (List.Mem.tail _ (List.Mem.tail _ (List.Mem.head _)))))) x_sub0)))))) H
            · replace H := H.2 c38
              refine s_aload_n (nx := 42) hO rfl rfl rfl ?_
              refine s_getf (v := .ref (q_b G + 148)) (nx := 45) hO rfl rfl (hs_o12 kc139) rfl rfl ?_
              refine s_iload (nx := 47) hO rfl rfl rfl ?_
              obtain ⟨b23, H⟩ := H
              refine s_iald (nx := 48) hO rfl (hs_I kc148) b23 rfl ?_
              refine s_if_lt (nx := 51) hO rfl rfl (fun c48 => ?_) (fun c48 => ?_)
              · replace H := H.1 c48
                refine s_iconst (x := 1) (nx := 63) hO rfl (by decide) rfl ?_
                refine s_goto hO rfl ?_
                exact xEx.loc (x_sub1 (List.Mem.head _) (x_sub1 (List.Mem.tail _ (List.Mem.head _)) (x_sub1 (List.Mem.tail _ (List.Mem.tail _ (List.Mem.head _))) (x_sub1 (List.Mem.tail _ (List.Mem.tail _ (List.Mem.tail _ (List.Mem.head _)))) (x_sub1 (List.Mem.tail _ (List.Mem.tail _ (List.Mem.tail _ (List.Mem.tail _ (List.Mem.head _))))) (x_sub1 (List.Mem.tail _ (List.Mem.tail _ (List.Mem.tail _ (List.Mem.tail _ (List.Mem.tail _ (List.Mem.head _)))))) x_sub0)))))) H
              · replace H := H.2 c48
                refine s_aload_n (nx := 52) hO rfl rfl rfl ?_
                refine s_getf (v := .ref (q_b G + 148)) (nx := 55) hO rfl rfl (hs_o12 kc139) rfl rfl ?_
                refine s_iload (nx := 57) hO rfl rfl rfl ?_
                obtain ⟨b24, H⟩ := H
                refine s_iald (nx := 58) hO rfl (hs_I kc148) b24 rfl ?_
                refine s_iload_n (nx := 59) hO rfl rfl rfl ?_
                refine s_icmp_ne (nx := 62) hO rfl rfl (fun c59 => ?_) (fun c59 => ?_)
                · replace H := H.1 c59
                  refine s_iconst (x := 0) (nx := 67) hO rfl (by decide) rfl ?_
                  exact xEx.loc (x_sub1 (List.Mem.head _) (x_sub1 (List.Mem.tail _ (List.Mem.head _)) (x_sub1 (List.Mem.tail _ (List.Mem.tail _ (List.Mem.head _))) (x_sub1 (List.Mem.tail _ (List.Mem.tail _ (List.Mem.tail _ (List.Mem.head _)))) (x_sub1 (List.Mem.tail _ (List.Mem.tail _ (List.Mem.tail _ (List.Mem.tail _ (List.Mem.head _))))) (x_sub1 (List.Mem.tail _ (List.Mem.tail _ (List.Mem.tail _ (List.Mem.tail _ (List.Mem.tail _ (List.Mem.head _)))))) x_sub0)))))) H
                · replace H := H.2 c59
                  refine s_iconst (x := 1) (nx := 63) hO rfl (by decide) rfl ?_
                  refine s_goto hO rfl ?_
                  exact xEx.loc (x_sub1 (List.Mem.head _) (x_sub1 (List.Mem.tail _ (List.Mem.head _)) (x_sub1 (List.Mem.tail _ (List.Mem.tail _ (List.Mem.head _))) (x_sub1 (List.Mem.tail _ (List.Mem.tail _ (List.Mem.tail _ (List.Mem.head _)))) (x_sub1 (List.Mem.tail _ (List.Mem.tail _ (List.Mem.tail _ (List.Mem.tail _ (List.Mem.head _))))) (x_sub1 (List.Mem.tail _ (List.Mem.tail _ (List.Mem.tail _ (List.Mem.tail _ (List.Mem.tail _ (List.Mem.head _)))))) x_sub0)))))) H
      refine s_istore (nx := 16) (l' := [(5, .int 0), (4, .int 0), (0, .ref (q_b G + 139)), (1, .ref (q_b G + a1)), (2, .int v2), (3, .int x1)]) hO rfl (by decide) rfl rfl ?_
      exact xEx.loc (x_sub1 (List.Mem.tail _ (List.Mem.tail _ (List.Mem.head _))) (x_sub1 (List.Mem.tail _ (List.Mem.tail _ (List.Mem.tail _ (List.Mem.head _)))) (x_sub1 (List.Mem.tail _ (List.Mem.tail _ (List.Mem.tail _ (List.Mem.tail _ (List.Mem.head _))))) (x_sub1 (List.Mem.tail _ (List.Mem.tail _ (List.Mem.tail _ (List.Mem.tail _ (List.Mem.tail _ (List.Mem.head _)))))) (x_sub1 (List.Mem.tail _ (List.Mem.head _)) (x_sub1 (List.Mem.head _) x_sub0)))))) H
  refine s_istore_n (nx := 2) (l' := [(3, .int 0), (0, .ref (q_b G + 139)), (1, .ref (q_b G + a1)), (2, .int v2)]) hO rfl (by decide) rfl rfl ?_
  exact xEx.loc (x_sub1 (List.Mem.tail _ (List.Mem.head _)) (x_sub1 (List.Mem.tail _ (List.Mem.tail _ (List.Mem.head _))) (x_sub1 (List.Mem.tail _ (List.Mem.tail _ (List.Mem.tail _ (List.Mem.head _)))) (x_sub1 (List.Mem.head _) x_sub0)))) H
def W_X12_setCall (s : yS) (v1 : Int32) (v2 : Int32) (v3 : Int32) (a4 n4 : Nat) (Q : yS → Prop) : Prop :=
 vp_in 0 3 ∧ ∀ s2 : yS, s2 = wI s 175 (ix 0) v1 → 
 vp_in 1 3 ∧ ∀ s4 : yS, s4 = wI s2 175 (ix 1) v2 → 
 vp_in (nI 2) 3 ∧ ∀ s6 : yS, s6 = wI s4 175 (ix (nI 2)) v3 → 
 ∀ P24 : Int32 → yS → Prop, (∀ (x7 : Int32) (s8 : yS), ((((nI 6) ≤ x7 → Q s8)
  ∧ (¬ (nI 6) ≤ x7 → vp_in x7 n4 ∧ 
   vp_in x7 6 ∧ ∀ s11 : yS, s11 = wI s8 176 (ix x7) (sI s8 a4 (ix x7)) → 
   ∀ x12 : Int32, x12 = (x7 + 1) → 
   P24 x12 s11))) → P24 x7 s8) → 
 P24 0 s6
set_option maxRecDepth 100000 in
set_option maxHeartbeats 40000000 in
theorem w_X12_setCall {G : xG} (hG : yG G) {z : Nat} {s : yS} {v1 : Int32} {v2 : Int32} {v3 : Int32} {a4 n4 : Nat} {Q : yS → Prop} (ha4 : kd a4 = some (0, n4)) (H : W_X12_setCall s v1 v2 v3 a4 n4 Q) : xC G mX12_setCall [.ref (q_b G + 139), .int v1, .int v2, .int v3, .ref (q_b G + a4)] (hS G s) z 0 0 (yQv G z Q) := by
  have hW := hG.1
  have hcl := hG.2.1
  have hty := hG.2.2.1
  have hO : xO G mX12_setCall tbX12_setCall ptX12_setCall := ⟨tkX12_setCall, pkX12_setCall hcl⟩
  unfold W_X12_setCall at H
  refine xC.of hW (by decide) rfl (Nat.le_of_ble_eq_true rfl) ?_
  refine s_aload_n (nx := 1) hO rfl rfl rfl ?_
  refine s_getf (v := .ref (q_b G + 175)) (nx := 4) hO rfl rfl (hs_o12 kc139) rfl rfl ?_
  refine s_iconst (x := 0) (nx := 5) hO rfl (by decide) rfl ?_
  refine s_iload_n (nx := 6) hO rfl rfl rfl ?_
  obtain ⟨b1, H⟩ := H
  refine goV (wI s 175 (ix 0) v1) (fun s2 es2 => ?_)
  replace H := H s2 es2
  refine s_iast (nx := 7) hO rfl (hs_I kc175) b1 rfl ?_
  refine xEx.at (up_I kc175 es2) ?_
  refine s_aload_n (nx := 8) hO rfl rfl rfl ?_
  refine s_getf (v := .ref (q_b G + 175)) (nx := 11) hO rfl rfl (hs_o12 kc139) rfl rfl ?_
  refine s_iconst (x := 1) (nx := 12) hO rfl (by decide) rfl ?_
  refine s_iload_n (nx := 13) hO rfl rfl rfl ?_
  obtain ⟨b3, H⟩ := H
  refine goV (wI s2 175 (ix 1) v2) (fun s4 es4 => ?_)
  replace H := H s4 es4
  refine s_iast (nx := 14) hO rfl (hs_I kc175) b3 rfl ?_
  refine xEx.at (up_I kc175 es4) ?_
  refine s_aload_n (nx := 15) hO rfl rfl rfl ?_
  refine s_getf (v := .ref (q_b G + 175)) (nx := 18) hO rfl rfl (hs_o12 kc139) rfl rfl ?_
  refine s_iconst (x := (nI 2)) (nx := 19) hO rfl (by decide) rfl ?_
  refine s_iload_n (nx := 20) hO rfl rfl rfl ?_
  obtain ⟨b5, H⟩ := H
  refine goV (wI s4 175 (ix (nI 2)) v3) (fun s6 es6 => ?_)
  replace H := H s6 es6
  refine s_iast (nx := 21) hO rfl (hs_I kc175) b5 rfl ?_
  refine xEx.at (up_I kc175 es6) ?_
  refine s_iconst (x := 0) (nx := 22) hO rfl (by decide) rfl ?_
  refine goK (H (fun (x7 : Int32) (s8 : yS) => xEx G mX12_setCall 24 [(0, .ref (q_b G + 139)), (4, .ref (q_b G + a4)), (5, .int x7)] [] (hS G s8) z 0 0 (yQv G z Q)) (fun x7 s8 H => ?_)) (fun H => ?_)
  · show xEx G mX12_setCall 24 [(0, .ref (q_b G + 139)), (4, .ref (q_b G + a4)), (5, .int x7)] [] (hS G s8) z 0 0 (yQv G z Q)
    refine s_iload (nx := 26) hO rfl rfl rfl ?_
    refine s_bipush (x := (nI 6)) (nx := 28) hO rfl (by decide) rfl ?_
    refine s_icmp_ge (nx := 31) hO rfl rfl (fun c28 => ?_) (fun c28 => ?_)
    · replace H := H.1 c28
      exact s_vret hO rfl rfl ⟨rfl, _, rfl, rfl, H⟩
    · replace H := H.2 c28
      refine s_aload_n (nx := 32) hO rfl rfl rfl ?_
      refine s_getf (v := .ref (q_b G + 176)) (nx := 35) hO rfl rfl (hs_o12 kc139) rfl rfl ?_
      refine s_iload (nx := 37) hO rfl rfl rfl ?_
      refine s_aload (nx := 39) hO rfl rfl rfl ?_
      refine s_iload (nx := 41) hO rfl rfl rfl ?_
      obtain ⟨b9, H⟩ := H
      refine s_iald (nx := 42) hO rfl (hs_I ha4) b9 rfl ?_
      obtain ⟨b10, H⟩ := H
      refine goV (wI s8 176 (ix x7) (sI s8 a4 (ix x7))) (fun s11 es11 => ?_)
      replace H := H s11 es11
      refine s_iast (nx := 43) hO rfl (hs_I kc176) b10 rfl ?_
      refine xEx.at (up_I kc176 es11) ?_
      refine goV ((x7 + 1)) (fun x12 ex12 => ?_)
      replace H := H x12 ex12
      refine e_iinc (nx := 46) (l' := [(5, .int x12), (0, .ref (q_b G + 139)), (4, .ref (q_b G + a4))]) ex12 hO rfl (by decide) rfl rfl rfl rfl ?_
      refine s_goto hO rfl ?_
      exact xEx.loc (x_sub1 (List.Mem.tail _ (List.Mem.head _)) (x_sub1 (List.Mem.tail _ (List.Mem.tail _ (List.Mem.head _))) (x_sub1 (List.Mem.head _) x_sub0))) H
  refine s_istore (nx := 24) (l' := [(5, .int 0), (0, .ref (q_b G + 139)), (1, .int v1), (2, .int v2), (3, .int v3), (4, .ref (q_b G + a4))]) hO rfl (by decide) rfl rfl ?_
  exact xEx.loc (x_sub1 (List.Mem.tail _ (List.Mem.head _)) (x_sub1 (List.Mem.tail _ (List.Mem.tail _ (List.Mem.tail _ (List.Mem.tail _ (List.Mem.tail _ (List.Mem.head _)))))) (x_sub1 (List.Mem.head _) x_sub0))) H
def W_X12_watchCall (s : yS) (v1 : Int32) (v2 : Int32) (v3 : Int32) (v4 : Int32) (Q : Int32 → yS → Prop) : Prop :=
 ∀ s1 : yS, s1 = wI s 139 0 0 → 
 ((v1 < 0 → Q (-1) s1)
 ∧ (¬ v1 < 0 → ((v1 ≤ (nI 15) → W_X12_setCall s1 v2 v3 v4 206 6 
   (fun s2 => W_X12_step s2 (sI s2 139 99) v1 
   (fun r3 => ((¬ r3 = 0 → ∀ s4 : yS, s4 = wI s2 139 99 r3 → 
    W_X12_count s4 206 6 v1 
    (fun s5 => W_X12_indexOf s5 r3 
    (fun r6 => vp_in r6 64 ∧ 
    Q (sI s5 173 (ix r6)) s5)))
   ∧ (r3 = 0 → Q (-1) s2)))))
  ∧ (¬ v1 ≤ (nI 15) → Q (-1) s1))))
set_option maxRecDepth 100000 in
set_option maxHeartbeats 40000000 in
theorem w_X12_watchCall {G : xG} (hG : yG G) {z : Nat} {s : yS} {v1 : Int32} {v2 : Int32} {v3 : Int32} {v4 : Int32} {Q : Int32 → yS → Prop} (H : W_X12_watchCall s v1 v2 v3 v4 Q) : xC G mX12_watchCall [.ref (q_b G + 139), .int v1, .int v2, .int v3, .int v4] (hS G s) z 0 0 (yQi G z Q) := by
  have hW := hG.1
  have hcl := hG.2.1
  have hty := hG.2.2.1
  have hO : xO G mX12_watchCall tbX12_watchCall ptX12_watchCall := ⟨tkX12_watchCall, pkX12_watchCall hcl⟩
  unfold W_X12_watchCall at H
  refine xC.of hW (by decide) rfl (Nat.le_of_ble_eq_true rfl) ?_
  refine s_aload_n (nx := 1) hO rfl rfl rfl ?_
  refine s_iconst (x := 0) (nx := 2) hO rfl (by decide) rfl ?_
  refine goV (wI s 139 0 0) (fun s1 es1 => ?_)
  replace H := H s1 es1
  refine s_putf (nx := 5) hO rfl rfl (hs_o12 kc139) (Nat.le_of_ble_eq_true rfl) (by rw [hty]; rfl) (by rw [hty]; rfl) pX12_0 rfl ?_
  refine xEx.at (up_oI12 kc139 es1) ?_
  refine s_iload_n (nx := 6) hO rfl rfl rfl ?_
  refine s_if_lt (nx := 9) hO rfl rfl (fun c6 => ?_) (fun c6 => ?_)
  · replace H := H.1 c6
    refine s_iconst (x := (-1)) (nx := 16) hO rfl (by decide) rfl ?_
    exact s_iret hO rfl rfl rfl ⟨rfl, _, _, rfl, rfl, H⟩
  · replace H := H.2 c6
    refine s_iload_n (nx := 10) hO rfl rfl rfl ?_
    refine s_bipush (x := (nI 15)) (nx := 12) hO rfl (by decide) rfl ?_
    refine s_icmp_le (nx := 15) hO rfl rfl (fun c12 => ?_) (fun c12 => ?_)
    · replace H := H.1 c12
      refine s_aload_n (nx := 18) hO rfl rfl rfl ?_
      refine s_iload_n (nx := 19) hO rfl rfl rfl ?_
      refine s_iload_n (nx := 20) hO rfl rfl rfl ?_
      refine s_iload (nx := 22) hO rfl rfl rfl ?_
      refine s_aload_n (nx := 23) hO rfl rfl rfl ?_
      refine s_getf (v := .ref (q_b G + 206)) (nx := 26) hO rfl rfl (hs_o12 kc139) rfl rfl ?_
      refine s_callV [.int v2, .int v3, .int v4, .ref (q_b G + 206)] (ci := 12) (F := TX12) (N := 116) (nx := 29) hO rfl kX12_watchCall_516 (by rw [hcl]; rfl) (hs_o12 kc139) (w_X12_setCall hG kc206 H) rfl rfl (Nat.le_of_ble_eq_true rfl) (Nat.zero_le _) (Nat.zero_le _) rfl (k_Qv (fun s2 H => ?_))
      refine s_aload_n (nx := 30) hO rfl rfl rfl ?_
      refine s_aload_n (nx := 31) hO rfl rfl rfl ?_
      refine s_getf (v := .int (sI s2 139 99)) (nx := 34) hO rfl rfl (hs_o12 kc139) rfl rfl ?_
      refine s_iload_n (nx := 35) hO rfl rfl rfl ?_
      refine s_callV [.int (sI s2 139 99), .int v1] (ci := 12) (F := TX12) (N := 116) (nx := 38) hO rfl kX12_watchCall_481 (by rw [hcl]; rfl) (hs_o12 kc139) (w_X12_step hG H) rfl rfl (Nat.le_of_ble_eq_true rfl) (Nat.zero_le _) (Nat.zero_le _) rfl (k_Pi (fun r3 H => ?_))
      refine s_istore (nx := 40) (l' := [(5, .int r3), (0, .ref (q_b G + 139)), (1, .int v1), (2, .int v2), (3, .int v3), (4, .int v4)]) hO rfl (by decide) rfl rfl ?_
      refine s_iload (nx := 42) hO rfl rfl rfl ?_
      refine s_if_ne (nx := 45) hO rfl rfl (fun c42 => ?_) (fun c42 => ?_)
      · replace H := H.1 c42
        refine s_aload_n (nx := 48) hO rfl rfl rfl ?_
        refine s_iload (nx := 50) hO rfl rfl rfl ?_
        refine goV (wI s2 139 99 r3) (fun s4 es4 => ?_)
        replace H := H s4 es4
        refine s_putf (nx := 53) hO rfl rfl (hs_o12 kc139) (Nat.le_of_ble_eq_true rfl) (by rw [hty]; rfl) (by rw [hty]; rfl) pX12_99 rfl ?_
        refine xEx.at (up_oI12 kc139 es4) ?_
        refine s_aload_n (nx := 54) hO rfl rfl rfl ?_
        refine s_aload_n (nx := 55) hO rfl rfl rfl ?_
        refine s_getf (v := .ref (q_b G + 206)) (nx := 58) hO rfl rfl (hs_o12 kc139) rfl rfl ?_
        refine s_iload_n (nx := 59) hO rfl rfl rfl ?_
        refine s_callV [.ref (q_b G + 206), .int v1] (ci := 12) (F := TX12) (N := 116) (nx := 62) hO rfl kX12_watchCall_520 (by rw [hcl]; rfl) (hs_o12 kc139) (w_X12_count hG kc206 H) rfl rfl (Nat.le_of_ble_eq_true rfl) (Nat.zero_le _) (Nat.zero_le _) rfl (k_Qv (fun s5 H => ?_))
        refine s_aload_n (nx := 63) hO rfl rfl rfl ?_
        refine s_getf (v := .ref (q_b G + 173)) (nx := 66) hO rfl rfl (hs_o12 kc139) rfl rfl ?_
        refine s_aload_n (nx := 67) hO rfl rfl rfl ?_
        refine s_iload (nx := 69) hO rfl rfl rfl ?_
        refine s_callV [.int r3] (ci := 12) (F := TX12) (N := 116) (nx := 72) hO rfl kX12_watchCall_484 (by rw [hcl]; rfl) (hs_o12 kc139) (w_X12_indexOf hG H) rfl rfl (Nat.le_of_ble_eq_true rfl) (Nat.zero_le _) (Nat.zero_le _) rfl (k_Pi (fun r6 H => ?_))
        obtain ⟨b7, H⟩ := H
        refine s_iald (nx := 73) hO rfl (hs_I kc173) b7 rfl ?_
        exact s_iret hO rfl rfl rfl ⟨rfl, _, _, rfl, rfl, H⟩
      · replace H := H.2 c42
        refine s_iconst (x := (-1)) (nx := 46) hO rfl (by decide) rfl ?_
        exact s_iret hO rfl rfl rfl ⟨rfl, _, _, rfl, rfl, H⟩
    · replace H := H.2 c12
      refine s_iconst (x := (-1)) (nx := 16) hO rfl (by decide) rfl ?_
      exact s_iret hO rfl rfl rfl ⟨rfl, _, _, rfl, rfl, H⟩
def W_X12_counterOf (s : yS) (v1 : Int32) (v2 : Int32) (Q : Int32 → yS → Prop) : Prop :=
 ∀ s1 : yS, s1 = wI s 139 0 0 → 
 ((v1 < 0 → Q (-1) s1)
 ∧ (¬ v1 < 0 → (((sI s1 139 19) ≤ v1 → Q (-1) s1)
  ∧ (¬ (sI s1 139 19) ≤ v1 → ∀ P30 : Prop, ((((v2 = 0 → vp_in v1 6 ∧ 
     Q (sI s1 205 (ix v1)) s1)
    ∧ (¬ v2 = 0 → vp_in v1 6 ∧ 
     Q (sI s1 206 (ix v1)) s1))) → P30) → 
   ((¬ v2 = 0 → P30)
   ∧ (v2 = 0 → ((¬ (sI s1 139 89) = 0 → P30)
    ∧ ((sI s1 139 89) = 0 → Q (-1) s1))))))))
set_option maxRecDepth 100000 in
set_option maxHeartbeats 40000000 in
theorem w_X12_counterOf {G : xG} (hG : yG G) {z : Nat} {s : yS} {v1 : Int32} {v2 : Int32} {Q : Int32 → yS → Prop} (H : W_X12_counterOf s v1 v2 Q) : xC G mX12_counterOf [.ref (q_b G + 139), .int v1, .int v2] (hS G s) z 0 0 (yQi G z Q) := by
  have hW := hG.1
  have hcl := hG.2.1
  have hty := hG.2.2.1
  have hO : xO G mX12_counterOf tbX12_counterOf ptX12_counterOf := ⟨tkX12_counterOf, pkX12_counterOf hcl⟩
  unfold W_X12_counterOf at H
  refine xC.of hW (by decide) rfl (Nat.le_of_ble_eq_true rfl) ?_
  refine s_aload_n (nx := 1) hO rfl rfl rfl ?_
  refine s_iconst (x := 0) (nx := 2) hO rfl (by decide) rfl ?_
  refine goV (wI s 139 0 0) (fun s1 es1 => ?_)
  replace H := H s1 es1
  refine s_putf (nx := 5) hO rfl rfl (hs_o12 kc139) (Nat.le_of_ble_eq_true rfl) (by rw [hty]; rfl) (by rw [hty]; rfl) pX12_0 rfl ?_
  refine xEx.at (up_oI12 kc139 es1) ?_
  refine s_iload_n (nx := 6) hO rfl rfl rfl ?_
  refine s_if_lt (nx := 9) hO rfl rfl (fun c6 => ?_) (fun c6 => ?_)
  · replace H := H.1 c6
    refine s_iconst (x := (-1)) (nx := 29) hO rfl (by decide) rfl ?_
    exact s_iret hO rfl rfl rfl ⟨rfl, _, _, rfl, rfl, H⟩
  · replace H := H.2 c6
    refine s_iload_n (nx := 10) hO rfl rfl rfl ?_
    refine s_aload_n (nx := 11) hO rfl rfl rfl ?_
    refine s_getf (v := .int (sI s1 139 19)) (nx := 14) hO rfl rfl (hs_o12 kc139) rfl rfl ?_
    refine s_icmp_ge (nx := 17) hO rfl rfl (fun c14 => ?_) (fun c14 => ?_)
    · replace H := H.1 c14
      refine s_iconst (x := (-1)) (nx := 29) hO rfl (by decide) rfl ?_
      exact s_iret hO rfl rfl rfl ⟨rfl, _, _, rfl, rfl, H⟩
    · replace H := H.2 c14
      refine s_iload_n (nx := 18) hO rfl rfl rfl ?_
      refine goK (H (xEx G mX12_counterOf 30 [(0, .ref (q_b G + 139)), (1, .int v1), (2, .int v2)] [] (hS G s1) z 0 0 (yQi G z Q)) (fun H => ?_)) (fun H => ?_)
      · show xEx G mX12_counterOf 30 [(0, .ref (q_b G + 139)), (1, .int v1), (2, .int v2)] [] (hS G s1) z 0 0 (yQi G z Q)
        refine s_iload_n (nx := 31) hO rfl rfl rfl ?_
        refine s_if_eq (nx := 34) hO rfl rfl (fun c31 => ?_) (fun c31 => ?_)
        · replace H := H.1 c31
          refine s_aload_n (nx := 44) hO rfl rfl rfl ?_
          refine s_getf (v := .ref (q_b G + 205)) (nx := 47) hO rfl rfl (hs_o12 kc139) rfl rfl ?_
          refine s_iload_n (nx := 48) hO rfl rfl rfl ?_
          obtain ⟨b2, H⟩ := H
          refine s_iald (nx := 49) hO rfl (hs_I kc205) b2 rfl ?_
          exact s_iret hO rfl rfl rfl ⟨rfl, _, _, rfl, rfl, H⟩
        · replace H := H.2 c31
          refine s_aload_n (nx := 35) hO rfl rfl rfl ?_
          refine s_getf (v := .ref (q_b G + 206)) (nx := 38) hO rfl rfl (hs_o12 kc139) rfl rfl ?_
          refine s_iload_n (nx := 39) hO rfl rfl rfl ?_
          obtain ⟨b3, H⟩ := H
          refine s_iald (nx := 40) hO rfl (hs_I kc206) b3 rfl ?_
          refine s_goto hO rfl ?_
          exact s_iret hO rfl rfl rfl ⟨rfl, _, _, rfl, rfl, H⟩
      refine s_if_ne (nx := 21) hO rfl rfl (fun c18 => ?_) (fun c18 => ?_)
      · replace H := H.1 c18
        exact xEx.loc (x_sub1 (List.Mem.head _) (x_sub1 (List.Mem.tail _ (List.Mem.head _)) (x_sub1 (List.Mem.tail _ (List.Mem.tail _ (List.Mem.head _))) x_sub0))) H
      · replace H := H.2 c18
        refine s_aload_n (nx := 22) hO rfl rfl rfl ?_
        refine s_getf (v := .int (sI s1 139 89)) (nx := 25) hO rfl rfl (hs_o12 kc139) rfl rfl ?_
        refine s_if_ne (nx := 28) hO rfl rfl (fun c25 => ?_) (fun c25 => ?_)
        · replace H := H.1 c25
          exact xEx.loc (x_sub1 (List.Mem.head _) (x_sub1 (List.Mem.tail _ (List.Mem.head _)) (x_sub1 (List.Mem.tail _ (List.Mem.tail _ (List.Mem.head _))) x_sub0))) H
        · replace H := H.2 c25
          refine s_iconst (x := (-1)) (nx := 29) hO rfl (by decide) rfl ?_
          exact s_iret hO rfl rfl rfl ⟨rfl, _, _, rfl, rfl, H⟩
def W_X12_wayOf (s : yS) (v1 : Int32) (v2 : Int32) (Q : Int32 → yS → Prop) : Prop :=
 ∀ s1 : yS, s1 = wI s 139 0 0 → 
 ((v1 < 0 → Q (-1) s1)
 ∧ (¬ v1 < 0 → (((sI s1 139 56) ≤ v1 → Q (-1) s1)
  ∧ (¬ (sI s1 139 56) ≤ v1 → ((v2 < 0 → Q (-1) s1)
   ∧ (¬ v2 < 0 → ((v2 < (sI s1 139 47) → W_X12_goes s1 v1 v2 
     (fun r2 => Q r2 s1))
    ∧ (¬ v2 < (sI s1 139 47) → Q (-1) s1))))))))
set_option maxRecDepth 100000 in
set_option maxHeartbeats 40000000 in
theorem w_X12_wayOf {G : xG} (hG : yG G) {z : Nat} {s : yS} {v1 : Int32} {v2 : Int32} {Q : Int32 → yS → Prop} (H : W_X12_wayOf s v1 v2 Q) : xC G mX12_wayOf [.ref (q_b G + 139), .int v1, .int v2] (hS G s) z 0 0 (yQi G z Q) := by
  have hW := hG.1
  have hcl := hG.2.1
  have hty := hG.2.2.1
  have hO : xO G mX12_wayOf tbX12_wayOf ptX12_wayOf := ⟨tkX12_wayOf, pkX12_wayOf hcl⟩
  unfold W_X12_wayOf at H
  refine xC.of hW (by decide) rfl (Nat.le_of_ble_eq_true rfl) ?_
  refine s_aload_n (nx := 1) hO rfl rfl rfl ?_
  refine s_iconst (x := 0) (nx := 2) hO rfl (by decide) rfl ?_
  refine goV (wI s 139 0 0) (fun s1 es1 => ?_)
  replace H := H s1 es1
  refine s_putf (nx := 5) hO rfl rfl (hs_o12 kc139) (Nat.le_of_ble_eq_true rfl) (by rw [hty]; rfl) (by rw [hty]; rfl) pX12_0 rfl ?_
  refine xEx.at (up_oI12 kc139 es1) ?_
  refine s_iload_n (nx := 6) hO rfl rfl rfl ?_
  refine s_if_lt (nx := 9) hO rfl rfl (fun c6 => ?_) (fun c6 => ?_)
  · replace H := H.1 c6
    refine s_iconst (x := (-1)) (nx := 30) hO rfl (by decide) rfl ?_
    refine s_goto hO rfl ?_
    exact s_iret hO rfl rfl rfl ⟨rfl, _, _, rfl, rfl, H⟩
  · replace H := H.2 c6
    refine s_iload_n (nx := 10) hO rfl rfl rfl ?_
    refine s_aload_n (nx := 11) hO rfl rfl rfl ?_
    refine s_getf (v := .int (sI s1 139 56)) (nx := 14) hO rfl rfl (hs_o12 kc139) rfl rfl ?_
    refine s_icmp_ge (nx := 17) hO rfl rfl (fun c14 => ?_) (fun c14 => ?_)
    · replace H := H.1 c14
      refine s_iconst (x := (-1)) (nx := 30) hO rfl (by decide) rfl ?_
      refine s_goto hO rfl ?_
      exact s_iret hO rfl rfl rfl ⟨rfl, _, _, rfl, rfl, H⟩
    · replace H := H.2 c14
      refine s_iload_n (nx := 18) hO rfl rfl rfl ?_
      refine s_if_lt (nx := 21) hO rfl rfl (fun c18 => ?_) (fun c18 => ?_)
      · replace H := H.1 c18
        refine s_iconst (x := (-1)) (nx := 30) hO rfl (by decide) rfl ?_
        refine s_goto hO rfl ?_
        exact s_iret hO rfl rfl rfl ⟨rfl, _, _, rfl, rfl, H⟩
      · replace H := H.2 c18
        refine s_iload_n (nx := 22) hO rfl rfl rfl ?_
        refine s_aload_n (nx := 23) hO rfl rfl rfl ?_
        refine s_getf (v := .int (sI s1 139 47)) (nx := 26) hO rfl rfl (hs_o12 kc139) rfl rfl ?_
        refine s_icmp_lt (nx := 29) hO rfl rfl (fun c26 => ?_) (fun c26 => ?_)
        · replace H := H.1 c26
          refine s_aload_n (nx := 34) hO rfl rfl rfl ?_
          refine s_iload_n (nx := 35) hO rfl rfl rfl ?_
          refine s_iload_n (nx := 36) hO rfl rfl rfl ?_
          refine s_callV [.int v1, .int v2] (ci := 12) (F := TX12) (N := 116) (nx := 39) hO rfl kX12_wayOf_510 (by rw [hcl]; rfl) (hs_o12 kc139) (w_X12_goes hG H) rfl rfl (Nat.le_of_ble_eq_true rfl) (Nat.zero_le _) (Nat.zero_le _) rfl (k_Pi (fun r2 H => ?_))
          exact s_iret hO rfl rfl rfl ⟨rfl, _, _, rfl, rfl, H⟩
        · replace H := H.2 c26
          refine s_iconst (x := (-1)) (nx := 30) hO rfl (by decide) rfl ?_
          refine s_goto hO rfl ?_
          exact s_iret hO rfl rfl rfl ⟨rfl, _, _, rfl, rfl, H⟩
def W_X12_letterOf (s : yS) (v1 : Int32) (v2 : Int32) (Q : Int32 → yS → Prop) : Prop :=
 ∀ s1 : yS, s1 = wI s 139 0 0 → 
 ((v1 < 0 → Q 0 s1)
 ∧ (¬ v1 < 0 → (((sI s1 139 47) ≤ v1 → Q 0 s1)
  ∧ (¬ (sI s1 139 47) ≤ v1 → ((v2 < 0 → Q 0 s1)
   ∧ (¬ v2 < 0 → ((v2 ≤ (nI 9) → ((¬ v2 = 0 → vp_in ((((nI 9) * v1) + v2) - 1) 4608 ∧ 
      Q (sI s1 166 (ix ((((nI 9) * v1) + v2) - 1))) s1)
     ∧ (v2 = 0 → vp_in v1 512 ∧ 
      Q (sI s1 165 (ix v1)) s1)))
    ∧ (¬ v2 ≤ (nI 9) → Q 0 s1))))))))
set_option maxRecDepth 100000 in
set_option maxHeartbeats 40000000 in
theorem w_X12_letterOf {G : xG} (hG : yG G) {z : Nat} {s : yS} {v1 : Int32} {v2 : Int32} {Q : Int32 → yS → Prop} (H : W_X12_letterOf s v1 v2 Q) : xC G mX12_letterOf [.ref (q_b G + 139), .int v1, .int v2] (hS G s) z 0 0 (yQi G z Q) := by
  have hW := hG.1
  have hcl := hG.2.1
  have hty := hG.2.2.1
  have hO : xO G mX12_letterOf tbX12_letterOf ptX12_letterOf := ⟨tkX12_letterOf, pkX12_letterOf hcl⟩
  unfold W_X12_letterOf at H
  refine xC.of hW (by decide) rfl (Nat.le_of_ble_eq_true rfl) ?_
  refine s_aload_n (nx := 1) hO rfl rfl rfl ?_
  refine s_iconst (x := 0) (nx := 2) hO rfl (by decide) rfl ?_
  refine goV (wI s 139 0 0) (fun s1 es1 => ?_)
  replace H := H s1 es1
  refine s_putf (nx := 5) hO rfl rfl (hs_o12 kc139) (Nat.le_of_ble_eq_true rfl) (by rw [hty]; rfl) (by rw [hty]; rfl) pX12_0 rfl ?_
  refine xEx.at (up_oI12 kc139 es1) ?_
  refine s_iload_n (nx := 6) hO rfl rfl rfl ?_
  refine s_if_lt (nx := 9) hO rfl rfl (fun c6 => ?_) (fun c6 => ?_)
  · replace H := H.1 c6
    refine s_iconst (x := 0) (nx := 28) hO rfl (by decide) rfl ?_
    exact s_iret hO rfl rfl rfl ⟨rfl, _, _, rfl, rfl, H⟩
  · replace H := H.2 c6
    refine s_iload_n (nx := 10) hO rfl rfl rfl ?_
    refine s_aload_n (nx := 11) hO rfl rfl rfl ?_
    refine s_getf (v := .int (sI s1 139 47)) (nx := 14) hO rfl rfl (hs_o12 kc139) rfl rfl ?_
    refine s_icmp_ge (nx := 17) hO rfl rfl (fun c14 => ?_) (fun c14 => ?_)
    · replace H := H.1 c14
      refine s_iconst (x := 0) (nx := 28) hO rfl (by decide) rfl ?_
      exact s_iret hO rfl rfl rfl ⟨rfl, _, _, rfl, rfl, H⟩
    · replace H := H.2 c14
      refine s_iload_n (nx := 18) hO rfl rfl rfl ?_
      refine s_if_lt (nx := 21) hO rfl rfl (fun c18 => ?_) (fun c18 => ?_)
      · replace H := H.1 c18
        refine s_iconst (x := 0) (nx := 28) hO rfl (by decide) rfl ?_
        exact s_iret hO rfl rfl rfl ⟨rfl, _, _, rfl, rfl, H⟩
      · replace H := H.2 c18
        refine s_iload_n (nx := 22) hO rfl rfl rfl ?_
        refine s_bipush (x := (nI 9)) (nx := 24) hO rfl (by decide) rfl ?_
        refine s_icmp_le (nx := 27) hO rfl rfl (fun c24 => ?_) (fun c24 => ?_)
        · replace H := H.1 c24
          refine s_iload_n (nx := 30) hO rfl rfl rfl ?_
          refine s_if_ne (nx := 33) hO rfl rfl (fun c30 => ?_) (fun c30 => ?_)
          · replace H := H.1 c30
            refine s_aload_n (nx := 43) hO rfl rfl rfl ?_
            refine s_getf (v := .ref (q_b G + 166)) (nx := 46) hO rfl rfl (hs_o12 kc139) rfl rfl ?_
            refine s_bipush (x := (nI 9)) (nx := 48) hO rfl (by decide) rfl ?_
            refine s_iload_n (nx := 49) hO rfl rfl rfl ?_
            refine s_imul (nx := 50) hO rfl rfl ?_
            refine s_iload_n (nx := 51) hO rfl rfl rfl ?_
            refine s_iadd (nx := 52) hO rfl rfl ?_
            refine s_iconst (x := 1) (nx := 53) hO rfl (by decide) rfl ?_
            refine s_isub (nx := 54) hO rfl rfl ?_
            obtain ⟨b2, H⟩ := H
            refine s_iald (nx := 55) hO rfl (hs_I kc166) b2 rfl ?_
            exact s_iret hO rfl rfl rfl ⟨rfl, _, _, rfl, rfl, H⟩
          · replace H := H.2 c30
            refine s_aload_n (nx := 34) hO rfl rfl rfl ?_
            refine s_getf (v := .ref (q_b G + 165)) (nx := 37) hO rfl rfl (hs_o12 kc139) rfl rfl ?_
            refine s_iload_n (nx := 38) hO rfl rfl rfl ?_
            obtain ⟨b3, H⟩ := H
            refine s_iald (nx := 39) hO rfl (hs_I kc165) b3 rfl ?_
            refine s_goto hO rfl ?_
            exact s_iret hO rfl rfl rfl ⟨rfl, _, _, rfl, rfl, H⟩
        · replace H := H.2 c24
          refine s_iconst (x := 0) (nx := 28) hO rfl (by decide) rfl ?_
          exact s_iret hO rfl rfl rfl ⟨rfl, _, _, rfl, rfl, H⟩
def W_X12_byteNext (s : yS) (Q : Int32 → yS → Prop) : Prop :=
 ∀ P18 : Prop, ((W_X12_wrong s 1 (sI s 139 2) 
  (fun s1 => Q 0 s1)) → P18) → 
 ((0 < (sI s 139 15) → P18)
 ∧ (¬ 0 < (sI s 139 15) → ((¬ (sI s 139 113) = (sI s 139 2) → ∀ s2 : yS, s2 = wI s 139 113 ((sI s 139 113) + 1) → 
   vp_in ((sI s2 139 113) - 1) 8192 ∧ 
   Q (sI s2 140 (ix ((sI s2 139 113) - 1))) s2)
  ∧ ((sI s 139 113) = (sI s 139 2) → P18))))
set_option maxRecDepth 100000 in
set_option maxHeartbeats 40000000 in
theorem w_X12_byteNext {G : xG} (hG : yG G) {z : Nat} {s : yS} {Q : Int32 → yS → Prop} (H : W_X12_byteNext s Q) : xC G mX12_byteNext [.ref (q_b G + 139)] (hS G s) z 0 0 (yQi G z Q) := by
  have hW := hG.1
  have hcl := hG.2.1
  have hty := hG.2.2.1
  have hO : xO G mX12_byteNext tbX12_byteNext ptX12_byteNext := ⟨tkX12_byteNext, pkX12_byteNext hcl⟩
  unfold W_X12_byteNext at H
  refine xC.of hW (by decide) rfl (Nat.le_of_ble_eq_true rfl) ?_
  refine s_aload_n (nx := 1) hO rfl rfl rfl ?_
  refine s_getf (v := .int (sI s 139 15)) (nx := 4) hO rfl rfl (hs_o12 kc139) rfl rfl ?_
  refine goK (H (xEx G mX12_byteNext 18 [(0, .ref (q_b G + 139))] [] (hS G s) z 0 0 (yQi G z Q)) (fun H => ?_)) (fun H => ?_)
  · show xEx G mX12_byteNext 18 [(0, .ref (q_b G + 139))] [] (hS G s) z 0 0 (yQi G z Q)
    refine s_aload_n (nx := 19) hO rfl rfl rfl ?_
    refine s_iconst (x := 1) (nx := 20) hO rfl (by decide) rfl ?_
    refine s_aload_n (nx := 21) hO rfl rfl rfl ?_
    refine s_getf (v := .int (sI s 139 2)) (nx := 24) hO rfl rfl (hs_o12 kc139) rfl rfl ?_
    refine s_callV [.int 1, .int (sI s 139 2)] (ci := 12) (F := TX12) (N := 116) (nx := 27) hO rfl kX12_byteNext_303 (by rw [hcl]; rfl) (hs_o12 kc139) (w_X12_wrong hG H) rfl rfl (Nat.le_of_ble_eq_true rfl) (Nat.zero_le _) (Nat.zero_le _) rfl (k_Qv (fun s1 H => ?_))
    refine s_iconst (x := 0) (nx := 28) hO rfl (by decide) rfl ?_
    exact s_iret hO rfl rfl rfl ⟨rfl, _, _, rfl, rfl, H⟩
  refine s_if_gt (nx := 7) hO rfl rfl (fun c4 => ?_) (fun c4 => ?_)
  · replace H := H.1 c4
    exact xEx.loc (x_sub1 (List.Mem.head _) x_sub0) H
  · replace H := H.2 c4
    refine s_aload_n (nx := 8) hO rfl rfl rfl ?_
    refine s_getf (v := .int (sI s 139 113)) (nx := 11) hO rfl rfl (hs_o12 kc139) rfl rfl ?_
    refine s_aload_n (nx := 12) hO rfl rfl rfl ?_
    refine s_getf (v := .int (sI s 139 2)) (nx := 15) hO rfl rfl (hs_o12 kc139) rfl rfl ?_
    refine s_icmp_ne (nx := 18) hO rfl rfl (fun c15 => ?_) (fun c15 => ?_)
    · replace H := H.1 c15
      refine s_aload_n (nx := 30) hO rfl rfl rfl ?_
      refine s_dup (nx := 31) hO rfl rfl rfl ?_
      refine s_getf (v := .int (sI s 139 113)) (nx := 34) hO rfl rfl (hs_o12 kc139) rfl rfl ?_
      refine s_iconst (x := 1) (nx := 35) hO rfl (by decide) rfl ?_
      refine s_iadd (nx := 36) hO rfl rfl ?_
      refine goV (wI s 139 113 ((sI s 139 113) + 1)) (fun s2 es2 => ?_)
      replace H := H s2 es2
      refine s_putf (nx := 39) hO rfl rfl (hs_o12 kc139) (Nat.le_of_ble_eq_true rfl) (by rw [hty]; rfl) (by rw [hty]; rfl) pX12_113 rfl ?_
      refine xEx.at (up_oI12 kc139 es2) ?_
      refine s_aload_n (nx := 40) hO rfl rfl rfl ?_
      refine s_getf (v := .ref (q_b G + 140)) (nx := 43) hO rfl rfl (hs_o12 kc139) rfl rfl ?_
      refine s_aload_n (nx := 44) hO rfl rfl rfl ?_
      refine s_getf (v := .int (sI s2 139 113)) (nx := 47) hO rfl rfl (hs_o12 kc139) rfl rfl ?_
      refine s_iconst (x := 1) (nx := 48) hO rfl (by decide) rfl ?_
      refine s_isub (nx := 49) hO rfl rfl ?_
      obtain ⟨b3, H⟩ := H
      refine s_iald (nx := 50) hO rfl (hs_I kc140) b3 rfl ?_
      exact s_iret hO rfl rfl rfl ⟨rfl, _, _, rfl, rfl, H⟩
    · replace H := H.2 c15
      exact xEx.loc (x_sub1 (List.Mem.head _) x_sub0) H
def W_X12_numberNext (s : yS) (v1 : Int32) (v2 : Int32) (v3 : Int32) (Q : Int32 → yS → Prop) : Prop :=
 ∀ x1 : Int32, x1 = (sI s 139 113) → 
 ∀ P12 : Int32 → Int32 → yS → Prop, (∀ (x2 : Int32) (x3 : Int32) (s4 : yS), (((v1 ≤ x3 → ((¬ (sI s4 139 15) = 0 → Q x2 s4)
   ∧ ((sI s4 139 15) = 0 → ∀ P55 : Prop, ((W_X12_wrong s4 (nI 3) x1 
     (fun s5 => Q x2 s5)) → P55) → 
    ((x2 < v2 → P55)
    ∧ (¬ x2 < v2 → ((x2 ≤ v3 → Q x2 s4)
     ∧ (¬ x2 ≤ v3 → P55)))))))
  ∧ (¬ v1 ≤ x3 → W_X12_byteNext s4 
   (fun r6 s7 => ∀ x8 : Int32, x8 = ((x2 <<< ((nI 8) &&& 31)) ||| r6) → 
   ∀ x9 : Int32, x9 = (x3 + 1) → 
   P12 x8 x9 s7)))) → P12 x2 x3 s4) → 
 P12 0 0 s
set_option maxRecDepth 100000 in
set_option maxHeartbeats 40000000 in
theorem w_X12_numberNext {G : xG} (hG : yG G) {z : Nat} {s : yS} {v1 : Int32} {v2 : Int32} {v3 : Int32} {Q : Int32 → yS → Prop} (H : W_X12_numberNext s v1 v2 v3 Q) : xC G mX12_numberNext [.ref (q_b G + 139), .int v1, .int v2, .int v3] (hS G s) z 0 0 (yQi G z Q) := by
  have hW := hG.1
  have hcl := hG.2.1
  have hty := hG.2.2.1
  have hO : xO G mX12_numberNext tbX12_numberNext ptX12_numberNext := ⟨tkX12_numberNext, pkX12_numberNext hcl⟩
  unfold W_X12_numberNext at H
  refine xC.of hW (by decide) rfl (Nat.le_of_ble_eq_true rfl) ?_
  refine s_aload_n (nx := 1) hO rfl rfl rfl ?_
  refine s_getf (v := .int (sI s 139 113)) (nx := 4) hO rfl rfl (hs_o12 kc139) rfl rfl ?_
  refine goV ((sI s 139 113)) (fun x1 ex1 => ?_)
  replace H := H x1 ex1
  refine e_istore (nx := 6) (l' := [(4, .int x1), (0, .ref (q_b G + 139)), (1, .int v1), (2, .int v2), (3, .int v3)]) ex1 hO rfl (by decide) rfl rfl ?_
  refine s_iconst (x := 0) (nx := 7) hO rfl (by decide) rfl ?_
  refine s_istore (nx := 9) (l' := [(5, .int 0), (4, .int x1), (0, .ref (q_b G + 139)), (1, .int v1), (2, .int v2), (3, .int v3)]) hO rfl (by decide) rfl rfl ?_
  refine s_iconst (x := 0) (nx := 10) hO rfl (by decide) rfl ?_
  refine goK (H (fun (x2 : Int32) (x3 : Int32) (s4 : yS) => xEx G mX12_numberNext 12 [(0, .ref (q_b G + 139)), (1, .int v1), (2, .int v2), (3, .int v3), (4, .int x1), (5, .int x2), (6, .int x3)] [] (hS G s4) z 0 0 (yQi G z Q)) (fun x2 x3 s4 H => ?_)) (fun H => ?_)
  · show xEx G mX12_numberNext 12 [(0, .ref (q_b G + 139)), (1, .int v1), (2, .int v2), (3, .int v3), (4, .int x1), (5, .int x2), (6, .int x3)] [] (hS G s4) z 0 0 (yQi G z Q)
    refine s_iload (nx := 14) hO rfl rfl rfl ?_
    refine s_iload_n (nx := 15) hO rfl rfl rfl ?_
    refine s_icmp_ge (nx := 18) hO rfl rfl (fun c15 => ?_) (fun c15 => ?_)
    · replace H := H.1 c15
      refine s_aload_n (nx := 37) hO rfl rfl rfl ?_
      refine s_getf (v := .int (sI s4 139 15)) (nx := 40) hO rfl rfl (hs_o12 kc139) rfl rfl ?_
      refine s_if_ne (nx := 43) hO rfl rfl (fun c40 => ?_) (fun c40 => ?_)
      · replace H := H.1 c40
        refine s_iload (nx := 64) hO rfl rfl rfl ?_
        exact s_iret hO rfl rfl rfl ⟨rfl, _, _, rfl, rfl, H⟩
      · replace H := H.2 c40
        refine s_iload (nx := 45) hO rfl rfl rfl ?_
        refine s_iload_n (nx := 46) hO rfl rfl rfl ?_
        refine goK (H (xEx G mX12_numberNext 55 [(0, .ref (q_b G + 139)), (4, .int x1), (5, .int x2)] [] (hS G s4) z 0 0 (yQi G z Q)) (fun H => ?_)) (fun H => ?_)
        · show xEx G mX12_numberNext 55 [(0, .ref (q_b G + 139)), (4, .int x1), (5, .int x2)] [] (hS G s4) z 0 0 (yQi G z Q)
          refine s_aload_n (nx := 56) hO rfl rfl rfl ?_
          refine s_iconst (x := (nI 3)) (nx := 57) hO rfl (by decide) rfl ?_
          refine s_iload (nx := 59) hO rfl rfl rfl ?_
          refine s_callV [.int (nI 3), .int x1] (ci := 12) (F := TX12) (N := 116) (nx := 62) hO rfl kX12_numberNext_303 (by rw [hcl]; rfl) (hs_o12 kc139) (w_X12_wrong hG H) rfl rfl (Nat.le_of_ble_eq_true rfl) (Nat.zero_le _) (Nat.zero_le _) rfl (k_Qv (fun s5 H => ?_))
          refine s_iload (nx := 64) hO rfl rfl rfl ?_
          exact s_iret hO rfl rfl rfl ⟨rfl, _, _, rfl, rfl, H⟩
        refine s_icmp_lt (nx := 49) hO rfl rfl (fun c46 => ?_) (fun c46 => ?_)
        · replace H := H.1 c46
          exact xEx.loc (x_sub1 (List.Mem.head _) (x_sub1 (List.Mem.tail _ (List.Mem.tail _ (List.Mem.tail _ (List.Mem.tail _ (List.Mem.head _))))) (x_sub1 (List.Mem.tail _ (List.Mem.tail _ (List.Mem.tail _ (List.Mem.tail _ (List.Mem.tail _ (List.Mem.head _)))))) x_sub0))) H
        · replace H := H.2 c46
          refine s_iload (nx := 51) hO rfl rfl rfl ?_
          refine s_iload_n (nx := 52) hO rfl rfl rfl ?_
          refine s_icmp_le (nx := 55) hO rfl rfl (fun c52 => ?_) (fun c52 => ?_)
          · replace H := H.1 c52
            refine s_iload (nx := 64) hO rfl rfl rfl ?_
            exact s_iret hO rfl rfl rfl ⟨rfl, _, _, rfl, rfl, H⟩
          · replace H := H.2 c52
            exact xEx.loc (x_sub1 (List.Mem.head _) (x_sub1 (List.Mem.tail _ (List.Mem.tail _ (List.Mem.tail _ (List.Mem.tail _ (List.Mem.head _))))) (x_sub1 (List.Mem.tail _ (List.Mem.tail _ (List.Mem.tail _ (List.Mem.tail _ (List.Mem.tail _ (List.Mem.head _)))))) x_sub0))) H
    · replace H := H.2 c15
      refine s_iload (nx := 20) hO rfl rfl rfl ?_
      refine s_bipush (x := (nI 8)) (nx := 22) hO rfl (by decide) rfl ?_
      refine s_ishl (nx := 23) hO rfl rfl ?_
      refine s_aload_n (nx := 24) hO rfl rfl rfl ?_
      refine s_callV [] (ci := 12) (F := TX12) (N := 116) (nx := 27) hO rfl kX12_numberNext_526 (by rw [hcl]; rfl) (hs_o12 kc139) (w_X12_byteNext hG H) rfl rfl (Nat.le_of_ble_eq_true rfl) (Nat.zero_le _) (Nat.zero_le _) rfl (k_Qi (fun r6 s7 H => ?_))
      refine s_ior (nx := 28) hO rfl rfl ?_
      refine goV (((x2 <<< ((nI 8) &&& 31)) ||| r6)) (fun x8 ex8 => ?_)
      replace H := H x8 ex8
      refine e_istore (nx := 30) (l' := [(5, .int x8), (0, .ref (q_b G + 139)), (1, .int v1), (2, .int v2), (3, .int v3), (4, .int x1), (6, .int x3)]) ex8 hO rfl (by decide) rfl rfl ?_
      refine goV ((x3 + 1)) (fun x9 ex9 => ?_)
      replace H := H x9 ex9
      refine e_iinc (nx := 33) (l' := [(6, .int x9), (5, .int x8), (0, .ref (q_b G + 139)), (1, .int v1), (2, .int v2), (3, .int v3), (4, .int x1)]) ex9 hO rfl (by decide) rfl rfl rfl rfl ?_
      refine s_goto hO rfl ?_
      exact xEx.loc (x_sub1 (List.Mem.tail _ (List.Mem.tail _ (List.Mem.head _))) (x_sub1 (List.Mem.tail _ (List.Mem.tail _ (List.Mem.tail _ (List.Mem.head _)))) (x_sub1 (List.Mem.tail _ (List.Mem.tail _ (List.Mem.tail _ (List.Mem.tail _ (List.Mem.head _))))) (x_sub1 (List.Mem.tail _ (List.Mem.tail _ (List.Mem.tail _ (List.Mem.tail _ (List.Mem.tail _ (List.Mem.head _)))))) (x_sub1 (List.Mem.tail _ (List.Mem.tail _ (List.Mem.tail _ (List.Mem.tail _ (List.Mem.tail _ (List.Mem.tail _ (List.Mem.head _))))))) (x_sub1 (List.Mem.tail _ (List.Mem.head _)) (x_sub1 (List.Mem.head _) x_sub0))))))) H
  refine s_istore (nx := 12) (l' := [(6, .int 0), (5, .int 0), (4, .int x1), (0, .ref (q_b G + 139)), (1, .int v1), (2, .int v2), (3, .int v3)]) hO rfl (by decide) rfl rfl ?_
  exact xEx.loc (x_sub1 (List.Mem.tail _ (List.Mem.tail _ (List.Mem.tail _ (List.Mem.head _)))) (x_sub1 (List.Mem.tail _ (List.Mem.tail _ (List.Mem.tail _ (List.Mem.tail _ (List.Mem.head _))))) (x_sub1 (List.Mem.tail _ (List.Mem.tail _ (List.Mem.tail _ (List.Mem.tail _ (List.Mem.tail _ (List.Mem.head _)))))) (x_sub1 (List.Mem.tail _ (List.Mem.tail _ (List.Mem.tail _ (List.Mem.tail _ (List.Mem.tail _ (List.Mem.tail _ (List.Mem.head _))))))) (x_sub1 (List.Mem.tail _ (List.Mem.tail _ (List.Mem.head _))) (x_sub1 (List.Mem.tail _ (List.Mem.head _)) (x_sub1 (List.Mem.head _) x_sub0))))))) H
def W_X12_readInstruction (s : yS) (v1 : Int32) (v2 : Int32) (v3 : Int32) (v4 : Int32) (Q : yS → Prop) : Prop :=
 W_X12_numberNext s 1 0 (nI 29) 
 (fun r1 s2 => ∀ P142 : Int32 → yS → Prop, (∀ (x3 : Int32) (s4 : yS), (vp_in (((nI 9600) + ((nI 400) * v1)) + v2) 14400 ∧ ∀ s6 : yS, s6 = wI s4 186 (ix (((nI 9600) + ((nI 400) * v1)) + v2)) r1 → 
  vp_in (((nI 9600) + ((nI 400) * v1)) + v2) 14400 ∧ ∀ s8 : yS, s8 = wI s6 187 (ix (((nI 9600) + ((nI 400) * v1)) + v2)) x3 → 
  Q s8) → P142 x3 s4) → 
 ((¬ r1 = 0 → ∀ P46 : Prop, ((vp_in ((nI 24) + v1) 36 ∧ 
   W_X12_numberNext s2 1 0 ((sI s2 180 (ix ((nI 24) + v1))) - 1) 
   (fun r10 s11 => P142 r10 s11)) → P46) → 
  ((r1 = (nI 4) → P46)
  ∧ (¬ r1 = (nI 4) → ((¬ r1 = (nI 5) → ∀ P96 : Prop, ((((¬ r1 = (nI 25) → ∀ P132 : Prop, ((W_X12_numberNext s2 1 0 (nI 15) 
       (fun r12 s13 => P142 r12 s13)) → P132) → 
      ((r1 = (nI 26) → P132)
      ∧ (¬ r1 = (nI 26) → ((¬ r1 = (nI 29) → P142 0 s2)
       ∧ (r1 = (nI 29) → P132)))))
     ∧ (r1 = (nI 25) → W_X12_numberNext s2 1 0 (v4 - 1) 
      (fun r14 s15 => P142 r14 s15)))) → P96) → 
    ((r1 ≤ (nI 17) → P96)
    ∧ (¬ r1 ≤ (nI 17) → (((nI 21) ≤ r1 → P96)
     ∧ (¬ (nI 21) ≤ r1 → W_X12_numberNext s2 (nI 2) 0 (v3 - 1) 
      (fun r16 s17 => P142 r16 s17))))))
   ∧ (r1 = (nI 5) → P46)))))
 ∧ (r1 = 0 → W_X12_numberNext s2 (nI 4) ((-2147483648)) ((2147483647)) 
  (fun r18 s19 => P142 r18 s19))))
set_option maxRecDepth 100000 in
set_option maxHeartbeats 40000000 in
theorem w_X12_readInstruction {G : xG} (hG : yG G) {z : Nat} {s : yS} {v1 : Int32} {v2 : Int32} {v3 : Int32} {v4 : Int32} {Q : yS → Prop} (H : W_X12_readInstruction s v1 v2 v3 v4 Q) : xC G mX12_readInstruction [.ref (q_b G + 139), .int v1, .int v2, .int v3, .int v4] (hS G s) z 0 0 (yQv G z Q) := by
  have hW := hG.1
  have hcl := hG.2.1
  have hty := hG.2.2.1
  have hO : xO G mX12_readInstruction tbX12_readInstruction ptX12_readInstruction := ⟨tkX12_readInstruction, pkX12_readInstruction hcl⟩
  unfold W_X12_readInstruction at H
  refine xC.of hW (by decide) rfl (Nat.le_of_ble_eq_true rfl) ?_
  refine s_aload_n (nx := 1) hO rfl rfl rfl ?_
  refine s_iconst (x := 1) (nx := 2) hO rfl (by decide) rfl ?_
  refine s_iconst (x := 0) (nx := 3) hO rfl (by decide) rfl ?_
  refine s_bipush (x := (nI 29)) (nx := 5) hO rfl (by decide) rfl ?_
  refine s_callV [.int 1, .int 0, .int (nI 29)] (ci := 12) (F := TX12) (N := 116) (nx := 8) hO rfl kX12_readInstruction_529 (by rw [hcl]; rfl) (hs_o12 kc139) (w_X12_numberNext hG H) rfl rfl (Nat.le_of_ble_eq_true rfl) (Nat.zero_le _) (Nat.zero_le _) rfl (k_Qi (fun r1 s2 H => ?_))
  refine s_istore (nx := 10) (l' := [(5, .int r1), (0, .ref (q_b G + 139)), (1, .int v1), (2, .int v2), (3, .int v3), (4, .int v4)]) hO rfl (by decide) rfl rfl ?_
  refine s_iconst (x := 0) (nx := 11) hO rfl (by decide) rfl ?_
  refine s_istore (nx := 13) (l' := [(6, .int 0), (5, .int r1), (0, .ref (q_b G + 139)), (1, .int v1), (2, .int v2), (3, .int v3), (4, .int v4)]) hO rfl (by decide) rfl rfl ?_
  refine s_iload (nx := 15) hO rfl rfl rfl ?_
  refine goK (H (fun (x3 : Int32) (s4 : yS) => xEx G mX12_readInstruction 142 [(0, .ref (q_b G + 139)), (1, .int v1), (2, .int v2), (5, .int r1), (6, .int x3)] [] (hS G s4) z 0 0 (yQv G z Q)) (fun x3 s4 H => ?_)) (fun H => ?_)
  · show xEx G mX12_readInstruction 142 [(0, .ref (q_b G + 139)), (1, .int v1), (2, .int v2), (5, .int r1), (6, .int x3)] [] (hS G s4) z 0 0 (yQv G z Q)
    refine s_aload_n (nx := 143) hO rfl rfl rfl ?_
    refine s_getf (v := .ref (q_b G + 186)) (nx := 146) hO rfl rfl (hs_o12 kc139) rfl rfl ?_
    refine s_sipush (x := (nI 9600)) (nx := 149) hO rfl (by decide) rfl ?_
    refine s_sipush (x := (nI 400)) (nx := 152) hO rfl (by decide) rfl ?_
    refine s_iload_n (nx := 153) hO rfl rfl rfl ?_
    refine s_imul (nx := 154) hO rfl rfl ?_
    refine s_iadd (nx := 155) hO rfl rfl ?_
    refine s_iload_n (nx := 156) hO rfl rfl rfl ?_
    refine s_iadd (nx := 157) hO rfl rfl ?_
    refine s_iload (nx := 159) hO rfl rfl rfl ?_
    obtain ⟨b5, H⟩ := H
    refine goV (wI s4 186 (ix (((nI 9600) + ((nI 400) * v1)) + v2)) r1) (fun s6 es6 => ?_)
    replace H := H s6 es6
    refine s_iast (nx := 160) hO rfl (hs_I kc186) b5 rfl ?_
    refine xEx.at (up_I kc186 es6) ?_
    refine s_aload_n (nx := 161) hO rfl rfl rfl ?_
    refine s_getf (v := .ref (q_b G + 187)) (nx := 164) hO rfl rfl (hs_o12 kc139) rfl rfl ?_
    refine s_sipush (x := (nI 9600)) (nx := 167) hO rfl (by decide) rfl ?_
    refine s_sipush (x := (nI 400)) (nx := 170) hO rfl (by decide) rfl ?_
    refine s_iload_n (nx := 171) hO rfl rfl rfl ?_
    refine s_imul (nx := 172) hO rfl rfl ?_
    refine s_iadd (nx := 173) hO rfl rfl ?_
    refine s_iload_n (nx := 174) hO rfl rfl rfl ?_
    refine s_iadd (nx := 175) hO rfl rfl ?_
    refine s_iload (nx := 177) hO rfl rfl rfl ?_
    obtain ⟨b7, H⟩ := H
    refine goV (wI s6 187 (ix (((nI 9600) + ((nI 400) * v1)) + v2)) x3) (fun s8 es8 => ?_)
    replace H := H s8 es8
    refine s_iast (nx := 178) hO rfl (hs_I kc187) b7 rfl ?_
    refine xEx.at (up_I kc187 es8) ?_
    exact s_vret hO rfl rfl ⟨rfl, _, rfl, rfl, H⟩
  refine s_if_ne (nx := 18) hO rfl rfl (fun c15 => ?_) (fun c15 => ?_)
  · replace H := H.1 c15
    refine s_iload (nx := 36) hO rfl rfl rfl ?_
    refine s_iconst (x := (nI 4)) (nx := 37) hO rfl (by decide) rfl ?_
    refine goK (H (xEx G mX12_readInstruction 46 [(0, .ref (q_b G + 139)), (1, .int v1), (2, .int v2), (5, .int r1)] [] (hS G s2) z 0 0 (yQv G z Q)) (fun H => ?_)) (fun H => ?_)
    · show xEx G mX12_readInstruction 46 [(0, .ref (q_b G + 139)), (1, .int v1), (2, .int v2), (5, .int r1)] [] (hS G s2) z 0 0 (yQv G z Q)
      refine s_aload_n (nx := 47) hO rfl rfl rfl ?_
      refine s_iconst (x := 1) (nx := 48) hO rfl (by decide) rfl ?_
      refine s_iconst (x := 0) (nx := 49) hO rfl (by decide) rfl ?_
      refine s_aload_n (nx := 50) hO rfl rfl rfl ?_
      refine s_getf (v := .ref (q_b G + 180)) (nx := 53) hO rfl rfl (hs_o12 kc139) rfl rfl ?_
      refine s_bipush (x := (nI 24)) (nx := 55) hO rfl (by decide) rfl ?_
      refine s_iload_n (nx := 56) hO rfl rfl rfl ?_
      refine s_iadd (nx := 57) hO rfl rfl ?_
      obtain ⟨b9, H⟩ := H
      refine s_iald (nx := 58) hO rfl (hs_I kc180) b9 rfl ?_
      refine s_iconst (x := 1) (nx := 59) hO rfl (by decide) rfl ?_
      refine s_isub (nx := 60) hO rfl rfl ?_
      refine s_callV [.int 1, .int 0, .int ((sI s2 180 (ix ((nI 24) + v1))) - 1)] (ci := 12) (F := TX12) (N := 116) (nx := 63) hO rfl kX12_readInstruction_529 (by rw [hcl]; rfl) (hs_o12 kc139) (w_X12_numberNext hG H) rfl rfl (Nat.le_of_ble_eq_true rfl) (Nat.zero_le _) (Nat.zero_le _) rfl (k_Qi (fun r10 s11 H => ?_))
      refine s_istore (nx := 65) (l' := [(6, .int r10), (0, .ref (q_b G + 139)), (1, .int v1), (2, .int v2), (5, .int r1)]) hO rfl (by decide) rfl rfl ?_
      refine s_goto hO rfl ?_
      exact xEx.loc (x_sub1 (List.Mem.tail _ (List.Mem.head _)) (x_sub1 (List.Mem.tail _ (List.Mem.tail _ (List.Mem.head _))) (x_sub1 (List.Mem.tail _ (List.Mem.tail _ (List.Mem.tail _ (List.Mem.head _)))) (x_sub1 (List.Mem.tail _ (List.Mem.tail _ (List.Mem.tail _ (List.Mem.tail _ (List.Mem.head _))))) (x_sub1 (List.Mem.head _) x_sub0))))) H
    refine s_icmp_eq (nx := 40) hO rfl rfl (fun c37 => ?_) (fun c37 => ?_)
    · replace H := H.1 c37
      exact xEx.loc (x_sub1 (List.Mem.tail _ (List.Mem.tail _ (List.Mem.head _))) (x_sub1 (List.Mem.tail _ (List.Mem.tail _ (List.Mem.tail _ (List.Mem.head _)))) (x_sub1 (List.Mem.tail _ (List.Mem.tail _ (List.Mem.tail _ (List.Mem.tail _ (List.Mem.head _))))) (x_sub1 (List.Mem.tail _ (List.Mem.head _)) x_sub0)))) H
    · replace H := H.2 c37
      refine s_iload (nx := 42) hO rfl rfl rfl ?_
      refine s_iconst (x := (nI 5)) (nx := 43) hO rfl (by decide) rfl ?_
      refine s_icmp_ne (nx := 46) hO rfl rfl (fun c43 => ?_) (fun c43 => ?_)
      · replace H := H.1 c43
        refine s_iload (nx := 70) hO rfl rfl rfl ?_
        refine s_bipush (x := (nI 17)) (nx := 72) hO rfl (by decide) rfl ?_
        refine goK (H (xEx G mX12_readInstruction 96 [(0, .ref (q_b G + 139)), (1, .int v1), (2, .int v2), (4, .int v4), (5, .int r1), (6, .int 0)] [] (hS G s2) z 0 0 (yQv G z Q)) (fun H => ?_)) (fun H => ?_)
        · show xEx G mX12_readInstruction 96 [(0, .ref (q_b G + 139)), (1, .int v1), (2, .int v2), (4, .int v4), (5, .int r1), (6, .int 0)] [] (hS G s2) z 0 0 (yQv G z Q)
          refine s_iload (nx := 98) hO rfl rfl rfl ?_
          refine s_bipush (x := (nI 25)) (nx := 100) hO rfl (by decide) rfl ?_
          refine s_icmp_ne (nx := 103) hO rfl rfl (fun c100 => ?_) (fun c100 => ?_)
          · replace H := H.1 c100
            refine s_iload (nx := 120) hO rfl rfl rfl ?_
            refine s_bipush (x := (nI 26)) (nx := 122) hO rfl (by decide) rfl ?_
            refine goK (H (xEx G mX12_readInstruction 132 [(0, .ref (q_b G + 139)), (1, .int v1), (2, .int v2), (5, .int r1)] [] (hS G s2) z 0 0 (yQv G z Q)) (fun H => ?_)) (fun H => ?_)
            · show xEx G mX12_readInstruction 132 [(0, .ref (q_b G + 139)), (1, .int v1), (2, .int v2), (5, .int r1)] [] (hS G s2) z 0 0 (yQv G z Q)
              refine s_aload_n (nx := 133) hO rfl rfl rfl ?_
              refine s_iconst (x := 1) (nx := 134) hO rfl (by decide) rfl ?_
              refine s_iconst (x := 0) (nx := 135) hO rfl (by decide) rfl ?_
              refine s_bipush (x := (nI 15)) (nx := 137) hO rfl (by decide) rfl ?_
              refine s_callV [.int 1, .int 0, .int (nI 15)] (ci := 12) (F := TX12) (N := 116) (nx := 140) hO rfl kX12_readInstruction_529 (by rw [hcl]; rfl) (hs_o12 kc139) (w_X12_numberNext hG H) rfl rfl (Nat.le_of_ble_eq_true rfl) (Nat.zero_le _) (Nat.zero_le _) rfl (k_Qi (fun r12 s13 H => ?_))
              refine s_istore (nx := 142) (l' := [(6, .int r12), (0, .ref (q_b G + 139)), (1, .int v1), (2, .int v2), (5, .int r1)]) hO rfl (by decide) rfl rfl ?_
              exact xEx.loc (x_sub1 (List.Mem.tail _ (List.Mem.head _)) (x_sub1 (List.Mem.tail _ (List.Mem.tail _ (List.Mem.head _))) (x_sub1 (List.Mem.tail _ (List.Mem.tail _ (List.Mem.tail _ (List.Mem.head _)))) (x_sub1 (List.Mem.tail _ (List.Mem.tail _ (List.Mem.tail _ (List.Mem.tail _ (List.Mem.head _))))) (x_sub1 (List.Mem.head _) x_sub0))))) H
            refine s_icmp_eq (nx := 125) hO rfl rfl (fun c122 => ?_) (fun c122 => ?_)
            · replace H := H.1 c122
              exact xEx.loc (x_sub1 (List.Mem.head _) (x_sub1 (List.Mem.tail _ (List.Mem.head _)) (x_sub1 (List.Mem.tail _ (List.Mem.tail _ (List.Mem.head _))) (x_sub1 (List.Mem.tail _ (List.Mem.tail _ (List.Mem.tail _ (List.Mem.tail _ (List.Mem.head _))))) x_sub0)))) H
            · replace H := H.2 c122
              refine s_iload (nx := 127) hO rfl rfl rfl ?_
              refine s_bipush (x := (nI 29)) (nx := 129) hO rfl (by decide) rfl ?_
              refine s_icmp_ne (nx := 132) hO rfl rfl (fun c129 => ?_) (fun c129 => ?_)
              · replace H := H.1 c129
                exact xEx.loc (x_sub1 (List.Mem.head _) (x_sub1 (List.Mem.tail _ (List.Mem.head _)) (x_sub1 (List.Mem.tail _ (List.Mem.tail _ (List.Mem.head _))) (x_sub1 (List.Mem.tail _ (List.Mem.tail _ (List.Mem.tail _ (List.Mem.tail _ (List.Mem.head _))))) (x_sub1 (List.Mem.tail _ (List.Mem.tail _ (List.Mem.tail _ (List.Mem.tail _ (List.Mem.tail _ (List.Mem.head _)))))) x_sub0))))) H
              · replace H := H.2 c129
                exact xEx.loc (x_sub1 (List.Mem.head _) (x_sub1 (List.Mem.tail _ (List.Mem.head _)) (x_sub1 (List.Mem.tail _ (List.Mem.tail _ (List.Mem.head _))) (x_sub1 (List.Mem.tail _ (List.Mem.tail _ (List.Mem.tail _ (List.Mem.tail _ (List.Mem.head _))))) x_sub0)))) H
          · replace H := H.2 c100
            refine s_aload_n (nx := 104) hO rfl rfl rfl ?_
            refine s_iconst (x := 1) (nx := 105) hO rfl (by decide) rfl ?_
            refine s_iconst (x := 0) (nx := 106) hO rfl (by decide) rfl ?_
            refine s_iload (nx := 108) hO rfl rfl rfl ?_
            refine s_iconst (x := 1) (nx := 109) hO rfl (by decide) rfl ?_
            refine s_isub (nx := 110) hO rfl rfl ?_
            refine s_callV [.int 1, .int 0, .int (v4 - 1)] (ci := 12) (F := TX12) (N := 116) (nx := 113) hO rfl kX12_readInstruction_529 (by rw [hcl]; rfl) (hs_o12 kc139) (w_X12_numberNext hG H) rfl rfl (Nat.le_of_ble_eq_true rfl) (Nat.zero_le _) (Nat.zero_le _) rfl (k_Qi (fun r14 s15 H => ?_))
            refine s_istore (nx := 115) (l' := [(6, .int r14), (0, .ref (q_b G + 139)), (1, .int v1), (2, .int v2), (4, .int v4), (5, .int r1)]) hO rfl (by decide) rfl rfl ?_
            refine s_goto hO rfl ?_
            exact xEx.loc (x_sub1 (List.Mem.tail _ (List.Mem.head _)) (x_sub1 (List.Mem.tail _ (List.Mem.tail _ (List.Mem.head _))) (x_sub1 (List.Mem.tail _ (List.Mem.tail _ (List.Mem.tail _ (List.Mem.head _)))) (x_sub1 (List.Mem.tail _ (List.Mem.tail _ (List.Mem.tail _ (List.Mem.tail _ (List.Mem.tail _ (List.Mem.head _)))))) (x_sub1 (List.Mem.head _) x_sub0))))) H
        refine s_icmp_le (nx := 75) hO rfl rfl (fun c72 => ?_) (fun c72 => ?_)
        · replace H := H.1 c72
          exact xEx.loc (x_sub1 (List.Mem.tail _ (List.Mem.tail _ (List.Mem.head _))) (x_sub1 (List.Mem.tail _ (List.Mem.tail _ (List.Mem.tail _ (List.Mem.head _)))) (x_sub1 (List.Mem.tail _ (List.Mem.tail _ (List.Mem.tail _ (List.Mem.tail _ (List.Mem.head _))))) (x_sub1 (List.Mem.tail _ (List.Mem.tail _ (List.Mem.tail _ (List.Mem.tail _ (List.Mem.tail _ (List.Mem.tail _ (List.Mem.head _))))))) (x_sub1 (List.Mem.tail _ (List.Mem.head _)) (x_sub1 (List.Mem.head _) x_sub0)))))) H
        · replace H := H.2 c72
          refine s_iload (nx := 77) hO rfl rfl rfl ?_
          refine s_bipush (x := (nI 21)) (nx := 79) hO rfl (by decide) rfl ?_
          refine s_icmp_ge (nx := 82) hO rfl rfl (fun c79 => ?_) (fun c79 => ?_)
          · replace H := H.1 c79
            exact xEx.loc (x_sub1 (List.Mem.tail _ (List.Mem.tail _ (List.Mem.head _))) (x_sub1 (List.Mem.tail _ (List.Mem.tail _ (List.Mem.tail _ (List.Mem.head _)))) (x_sub1 (List.Mem.tail _ (List.Mem.tail _ (List.Mem.tail _ (List.Mem.tail _ (List.Mem.head _))))) (x_sub1 (List.Mem.tail _ (List.Mem.tail _ (List.Mem.tail _ (List.Mem.tail _ (List.Mem.tail _ (List.Mem.tail _ (List.Mem.head _))))))) (x_sub1 (List.Mem.tail _ (List.Mem.head _)) (x_sub1 (List.Mem.head _) x_sub0)))))) H
          · replace H := H.2 c79
            refine s_aload_n (nx := 83) hO rfl rfl rfl ?_
            refine s_iconst (x := (nI 2)) (nx := 84) hO rfl (by decide) rfl ?_
            refine s_iconst (x := 0) (nx := 85) hO rfl (by decide) rfl ?_
            refine s_iload_n (nx := 86) hO rfl rfl rfl ?_
            refine s_iconst (x := 1) (nx := 87) hO rfl (by decide) rfl ?_
            refine s_isub (nx := 88) hO rfl rfl ?_
            refine s_callV [.int (nI 2), .int 0, .int (v3 - 1)] (ci := 12) (F := TX12) (N := 116) (nx := 91) hO rfl kX12_readInstruction_529 (by rw [hcl]; rfl) (hs_o12 kc139) (w_X12_numberNext hG H) rfl rfl (Nat.le_of_ble_eq_true rfl) (Nat.zero_le _) (Nat.zero_le _) rfl (k_Qi (fun r16 s17 H => ?_))
            refine s_istore (nx := 93) (l' := [(6, .int r16), (5, .int r1), (0, .ref (q_b G + 139)), (1, .int v1), (2, .int v2), (3, .int v3), (4, .int v4)]) hO rfl (by decide) rfl rfl ?_
            refine s_goto hO rfl ?_
            exact xEx.loc (x_sub1 (List.Mem.tail _ (List.Mem.tail _ (List.Mem.head _))) (x_sub1 (List.Mem.tail _ (List.Mem.tail _ (List.Mem.tail _ (List.Mem.head _)))) (x_sub1 (List.Mem.tail _ (List.Mem.tail _ (List.Mem.tail _ (List.Mem.tail _ (List.Mem.head _))))) (x_sub1 (List.Mem.tail _ (List.Mem.head _)) (x_sub1 (List.Mem.head _) x_sub0))))) H
      · replace H := H.2 c43
        exact xEx.loc (x_sub1 (List.Mem.tail _ (List.Mem.tail _ (List.Mem.head _))) (x_sub1 (List.Mem.tail _ (List.Mem.tail _ (List.Mem.tail _ (List.Mem.head _)))) (x_sub1 (List.Mem.tail _ (List.Mem.tail _ (List.Mem.tail _ (List.Mem.tail _ (List.Mem.head _))))) (x_sub1 (List.Mem.tail _ (List.Mem.head _)) x_sub0)))) H
  · replace H := H.2 c15
    refine s_aload_n (nx := 19) hO rfl rfl rfl ?_
    refine s_iconst (x := (nI 4)) (nx := 20) hO rfl (by decide) rfl ?_
    refine s_ldc_w (x := ((-2147483648))) (nx := 23) hO rfl rfl rfl ?_
    refine s_ldc_w (x := ((2147483647))) (nx := 26) hO rfl rfl rfl ?_
    refine s_callV [.int (nI 4), .int ((-2147483648)), .int ((2147483647))] (ci := 12) (F := TX12) (N := 116) (nx := 29) hO rfl kX12_readInstruction_529 (by rw [hcl]; rfl) (hs_o12 kc139) (w_X12_numberNext hG H) rfl rfl (Nat.le_of_ble_eq_true rfl) (Nat.zero_le _) (Nat.zero_le _) rfl (k_Qi (fun r18 s19 H => ?_))
    refine s_istore (nx := 31) (l' := [(6, .int r18), (5, .int r1), (0, .ref (q_b G + 139)), (1, .int v1), (2, .int v2), (3, .int v3), (4, .int v4)]) hO rfl (by decide) rfl rfl ?_
    refine s_goto hO rfl ?_
    exact xEx.loc (x_sub1 (List.Mem.tail _ (List.Mem.tail _ (List.Mem.head _))) (x_sub1 (List.Mem.tail _ (List.Mem.tail _ (List.Mem.tail _ (List.Mem.head _)))) (x_sub1 (List.Mem.tail _ (List.Mem.tail _ (List.Mem.tail _ (List.Mem.tail _ (List.Mem.head _))))) (x_sub1 (List.Mem.tail _ (List.Mem.head _)) (x_sub1 (List.Mem.head _) x_sub0))))) H
def W_X12_readFunction (s : yS) (v1 : Int32) (v2 : Int32) (Q : yS → Prop) : Prop :=
 ∀ x1 : Int32, x1 = ((nI 24) + v1) → 
 ∀ P22 : Int32 → Prop, (∀ (y2 : Int32), (W_X12_numberNext s 1 0 y2 
  (fun r3 s4 => vp_in x1 36 ∧ ∀ s6 : yS, s6 = wI s4 179 (ix x1) r3 → 
  vp_in x1 36 ∧ 
  W_X12_numberNext s6 1 (sI s6 179 (ix x1)) (nI 12) 
  (fun r8 s9 => vp_in x1 36 ∧ ∀ s11 : yS, s11 = wI s9 180 (ix x1) r8 → 
  vp_in x1 36 ∧ 
  W_X12_numberNext s11 (nI 2) 0 ((1 <<< (((sI s11 180 (ix x1)) &&& (nI 15)) &&& 31)) - 1) 
  (fun r13 s14 => vp_in x1 36 ∧ ∀ s16 : yS, s16 = wI s14 181 (ix x1) r13 → 
  ∀ P87 : Int32 → Prop, (∀ (y17 : Int32), (W_X12_numberNext s16 1 0 y17 
   (fun r18 s19 => vp_in x1 36 ∧ ∀ s21 : yS, s21 = wI s19 182 (ix x1) r18 → 
   W_X12_numberNext s21 (nI 2) 1 (nI 400) 
   (fun r22 s23 => vp_in x1 36 ∧ ∀ s25 : yS, s25 = wI s23 184 (ix x1) r22 → 
   ∀ P109 : Int32 → yS → Prop, (∀ (x26 : Int32) (s27 : yS), (vp_in x1 36 ∧ 
    ∀ P147 : Prop, ((W_X12_numberNext s27 1 0 (nI 6) 
     (fun r29 s30 => vp_in x1 36 ∧ ∀ s32 : yS, s32 = wI s30 185 (ix x1) r29 → 
     ∀ P164 : Int32 → yS → Prop, (∀ (x33 : Int32) (s34 : yS), (vp_in x1 36 ∧ 
      (((sI s34 185 (ix x1)) ≤ x33 → Q s34)
      ∧ (¬ (sI s34 185 (ix x1)) ≤ x33 → ((¬ (sI s34 139 15) = 0 → Q s34)
       ∧ ((sI s34 139 15) = 0 → ∀ x36 : Int32, x36 = (((nI 144) + ((nI 6) * v1)) + x33) → 
        vp_in x1 36 ∧ 
        W_X12_numberNext s34 (nI 2) 0 ((sI s34 184 (ix x1)) - 1) 
        (fun r38 s39 => vp_in x36 216 ∧ ∀ s41 : yS, s41 = wI s39 188 (ix x36) r38 → 
        vp_in x36 216 ∧ 
        vp_in x1 36 ∧ 
        W_X12_numberNext s41 (nI 2) ((sI s41 188 (ix x36)) + 1) (sI s41 184 (ix x1)) 
        (fun r44 s45 => vp_in x36 216 ∧ ∀ s47 : yS, s47 = wI s45 189 (ix x36) r44 → 
        vp_in x1 36 ∧ 
        W_X12_numberNext s47 (nI 2) 0 ((sI s47 184 (ix x1)) - 1) 
        (fun r49 s50 => vp_in x36 216 ∧ ∀ s52 : yS, s52 = wI s50 190 (ix x36) r49 → 
        W_X12_numberNext s52 1 0 1 
        (fun r53 s54 => ∀ P285 : Int32 → Prop, (∀ (y55 : Int32), (vp_in x36 216 ∧ ∀ s57 : yS, s57 = wI s54 191 (ix x36) (vp_nar .boolean y55) → 
         vp_in x36 216 ∧ 
         ∀ P317 : Int32 → yS → Prop, (∀ (y59 : Int32) (s60 : yS), (vp_in x36 216 ∧ ∀ s62 : yS, s62 = wI s60 192 (ix x36) y59 → 
          ∀ x63 : Int32, x63 = (x33 + 1) → 
          P164 x63 s62) → P317 y59 s60) → 
         (((sI s57 191 (ix x36)) = 0 → W_X12_numberNext s57 (nI 4) ((-2147483648)) ((2147483647)) 
          (fun r64 s65 => P317 r64 s65))
         ∧ (¬ (sI s57 191 (ix x36)) = 0 → P317 0 s57))) → P285 y55) → 
        ((¬ r53 = 0 → P285 0)
        ∧ (r53 = 0 → P285 1))))))))))) → P164 x33 s34) → 
     P164 0 s32)) → P147) → 
    (((sI s27 184 (ix x1)) ≤ x26 → P147)
    ∧ (¬ (sI s27 184 (ix x1)) ≤ x26 → ((¬ (sI s27 139 15) = 0 → P147)
     ∧ ((sI s27 139 15) = 0 → vp_in x1 36 ∧ 
      W_X12_readInstruction s27 v1 x26 (sI s27 184 (ix x1)) v2 
      (fun s67 => ∀ x68 : Int32, x68 = (x26 + 1) → 
      P109 x68 s67)))))) → P109 x26 s27) → 
   P109 0 s25))) → P87 y17) → 
  ((¬ v1 = 0 → P87 (nI 2))
  ∧ (v1 = 0 → P87 1)))))) → P22 y2) → 
 ((¬ v1 = 0 → P22 (nI 4))
 ∧ (v1 = 0 → P22 0))
set_option maxRecDepth 100000 in
set_option maxHeartbeats 40000000 in
theorem w_X12_readFunction {G : xG} (hG : yG G) {z : Nat} {s : yS} {v1 : Int32} {v2 : Int32} {Q : yS → Prop} (H : W_X12_readFunction s v1 v2 Q) : xC G mX12_readFunction [.ref (q_b G + 139), .int v1, .int v2] (hS G s) z 0 0 (yQv G z Q) := by
  have hW := hG.1
  have hcl := hG.2.1
  have hty := hG.2.2.1
  have hO : xO G mX12_readFunction tbX12_readFunction ptX12_readFunction := ⟨tkX12_readFunction, pkX12_readFunction hcl⟩
  unfold W_X12_readFunction at H
  refine xC.of hW (by decide) rfl (Nat.le_of_ble_eq_true rfl) ?_
  refine s_bipush (x := (nI 24)) (nx := 2) hO rfl (by decide) rfl ?_
  refine s_iload_n (nx := 3) hO rfl rfl rfl ?_
  refine s_iadd (nx := 4) hO rfl rfl ?_
  refine goV (((nI 24) + v1)) (fun x1 ex1 => ?_)
  replace H := H x1 ex1
  refine e_istore_n (nx := 5) (l' := [(3, .int x1), (0, .ref (q_b G + 139)), (1, .int v1), (2, .int v2)]) ex1 hO rfl (by decide) rfl rfl ?_
  refine s_aload_n (nx := 6) hO rfl rfl rfl ?_
  refine s_getf (v := .ref (q_b G + 179)) (nx := 9) hO rfl rfl (hs_o12 kc139) rfl rfl ?_
  refine s_iload_n (nx := 10) hO rfl rfl rfl ?_
  refine s_aload_n (nx := 11) hO rfl rfl rfl ?_
  refine s_iconst (x := 1) (nx := 12) hO rfl (by decide) rfl ?_
  refine s_iconst (x := 0) (nx := 13) hO rfl (by decide) rfl ?_
  refine s_iload_n (nx := 14) hO rfl rfl rfl ?_
  refine goK (H (fun (y2 : Int32) => xEx G mX12_readFunction 22 [(0, .ref (q_b G + 139)), (1, .int v1), (2, .int v2), (3, .int x1)] [.int y2, .int 0, .int 1, .ref (q_b G + 139), .int x1, .ref (q_b G + 179)] (hS G s) z 0 0 (yQv G z Q)) (fun y2 H => ?_)) (fun H => ?_)
  · show xEx G mX12_readFunction 22 [(0, .ref (q_b G + 139)), (1, .int v1), (2, .int v2), (3, .int x1)] [.int y2, .int 0, .int 1, .ref (q_b G + 139), .int x1, .ref (q_b G + 179)] (hS G s) z 0 0 (yQv G z Q)
    refine s_callV [.int 1, .int 0, .int y2] (ci := 12) (F := TX12) (N := 116) (nx := 25) hO rfl kX12_readFunction_529 (by rw [hcl]; rfl) (hs_o12 kc139) (w_X12_numberNext hG H) rfl rfl (Nat.le_of_ble_eq_true rfl) (Nat.zero_le _) (Nat.zero_le _) rfl (k_Qi (fun r3 s4 H => ?_))
    obtain ⟨b5, H⟩ := H
    refine goV (wI s4 179 (ix x1) r3) (fun s6 es6 => ?_)
    replace H := H s6 es6
    refine s_iast (nx := 26) hO rfl (hs_I kc179) b5 rfl ?_
    refine xEx.at (up_I kc179 es6) ?_
    refine s_aload_n (nx := 27) hO rfl rfl rfl ?_
    refine s_getf (v := .ref (q_b G + 180)) (nx := 30) hO rfl rfl (hs_o12 kc139) rfl rfl ?_
    refine s_iload_n (nx := 31) hO rfl rfl rfl ?_
    refine s_aload_n (nx := 32) hO rfl rfl rfl ?_
    refine s_iconst (x := 1) (nx := 33) hO rfl (by decide) rfl ?_
    refine s_aload_n (nx := 34) hO rfl rfl rfl ?_
    refine s_getf (v := .ref (q_b G + 179)) (nx := 37) hO rfl rfl (hs_o12 kc139) rfl rfl ?_
    refine s_iload_n (nx := 38) hO rfl rfl rfl ?_
    obtain ⟨b7, H⟩ := H
    refine s_iald (nx := 39) hO rfl (hs_I kc179) b7 rfl ?_
    refine s_bipush (x := (nI 12)) (nx := 41) hO rfl (by decide) rfl ?_
    refine s_callV [.int 1, .int (sI s6 179 (ix x1)), .int (nI 12)] (ci := 12) (F := TX12) (N := 116) (nx := 44) hO rfl kX12_readFunction_529 (by rw [hcl]; rfl) (hs_o12 kc139) (w_X12_numberNext hG H) rfl rfl (Nat.le_of_ble_eq_true rfl) (Nat.zero_le _) (Nat.zero_le _) rfl (k_Qi (fun r8 s9 H => ?_))
    obtain ⟨b10, H⟩ := H
    refine goV (wI s9 180 (ix x1) r8) (fun s11 es11 => ?_)
    replace H := H s11 es11
    refine s_iast (nx := 45) hO rfl (hs_I kc180) b10 rfl ?_
    refine xEx.at (up_I kc180 es11) ?_
    refine s_aload_n (nx := 46) hO rfl rfl rfl ?_
    refine s_getf (v := .ref (q_b G + 181)) (nx := 49) hO rfl rfl (hs_o12 kc139) rfl rfl ?_
    refine s_iload_n (nx := 50) hO rfl rfl rfl ?_
    refine s_aload_n (nx := 51) hO rfl rfl rfl ?_
    refine s_iconst (x := (nI 2)) (nx := 52) hO rfl (by decide) rfl ?_
    refine s_iconst (x := 0) (nx := 53) hO rfl (by decide) rfl ?_
    refine s_iconst (x := 1) (nx := 54) hO rfl (by decide) rfl ?_
    refine s_aload_n (nx := 55) hO rfl rfl rfl ?_
    refine s_getf (v := .ref (q_b G + 180)) (nx := 58) hO rfl rfl (hs_o12 kc139) rfl rfl ?_
    refine s_iload_n (nx := 59) hO rfl rfl rfl ?_
    obtain ⟨b12, H⟩ := H
    refine s_iald (nx := 60) hO rfl (hs_I kc180) b12 rfl ?_
    refine s_bipush (x := (nI 15)) (nx := 62) hO rfl (by decide) rfl ?_
    refine s_iand (nx := 63) hO rfl rfl ?_
    refine s_ishl (nx := 64) hO rfl rfl ?_
    refine s_iconst (x := 1) (nx := 65) hO rfl (by decide) rfl ?_
    refine s_isub (nx := 66) hO rfl rfl ?_
    refine s_callV [.int (nI 2), .int 0, .int ((1 <<< (((sI s11 180 (ix x1)) &&& (nI 15)) &&& 31)) - 1)] (ci := 12) (F := TX12) (N := 116) (nx := 69) hO rfl kX12_readFunction_529 (by rw [hcl]; rfl) (hs_o12 kc139) (w_X12_numberNext hG H) rfl rfl (Nat.le_of_ble_eq_true rfl) (Nat.zero_le _) (Nat.zero_le _) rfl (k_Qi (fun r13 s14 H => ?_))
    obtain ⟨b15, H⟩ := H
    refine goV (wI s14 181 (ix x1) r13) (fun s16 es16 => ?_)
    replace H := H s16 es16
    refine s_iast (nx := 70) hO rfl (hs_I kc181) b15 rfl ?_
    refine xEx.at (up_I kc181 es16) ?_
    refine s_aload_n (nx := 71) hO rfl rfl rfl ?_
    refine s_getf (v := .ref (q_b G + 182)) (nx := 74) hO rfl rfl (hs_o12 kc139) rfl rfl ?_
    refine s_iload_n (nx := 75) hO rfl rfl rfl ?_
    refine s_aload_n (nx := 76) hO rfl rfl rfl ?_
    refine s_iconst (x := 1) (nx := 77) hO rfl (by decide) rfl ?_
    refine s_iconst (x := 0) (nx := 78) hO rfl (by decide) rfl ?_
    refine s_iload_n (nx := 79) hO rfl rfl rfl ?_
    refine goK (H (fun (y17 : Int32) => xEx G mX12_readFunction 87 [(0, .ref (q_b G + 139)), (1, .int v1), (2, .int v2), (3, .int x1)] [.int y17, .int 0, .int 1, .ref (q_b G + 139), .int x1, .ref (q_b G + 182)] (hS G s16) z 0 0 (yQv G z Q)) (fun y17 H => ?_)) (fun H => ?_)
    · show xEx G mX12_readFunction 87 [(0, .ref (q_b G + 139)), (1, .int v1), (2, .int v2), (3, .int x1)] [.int y17, .int 0, .int 1, .ref (q_b G + 139), .int x1, .ref (q_b G + 182)] (hS G s16) z 0 0 (yQv G z Q)
      refine s_callV [.int 1, .int 0, .int y17] (ci := 12) (F := TX12) (N := 116) (nx := 90) hO rfl kX12_readFunction_529 (by rw [hcl]; rfl) (hs_o12 kc139) (w_X12_numberNext hG H) rfl rfl (Nat.le_of_ble_eq_true rfl) (Nat.zero_le _) (Nat.zero_le _) rfl (k_Qi (fun r18 s19 H => ?_))
      obtain ⟨b20, H⟩ := H
      refine goV (wI s19 182 (ix x1) r18) (fun s21 es21 => ?_)
      replace H := H s21 es21
      refine s_iast (nx := 91) hO rfl (hs_I kc182) b20 rfl ?_
      refine xEx.at (up_I kc182 es21) ?_
      refine s_aload_n (nx := 92) hO rfl rfl rfl ?_
      refine s_getf (v := .ref (q_b G + 184)) (nx := 95) hO rfl rfl (hs_o12 kc139) rfl rfl ?_
      refine s_iload_n (nx := 96) hO rfl rfl rfl ?_
      refine s_aload_n (nx := 97) hO rfl rfl rfl ?_
      refine s_iconst (x := (nI 2)) (nx := 98) hO rfl (by decide) rfl ?_
      refine s_iconst (x := 1) (nx := 99) hO rfl (by decide) rfl ?_
      refine s_sipush (x := (nI 400)) (nx := 102) hO rfl (by decide) rfl ?_
      refine s_callV [.int (nI 2), .int 1, .int (nI 400)] (ci := 12) (F := TX12) (N := 116) (nx := 105) hO rfl kX12_readFunction_529 (by rw [hcl]; rfl) (hs_o12 kc139) (w_X12_numberNext hG H) rfl rfl (Nat.le_of_ble_eq_true rfl) (Nat.zero_le _) (Nat.zero_le _) rfl (k_Qi (fun r22 s23 H => ?_))
      obtain ⟨b24, H⟩ := H
      refine goV (wI s23 184 (ix x1) r22) (fun s25 es25 => ?_)
      replace H := H s25 es25
      refine s_iast (nx := 106) hO rfl (hs_I kc184) b24 rfl ?_
      refine xEx.at (up_I kc184 es25) ?_
      refine s_iconst (x := 0) (nx := 107) hO rfl (by decide) rfl ?_
      refine goK (H (fun (x26 : Int32) (s27 : yS) => xEx G mX12_readFunction 109 [(0, .ref (q_b G + 139)), (1, .int v1), (2, .int v2), (3, .int x1), (4, .int x26)] [] (hS G s27) z 0 0 (yQv G z Q)) (fun x26 s27 H => ?_)) (fun H => ?_)
      · show xEx G mX12_readFunction 109 [(0, .ref (q_b G + 139)), (1, .int v1), (2, .int v2), (3, .int x1), (4, .int x26)] [] (hS G s27) z 0 0 (yQv G z Q)
        refine s_iload (nx := 111) hO rfl rfl rfl ?_
        refine s_aload_n (nx := 112) hO rfl rfl rfl ?_
        refine s_getf (v := .ref (q_b G + 184)) (nx := 115) hO rfl rfl (hs_o12 kc139) rfl rfl ?_
        refine s_iload_n (nx := 116) hO rfl rfl rfl ?_
        obtain ⟨b28, H⟩ := H
        refine s_iald (nx := 117) hO rfl (hs_I kc184) b28 rfl ?_
        refine goK (H (xEx G mX12_readFunction 147 [(0, .ref (q_b G + 139)), (1, .int v1), (3, .int x1)] [] (hS G s27) z 0 0 (yQv G z Q)) (fun H => ?_)) (fun H => ?_)
        · show xEx G mX12_readFunction 147 [(0, .ref (q_b G + 139)), (1, .int v1), (3, .int x1)] [] (hS G s27) z 0 0 (yQv G z Q)
          refine s_aload_n (nx := 148) hO rfl rfl rfl ?_
          refine s_getf (v := .ref (q_b G + 185)) (nx := 151) hO rfl rfl (hs_o12 kc139) rfl rfl ?_
          refine s_iload_n (nx := 152) hO rfl rfl rfl ?_
          refine s_aload_n (nx := 153) hO rfl rfl rfl ?_
          refine s_iconst (x := 1) (nx := 154) hO rfl (by decide) rfl ?_
          refine s_iconst (x := 0) (nx := 155) hO rfl (by decide) rfl ?_
          refine s_bipush (x := (nI 6)) (nx := 157) hO rfl (by decide) rfl ?_
          refine s_callV [.int 1, .int 0, .int (nI 6)] (ci := 12) (F := TX12) (N := 116) (nx := 160) hO rfl kX12_readFunction_529 (by rw [hcl]; rfl) (hs_o12 kc139) (w_X12_numberNext hG H) rfl rfl (Nat.le_of_ble_eq_true rfl) (Nat.zero_le _) (Nat.zero_le _) rfl (k_Qi (fun r29 s30 H => ?_))
          obtain ⟨b31, H⟩ := H
          refine goV (wI s30 185 (ix x1) r29) (fun s32 es32 => ?_)
          replace H := H s32 es32
          refine s_iast (nx := 161) hO rfl (hs_I kc185) b31 rfl ?_
          refine xEx.at (up_I kc185 es32) ?_
          refine s_iconst (x := 0) (nx := 162) hO rfl (by decide) rfl ?_
          refine goK (H (fun (x33 : Int32) (s34 : yS) => xEx G mX12_readFunction 164 [(0, .ref (q_b G + 139)), (1, .int v1), (3, .int x1), (4, .int x33)] [] (hS G s34) z 0 0 (yQv G z Q)) (fun x33 s34 H => ?_)) (fun H => ?_)
          · show xEx G mX12_readFunction 164 [(0, .ref (q_b G + 139)), (1, .int v1), (3, .int x1), (4, .int x33)] [] (hS G s34) z 0 0 (yQv G z Q)
            refine s_iload (nx := 166) hO rfl rfl rfl ?_
            refine s_aload_n (nx := 167) hO rfl rfl rfl ?_
            refine s_getf (v := .ref (q_b G + 185)) (nx := 170) hO rfl rfl (hs_o12 kc139) rfl rfl ?_
            refine s_iload_n (nx := 171) hO rfl rfl rfl ?_
            obtain ⟨b35, H⟩ := H
            refine s_iald (nx := 172) hO rfl (hs_I kc185) b35 rfl ?_
            refine s_icmp_ge (nx := 175) hO rfl rfl (fun c172 => ?_) (fun c172 => ?_)
            · replace H := H.1 c172
              exact s_vret hO rfl rfl ⟨rfl, _, rfl, rfl, H⟩
            · replace H := H.2 c172
              refine s_aload_n (nx := 176) hO rfl rfl rfl ?_
              refine s_getf (v := .int (sI s34 139 15)) (nx := 179) hO rfl rfl (hs_o12 kc139) rfl rfl ?_
              refine s_if_ne (nx := 182) hO rfl rfl (fun c179 => ?_) (fun c179 => ?_)
              · replace H := H.1 c179
                exact s_vret hO rfl rfl ⟨rfl, _, rfl, rfl, H⟩
              · replace H := H.2 c179
                refine s_sipush (x := (nI 144)) (nx := 185) hO rfl (by decide) rfl ?_
                refine s_bipush (x := (nI 6)) (nx := 187) hO rfl (by decide) rfl ?_
                refine s_iload_n (nx := 188) hO rfl rfl rfl ?_
                refine s_imul (nx := 189) hO rfl rfl ?_
                refine s_iadd (nx := 190) hO rfl rfl ?_
                refine s_iload (nx := 192) hO rfl rfl rfl ?_
                refine s_iadd (nx := 193) hO rfl rfl ?_
                refine goV ((((nI 144) + ((nI 6) * v1)) + x33)) (fun x36 ex36 => ?_)
                replace H := H x36 ex36
                refine e_istore (nx := 195) (l' := [(5, .int x36), (0, .ref (q_b G + 139)), (1, .int v1), (3, .int x1), (4, .int x33)]) ex36 hO rfl (by decide) rfl rfl ?_
                refine s_aload_n (nx := 196) hO rfl rfl rfl ?_
                refine s_getf (v := .ref (q_b G + 188)) (nx := 199) hO rfl rfl (hs_o12 kc139) rfl rfl ?_
                refine s_iload (nx := 201) hO rfl rfl rfl ?_
                refine s_aload_n (nx := 202) hO rfl rfl rfl ?_
                refine s_iconst (x := (nI 2)) (nx := 203) hO rfl (by decide) rfl ?_
                refine s_iconst (x := 0) (nx := 204) hO rfl (by decide) rfl ?_
                refine s_aload_n (nx := 205) hO rfl rfl rfl ?_
                refine s_getf (v := .ref (q_b G + 184)) (nx := 208) hO rfl rfl (hs_o12 kc139) rfl rfl ?_
                refine s_iload_n (nx := 209) hO rfl rfl rfl ?_
                obtain ⟨b37, H⟩ := H
                refine s_iald (nx := 210) hO rfl (hs_I kc184) b37 rfl ?_
                refine s_iconst (x := 1) (nx := 211) hO rfl (by decide) rfl ?_
                refine s_isub (nx := 212) hO rfl rfl ?_
                refine s_callV [.int (nI 2), .int 0, .int ((sI s34 184 (ix x1)) - 1)] (ci := 12) (F := TX12) (N := 116) (nx := 215) hO rfl kX12_readFunction_529 (by rw [hcl]; rfl) (hs_o12 kc139) (w_X12_numberNext hG H) rfl rfl (Nat.le_of_ble_eq_true rfl) (Nat.zero_le _) (Nat.zero_le _) rfl (k_Qi (fun r38 s39 H => ?_))
                obtain ⟨b40, H⟩ := H
                refine goV (wI s39 188 (ix x36) r38) (fun s41 es41 => ?_)
                replace H := H s41 es41
                refine s_iast (nx := 216) hO rfl (hs_I kc188) b40 rfl ?_
                refine xEx.at (up_I kc188 es41) ?_
                refine s_aload_n (nx := 217) hO rfl rfl rfl ?_
                refine s_getf (v := .ref (q_b G + 189)) (nx := 220) hO rfl rfl (hs_o12 kc139) rfl rfl ?_
                refine s_iload (nx := 222) hO rfl rfl rfl ?_
                refine s_aload_n (nx := 223) hO rfl rfl rfl ?_
                refine s_iconst (x := (nI 2)) (nx := 224) hO rfl (by decide) rfl ?_
                refine s_aload_n (nx := 225) hO rfl rfl rfl ?_
                refine s_getf (v := .ref (q_b G + 188)) (nx := 228) hO rfl rfl (hs_o12 kc139) rfl rfl ?_
                refine s_iload (nx := 230) hO rfl rfl rfl ?_
                obtain ⟨b42, H⟩ := H
                refine s_iald (nx := 231) hO rfl (hs_I kc188) b42 rfl ?_
                refine s_iconst (x := 1) (nx := 232) hO rfl (by decide) rfl ?_
                refine s_iadd (nx := 233) hO rfl rfl ?_
                refine s_aload_n (nx := 234) hO rfl rfl rfl ?_
                refine s_getf (v := .ref (q_b G + 184)) (nx := 237) hO rfl rfl (hs_o12 kc139) rfl rfl ?_
                refine s_iload_n (nx := 238) hO rfl rfl rfl ?_
                obtain ⟨b43, H⟩ := H
                refine s_iald (nx := 239) hO rfl (hs_I kc184) b43 rfl ?_
                refine s_callV [.int (nI 2), .int ((sI s41 188 (ix x36)) + 1), .int (sI s41 184 (ix x1))] (ci := 12) (F := TX12) (N := 116) (nx := 242) hO rfl kX12_readFunction_529 (by rw [hcl]; rfl) (hs_o12 kc139) (w_X12_numberNext hG H) rfl rfl (Nat.le_of_ble_eq_true rfl) (Nat.zero_le _) (Nat.zero_le _) rfl (k_Qi (fun r44 s45 H => ?_))
                obtain ⟨b46, H⟩ := H
                refine goV (wI s45 189 (ix x36) r44) (fun s47 es47 => ?_)
                replace H := H s47 es47
                refine s_iast (nx := 243) hO rfl (hs_I kc189) b46 rfl ?_
                refine xEx.at (up_I kc189 es47) ?_
                refine s_aload_n (nx := 244) hO rfl rfl rfl ?_
                refine s_getf (v := .ref (q_b G + 190)) (nx := 247) hO rfl rfl (hs_o12 kc139) rfl rfl ?_
                refine s_iload (nx := 249) hO rfl rfl rfl ?_
                refine s_aload_n (nx := 250) hO rfl rfl rfl ?_
                refine s_iconst (x := (nI 2)) (nx := 251) hO rfl (by decide) rfl ?_
                refine s_iconst (x := 0) (nx := 252) hO rfl (by decide) rfl ?_
                refine s_aload_n (nx := 253) hO rfl rfl rfl ?_
                refine s_getf (v := .ref (q_b G + 184)) (nx := 256) hO rfl rfl (hs_o12 kc139) rfl rfl ?_
                refine s_iload_n (nx := 257) hO rfl rfl rfl ?_
                obtain ⟨b48, H⟩ := H
                refine s_iald (nx := 258) hO rfl (hs_I kc184) b48 rfl ?_
                refine s_iconst (x := 1) (nx := 259) hO rfl (by decide) rfl ?_
                refine s_isub (nx := 260) hO rfl rfl ?_
                refine s_callV [.int (nI 2), .int 0, .int ((sI s47 184 (ix x1)) - 1)] (ci := 12) (F := TX12) (N := 116) (nx := 263) hO rfl kX12_readFunction_529 (by rw [hcl]; rfl) (hs_o12 kc139) (w_X12_numberNext hG H) rfl rfl (Nat.le_of_ble_eq_true rfl) (Nat.zero_le _) (Nat.zero_le _) rfl (k_Qi (fun r49 s50 H => ?_))
                obtain ⟨b51, H⟩ := H
                refine goV (wI s50 190 (ix x36) r49) (fun s52 es52 => ?_)
                replace H := H s52 es52
                refine s_iast (nx := 264) hO rfl (hs_I kc190) b51 rfl ?_
                refine xEx.at (up_I kc190 es52) ?_
                refine s_aload_n (nx := 265) hO rfl rfl rfl ?_
                refine s_getf (v := .ref (q_b G + 191)) (nx := 268) hO rfl rfl (hs_o12 kc139) rfl rfl ?_
                refine s_iload (nx := 270) hO rfl rfl rfl ?_
                refine s_aload_n (nx := 271) hO rfl rfl rfl ?_
                refine s_iconst (x := 1) (nx := 272) hO rfl (by decide) rfl ?_
                refine s_iconst (x := 0) (nx := 273) hO rfl (by decide) rfl ?_
                refine s_iconst (x := 1) (nx := 274) hO rfl (by decide) rfl ?_
                refine s_callV [.int 1, .int 0, .int 1] (ci := 12) (F := TX12) (N := 116) (nx := 277) hO rfl kX12_readFunction_529 (by rw [hcl]; rfl) (hs_o12 kc139) (w_X12_numberNext hG H) rfl rfl (Nat.le_of_ble_eq_true rfl) (Nat.zero_le _) (Nat.zero_le _) rfl (k_Qi (fun r53 s54 H => ?_))
                refine goK (H (fun (y55 : Int32) => xEx G mX12_readFunction 285 [(0, .ref (q_b G + 139)), (1, .int v1), (3, .int x1), (4, .int x33), (5, .int x36)] [.int y55, .int x36, .ref (q_b G + 191)] (hS G s54) z 0 0 (yQv G z Q)) (fun y55 H => ?_)) (fun H => ?_)
                · show xEx G mX12_readFunction 285 [(0, .ref (q_b G + 139)), (1, .int v1), (3, .int x1), (4, .int x33), (5, .int x36)] [.int y55, .int x36, .ref (q_b G + 191)] (hS G s54) z 0 0 (yQv G z Q)
                  obtain ⟨b56, H⟩ := H
                  refine goV (wI s54 191 (ix x36) (vp_nar .boolean y55)) (fun s57 es57 => ?_)
                  replace H := H s57 es57
                  refine s_zast (nx := 286) hO rfl (hs_Z kc191) b56 rfl ?_
                  refine xEx.at (up_Z kc191 es57) ?_
                  refine s_aload_n (nx := 287) hO rfl rfl rfl ?_
                  refine s_getf (v := .ref (q_b G + 192)) (nx := 290) hO rfl rfl (hs_o12 kc139) rfl rfl ?_
                  refine s_iload (nx := 292) hO rfl rfl rfl ?_
                  refine s_aload_n (nx := 293) hO rfl rfl rfl ?_
                  refine s_getf (v := .ref (q_b G + 191)) (nx := 296) hO rfl rfl (hs_o12 kc139) rfl rfl ?_
                  refine s_iload (nx := 298) hO rfl rfl rfl ?_
                  obtain ⟨b58, H⟩ := H
                  refine s_zald (nx := 299) hO rfl (hs_Z kc191) b58 rfl ?_
                  refine goK (H (fun (y59 : Int32) (s60 : yS) => xEx G mX12_readFunction 317 [(0, .ref (q_b G + 139)), (1, .int v1), (3, .int x1), (4, .int x33)] [.int y59, .int x36, .ref (q_b G + 192)] (hS G s60) z 0 0 (yQv G z Q)) (fun y59 s60 H => ?_)) (fun H => ?_)
                  · show xEx G mX12_readFunction 317 [(0, .ref (q_b G + 139)), (1, .int v1), (3, .int x1), (4, .int x33)] [.int y59, .int x36, .ref (q_b G + 192)] (hS G s60) z 0 0 (yQv G z Q)
                    obtain ⟨b61, H⟩ := H
                    refine goV (wI s60 192 (ix x36) y59) (fun s62 es62 => ?_)
                    replace H := H s62 es62
                    refine s_iast (nx := 318) hO rfl (hs_I kc192) b61 rfl ?_
                    refine xEx.at (up_I kc192 es62) ?_
                    refine goV ((x33 + 1)) (fun x63 ex63 => ?_)
                    replace H := H x63 ex63
                    refine e_iinc (nx := 321) (l' := [(4, .int x63), (0, .ref (q_b G + 139)), (1, .int v1), (3, .int x1)]) ex63 hO rfl (by decide) rfl rfl rfl rfl ?_
                    refine s_goto hO rfl ?_
                    exact xEx.loc (x_sub1 (List.Mem.tail _ (List.Mem.head _)) (x_sub1 (List.Mem.tail _ (List.Mem.tail _ (List.Mem.head _))) (x_sub1 (List.Mem.tail _ (List.Mem.tail _ (List.Mem.tail _ (List.Mem.head _)))) (x_sub1 (List.Mem.head _) x_sub0)))) H
                  refine s_if_eq (nx := 302) hO rfl rfl (fun c299 => ?_) (fun c299 => ?_)
                  · replace H := H.1 c299
                    refine s_aload_n (nx := 307) hO rfl rfl rfl ?_
                    refine s_iconst (x := (nI 4)) (nx := 308) hO rfl (by decide) rfl ?_
                    refine s_ldc_w (x := ((-2147483648))) (nx := 311) hO rfl rfl rfl ?_
                    refine s_ldc_w (x := ((2147483647))) (nx := 314) hO rfl rfl rfl ?_
                    refine s_callV [.int (nI 4), .int ((-2147483648)), .int ((2147483647))] (ci := 12) (F := TX12) (N := 116) (nx := 317) hO rfl kX12_readFunction_529 (by rw [hcl]; rfl) (hs_o12 kc139) (w_X12_numberNext hG H) rfl rfl (Nat.le_of_ble_eq_true rfl) (Nat.zero_le _) (Nat.zero_le _) rfl (k_Qi (fun r64 s65 H => ?_))
                    exact xEx.loc (x_sub1 (List.Mem.head _) (x_sub1 (List.Mem.tail _ (List.Mem.head _)) (x_sub1 (List.Mem.tail _ (List.Mem.tail _ (List.Mem.head _))) (x_sub1 (List.Mem.tail _ (List.Mem.tail _ (List.Mem.tail _ (List.Mem.head _)))) x_sub0)))) H
                  · replace H := H.2 c299
                    refine s_iconst (x := 0) (nx := 303) hO rfl (by decide) rfl ?_
                    refine s_goto hO rfl ?_
                    exact xEx.loc (x_sub1 (List.Mem.head _) (x_sub1 (List.Mem.tail _ (List.Mem.head _)) (x_sub1 (List.Mem.tail _ (List.Mem.tail _ (List.Mem.head _))) (x_sub1 (List.Mem.tail _ (List.Mem.tail _ (List.Mem.tail _ (List.Mem.head _)))) x_sub0)))) H
                refine s_if_ne (nx := 280) hO rfl rfl (fun c277 => ?_) (fun c277 => ?_)
                · replace H := H.1 c277
                  refine s_iconst (x := 0) (nx := 285) hO rfl (by decide) rfl ?_
                  exact xEx.loc (x_sub1 (List.Mem.tail _ (List.Mem.head _)) (x_sub1 (List.Mem.tail _ (List.Mem.tail _ (List.Mem.head _))) (x_sub1 (List.Mem.tail _ (List.Mem.tail _ (List.Mem.tail _ (List.Mem.head _)))) (x_sub1 (List.Mem.tail _ (List.Mem.tail _ (List.Mem.tail _ (List.Mem.tail _ (List.Mem.head _))))) (x_sub1 (List.Mem.head _) x_sub0))))) H
                · replace H := H.2 c277
                  refine s_iconst (x := 1) (nx := 281) hO rfl (by decide) rfl ?_
                  refine s_goto hO rfl ?_
                  exact xEx.loc (x_sub1 (List.Mem.tail _ (List.Mem.head _)) (x_sub1 (List.Mem.tail _ (List.Mem.tail _ (List.Mem.head _))) (x_sub1 (List.Mem.tail _ (List.Mem.tail _ (List.Mem.tail _ (List.Mem.head _)))) (x_sub1 (List.Mem.tail _ (List.Mem.tail _ (List.Mem.tail _ (List.Mem.tail _ (List.Mem.head _))))) (x_sub1 (List.Mem.head _) x_sub0))))) H
          refine s_istore (nx := 164) (l' := [(4, .int 0), (0, .ref (q_b G + 139)), (1, .int v1), (3, .int x1)]) hO rfl (by decide) rfl rfl ?_
          exact xEx.loc (x_sub1 (List.Mem.tail _ (List.Mem.head _)) (x_sub1 (List.Mem.tail _ (List.Mem.tail _ (List.Mem.head _))) (x_sub1 (List.Mem.tail _ (List.Mem.tail _ (List.Mem.tail _ (List.Mem.head _)))) (x_sub1 (List.Mem.head _) x_sub0)))) H
        refine s_icmp_ge (nx := 120) hO rfl rfl (fun c117 => ?_) (fun c117 => ?_)
        · replace H := H.1 c117
          exact xEx.loc (x_sub1 (List.Mem.head _) (x_sub1 (List.Mem.tail _ (List.Mem.head _)) (x_sub1 (List.Mem.tail _ (List.Mem.tail _ (List.Mem.tail _ (List.Mem.head _)))) x_sub0))) H
        · replace H := H.2 c117
          refine s_aload_n (nx := 121) hO rfl rfl rfl ?_
          refine s_getf (v := .int (sI s27 139 15)) (nx := 124) hO rfl rfl (hs_o12 kc139) rfl rfl ?_
          refine s_if_ne (nx := 127) hO rfl rfl (fun c124 => ?_) (fun c124 => ?_)
          · replace H := H.1 c124
            exact xEx.loc (x_sub1 (List.Mem.head _) (x_sub1 (List.Mem.tail _ (List.Mem.head _)) (x_sub1 (List.Mem.tail _ (List.Mem.tail _ (List.Mem.tail _ (List.Mem.head _)))) x_sub0))) H
          · replace H := H.2 c124
            refine s_aload_n (nx := 128) hO rfl rfl rfl ?_
            refine s_iload_n (nx := 129) hO rfl rfl rfl ?_
            refine s_iload (nx := 131) hO rfl rfl rfl ?_
            refine s_aload_n (nx := 132) hO rfl rfl rfl ?_
            refine s_getf (v := .ref (q_b G + 184)) (nx := 135) hO rfl rfl (hs_o12 kc139) rfl rfl ?_
            refine s_iload_n (nx := 136) hO rfl rfl rfl ?_
            obtain ⟨b66, H⟩ := H
            refine s_iald (nx := 137) hO rfl (hs_I kc184) b66 rfl ?_
            refine s_iload_n (nx := 138) hO rfl rfl rfl ?_
            refine s_callV [.int v1, .int x26, .int (sI s27 184 (ix x1)), .int v2] (ci := 12) (F := TX12) (N := 116) (nx := 141) hO rfl kX12_readFunction_533 (by rw [hcl]; rfl) (hs_o12 kc139) (w_X12_readInstruction hG H) rfl rfl (Nat.le_of_ble_eq_true rfl) (Nat.zero_le _) (Nat.zero_le _) rfl (k_Qv (fun s67 H => ?_))
            refine goV ((x26 + 1)) (fun x68 ex68 => ?_)
            replace H := H x68 ex68
            refine e_iinc (nx := 144) (l' := [(4, .int x68), (0, .ref (q_b G + 139)), (1, .int v1), (2, .int v2), (3, .int x1)]) ex68 hO rfl (by decide) rfl rfl rfl rfl ?_
            refine s_goto hO rfl ?_
            exact xEx.loc (x_sub1 (List.Mem.tail _ (List.Mem.head _)) (x_sub1 (List.Mem.tail _ (List.Mem.tail _ (List.Mem.head _))) (x_sub1 (List.Mem.tail _ (List.Mem.tail _ (List.Mem.tail _ (List.Mem.head _)))) (x_sub1 (List.Mem.tail _ (List.Mem.tail _ (List.Mem.tail _ (List.Mem.tail _ (List.Mem.head _))))) (x_sub1 (List.Mem.head _) x_sub0))))) H
      refine s_istore (nx := 109) (l' := [(4, .int 0), (0, .ref (q_b G + 139)), (1, .int v1), (2, .int v2), (3, .int x1)]) hO rfl (by decide) rfl rfl ?_
      exact xEx.loc (x_sub1 (List.Mem.tail _ (List.Mem.head _)) (x_sub1 (List.Mem.tail _ (List.Mem.tail _ (List.Mem.head _))) (x_sub1 (List.Mem.tail _ (List.Mem.tail _ (List.Mem.tail _ (List.Mem.head _)))) (x_sub1 (List.Mem.tail _ (List.Mem.tail _ (List.Mem.tail _ (List.Mem.tail _ (List.Mem.head _))))) (x_sub1 (List.Mem.head _) x_sub0))))) H
    refine s_if_ne (nx := 82) hO rfl rfl (fun c79 => ?_) (fun c79 => ?_)
    · replace H := H.1 c79
      refine s_iconst (x := (nI 2)) (nx := 87) hO rfl (by decide) rfl ?_
      exact xEx.loc (x_sub1 (List.Mem.head _) (x_sub1 (List.Mem.tail _ (List.Mem.head _)) (x_sub1 (List.Mem.tail _ (List.Mem.tail _ (List.Mem.head _))) (x_sub1 (List.Mem.tail _ (List.Mem.tail _ (List.Mem.tail _ (List.Mem.head _)))) x_sub0)))) H
    · replace H := H.2 c79
      refine s_iconst (x := 1) (nx := 83) hO rfl (by decide) rfl ?_
      refine s_goto hO rfl ?_
      exact xEx.loc (x_sub1 (List.Mem.head _) (x_sub1 (List.Mem.tail _ (List.Mem.head _)) (x_sub1 (List.Mem.tail _ (List.Mem.tail _ (List.Mem.head _))) (x_sub1 (List.Mem.tail _ (List.Mem.tail _ (List.Mem.tail _ (List.Mem.head _)))) x_sub0)))) H
  refine s_if_ne (nx := 17) hO rfl rfl (fun c14 => ?_) (fun c14 => ?_)
  · replace H := H.1 c14
    refine s_iconst (x := (nI 4)) (nx := 22) hO rfl (by decide) rfl ?_
    exact xEx.loc (x_sub1 (List.Mem.tail _ (List.Mem.head _)) (x_sub1 (List.Mem.tail _ (List.Mem.tail _ (List.Mem.head _))) (x_sub1 (List.Mem.tail _ (List.Mem.tail _ (List.Mem.tail _ (List.Mem.head _)))) (x_sub1 (List.Mem.head _) x_sub0)))) H
  · replace H := H.2 c14
    refine s_iconst (x := 0) (nx := 18) hO rfl (by decide) rfl ?_
    refine s_goto hO rfl ?_
    exact xEx.loc (x_sub1 (List.Mem.tail _ (List.Mem.head _)) (x_sub1 (List.Mem.tail _ (List.Mem.tail _ (List.Mem.head _))) (x_sub1 (List.Mem.tail _ (List.Mem.tail _ (List.Mem.tail _ (List.Mem.head _)))) (x_sub1 (List.Mem.head _) x_sub0)))) H
def W_X12_readProgram (s : yS) (Q : yS → Prop) : Prop :=
 ∀ s1 : yS, s1 = wI s 139 113 0 → 
 ∀ s2 : yS, s2 = wI s1 139 15 0 → 
 ∀ s3 : yS, s3 = wI s2 139 16 (-1) → 
 ∀ P17 : Int32 → yS → Prop, (∀ (x4 : Int32) (s5 : yS), ((((nI 3) ≤ x4 → W_X12_numberNext s5 1 1 (nI 12) 
   (fun r6 s7 => vp_in (nI 2) 3 ∧ ∀ s9 : yS, s9 = wI s7 178 (ix (nI 2)) r6 → 
   ∀ P86 : Int32 → yS → Prop, (∀ (x10 : Int32) (s11 : yS), (vp_in (nI 2) 3 ∧ 
    ∀ P120 : Prop, ((((¬ (sI s11 139 15) = 0 → Q s11)
     ∧ ((sI s11 139 15) = 0 → (((sI s11 139 2) ≤ (sI s11 139 113) → Q s11)
      ∧ (¬ (sI s11 139 2) ≤ (sI s11 139 113) → W_X12_wrong s11 (nI 4) (sI s11 139 113) 
       (fun s13 => Q s13)))))) → P120) → 
    (((sI s11 178 (ix (nI 2))) ≤ x10 → P120)
    ∧ (¬ (sI s11 178 (ix (nI 2))) ≤ x10 → ((¬ (sI s11 139 15) = 0 → P120)
     ∧ ((sI s11 139 15) = 0 → vp_in (nI 2) 3 ∧ 
      W_X12_readFunction s11 x10 (sI s11 178 (ix (nI 2))) 
      (fun s15 => ∀ x16 : Int32, x16 = (x10 + 1) → 
      P86 x16 s15)))))) → P86 x10 s11) → 
   P86 0 s9))
  ∧ (¬ (nI 3) ≤ x4 → W_X12_byteNext s5 
   (fun r17 s18 => ∀ P64 : yS → Prop, (∀ (s19 : yS), (∀ x20 : Int32, x20 = (x4 + 1) → 
    P17 x20 s19) → P64 s19) → 
   ((¬ (sI s18 139 15) = 0 → P64 s18)
   ∧ ((sI s18 139 15) = 0 → ∀ P55 : Int32 → Prop, (∀ (y21 : Int32), (((r17 = y21 → P64 s18)
     ∧ (¬ r17 = y21 → W_X12_wrong s18 (nI 2) x4 
      (fun s22 => P64 s22)))) → P55 y21) → 
    ((¬ x4 = 0 → ((¬ x4 = 1 → P55 1)
     ∧ (x4 = 1 → P55 (nI 70))))
    ∧ (x4 = 0 → P55 (nI 71))))))))) → P17 x4 s5) → 
 P17 0 s3
set_option maxRecDepth 100000 in
set_option maxHeartbeats 40000000 in
theorem w_X12_readProgram {G : xG} (hG : yG G) {z : Nat} {s : yS} {Q : yS → Prop} (H : W_X12_readProgram s Q) : xC G mX12_readProgram [.ref (q_b G + 139)] (hS G s) z 0 0 (yQv G z Q) := by
  have hW := hG.1
  have hcl := hG.2.1
  have hty := hG.2.2.1
  have hO : xO G mX12_readProgram tbX12_readProgram ptX12_readProgram := ⟨tkX12_readProgram, pkX12_readProgram hcl⟩
  unfold W_X12_readProgram at H
  refine xC.of hW (by decide) rfl (Nat.le_of_ble_eq_true rfl) ?_
  refine s_aload_n (nx := 1) hO rfl rfl rfl ?_
  refine s_iconst (x := 0) (nx := 2) hO rfl (by decide) rfl ?_
  refine goV (wI s 139 113 0) (fun s1 es1 => ?_)
  replace H := H s1 es1
  refine s_putf (nx := 5) hO rfl rfl (hs_o12 kc139) (Nat.le_of_ble_eq_true rfl) (by rw [hty]; rfl) (by rw [hty]; rfl) pX12_113 rfl ?_
  refine xEx.at (up_oI12 kc139 es1) ?_
  refine s_aload_n (nx := 6) hO rfl rfl rfl ?_
  refine s_iconst (x := 0) (nx := 7) hO rfl (by decide) rfl ?_
  refine goV (wI s1 139 15 0) (fun s2 es2 => ?_)
  replace H := H s2 es2
  refine s_putf (nx := 10) hO rfl rfl (hs_o12 kc139) (Nat.le_of_ble_eq_true rfl) (by rw [hty]; rfl) (by rw [hty]; rfl) pX12_15 rfl ?_
  refine xEx.at (up_oI12 kc139 es2) ?_
  refine s_aload_n (nx := 11) hO rfl rfl rfl ?_
  refine s_iconst (x := (-1)) (nx := 12) hO rfl (by decide) rfl ?_
  refine goV (wI s2 139 16 (-1)) (fun s3 es3 => ?_)
  replace H := H s3 es3
  refine s_putf (nx := 15) hO rfl rfl (hs_o12 kc139) (Nat.le_of_ble_eq_true rfl) (by rw [hty]; rfl) (by rw [hty]; rfl) pX12_16 rfl ?_
  refine xEx.at (up_oI12 kc139 es3) ?_
  refine s_iconst (x := 0) (nx := 16) hO rfl (by decide) rfl ?_
  refine goK (H (fun (x4 : Int32) (s5 : yS) => xEx G mX12_readProgram 17 [(0, .ref (q_b G + 139)), (1, .int x4)] [] (hS G s5) z 0 0 (yQv G z Q)) (fun x4 s5 H => ?_)) (fun H => ?_)
  · show xEx G mX12_readProgram 17 [(0, .ref (q_b G + 139)), (1, .int x4)] [] (hS G s5) z 0 0 (yQv G z Q)
    refine s_iload_n (nx := 18) hO rfl rfl rfl ?_
    refine s_iconst (x := (nI 3)) (nx := 19) hO rfl (by decide) rfl ?_
    refine s_icmp_ge (nx := 22) hO rfl rfl (fun c19 => ?_) (fun c19 => ?_)
    · replace H := H.1 c19
      refine s_aload_n (nx := 71) hO rfl rfl rfl ?_
      refine s_getf (v := .ref (q_b G + 178)) (nx := 74) hO rfl rfl (hs_o12 kc139) rfl rfl ?_
      refine s_iconst (x := (nI 2)) (nx := 75) hO rfl (by decide) rfl ?_
      refine s_aload_n (nx := 76) hO rfl rfl rfl ?_
      refine s_iconst (x := 1) (nx := 77) hO rfl (by decide) rfl ?_
      refine s_iconst (x := 1) (nx := 78) hO rfl (by decide) rfl ?_
      refine s_bipush (x := (nI 12)) (nx := 80) hO rfl (by decide) rfl ?_
      refine s_callV [.int 1, .int 1, .int (nI 12)] (ci := 12) (F := TX12) (N := 116) (nx := 83) hO rfl kX12_readProgram_529 (by rw [hcl]; rfl) (hs_o12 kc139) (w_X12_numberNext hG H) rfl rfl (Nat.le_of_ble_eq_true rfl) (Nat.zero_le _) (Nat.zero_le _) rfl (k_Qi (fun r6 s7 H => ?_))
      obtain ⟨b8, H⟩ := H
      refine goV (wI s7 178 (ix (nI 2)) r6) (fun s9 es9 => ?_)
      replace H := H s9 es9
      refine s_iast (nx := 84) hO rfl (hs_I kc178) b8 rfl ?_
      refine xEx.at (up_I kc178 es9) ?_
      refine s_iconst (x := 0) (nx := 85) hO rfl (by decide) rfl ?_
      refine goK (H (fun (x10 : Int32) (s11 : yS) => xEx G mX12_readProgram 86 [(0, .ref (q_b G + 139)), (1, .int x10)] [] (hS G s11) z 0 0 (yQv G z Q)) (fun x10 s11 H => ?_)) (fun H => ?_)
      · show xEx G mX12_readProgram 86 [(0, .ref (q_b G + 139)), (1, .int x10)] [] (hS G s11) z 0 0 (yQv G z Q)
        refine s_iload_n (nx := 87) hO rfl rfl rfl ?_
        refine s_aload_n (nx := 88) hO rfl rfl rfl ?_
        refine s_getf (v := .ref (q_b G + 178)) (nx := 91) hO rfl rfl (hs_o12 kc139) rfl rfl ?_
        refine s_iconst (x := (nI 2)) (nx := 92) hO rfl (by decide) rfl ?_
        obtain ⟨b12, H⟩ := H
        refine s_iald (nx := 93) hO rfl (hs_I kc178) b12 rfl ?_
        refine goK (H (xEx G mX12_readProgram 120 [(0, .ref (q_b G + 139))] [] (hS G s11) z 0 0 (yQv G z Q)) (fun H => ?_)) (fun H => ?_)
        · show xEx G mX12_readProgram 120 [(0, .ref (q_b G + 139))] [] (hS G s11) z 0 0 (yQv G z Q)
          refine s_aload_n (nx := 121) hO rfl rfl rfl ?_
          refine s_getf (v := .int (sI s11 139 15)) (nx := 124) hO rfl rfl (hs_o12 kc139) rfl rfl ?_
          refine s_if_ne (nx := 127) hO rfl rfl (fun c124 => ?_) (fun c124 => ?_)
          · replace H := H.1 c124
            exact s_vret hO rfl rfl ⟨rfl, _, rfl, rfl, H⟩
          · replace H := H.2 c124
            refine s_aload_n (nx := 128) hO rfl rfl rfl ?_
            refine s_getf (v := .int (sI s11 139 113)) (nx := 131) hO rfl rfl (hs_o12 kc139) rfl rfl ?_
            refine s_aload_n (nx := 132) hO rfl rfl rfl ?_
            refine s_getf (v := .int (sI s11 139 2)) (nx := 135) hO rfl rfl (hs_o12 kc139) rfl rfl ?_
            refine s_icmp_ge (nx := 138) hO rfl rfl (fun c135 => ?_) (fun c135 => ?_)
            · replace H := H.1 c135
              exact s_vret hO rfl rfl ⟨rfl, _, rfl, rfl, H⟩
            · replace H := H.2 c135
              refine s_aload_n (nx := 139) hO rfl rfl rfl ?_
              refine s_iconst (x := (nI 4)) (nx := 140) hO rfl (by decide) rfl ?_
              refine s_aload_n (nx := 141) hO rfl rfl rfl ?_
              refine s_getf (v := .int (sI s11 139 113)) (nx := 144) hO rfl rfl (hs_o12 kc139) rfl rfl ?_
              refine s_callV [.int (nI 4), .int (sI s11 139 113)] (ci := 12) (F := TX12) (N := 116) (nx := 147) hO rfl kX12_readProgram_303 (by rw [hcl]; rfl) (hs_o12 kc139) (w_X12_wrong hG H) rfl rfl (Nat.le_of_ble_eq_true rfl) (Nat.zero_le _) (Nat.zero_le _) rfl (k_Qv (fun s13 H => ?_))
              exact s_vret hO rfl rfl ⟨rfl, _, rfl, rfl, H⟩
        refine s_icmp_ge (nx := 96) hO rfl rfl (fun c93 => ?_) (fun c93 => ?_)
        · replace H := H.1 c93
          exact xEx.loc (x_sub1 (List.Mem.head _) x_sub0) H
        · replace H := H.2 c93
          refine s_aload_n (nx := 97) hO rfl rfl rfl ?_
          refine s_getf (v := .int (sI s11 139 15)) (nx := 100) hO rfl rfl (hs_o12 kc139) rfl rfl ?_
          refine s_if_ne (nx := 103) hO rfl rfl (fun c100 => ?_) (fun c100 => ?_)
          · replace H := H.1 c100
            exact xEx.loc (x_sub1 (List.Mem.head _) x_sub0) H
          · replace H := H.2 c100
            refine s_aload_n (nx := 104) hO rfl rfl rfl ?_
            refine s_iload_n (nx := 105) hO rfl rfl rfl ?_
            refine s_aload_n (nx := 106) hO rfl rfl rfl ?_
            refine s_getf (v := .ref (q_b G + 178)) (nx := 109) hO rfl rfl (hs_o12 kc139) rfl rfl ?_
            refine s_iconst (x := (nI 2)) (nx := 110) hO rfl (by decide) rfl ?_
            obtain ⟨b14, H⟩ := H
            refine s_iald (nx := 111) hO rfl (hs_I kc178) b14 rfl ?_
            refine s_callV [.int x10, .int (sI s11 178 (ix (nI 2)))] (ci := 12) (F := TX12) (N := 116) (nx := 114) hO rfl kX12_readProgram_537 (by rw [hcl]; rfl) (hs_o12 kc139) (w_X12_readFunction hG H) rfl rfl (Nat.le_of_ble_eq_true rfl) (Nat.zero_le _) (Nat.zero_le _) rfl (k_Qv (fun s15 H => ?_))
            refine goV ((x10 + 1)) (fun x16 ex16 => ?_)
            replace H := H x16 ex16
            refine e_iinc (nx := 117) (l' := [(1, .int x16), (0, .ref (q_b G + 139))]) ex16 hO rfl (by decide) rfl rfl rfl rfl ?_
            refine s_goto hO rfl ?_
            exact xEx.loc (x_sub1 (List.Mem.tail _ (List.Mem.head _)) (x_sub1 (List.Mem.head _) x_sub0)) H
      refine s_istore_n (nx := 86) (l' := [(1, .int 0), (0, .ref (q_b G + 139))]) hO rfl (by decide) rfl rfl ?_
      exact xEx.loc (x_sub1 (List.Mem.tail _ (List.Mem.head _)) (x_sub1 (List.Mem.head _) x_sub0)) H
    · replace H := H.2 c19
      refine s_aload_n (nx := 23) hO rfl rfl rfl ?_
      refine s_callV [] (ci := 12) (F := TX12) (N := 116) (nx := 26) hO rfl kX12_readProgram_526 (by rw [hcl]; rfl) (hs_o12 kc139) (w_X12_byteNext hG H) rfl rfl (Nat.le_of_ble_eq_true rfl) (Nat.zero_le _) (Nat.zero_le _) rfl (k_Qi (fun r17 s18 H => ?_))
      refine s_istore_n (nx := 27) (l' := [(2, .int r17), (0, .ref (q_b G + 139)), (1, .int x4)]) hO rfl (by decide) rfl rfl ?_
      refine s_aload_n (nx := 28) hO rfl rfl rfl ?_
      refine s_getf (v := .int (sI s18 139 15)) (nx := 31) hO rfl rfl (hs_o12 kc139) rfl rfl ?_
      refine goK (H (fun (s19 : yS) => xEx G mX12_readProgram 64 [(0, .ref (q_b G + 139)), (1, .int x4)] [] (hS G s19) z 0 0 (yQv G z Q)) (fun s19 H => ?_)) (fun H => ?_)
      · show xEx G mX12_readProgram 64 [(0, .ref (q_b G + 139)), (1, .int x4)] [] (hS G s19) z 0 0 (yQv G z Q)
        refine goV ((x4 + 1)) (fun x20 ex20 => ?_)
        replace H := H x20 ex20
        refine e_iinc (nx := 67) (l' := [(1, .int x20), (0, .ref (q_b G + 139))]) ex20 hO rfl (by decide) rfl rfl rfl rfl ?_
        refine s_goto hO rfl ?_
        exact xEx.loc (x_sub1 (List.Mem.tail _ (List.Mem.head _)) (x_sub1 (List.Mem.head _) x_sub0)) H
      refine s_if_ne (nx := 34) hO rfl rfl (fun c31 => ?_) (fun c31 => ?_)
      · replace H := H.1 c31
        exact xEx.loc (x_sub1 (List.Mem.tail _ (List.Mem.head _)) (x_sub1 (List.Mem.tail _ (List.Mem.tail _ (List.Mem.head _))) x_sub0)) H
      · replace H := H.2 c31
        refine s_iload_n (nx := 35) hO rfl rfl rfl ?_
        refine s_iload_n (nx := 36) hO rfl rfl rfl ?_
        refine goK (H (fun (y21 : Int32) => xEx G mX12_readProgram 55 [(0, .ref (q_b G + 139)), (1, .int x4)] [.int y21, .int r17] (hS G s18) z 0 0 (yQv G z Q)) (fun y21 H => ?_)) (fun H => ?_)
        · show xEx G mX12_readProgram 55 [(0, .ref (q_b G + 139)), (1, .int x4)] [.int y21, .int r17] (hS G s18) z 0 0 (yQv G z Q)
          refine s_icmp_eq (nx := 58) hO rfl rfl (fun c55 => ?_) (fun c55 => ?_)
          · replace H := H.1 c55
            exact xEx.loc (x_sub1 (List.Mem.head _) (x_sub1 (List.Mem.tail _ (List.Mem.head _)) x_sub0)) H
          · replace H := H.2 c55
            refine s_aload_n (nx := 59) hO rfl rfl rfl ?_
            refine s_iconst (x := (nI 2)) (nx := 60) hO rfl (by decide) rfl ?_
            refine s_iload_n (nx := 61) hO rfl rfl rfl ?_
            refine s_callV [.int (nI 2), .int x4] (ci := 12) (F := TX12) (N := 116) (nx := 64) hO rfl kX12_readProgram_303 (by rw [hcl]; rfl) (hs_o12 kc139) (w_X12_wrong hG H) rfl rfl (Nat.le_of_ble_eq_true rfl) (Nat.zero_le _) (Nat.zero_le _) rfl (k_Qv (fun s22 H => ?_))
            exact xEx.loc (x_sub1 (List.Mem.head _) (x_sub1 (List.Mem.tail _ (List.Mem.head _)) x_sub0)) H
        refine s_if_ne (nx := 39) hO rfl rfl (fun c36 => ?_) (fun c36 => ?_)
        · replace H := H.1 c36
          refine s_iload_n (nx := 45) hO rfl rfl rfl ?_
          refine s_iconst (x := 1) (nx := 46) hO rfl (by decide) rfl ?_
          refine s_icmp_ne (nx := 49) hO rfl rfl (fun c46 => ?_) (fun c46 => ?_)
          · replace H := H.1 c46
            refine s_iconst (x := 1) (nx := 55) hO rfl (by decide) rfl ?_
            exact xEx.loc (x_sub1 (List.Mem.tail _ (List.Mem.head _)) (x_sub1 (List.Mem.tail _ (List.Mem.tail _ (List.Mem.head _))) x_sub0)) H
          · replace H := H.2 c46
            refine s_bipush (x := (nI 70)) (nx := 51) hO rfl (by decide) rfl ?_
            refine s_goto hO rfl ?_
            exact xEx.loc (x_sub1 (List.Mem.tail _ (List.Mem.head _)) (x_sub1 (List.Mem.tail _ (List.Mem.tail _ (List.Mem.head _))) x_sub0)) H
        · replace H := H.2 c36
          refine s_bipush (x := (nI 71)) (nx := 41) hO rfl (by decide) rfl ?_
          refine s_goto hO rfl ?_
          exact xEx.loc (x_sub1 (List.Mem.tail _ (List.Mem.head _)) (x_sub1 (List.Mem.tail _ (List.Mem.tail _ (List.Mem.head _))) x_sub0)) H
  refine s_istore_n (nx := 17) (l' := [(1, .int 0), (0, .ref (q_b G + 139))]) hO rfl (by decide) rfl rfl ?_
  exact xEx.loc (x_sub1 (List.Mem.tail _ (List.Mem.head _)) (x_sub1 (List.Mem.head _) x_sub0)) H
def W_X12_copyProgram (s : yS) (v1 : Int32) (v2 : Int32) (Q : yS → Prop) : Prop :=
 vp_in v2 3 ∧ ∀ s2 : yS, s2 = wI s 177 (ix v2) (vp_nar .boolean 1) → 
 vp_in v1 3 ∧ 
 vp_in v2 3 ∧ ∀ s5 : yS, s5 = wI s2 178 (ix v2) (sI s2 178 (ix v1)) → 
 ∀ P21 : Int32 → yS → Prop, (∀ (x6 : Int32) (s7 : yS), ((((nI 12) ≤ x6 → ∀ P167 : Int32 → yS → Prop, (∀ (x8 : Int32) (s9 : yS), ((((nI 4800) ≤ x8 → ∀ P278 : Int32 → yS → Prop, (∀ (x10 : Int32) (s11 : yS), ((((nI 72) ≤ x10 → Q s11)
      ∧ (¬ (nI 72) ≤ x10 → vp_in (((nI 72) * v1) + x10) 216 ∧ 
       vp_in (((nI 72) * v2) + x10) 216 ∧ ∀ s14 : yS, s14 = wI s11 188 (ix (((nI 72) * v2) + x10)) (sI s11 188 (ix (((nI 72) * v1) + x10))) → 
       vp_in (((nI 72) * v1) + x10) 216 ∧ 
       vp_in (((nI 72) * v2) + x10) 216 ∧ ∀ s17 : yS, s17 = wI s14 189 (ix (((nI 72) * v2) + x10)) (sI s14 189 (ix (((nI 72) * v1) + x10))) → 
       vp_in (((nI 72) * v1) + x10) 216 ∧ 
       vp_in (((nI 72) * v2) + x10) 216 ∧ ∀ s20 : yS, s20 = wI s17 190 (ix (((nI 72) * v2) + x10)) (sI s17 190 (ix (((nI 72) * v1) + x10))) → 
       vp_in (((nI 72) * v1) + x10) 216 ∧ 
       vp_in (((nI 72) * v2) + x10) 216 ∧ ∀ s23 : yS, s23 = wI s20 191 (ix (((nI 72) * v2) + x10)) (vp_nar .boolean (sI s20 191 (ix (((nI 72) * v1) + x10)))) → 
       vp_in (((nI 72) * v1) + x10) 216 ∧ 
       vp_in (((nI 72) * v2) + x10) 216 ∧ ∀ s26 : yS, s26 = wI s23 192 (ix (((nI 72) * v2) + x10)) (sI s23 192 (ix (((nI 72) * v1) + x10))) → 
       ∀ x27 : Int32, x27 = (x10 + 1) → 
       P278 x27 s26))) → P278 x10 s11) → 
     P278 0 s9)
    ∧ (¬ (nI 4800) ≤ x8 → vp_in (((nI 4800) * v1) + x8) 14400 ∧ 
     vp_in (((nI 4800) * v2) + x8) 14400 ∧ ∀ s30 : yS, s30 = wI s9 186 (ix (((nI 4800) * v2) + x8)) (sI s9 186 (ix (((nI 4800) * v1) + x8))) → 
     vp_in (((nI 4800) * v1) + x8) 14400 ∧ 
     vp_in (((nI 4800) * v2) + x8) 14400 ∧ ∀ s33 : yS, s33 = wI s30 187 (ix (((nI 4800) * v2) + x8)) (sI s30 187 (ix (((nI 4800) * v1) + x8))) → 
     vp_in (((nI 4800) * v1) + x8) 14400 ∧ 
     vp_in (((nI 4800) * v2) + x8) 14400 ∧ ∀ s36 : yS, s36 = wI s33 193 (ix (((nI 4800) * v2) + x8)) (sI s33 193 (ix (((nI 4800) * v1) + x8))) → 
     vp_in (((nI 4800) * v1) + x8) 14400 ∧ 
     vp_in (((nI 4800) * v2) + x8) 14400 ∧ ∀ s39 : yS, s39 = wI s36 194 (ix (((nI 4800) * v2) + x8)) (sI s36 194 (ix (((nI 4800) * v1) + x8))) → 
     ∀ x40 : Int32, x40 = (x8 + 1) → 
     P167 x40 s39))) → P167 x8 s9) → 
   P167 0 s7)
  ∧ (¬ (nI 12) ≤ x6 → vp_in (((nI 12) * v1) + x6) 36 ∧ 
   vp_in (((nI 12) * v2) + x6) 36 ∧ ∀ s43 : yS, s43 = wI s7 179 (ix (((nI 12) * v2) + x6)) (sI s7 179 (ix (((nI 12) * v1) + x6))) → 
   vp_in (((nI 12) * v1) + x6) 36 ∧ 
   vp_in (((nI 12) * v2) + x6) 36 ∧ ∀ s46 : yS, s46 = wI s43 180 (ix (((nI 12) * v2) + x6)) (sI s43 180 (ix (((nI 12) * v1) + x6))) → 
   vp_in (((nI 12) * v1) + x6) 36 ∧ 
   vp_in (((nI 12) * v2) + x6) 36 ∧ ∀ s49 : yS, s49 = wI s46 181 (ix (((nI 12) * v2) + x6)) (sI s46 181 (ix (((nI 12) * v1) + x6))) → 
   vp_in (((nI 12) * v1) + x6) 36 ∧ 
   vp_in (((nI 12) * v2) + x6) 36 ∧ ∀ s52 : yS, s52 = wI s49 182 (ix (((nI 12) * v2) + x6)) (sI s49 182 (ix (((nI 12) * v1) + x6))) → 
   vp_in (((nI 12) * v1) + x6) 36 ∧ 
   vp_in (((nI 12) * v2) + x6) 36 ∧ ∀ s55 : yS, s55 = wI s52 184 (ix (((nI 12) * v2) + x6)) (sI s52 184 (ix (((nI 12) * v1) + x6))) → 
   vp_in (((nI 12) * v1) + x6) 36 ∧ 
   vp_in (((nI 12) * v2) + x6) 36 ∧ ∀ s58 : yS, s58 = wI s55 185 (ix (((nI 12) * v2) + x6)) (sI s55 185 (ix (((nI 12) * v1) + x6))) → 
   ∀ x59 : Int32, x59 = (x6 + 1) → 
   P21 x59 s58))) → P21 x6 s7) → 
 P21 0 s5
set_option maxRecDepth 100000 in
set_option maxHeartbeats 40000000 in
theorem w_X12_copyProgram {G : xG} (hG : yG G) {z : Nat} {s : yS} {v1 : Int32} {v2 : Int32} {Q : yS → Prop} (H : W_X12_copyProgram s v1 v2 Q) : xC G mX12_copyProgram [.ref (q_b G + 139), .int v1, .int v2] (hS G s) z 0 0 (yQv G z Q) := by
  have hW := hG.1
  have hcl := hG.2.1
  have hty := hG.2.2.1
  have hO : xO G mX12_copyProgram tbX12_copyProgram ptX12_copyProgram := ⟨tkX12_copyProgram, pkX12_copyProgram hcl⟩
  unfold W_X12_copyProgram at H
  refine xC.of hW (by decide) rfl (Nat.le_of_ble_eq_true rfl) ?_
  refine s_aload_n (nx := 1) hO rfl rfl rfl ?_
  refine s_getf (v := .ref (q_b G + 177)) (nx := 4) hO rfl rfl (hs_o12 kc139) rfl rfl ?_
  refine s_iload_n (nx := 5) hO rfl rfl rfl ?_
  refine s_iconst (x := 1) (nx := 6) hO rfl (by decide) rfl ?_
  obtain ⟨b1, H⟩ := H
  refine goV (wI s 177 (ix v2) (vp_nar .boolean 1)) (fun s2 es2 => ?_)
  replace H := H s2 es2
  refine s_zast (nx := 7) hO rfl (hs_Z kc177) b1 rfl ?_
  refine xEx.at (up_Z kc177 es2) ?_
  refine s_aload_n (nx := 8) hO rfl rfl rfl ?_
  refine s_getf (v := .ref (q_b G + 178)) (nx := 11) hO rfl rfl (hs_o12 kc139) rfl rfl ?_
  refine s_iload_n (nx := 12) hO rfl rfl rfl ?_
  refine s_aload_n (nx := 13) hO rfl rfl rfl ?_
  refine s_getf (v := .ref (q_b G + 178)) (nx := 16) hO rfl rfl (hs_o12 kc139) rfl rfl ?_
  refine s_iload_n (nx := 17) hO rfl rfl rfl ?_
  obtain ⟨b3, H⟩ := H
  refine s_iald (nx := 18) hO rfl (hs_I kc178) b3 rfl ?_
  obtain ⟨b4, H⟩ := H
  refine goV (wI s2 178 (ix v2) (sI s2 178 (ix v1))) (fun s5 es5 => ?_)
  replace H := H s5 es5
  refine s_iast (nx := 19) hO rfl (hs_I kc178) b4 rfl ?_
  refine xEx.at (up_I kc178 es5) ?_
  refine s_iconst (x := 0) (nx := 20) hO rfl (by decide) rfl ?_
  refine goK (H (fun (x6 : Int32) (s7 : yS) => xEx G mX12_copyProgram 21 [(0, .ref (q_b G + 139)), (1, .int v1), (2, .int v2), (3, .int x6)] [] (hS G s7) z 0 0 (yQv G z Q)) (fun x6 s7 H => ?_)) (fun H => ?_)
  · show xEx G mX12_copyProgram 21 [(0, .ref (q_b G + 139)), (1, .int v1), (2, .int v2), (3, .int x6)] [] (hS G s7) z 0 0 (yQv G z Q)
    refine s_iload_n (nx := 22) hO rfl rfl rfl ?_
    refine s_bipush (x := (nI 12)) (nx := 24) hO rfl (by decide) rfl ?_
    refine s_icmp_ge (nx := 27) hO rfl rfl (fun c24 => ?_) (fun c24 => ?_)
    · replace H := H.1 c24
      refine s_iconst (x := 0) (nx := 166) hO rfl (by decide) rfl ?_
      refine goK (H (fun (x8 : Int32) (s9 : yS) => xEx G mX12_copyProgram 167 [(0, .ref (q_b G + 139)), (1, .int v1), (2, .int v2), (3, .int x8)] [] (hS G s9) z 0 0 (yQv G z Q)) (fun x8 s9 H => ?_)) (fun H => ?_)
      · show xEx G mX12_copyProgram 167 [(0, .ref (q_b G + 139)), (1, .int v1), (2, .int v2), (3, .int x8)] [] (hS G s9) z 0 0 (yQv G z Q)
        refine s_iload_n (nx := 168) hO rfl rfl rfl ?_
        refine s_sipush (x := (nI 4800)) (nx := 171) hO rfl (by decide) rfl ?_
        refine s_icmp_ge (nx := 174) hO rfl rfl (fun c171 => ?_) (fun c171 => ?_)
        · replace H := H.1 c171
          refine s_iconst (x := 0) (nx := 277) hO rfl (by decide) rfl ?_
          refine goK (H (fun (x10 : Int32) (s11 : yS) => xEx G mX12_copyProgram 278 [(0, .ref (q_b G + 139)), (1, .int v1), (2, .int v2), (3, .int x10)] [] (hS G s11) z 0 0 (yQv G z Q)) (fun x10 s11 H => ?_)) (fun H => ?_)
          · show xEx G mX12_copyProgram 278 [(0, .ref (q_b G + 139)), (1, .int v1), (2, .int v2), (3, .int x10)] [] (hS G s11) z 0 0 (yQv G z Q)
            refine s_iload_n (nx := 279) hO rfl rfl rfl ?_
            refine s_bipush (x := (nI 72)) (nx := 281) hO rfl (by decide) rfl ?_
            refine s_icmp_ge (nx := 284) hO rfl rfl (fun c281 => ?_) (fun c281 => ?_)
            · replace H := H.1 c281
              exact s_vret hO rfl rfl ⟨rfl, _, rfl, rfl, H⟩
            · replace H := H.2 c281
              refine s_aload_n (nx := 285) hO rfl rfl rfl ?_
              refine s_getf (v := .ref (q_b G + 188)) (nx := 288) hO rfl rfl (hs_o12 kc139) rfl rfl ?_
              refine s_bipush (x := (nI 72)) (nx := 290) hO rfl (by decide) rfl ?_
              refine s_iload_n (nx := 291) hO rfl rfl rfl ?_
              refine s_imul (nx := 292) hO rfl rfl ?_
              refine s_iload_n (nx := 293) hO rfl rfl rfl ?_
              refine s_iadd (nx := 294) hO rfl rfl ?_
              refine s_aload_n (nx := 295) hO rfl rfl rfl ?_
              refine s_getf (v := .ref (q_b G + 188)) (nx := 298) hO rfl rfl (hs_o12 kc139) rfl rfl ?_
              refine s_bipush (x := (nI 72)) (nx := 300) hO rfl (by decide) rfl ?_
              refine s_iload_n (nx := 301) hO rfl rfl rfl ?_
              refine s_imul (nx := 302) hO rfl rfl ?_
              refine s_iload_n (nx := 303) hO rfl rfl rfl ?_
              refine s_iadd (nx := 304) hO rfl rfl ?_
              obtain ⟨b12, H⟩ := H
              refine s_iald (nx := 305) hO rfl (hs_I kc188) b12 rfl ?_
              obtain ⟨b13, H⟩ := H
              refine goV (wI s11 188 (ix (((nI 72) * v2) + x10)) (sI s11 188 (ix (((nI 72) * v1) + x10)))) (fun s14 es14 => ?_)
              replace H := H s14 es14
              refine s_iast (nx := 306) hO rfl (hs_I kc188) b13 rfl ?_
              refine xEx.at (up_I kc188 es14) ?_
              refine s_aload_n (nx := 307) hO rfl rfl rfl ?_
              refine s_getf (v := .ref (q_b G + 189)) (nx := 310) hO rfl rfl (hs_o12 kc139) rfl rfl ?_
              refine s_bipush (x := (nI 72)) (nx := 312) hO rfl (by decide) rfl ?_
              refine s_iload_n (nx := 313) hO rfl rfl rfl ?_
              refine s_imul (nx := 314) hO rfl rfl ?_
              refine s_iload_n (nx := 315) hO rfl rfl rfl ?_
              refine s_iadd (nx := 316) hO rfl rfl ?_
              refine s_aload_n (nx := 317) hO rfl rfl rfl ?_
              refine s_getf (v := .ref (q_b G + 189)) (nx := 320) hO rfl rfl (hs_o12 kc139) rfl rfl ?_
              refine s_bipush (x := (nI 72)) (nx := 322) hO rfl (by decide) rfl ?_
              refine s_iload_n (nx := 323) hO rfl rfl rfl ?_
              refine s_imul (nx := 324) hO rfl rfl ?_
              refine s_iload_n (nx := 325) hO rfl rfl rfl ?_
              refine s_iadd (nx := 326) hO rfl rfl ?_
              obtain ⟨b15, H⟩ := H
              refine s_iald (nx := 327) hO rfl (hs_I kc189) b15 rfl ?_
              obtain ⟨b16, H⟩ := H
              refine goV (wI s14 189 (ix (((nI 72) * v2) + x10)) (sI s14 189 (ix (((nI 72) * v1) + x10)))) (fun s17 es17 => ?_)
              replace H := H s17 es17
              refine s_iast (nx := 328) hO rfl (hs_I kc189) b16 rfl ?_
              refine xEx.at (up_I kc189 es17) ?_
              refine s_aload_n (nx := 329) hO rfl rfl rfl ?_
              refine s_getf (v := .ref (q_b G + 190)) (nx := 332) hO rfl rfl (hs_o12 kc139) rfl rfl ?_
              refine s_bipush (x := (nI 72)) (nx := 334) hO rfl (by decide) rfl ?_
              refine s_iload_n (nx := 335) hO rfl rfl rfl ?_
              refine s_imul (nx := 336) hO rfl rfl ?_
              refine s_iload_n (nx := 337) hO rfl rfl rfl ?_
              refine s_iadd (nx := 338) hO rfl rfl ?_
              refine s_aload_n (nx := 339) hO rfl rfl rfl ?_
              refine s_getf (v := .ref (q_b G + 190)) (nx := 342) hO rfl rfl (hs_o12 kc139) rfl rfl ?_
              refine s_bipush (x := (nI 72)) (nx := 344) hO rfl (by decide) rfl ?_
              refine s_iload_n (nx := 345) hO rfl rfl rfl ?_
              refine s_imul (nx := 346) hO rfl rfl ?_
              refine s_iload_n (nx := 347) hO rfl rfl rfl ?_
              refine s_iadd (nx := 348) hO rfl rfl ?_
              obtain ⟨b18, H⟩ := H
              refine s_iald (nx := 349) hO rfl (hs_I kc190) b18 rfl ?_
              obtain ⟨b19, H⟩ := H
              refine goV (wI s17 190 (ix (((nI 72) * v2) + x10)) (sI s17 190 (ix (((nI 72) * v1) + x10)))) (fun s20 es20 => ?_)
              replace H := H s20 es20
              refine s_iast (nx := 350) hO rfl (hs_I kc190) b19 rfl ?_
              refine xEx.at (up_I kc190 es20) ?_
              refine s_aload_n (nx := 351) hO rfl rfl rfl ?_
              refine s_getf (v := .ref (q_b G + 191)) (nx := 354) hO rfl rfl (hs_o12 kc139) rfl rfl ?_
              refine s_bipush (x := (nI 72)) (nx := 356) hO rfl (by decide) rfl ?_
              refine s_iload_n (nx := 357) hO rfl rfl rfl ?_
              refine s_imul (nx := 358) hO rfl rfl ?_
              refine s_iload_n (nx := 359) hO rfl rfl rfl ?_
              refine s_iadd (nx := 360) hO rfl rfl ?_
              refine s_aload_n (nx := 361) hO rfl rfl rfl ?_
              refine s_getf (v := .ref (q_b G + 191)) (nx := 364) hO rfl rfl (hs_o12 kc139) rfl rfl ?_
              refine s_bipush (x := (nI 72)) (nx := 366) hO rfl (by decide) rfl ?_
              refine s_iload_n (nx := 367) hO rfl rfl rfl ?_
              refine s_imul (nx := 368) hO rfl rfl ?_
              refine s_iload_n (nx := 369) hO rfl rfl rfl ?_
              refine s_iadd (nx := 370) hO rfl rfl ?_
              obtain ⟨b21, H⟩ := H
              refine s_zald (nx := 371) hO rfl (hs_Z kc191) b21 rfl ?_
              obtain ⟨b22, H⟩ := H
              refine goV (wI s20 191 (ix (((nI 72) * v2) + x10)) (vp_nar .boolean (sI s20 191 (ix (((nI 72) * v1) + x10))))) (fun s23 es23 => ?_)
              replace H := H s23 es23
              refine s_zast (nx := 372) hO rfl (hs_Z kc191) b22 rfl ?_
              refine xEx.at (up_Z kc191 es23) ?_
              refine s_aload_n (nx := 373) hO rfl rfl rfl ?_
              refine s_getf (v := .ref (q_b G + 192)) (nx := 376) hO rfl rfl (hs_o12 kc139) rfl rfl ?_
              refine s_bipush (x := (nI 72)) (nx := 378) hO rfl (by decide) rfl ?_
              refine s_iload_n (nx := 379) hO rfl rfl rfl ?_
              refine s_imul (nx := 380) hO rfl rfl ?_
              refine s_iload_n (nx := 381) hO rfl rfl rfl ?_
              refine s_iadd (nx := 382) hO rfl rfl ?_
              refine s_aload_n (nx := 383) hO rfl rfl rfl ?_
              refine s_getf (v := .ref (q_b G + 192)) (nx := 386) hO rfl rfl (hs_o12 kc139) rfl rfl ?_
              refine s_bipush (x := (nI 72)) (nx := 388) hO rfl (by decide) rfl ?_
              refine s_iload_n (nx := 389) hO rfl rfl rfl ?_
              refine s_imul (nx := 390) hO rfl rfl ?_
              refine s_iload_n (nx := 391) hO rfl rfl rfl ?_
              refine s_iadd (nx := 392) hO rfl rfl ?_
              obtain ⟨b24, H⟩ := H
              refine s_iald (nx := 393) hO rfl (hs_I kc192) b24 rfl ?_
              obtain ⟨b25, H⟩ := H
              refine goV (wI s23 192 (ix (((nI 72) * v2) + x10)) (sI s23 192 (ix (((nI 72) * v1) + x10)))) (fun s26 es26 => ?_)
              replace H := H s26 es26
              refine s_iast (nx := 394) hO rfl (hs_I kc192) b25 rfl ?_
              refine xEx.at (up_I kc192 es26) ?_
              refine goV ((x10 + 1)) (fun x27 ex27 => ?_)
              replace H := H x27 ex27
              refine e_iinc (nx := 397) (l' := [(3, .int x27), (0, .ref (q_b G + 139)), (1, .int v1), (2, .int v2)]) ex27 hO rfl (by decide) rfl rfl rfl rfl ?_
              refine s_goto hO rfl ?_
              exact xEx.loc (x_sub1 (List.Mem.tail _ (List.Mem.head _)) (x_sub1 (List.Mem.tail _ (List.Mem.tail _ (List.Mem.head _))) (x_sub1 (List.Mem.tail _ (List.Mem.tail _ (List.Mem.tail _ (List.Mem.head _)))) (x_sub1 (List.Mem.head _) x_sub0)))) H
          refine s_istore_n (nx := 278) (l' := [(3, .int 0), (0, .ref (q_b G + 139)), (1, .int v1), (2, .int v2)]) hO rfl (by decide) rfl rfl ?_
          exact xEx.loc (x_sub1 (List.Mem.tail _ (List.Mem.head _)) (x_sub1 (List.Mem.tail _ (List.Mem.tail _ (List.Mem.head _))) (x_sub1 (List.Mem.tail _ (List.Mem.tail _ (List.Mem.tail _ (List.Mem.head _)))) (x_sub1 (List.Mem.head _) x_sub0)))) H
        · replace H := H.2 c171
          refine s_aload_n (nx := 175) hO rfl rfl rfl ?_
          refine s_getf (v := .ref (q_b G + 186)) (nx := 178) hO rfl rfl (hs_o12 kc139) rfl rfl ?_
          refine s_sipush (x := (nI 4800)) (nx := 181) hO rfl (by decide) rfl ?_
          refine s_iload_n (nx := 182) hO rfl rfl rfl ?_
          refine s_imul (nx := 183) hO rfl rfl ?_
          refine s_iload_n (nx := 184) hO rfl rfl rfl ?_
          refine s_iadd (nx := 185) hO rfl rfl ?_
          refine s_aload_n (nx := 186) hO rfl rfl rfl ?_
          refine s_getf (v := .ref (q_b G + 186)) (nx := 189) hO rfl rfl (hs_o12 kc139) rfl rfl ?_
          refine s_sipush (x := (nI 4800)) (nx := 192) hO rfl (by decide) rfl ?_
          refine s_iload_n (nx := 193) hO rfl rfl rfl ?_
          refine s_imul (nx := 194) hO rfl rfl ?_
          refine s_iload_n (nx := 195) hO rfl rfl rfl ?_
          refine s_iadd (nx := 196) hO rfl rfl ?_
          obtain ⟨b28, H⟩ := H
          refine s_iald (nx := 197) hO rfl (hs_I kc186) b28 rfl ?_
          obtain ⟨b29, H⟩ := H
          refine goV (wI s9 186 (ix (((nI 4800) * v2) + x8)) (sI s9 186 (ix (((nI 4800) * v1) + x8)))) (fun s30 es30 => ?_)
          replace H := H s30 es30
          refine s_iast (nx := 198) hO rfl (hs_I kc186) b29 rfl ?_
          refine xEx.at (up_I kc186 es30) ?_
          refine s_aload_n (nx := 199) hO rfl rfl rfl ?_
          refine s_getf (v := .ref (q_b G + 187)) (nx := 202) hO rfl rfl (hs_o12 kc139) rfl rfl ?_
          refine s_sipush (x := (nI 4800)) (nx := 205) hO rfl (by decide) rfl ?_
          refine s_iload_n (nx := 206) hO rfl rfl rfl ?_
          refine s_imul (nx := 207) hO rfl rfl ?_
          refine s_iload_n (nx := 208) hO rfl rfl rfl ?_
          refine s_iadd (nx := 209) hO rfl rfl ?_
          refine s_aload_n (nx := 210) hO rfl rfl rfl ?_
          refine s_getf (v := .ref (q_b G + 187)) (nx := 213) hO rfl rfl (hs_o12 kc139) rfl rfl ?_
          refine s_sipush (x := (nI 4800)) (nx := 216) hO rfl (by decide) rfl ?_
          refine s_iload_n (nx := 217) hO rfl rfl rfl ?_
          refine s_imul (nx := 218) hO rfl rfl ?_
          refine s_iload_n (nx := 219) hO rfl rfl rfl ?_
          refine s_iadd (nx := 220) hO rfl rfl ?_
          obtain ⟨b31, H⟩ := H
          refine s_iald (nx := 221) hO rfl (hs_I kc187) b31 rfl ?_
          obtain ⟨b32, H⟩ := H
          refine goV (wI s30 187 (ix (((nI 4800) * v2) + x8)) (sI s30 187 (ix (((nI 4800) * v1) + x8)))) (fun s33 es33 => ?_)
          replace H := H s33 es33
          refine s_iast (nx := 222) hO rfl (hs_I kc187) b32 rfl ?_
          refine xEx.at (up_I kc187 es33) ?_
          refine s_aload_n (nx := 223) hO rfl rfl rfl ?_
          refine s_getf (v := .ref (q_b G + 193)) (nx := 226) hO rfl rfl (hs_o12 kc139) rfl rfl ?_
          refine s_sipush (x := (nI 4800)) (nx := 229) hO rfl (by decide) rfl ?_
          refine s_iload_n (nx := 230) hO rfl rfl rfl ?_
          refine s_imul (nx := 231) hO rfl rfl ?_
          refine s_iload_n (nx := 232) hO rfl rfl rfl ?_
          refine s_iadd (nx := 233) hO rfl rfl ?_
          refine s_aload_n (nx := 234) hO rfl rfl rfl ?_
          refine s_getf (v := .ref (q_b G + 193)) (nx := 237) hO rfl rfl (hs_o12 kc139) rfl rfl ?_
          refine s_sipush (x := (nI 4800)) (nx := 240) hO rfl (by decide) rfl ?_
          refine s_iload_n (nx := 241) hO rfl rfl rfl ?_
          refine s_imul (nx := 242) hO rfl rfl ?_
          refine s_iload_n (nx := 243) hO rfl rfl rfl ?_
          refine s_iadd (nx := 244) hO rfl rfl ?_
          obtain ⟨b34, H⟩ := H
          refine s_iald (nx := 245) hO rfl (hs_I kc193) b34 rfl ?_
          obtain ⟨b35, H⟩ := H
          refine goV (wI s33 193 (ix (((nI 4800) * v2) + x8)) (sI s33 193 (ix (((nI 4800) * v1) + x8)))) (fun s36 es36 => ?_)
          replace H := H s36 es36
          refine s_iast (nx := 246) hO rfl (hs_I kc193) b35 rfl ?_
          refine xEx.at (up_I kc193 es36) ?_
          refine s_aload_n (nx := 247) hO rfl rfl rfl ?_
          refine s_getf (v := .ref (q_b G + 194)) (nx := 250) hO rfl rfl (hs_o12 kc139) rfl rfl ?_
          refine s_sipush (x := (nI 4800)) (nx := 253) hO rfl (by decide) rfl ?_
          refine s_iload_n (nx := 254) hO rfl rfl rfl ?_
          refine s_imul (nx := 255) hO rfl rfl ?_
          refine s_iload_n (nx := 256) hO rfl rfl rfl ?_
          refine s_iadd (nx := 257) hO rfl rfl ?_
          refine s_aload_n (nx := 258) hO rfl rfl rfl ?_
          refine s_getf (v := .ref (q_b G + 194)) (nx := 261) hO rfl rfl (hs_o12 kc139) rfl rfl ?_
          refine s_sipush (x := (nI 4800)) (nx := 264) hO rfl (by decide) rfl ?_
          refine s_iload_n (nx := 265) hO rfl rfl rfl ?_
          refine s_imul (nx := 266) hO rfl rfl ?_
          refine s_iload_n (nx := 267) hO rfl rfl rfl ?_
          refine s_iadd (nx := 268) hO rfl rfl ?_
          obtain ⟨b37, H⟩ := H
          refine s_iald (nx := 269) hO rfl (hs_I kc194) b37 rfl ?_
          obtain ⟨b38, H⟩ := H
          refine goV (wI s36 194 (ix (((nI 4800) * v2) + x8)) (sI s36 194 (ix (((nI 4800) * v1) + x8)))) (fun s39 es39 => ?_)
          replace H := H s39 es39
          refine s_iast (nx := 270) hO rfl (hs_I kc194) b38 rfl ?_
          refine xEx.at (up_I kc194 es39) ?_
          refine goV ((x8 + 1)) (fun x40 ex40 => ?_)
          replace H := H x40 ex40
          refine e_iinc (nx := 273) (l' := [(3, .int x40), (0, .ref (q_b G + 139)), (1, .int v1), (2, .int v2)]) ex40 hO rfl (by decide) rfl rfl rfl rfl ?_
          refine s_goto hO rfl ?_
          exact xEx.loc (x_sub1 (List.Mem.tail _ (List.Mem.head _)) (x_sub1 (List.Mem.tail _ (List.Mem.tail _ (List.Mem.head _))) (x_sub1 (List.Mem.tail _ (List.Mem.tail _ (List.Mem.tail _ (List.Mem.head _)))) (x_sub1 (List.Mem.head _) x_sub0)))) H
      refine s_istore_n (nx := 167) (l' := [(3, .int 0), (0, .ref (q_b G + 139)), (1, .int v1), (2, .int v2)]) hO rfl (by decide) rfl rfl ?_
      exact xEx.loc (x_sub1 (List.Mem.tail _ (List.Mem.head _)) (x_sub1 (List.Mem.tail _ (List.Mem.tail _ (List.Mem.head _))) (x_sub1 (List.Mem.tail _ (List.Mem.tail _ (List.Mem.tail _ (List.Mem.head _)))) (x_sub1 (List.Mem.head _) x_sub0)))) H
    · replace H := H.2 c24
      refine s_aload_n (nx := 28) hO rfl rfl rfl ?_
      refine s_getf (v := .ref (q_b G + 179)) (nx := 31) hO rfl rfl (hs_o12 kc139) rfl rfl ?_
      refine s_bipush (x := (nI 12)) (nx := 33) hO rfl (by decide) rfl ?_
      refine s_iload_n (nx := 34) hO rfl rfl rfl ?_
      refine s_imul (nx := 35) hO rfl rfl ?_
      refine s_iload_n (nx := 36) hO rfl rfl rfl ?_
      refine s_iadd (nx := 37) hO rfl rfl ?_
      refine s_aload_n (nx := 38) hO rfl rfl rfl ?_
      refine s_getf (v := .ref (q_b G + 179)) (nx := 41) hO rfl rfl (hs_o12 kc139) rfl rfl ?_
      refine s_bipush (x := (nI 12)) (nx := 43) hO rfl (by decide) rfl ?_
      refine s_iload_n (nx := 44) hO rfl rfl rfl ?_
      refine s_imul (nx := 45) hO rfl rfl ?_
      refine s_iload_n (nx := 46) hO rfl rfl rfl ?_
      refine s_iadd (nx := 47) hO rfl rfl ?_
      obtain ⟨b41, H⟩ := H
      refine s_iald (nx := 48) hO rfl (hs_I kc179) b41 rfl ?_
      obtain ⟨b42, H⟩ := H
      refine goV (wI s7 179 (ix (((nI 12) * v2) + x6)) (sI s7 179 (ix (((nI 12) * v1) + x6)))) (fun s43 es43 => ?_)
      replace H := H s43 es43
      refine s_iast (nx := 49) hO rfl (hs_I kc179) b42 rfl ?_
      refine xEx.at (up_I kc179 es43) ?_
      refine s_aload_n (nx := 50) hO rfl rfl rfl ?_
      refine s_getf (v := .ref (q_b G + 180)) (nx := 53) hO rfl rfl (hs_o12 kc139) rfl rfl ?_
      refine s_bipush (x := (nI 12)) (nx := 55) hO rfl (by decide) rfl ?_
      refine s_iload_n (nx := 56) hO rfl rfl rfl ?_
      refine s_imul (nx := 57) hO rfl rfl ?_
      refine s_iload_n (nx := 58) hO rfl rfl rfl ?_
      refine s_iadd (nx := 59) hO rfl rfl ?_
      refine s_aload_n (nx := 60) hO rfl rfl rfl ?_
      refine s_getf (v := .ref (q_b G + 180)) (nx := 63) hO rfl rfl (hs_o12 kc139) rfl rfl ?_
      refine s_bipush (x := (nI 12)) (nx := 65) hO rfl (by decide) rfl ?_
      refine s_iload_n (nx := 66) hO rfl rfl rfl ?_
      refine s_imul (nx := 67) hO rfl rfl ?_
      refine s_iload_n (nx := 68) hO rfl rfl rfl ?_
      refine s_iadd (nx := 69) hO rfl rfl ?_
      obtain ⟨b44, H⟩ := H
      refine s_iald (nx := 70) hO rfl (hs_I kc180) b44 rfl ?_
      obtain ⟨b45, H⟩ := H
      refine goV (wI s43 180 (ix (((nI 12) * v2) + x6)) (sI s43 180 (ix (((nI 12) * v1) + x6)))) (fun s46 es46 => ?_)
      replace H := H s46 es46
      refine s_iast (nx := 71) hO rfl (hs_I kc180) b45 rfl ?_
      refine xEx.at (up_I kc180 es46) ?_
      refine s_aload_n (nx := 72) hO rfl rfl rfl ?_
      refine s_getf (v := .ref (q_b G + 181)) (nx := 75) hO rfl rfl (hs_o12 kc139) rfl rfl ?_
      refine s_bipush (x := (nI 12)) (nx := 77) hO rfl (by decide) rfl ?_
      refine s_iload_n (nx := 78) hO rfl rfl rfl ?_
      refine s_imul (nx := 79) hO rfl rfl ?_
      refine s_iload_n (nx := 80) hO rfl rfl rfl ?_
      refine s_iadd (nx := 81) hO rfl rfl ?_
      refine s_aload_n (nx := 82) hO rfl rfl rfl ?_
      refine s_getf (v := .ref (q_b G + 181)) (nx := 85) hO rfl rfl (hs_o12 kc139) rfl rfl ?_
      refine s_bipush (x := (nI 12)) (nx := 87) hO rfl (by decide) rfl ?_
      refine s_iload_n (nx := 88) hO rfl rfl rfl ?_
      refine s_imul (nx := 89) hO rfl rfl ?_
      refine s_iload_n (nx := 90) hO rfl rfl rfl ?_
      refine s_iadd (nx := 91) hO rfl rfl ?_
      obtain ⟨b47, H⟩ := H
      refine s_iald (nx := 92) hO rfl (hs_I kc181) b47 rfl ?_
      obtain ⟨b48, H⟩ := H
      refine goV (wI s46 181 (ix (((nI 12) * v2) + x6)) (sI s46 181 (ix (((nI 12) * v1) + x6)))) (fun s49 es49 => ?_)
      replace H := H s49 es49
      refine s_iast (nx := 93) hO rfl (hs_I kc181) b48 rfl ?_
      refine xEx.at (up_I kc181 es49) ?_
      refine s_aload_n (nx := 94) hO rfl rfl rfl ?_
      refine s_getf (v := .ref (q_b G + 182)) (nx := 97) hO rfl rfl (hs_o12 kc139) rfl rfl ?_
      refine s_bipush (x := (nI 12)) (nx := 99) hO rfl (by decide) rfl ?_
      refine s_iload_n (nx := 100) hO rfl rfl rfl ?_
      refine s_imul (nx := 101) hO rfl rfl ?_
      refine s_iload_n (nx := 102) hO rfl rfl rfl ?_
      refine s_iadd (nx := 103) hO rfl rfl ?_
      refine s_aload_n (nx := 104) hO rfl rfl rfl ?_
      refine s_getf (v := .ref (q_b G + 182)) (nx := 107) hO rfl rfl (hs_o12 kc139) rfl rfl ?_
      refine s_bipush (x := (nI 12)) (nx := 109) hO rfl (by decide) rfl ?_
      refine s_iload_n (nx := 110) hO rfl rfl rfl ?_
      refine s_imul (nx := 111) hO rfl rfl ?_
      refine s_iload_n (nx := 112) hO rfl rfl rfl ?_
      refine s_iadd (nx := 113) hO rfl rfl ?_
      obtain ⟨b50, H⟩ := H
      refine s_iald (nx := 114) hO rfl (hs_I kc182) b50 rfl ?_
      obtain ⟨b51, H⟩ := H
      refine goV (wI s49 182 (ix (((nI 12) * v2) + x6)) (sI s49 182 (ix (((nI 12) * v1) + x6)))) (fun s52 es52 => ?_)
      replace H := H s52 es52
      refine s_iast (nx := 115) hO rfl (hs_I kc182) b51 rfl ?_
      refine xEx.at (up_I kc182 es52) ?_
      refine s_aload_n (nx := 116) hO rfl rfl rfl ?_
      refine s_getf (v := .ref (q_b G + 184)) (nx := 119) hO rfl rfl (hs_o12 kc139) rfl rfl ?_
      refine s_bipush (x := (nI 12)) (nx := 121) hO rfl (by decide) rfl ?_
      refine s_iload_n (nx := 122) hO rfl rfl rfl ?_
      refine s_imul (nx := 123) hO rfl rfl ?_
      refine s_iload_n (nx := 124) hO rfl rfl rfl ?_
      refine s_iadd (nx := 125) hO rfl rfl ?_
      refine s_aload_n (nx := 126) hO rfl rfl rfl ?_
      refine s_getf (v := .ref (q_b G + 184)) (nx := 129) hO rfl rfl (hs_o12 kc139) rfl rfl ?_
      refine s_bipush (x := (nI 12)) (nx := 131) hO rfl (by decide) rfl ?_
      refine s_iload_n (nx := 132) hO rfl rfl rfl ?_
      refine s_imul (nx := 133) hO rfl rfl ?_
      refine s_iload_n (nx := 134) hO rfl rfl rfl ?_
      refine s_iadd (nx := 135) hO rfl rfl ?_
      obtain ⟨b53, H⟩ := H
      refine s_iald (nx := 136) hO rfl (hs_I kc184) b53 rfl ?_
      obtain ⟨b54, H⟩ := H
      refine goV (wI s52 184 (ix (((nI 12) * v2) + x6)) (sI s52 184 (ix (((nI 12) * v1) + x6)))) (fun s55 es55 => ?_)
      replace H := H s55 es55
      refine s_iast (nx := 137) hO rfl (hs_I kc184) b54 rfl ?_
      refine xEx.at (up_I kc184 es55) ?_
      refine s_aload_n (nx := 138) hO rfl rfl rfl ?_
      refine s_getf (v := .ref (q_b G + 185)) (nx := 141) hO rfl rfl (hs_o12 kc139) rfl rfl ?_
      refine s_bipush (x := (nI 12)) (nx := 143) hO rfl (by decide) rfl ?_
      refine s_iload_n (nx := 144) hO rfl rfl rfl ?_
      refine s_imul (nx := 145) hO rfl rfl ?_
      refine s_iload_n (nx := 146) hO rfl rfl rfl ?_
      refine s_iadd (nx := 147) hO rfl rfl ?_
      refine s_aload_n (nx := 148) hO rfl rfl rfl ?_
      refine s_getf (v := .ref (q_b G + 185)) (nx := 151) hO rfl rfl (hs_o12 kc139) rfl rfl ?_
      refine s_bipush (x := (nI 12)) (nx := 153) hO rfl (by decide) rfl ?_
      refine s_iload_n (nx := 154) hO rfl rfl rfl ?_
      refine s_imul (nx := 155) hO rfl rfl ?_
      refine s_iload_n (nx := 156) hO rfl rfl rfl ?_
      refine s_iadd (nx := 157) hO rfl rfl ?_
      obtain ⟨b56, H⟩ := H
      refine s_iald (nx := 158) hO rfl (hs_I kc185) b56 rfl ?_
      obtain ⟨b57, H⟩ := H
      refine goV (wI s55 185 (ix (((nI 12) * v2) + x6)) (sI s55 185 (ix (((nI 12) * v1) + x6)))) (fun s58 es58 => ?_)
      replace H := H s58 es58
      refine s_iast (nx := 159) hO rfl (hs_I kc185) b57 rfl ?_
      refine xEx.at (up_I kc185 es58) ?_
      refine goV ((x6 + 1)) (fun x59 ex59 => ?_)
      replace H := H x59 ex59
      refine e_iinc (nx := 162) (l' := [(3, .int x59), (0, .ref (q_b G + 139)), (1, .int v1), (2, .int v2)]) ex59 hO rfl (by decide) rfl rfl rfl rfl ?_
      refine s_goto hO rfl ?_
      exact xEx.loc (x_sub1 (List.Mem.tail _ (List.Mem.head _)) (x_sub1 (List.Mem.tail _ (List.Mem.tail _ (List.Mem.head _))) (x_sub1 (List.Mem.tail _ (List.Mem.tail _ (List.Mem.tail _ (List.Mem.head _)))) (x_sub1 (List.Mem.head _) x_sub0)))) H
  refine s_istore_n (nx := 21) (l' := [(3, .int 0), (0, .ref (q_b G + 139)), (1, .int v1), (2, .int v2)]) hO rfl (by decide) rfl rfl ?_
  exact xEx.loc (x_sub1 (List.Mem.tail _ (List.Mem.head _)) (x_sub1 (List.Mem.tail _ (List.Mem.tail _ (List.Mem.head _))) (x_sub1 (List.Mem.tail _ (List.Mem.tail _ (List.Mem.tail _ (List.Mem.head _)))) (x_sub1 (List.Mem.head _) x_sub0)))) H

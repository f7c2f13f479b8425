def W_X12_behind (s : yS) (v1 : Int32) (Q : Int32 → Prop) : Prop :=
 ((¬ v1 = 0 → ∀ P24 : Prop, ((((v1 = (nI 4) → Q 1)
   ∧ (¬ v1 = (nI 4) → ((v1 = (nI 5) → Q 1)
    ∧ (¬ v1 = (nI 5) → ((v1 = (nI 25) → Q 1)
     ∧ (¬ v1 = (nI 25) → ((v1 = (nI 26) → Q 1)
      ∧ (¬ v1 = (nI 26) → ((¬ v1 = (nI 29) → Q 0)
       ∧ (v1 = (nI 29) → Q 1))))))))))) → P24) → 
  ((v1 ≤ (nI 17) → P24)
  ∧ (¬ v1 ≤ (nI 17) → (((nI 21) ≤ v1 → P24)
   ∧ (¬ (nI 21) ≤ v1 → Q (nI 2))))))
 ∧ (v1 = 0 → Q (nI 4)))
set_option maxRecDepth 100000 in
set_option maxHeartbeats 40000000 in
theorem w_X12_behind {G : xG} (hG : yG G) {z : Nat} {s : yS} {v1 : Int32} {Q : Int32 → Prop} (H : W_X12_behind s v1 Q) : xC G mX12_behind [.int v1] (hS G s) z 0 0 (yPi G z s Q) := by
  have hW := hG.1
  have hcl := hG.2.1
  have hty := hG.2.2.1
  have hO : xO G mX12_behind tbX12_behind ptX12_behind := ⟨tkX12_behind, pkX12_behind hcl⟩
  unfold W_X12_behind at H
  refine xC.of hW (by decide) rfl (Nat.le_of_ble_eq_true rfl) ?_
  refine s_iload_n (nx := 1) hO rfl rfl rfl ?_
  refine s_if_ne (nx := 4) hO rfl rfl (fun c1 => ?_) (fun c1 => ?_)
  · replace H := H.1 c1
    refine s_iload_n (nx := 9) hO rfl rfl rfl ?_
    refine s_bipush (x := (nI 17)) (nx := 11) hO rfl (by decide) rfl ?_
    refine goK (H (xEx G mX12_behind 24 [(0, .int v1)] [] (hS G s) z 0 0 (yPi G z s Q)) (fun H => ?_)) (fun H => ?_)
    · show xEx G mX12_behind 24 [(0, .int v1)] [] (hS G s) z 0 0 (yPi G z s Q)
      refine s_iload_n (nx := 25) hO rfl rfl rfl ?_
      refine s_iconst (x := (nI 4)) (nx := 26) hO rfl (by decide) rfl ?_
      refine s_icmp_eq (nx := 29) hO rfl rfl (fun c26 => ?_) (fun c26 => ?_)
      · replace H := H.1 c26
        refine s_iconst (x := 1) (nx := 53) hO rfl (by decide) rfl ?_
        refine s_goto hO rfl ?_
        exact s_iret hO rfl rfl rfl ⟨rfl, _, rfl, rfl, H⟩
      · replace H := H.2 c26
        refine s_iload_n (nx := 30) hO rfl rfl rfl ?_
        refine s_iconst (x := (nI 5)) (nx := 31) hO rfl (by decide) rfl ?_
        refine s_icmp_eq (nx := 34) hO rfl rfl (fun c31 => ?_) (fun c31 => ?_)
        · replace H := H.1 c31
          refine s_iconst (x := 1) (nx := 53) hO rfl (by decide) rfl ?_
          refine s_goto hO rfl ?_
          exact s_iret hO rfl rfl rfl ⟨rfl, _, rfl, rfl, H⟩
        · replace H := H.2 c31
          refine s_iload_n (nx := 35) hO rfl rfl rfl ?_
          refine s_bipush (x := (nI 25)) (nx := 37) hO rfl (by decide) rfl ?_
          refine s_icmp_eq (nx := 40) hO rfl rfl (fun c37 => ?_) (fun c37 => ?_)
          · replace H := H.1 c37
            refine s_iconst (x := 1) (nx := 53) hO rfl (by decide) rfl ?_
            refine s_goto hO rfl ?_
            exact s_iret hO rfl rfl rfl ⟨rfl, _, rfl, rfl, H⟩
          · replace H := H.2 c37
            refine s_iload_n (nx := 41) hO rfl rfl rfl ?_
            refine s_bipush (x := (nI 26)) (nx := 43) hO rfl (by decide) rfl ?_
            refine s_icmp_eq (nx := 46) hO rfl rfl (fun c43 => ?_) (fun c43 => ?_)
            · replace H := H.1 c43
              refine s_iconst (x := 1) (nx := 53) hO rfl (by decide) rfl ?_
              refine s_goto hO rfl ?_
              exact s_iret hO rfl rfl rfl ⟨rfl, _, rfl, rfl, H⟩
            · replace H := H.2 c43
              refine s_iload_n (nx := 47) hO rfl rfl rfl ?_
              refine s_bipush (x := (nI 29)) (nx := 49) hO rfl (by decide) rfl ?_
              refine s_icmp_ne (nx := 52) hO rfl rfl (fun c49 => ?_) (fun c49 => ?_)
              · replace H := H.1 c49
                refine s_iconst (x := 0) (nx := 57) hO rfl (by decide) rfl ?_
                exact s_iret hO rfl rfl rfl ⟨rfl, _, rfl, rfl, H⟩
              · replace H := H.2 c49
                refine s_iconst (x := 1) (nx := 53) hO rfl (by decide) rfl ?_
                refine s_goto hO rfl ?_
                exact s_iret hO rfl rfl rfl ⟨rfl, _, rfl, rfl, H⟩
    refine s_icmp_le (nx := 14) hO rfl rfl (fun c11 => ?_) (fun c11 => ?_)
    · replace H := H.1 c11
      exact xEx.loc (x_sub1 (List.Mem.head _) x_sub0) H
    · replace H := H.2 c11
      refine s_iload_n (nx := 15) hO rfl rfl rfl ?_
      refine s_bipush (x := (nI 21)) (nx := 17) hO rfl (by decide) rfl ?_
      refine s_icmp_ge (nx := 20) hO rfl rfl (fun c17 => ?_) (fun c17 => ?_)
      · replace H := H.1 c17
        exact xEx.loc (x_sub1 (List.Mem.head _) x_sub0) H
      · replace H := H.2 c17
        refine s_iconst (x := (nI 2)) (nx := 21) hO rfl (by decide) rfl ?_
        refine s_goto hO rfl ?_
        exact s_iret hO rfl rfl rfl ⟨rfl, _, rfl, rfl, H⟩
  · replace H := H.2 c1
    refine s_iconst (x := (nI 4)) (nx := 5) hO rfl (by decide) rfl ?_
    refine s_goto hO rfl ?_
    exact s_iret hO rfl rfl rfl ⟨rfl, _, rfl, rfl, H⟩
def W_X12_sizeOf (s : yS) (v1 : Int32) (Q : Int32 → Prop) : Prop :=
 ∀ P4 : Int32 → Int32 → Prop, (∀ (x1 : Int32) (x2 : Int32), (vp_in v1 3 ∧ 
  (((sI s 178 (ix v1)) ≤ x2 → Q x1)
  ∧ (¬ (sI s 178 (ix v1)) ≤ x2 → ∀ x4 : Int32, x4 = (x1 + (nI 8)) → 
   ∀ P20 : Int32 → Int32 → Prop, (∀ (x5 : Int32) (x6 : Int32), (vp_in (((nI 12) * v1) + x2) 36 ∧ 
    (((sI s 184 (ix (((nI 12) * v1) + x2))) ≤ x6 → ∀ P80 : Int32 → Int32 → Prop, (∀ (x8 : Int32) (x9 : Int32), (vp_in (((nI 12) * v1) + x2) 36 ∧ 
      ((((((nI 72) * v1) + ((nI 6) * x2)) + (sI s 185 (ix (((nI 12) * v1) + x2)))) ≤ x9 → ∀ x11 : Int32, x11 = (x2 + 1) → 
       P4 x8 x11)
      ∧ (¬ ((((nI 72) * v1) + ((nI 6) * x2)) + (sI s 185 (ix (((nI 12) * v1) + x2)))) ≤ x9 → vp_in x9 216 ∧ 
       ∀ P124 : Int32 → Int32 → Prop, (∀ (y13 : Int32) (y14 : Int32), (∀ x15 : Int32, x15 = (y14 + y13) → 
        ∀ x16 : Int32, x16 = (x9 + 1) → 
        P80 x15 x16) → P124 y13 y14) → 
       (((sI s 191 (ix x9)) = 0 → P124 (nI 11) x8)
       ∧ (¬ (sI s 191 (ix x9)) = 0 → P124 (nI 7) x8))))) → P80 x8 x9) → 
     ∀ x17 : Int32, x17 = (((nI 72) * v1) + ((nI 6) * x2)) → 
     P80 x5 x17)
    ∧ (¬ (sI s 184 (ix (((nI 12) * v1) + x2))) ≤ x6 → vp_in ((((nI 4800) * v1) + ((nI 400) * x2)) + x6) 14400 ∧ 
     W_X12_behind s (sI s 186 (ix ((((nI 4800) * v1) + ((nI 400) * x2)) + x6))) 
     (fun r19 => ∀ x20 : Int32, x20 = (x5 + (1 + r19)) → 
     ∀ x21 : Int32, x21 = (x6 + 1) → 
     P20 x20 x21)))) → P20 x5 x6) → 
   P20 x4 0))) → P4 x1 x2) → 
 P4 (nI 4) 0
set_option maxRecDepth 100000 in
set_option maxHeartbeats 40000000 in
theorem w_X12_sizeOf {G : xG} (hG : yG G) {z : Nat} {s : yS} {v1 : Int32} {Q : Int32 → Prop} (H : W_X12_sizeOf s v1 Q) : xC G mX12_sizeOf [.ref (q_b G + 139), .int v1] (hS G s) z 0 0 (yPi G z s Q) := by
  have hW := hG.1
  have hcl := hG.2.1
  have hty := hG.2.2.1
  have hO : xO G mX12_sizeOf tbX12_sizeOf ptX12_sizeOf := ⟨tkX12_sizeOf, pkX12_sizeOf hcl⟩
  unfold W_X12_sizeOf at H
  refine xC.of hW (by decide) rfl (Nat.le_of_ble_eq_true rfl) ?_
  refine s_iconst (x := (nI 4)) (nx := 1) hO rfl (by decide) rfl ?_
  refine s_istore_n (nx := 2) (l' := [(2, .int (nI 4)), (0, .ref (q_b G + 139)), (1, .int v1)]) hO rfl (by decide) rfl rfl ?_
  refine s_iconst (x := 0) (nx := 3) hO rfl (by decide) rfl ?_
  refine goK (H (fun (x1 : Int32) (x2 : Int32) => xEx G mX12_sizeOf 4 [(0, .ref (q_b G + 139)), (1, .int v1), (2, .int x1), (3, .int x2)] [] (hS G s) z 0 0 (yPi G z s Q)) (fun x1 x2 H => ?_)) (fun H => ?_)
  · show xEx G mX12_sizeOf 4 [(0, .ref (q_b G + 139)), (1, .int v1), (2, .int x1), (3, .int x2)] [] (hS G s) z 0 0 (yPi G z s Q)
    refine s_iload_n (nx := 5) hO rfl rfl rfl ?_
    refine s_aload_n (nx := 6) hO rfl rfl rfl ?_
    refine s_getf (v := .ref (q_b G + 178)) (nx := 9) hO rfl rfl (hs_o12 kc139) rfl rfl ?_
    refine s_iload_n (nx := 10) hO rfl rfl rfl ?_
    obtain ⟨b3, H⟩ := H
    refine s_iald (nx := 11) hO rfl (hs_I kc178) b3 rfl ?_
    refine s_icmp_ge (nx := 14) hO rfl rfl (fun c11 => ?_) (fun c11 => ?_)
    · replace H := H.1 c11
      refine s_iload_n (nx := 139) hO rfl rfl rfl ?_
      exact s_iret hO rfl rfl rfl ⟨rfl, _, rfl, rfl, H⟩
    · replace H := H.2 c11
      refine goV ((x1 + (nI 8))) (fun x4 ex4 => ?_)
      replace H := H x4 ex4
      refine e_iinc (nx := 17) (l' := [(2, .int x4), (0, .ref (q_b G + 139)), (1, .int v1), (3, .int x2)]) ex4 hO rfl (by decide) rfl rfl rfl rfl ?_
      refine s_iconst (x := 0) (nx := 18) hO rfl (by decide) rfl ?_
      refine goK (H (fun (x5 : Int32) (x6 : Int32) => xEx G mX12_sizeOf 20 [(0, .ref (q_b G + 139)), (1, .int v1), (2, .int x5), (3, .int x2), (4, .int x6)] [] (hS G s) z 0 0 (yPi G z s Q)) (fun x5 x6 H => ?_)) (fun H => ?_)
      · show xEx G mX12_sizeOf 20 [(0, .ref (q_b G + 139)), (1, .int v1), (2, .int x5), (3, .int x2), (4, .int x6)] [] (hS G s) z 0 0 (yPi G z s Q)
        refine s_iload (nx := 22) hO rfl rfl rfl ?_
        refine s_aload_n (nx := 23) hO rfl rfl rfl ?_
        refine s_getf (v := .ref (q_b G + 184)) (nx := 26) hO rfl rfl (hs_o12 kc139) rfl rfl ?_
        refine s_bipush (x := (nI 12)) (nx := 28) hO rfl (by decide) rfl ?_
        refine s_iload_n (nx := 29) hO rfl rfl rfl ?_
        refine s_imul (nx := 30) hO rfl rfl ?_
        refine s_iload_n (nx := 31) hO rfl rfl rfl ?_
        refine s_iadd (nx := 32) hO rfl rfl ?_
        obtain ⟨b7, H⟩ := H
        refine s_iald (nx := 33) hO rfl (hs_I kc184) b7 rfl ?_
        refine s_icmp_ge (nx := 36) hO rfl rfl (fun c33 => ?_) (fun c33 => ?_)
        · replace H := H.1 c33
          refine s_bipush (x := (nI 72)) (nx := 71) hO rfl (by decide) rfl ?_
          refine s_iload_n (nx := 72) hO rfl rfl rfl ?_
          refine s_imul (nx := 73) hO rfl rfl ?_
          refine s_bipush (x := (nI 6)) (nx := 75) hO rfl (by decide) rfl ?_
          refine s_iload_n (nx := 76) hO rfl rfl rfl ?_
          refine s_imul (nx := 77) hO rfl rfl ?_
          refine s_iadd (nx := 78) hO rfl rfl ?_
          refine goK (H (fun (x8 : Int32) (x9 : Int32) => xEx G mX12_sizeOf 80 [(0, .ref (q_b G + 139)), (1, .int v1), (2, .int x8), (3, .int x2), (4, .int x9)] [] (hS G s) z 0 0 (yPi G z s Q)) (fun x8 x9 H => ?_)) (fun H => ?_)
          · show xEx G mX12_sizeOf 80 [(0, .ref (q_b G + 139)), (1, .int v1), (2, .int x8), (3, .int x2), (4, .int x9)] [] (hS G s) z 0 0 (yPi G z s Q)
            refine s_iload (nx := 82) hO rfl rfl rfl ?_
            refine s_bipush (x := (nI 72)) (nx := 84) hO rfl (by decide) rfl ?_
            refine s_iload_n (nx := 85) hO rfl rfl rfl ?_
            refine s_imul (nx := 86) hO rfl rfl ?_
            refine s_bipush (x := (nI 6)) (nx := 88) hO rfl (by decide) rfl ?_
            refine s_iload_n (nx := 89) hO rfl rfl rfl ?_
            refine s_imul (nx := 90) hO rfl rfl ?_
            refine s_iadd (nx := 91) hO rfl rfl ?_
            refine s_aload_n (nx := 92) hO rfl rfl rfl ?_
            refine s_getf (v := .ref (q_b G + 185)) (nx := 95) hO rfl rfl (hs_o12 kc139) rfl rfl ?_
            refine s_bipush (x := (nI 12)) (nx := 97) hO rfl (by decide) rfl ?_
            refine s_iload_n (nx := 98) hO rfl rfl rfl ?_
            refine s_imul (nx := 99) hO rfl rfl ?_
            refine s_iload_n (nx := 100) hO rfl rfl rfl ?_
            refine s_iadd (nx := 101) hO rfl rfl ?_
            obtain ⟨b10, H⟩ := H
            refine s_iald (nx := 102) hO rfl (hs_I kc185) b10 rfl ?_
            refine s_iadd (nx := 103) hO rfl rfl ?_
            refine s_icmp_ge (nx := 106) hO rfl rfl (fun c103 => ?_) (fun c103 => ?_)
            · replace H := H.1 c103
              refine goV ((x2 + 1)) (fun x11 ex11 => ?_)
              replace H := H x11 ex11
              refine e_iinc (nx := 135) (l' := [(3, .int x11), (0, .ref (q_b G + 139)), (1, .int v1), (2, .int x8), (4, .int x9)]) ex11 hO rfl (by decide) rfl rfl rfl rfl ?_
              refine s_goto hO rfl ?_
              exact xEx.loc (x_sub1 (List.Mem.tail _ (List.Mem.head _)) (x_sub1 (List.Mem.tail _ (List.Mem.tail _ (List.Mem.head _))) (x_sub1 (List.Mem.tail _ (List.Mem.tail _ (List.Mem.tail _ (List.Mem.head _)))) (x_sub1 (List.Mem.head _) x_sub0)))) H
            · replace H := H.2 c103
              refine s_iload_n (nx := 107) hO rfl rfl rfl ?_
              refine s_aload_n (nx := 108) hO rfl rfl rfl ?_
              refine s_getf (v := .ref (q_b G + 191)) (nx := 111) hO rfl rfl (hs_o12 kc139) rfl rfl ?_
              refine s_iload (nx := 113) hO rfl rfl rfl ?_
              obtain ⟨b12, H⟩ := H
              refine s_zald (nx := 114) hO rfl (hs_Z kc191) b12 rfl ?_
              refine goK (H (fun (y13 : Int32) (y14 : Int32) => xEx G mX12_sizeOf 124 [(0, .ref (q_b G + 139)), (1, .int v1), (3, .int x2), (4, .int x9)] [.int y13, .int y14] (hS G s) z 0 0 (yPi G z s Q)) (fun y13 y14 H => ?_)) (fun H => ?_)
              · show xEx G mX12_sizeOf 124 [(0, .ref (q_b G + 139)), (1, .int v1), (3, .int x2), (4, .int x9)] [.int y13, .int y14] (hS G s) z 0 0 (yPi G z s Q)
                refine s_iadd (nx := 125) hO rfl rfl ?_
                refine goV ((y14 + y13)) (fun x15 ex15 => ?_)
                replace H := H x15 ex15
                refine e_istore_n (nx := 126) (l' := [(2, .int x15), (0, .ref (q_b G + 139)), (1, .int v1), (3, .int x2), (4, .int x9)]) ex15 hO rfl (by decide) rfl rfl ?_
                refine goV ((x9 + 1)) (fun x16 ex16 => ?_)
                replace H := H x16 ex16
                refine e_iinc (nx := 129) (l' := [(4, .int x16), (2, .int x15), (0, .ref (q_b G + 139)), (1, .int v1), (3, .int x2)]) ex16 hO rfl (by decide) rfl rfl rfl rfl ?_
                refine s_goto hO rfl ?_
                exact xEx.loc (x_sub1 (List.Mem.tail _ (List.Mem.tail _ (List.Mem.head _))) (x_sub1 (List.Mem.tail _ (List.Mem.tail _ (List.Mem.tail _ (List.Mem.head _)))) (x_sub1 (List.Mem.tail _ (List.Mem.head _)) (x_sub1 (List.Mem.tail _ (List.Mem.tail _ (List.Mem.tail _ (List.Mem.tail _ (List.Mem.head _))))) (x_sub1 (List.Mem.head _) x_sub0))))) H
              refine s_if_eq (nx := 117) hO rfl rfl (fun c114 => ?_) (fun c114 => ?_)
              · replace H := H.1 c114
                refine s_bipush (x := (nI 11)) (nx := 124) hO rfl (by decide) rfl ?_
                exact xEx.loc (x_sub1 (List.Mem.head _) (x_sub1 (List.Mem.tail _ (List.Mem.head _)) (x_sub1 (List.Mem.tail _ (List.Mem.tail _ (List.Mem.tail _ (List.Mem.head _)))) (x_sub1 (List.Mem.tail _ (List.Mem.tail _ (List.Mem.tail _ (List.Mem.tail _ (List.Mem.head _))))) x_sub0)))) H
              · replace H := H.2 c114
                refine s_bipush (x := (nI 7)) (nx := 119) hO rfl (by decide) rfl ?_
                refine s_goto hO rfl ?_
                exact xEx.loc (x_sub1 (List.Mem.head _) (x_sub1 (List.Mem.tail _ (List.Mem.head _)) (x_sub1 (List.Mem.tail _ (List.Mem.tail _ (List.Mem.tail _ (List.Mem.head _)))) (x_sub1 (List.Mem.tail _ (List.Mem.tail _ (List.Mem.tail _ (List.Mem.tail _ (List.Mem.head _))))) x_sub0)))) H
          refine goV ((((nI 72) * v1) + ((nI 6) * x2))) (fun x17 ex17 => ?_)
          replace H := H x17 ex17
          refine e_istore (nx := 80) (l' := [(4, .int x17), (0, .ref (q_b G + 139)), (1, .int v1), (2, .int x5), (3, .int x2)]) ex17 hO rfl (by decide) rfl rfl ?_
          exact xEx.loc (x_sub1 (List.Mem.tail _ (List.Mem.head _)) (x_sub1 (List.Mem.tail _ (List.Mem.tail _ (List.Mem.head _))) (x_sub1 (List.Mem.tail _ (List.Mem.tail _ (List.Mem.tail _ (List.Mem.head _)))) (x_sub1 (List.Mem.tail _ (List.Mem.tail _ (List.Mem.tail _ (List.Mem.tail _ (List.Mem.head _))))) (x_sub1 (List.Mem.head _) x_sub0))))) H
        · replace H := H.2 c33
          refine s_iload_n (nx := 37) hO rfl rfl rfl ?_
          refine s_iconst (x := 1) (nx := 38) hO rfl (by decide) rfl ?_
          refine s_aload_n (nx := 39) hO rfl rfl rfl ?_
          refine s_getf (v := .ref (q_b G + 186)) (nx := 42) hO rfl rfl (hs_o12 kc139) rfl rfl ?_
          refine s_sipush (x := (nI 4800)) (nx := 45) hO rfl (by decide) rfl ?_
          refine s_iload_n (nx := 46) hO rfl rfl rfl ?_
          refine s_imul (nx := 47) hO rfl rfl ?_
          refine s_sipush (x := (nI 400)) (nx := 50) hO rfl (by decide) rfl ?_
          refine s_iload_n (nx := 51) hO rfl rfl rfl ?_
          refine s_imul (nx := 52) hO rfl rfl ?_
          refine s_iadd (nx := 53) hO rfl rfl ?_
          refine s_iload (nx := 55) hO rfl rfl rfl ?_
          refine s_iadd (nx := 56) hO rfl rfl ?_
          obtain ⟨b18, H⟩ := H
          refine s_iald (nx := 57) hO rfl (hs_I kc186) b18 rfl ?_
          refine s_callS [.int (sI s 186 (ix ((((nI 4800) * v1) + ((nI 400) * x2)) + x6)))] (nx := 60) hO rfl kX12_sizeOf_607 (w_X12_behind hG H) rfl rfl (Nat.le_of_ble_eq_true rfl) (Nat.zero_le _) (Nat.zero_le _) rfl (k_Pi (fun r19 H => ?_))
          refine s_iadd (nx := 61) hO rfl rfl ?_
          refine s_iadd (nx := 62) hO rfl rfl ?_
          refine goV ((x5 + (1 + r19))) (fun x20 ex20 => ?_)
          replace H := H x20 ex20
          refine e_istore_n (nx := 63) (l' := [(2, .int x20), (0, .ref (q_b G + 139)), (1, .int v1), (3, .int x2), (4, .int x6)]) ex20 hO rfl (by decide) rfl rfl ?_
          refine goV ((x6 + 1)) (fun x21 ex21 => ?_)
          replace H := H x21 ex21
          refine e_iinc (nx := 66) (l' := [(4, .int x21), (2, .int x20), (0, .ref (q_b G + 139)), (1, .int v1), (3, .int x2)]) ex21 hO rfl (by decide) rfl rfl rfl rfl ?_
          refine s_goto hO rfl ?_
          exact xEx.loc (x_sub1 (List.Mem.tail _ (List.Mem.tail _ (List.Mem.head _))) (x_sub1 (List.Mem.tail _ (List.Mem.tail _ (List.Mem.tail _ (List.Mem.head _)))) (x_sub1 (List.Mem.tail _ (List.Mem.head _)) (x_sub1 (List.Mem.tail _ (List.Mem.tail _ (List.Mem.tail _ (List.Mem.tail _ (List.Mem.head _))))) (x_sub1 (List.Mem.head _) x_sub0))))) H
      refine s_istore (nx := 20) (l' := [(4, .int 0), (2, .int x4), (0, .ref (q_b G + 139)), (1, .int v1), (3, .int x2)]) hO rfl (by decide) rfl rfl ?_
      exact xEx.loc (x_sub1 (List.Mem.tail _ (List.Mem.tail _ (List.Mem.head _))) (x_sub1 (List.Mem.tail _ (List.Mem.tail _ (List.Mem.tail _ (List.Mem.head _)))) (x_sub1 (List.Mem.tail _ (List.Mem.head _)) (x_sub1 (List.Mem.tail _ (List.Mem.tail _ (List.Mem.tail _ (List.Mem.tail _ (List.Mem.head _))))) (x_sub1 (List.Mem.head _) x_sub0))))) H
  refine s_istore_n (nx := 4) (l' := [(3, .int 0), (2, .int (nI 4)), (0, .ref (q_b G + 139)), (1, .int v1)]) hO rfl (by decide) rfl rfl ?_
  exact xEx.loc (x_sub1 (List.Mem.tail _ (List.Mem.tail _ (List.Mem.head _))) (x_sub1 (List.Mem.tail _ (List.Mem.tail _ (List.Mem.tail _ (List.Mem.head _)))) (x_sub1 (List.Mem.tail _ (List.Mem.head _)) (x_sub1 (List.Mem.head _) x_sub0)))) H
def W_X12_forge (s : yS) (v1 : Int32) (Q : Int32 → yS → Prop) : Prop :=
 ∀ P4 : Int32 → Int32 → yS → Prop, (∀ (x1 : Int32) (x2 : Int32) (s3 : yS), (vp_in v1 36 ∧ 
  (((sI s3 184 (ix v1)) ≤ x2 → vp_in v1 36 ∧ 
   vp_in (sI s3 184 (ix v1)) 401 ∧ ∀ s7 : yS, s7 = wI s3 203 (ix (sI s3 184 (ix v1))) x1 → 
   vp_in ((nI 12) + v1) 36 ∧ ∀ s9 : yS, s9 = wI s7 184 (ix ((nI 12) + v1)) x1 → 
   ∀ P69 : Int32 → yS → Prop, (∀ (x10 : Int32) (s11 : yS), (vp_in v1 36 ∧ 
    (((sI s11 184 (ix v1)) ≤ x10 → ∀ P214 : Int32 → yS → Prop, (∀ (x13 : Int32) (s14 : yS), (vp_in v1 36 ∧ 
      (((((nI 6) * v1) + (sI s14 185 (ix v1))) ≤ x13 → vp_in v1 36 ∧ 
       Q (x1 - (sI s14 184 (ix v1))) s14)
      ∧ (¬ (((nI 6) * v1) + (sI s14 185 (ix v1))) ≤ x13 → vp_in x13 216 ∧ 
       vp_in (sI s14 188 (ix x13)) 401 ∧ 
       vp_in ((nI 72) + x13) 216 ∧ ∀ s20 : yS, s20 = wI s14 188 (ix ((nI 72) + x13)) (sI s14 203 (ix (sI s14 188 (ix x13)))) → 
       vp_in x13 216 ∧ 
       vp_in (sI s20 189 (ix x13)) 401 ∧ 
       vp_in ((nI 72) + x13) 216 ∧ ∀ s24 : yS, s24 = wI s20 189 (ix ((nI 72) + x13)) (sI s20 203 (ix (sI s20 189 (ix x13)))) → 
       vp_in x13 216 ∧ 
       vp_in (sI s24 190 (ix x13)) 401 ∧ 
       vp_in ((nI 72) + x13) 216 ∧ ∀ s28 : yS, s28 = wI s24 190 (ix ((nI 72) + x13)) (sI s24 203 (ix (sI s24 190 (ix x13)))) → 
       ∀ x29 : Int32, x29 = (x13 + 1) → 
       P214 x29 s28))) → P214 x13 s14) → 
     ∀ x30 : Int32, x30 = ((nI 6) * v1) → 
     P214 x30 s11)
    ∧ (¬ (sI s11 184 (ix v1)) ≤ x10 → ∀ x31 : Int32, x31 = (((nI 400) * v1) + x10) → 
     vp_in x10 401 ∧ 
     ∀ x33 : Int32, x33 = (((nI 4800) + ((nI 400) * v1)) + (sI s11 203 (ix x10))) → 
     W_X12_needs s11 0 v1 x10 
     (fun r34 => ∀ P142 : Int32 → yS → Prop, (∀ (x35 : Int32) (s36 : yS), (vp_in x31 14400 ∧ 
      ∀ x38 : Int32, x38 = (sI s36 186 (ix x31)) → 
      vp_in x35 14400 ∧ ∀ s40 : yS, s40 = wI s36 186 (ix x35) x38 → 
      ((x38 ≤ (nI 17) → vp_in x31 14400 ∧ 
       vp_in x35 14400 ∧ ∀ s43 : yS, s43 = wI s40 187 (ix x35) (sI s40 187 (ix x31)) → 
       ∀ x44 : Int32, x44 = (x10 + 1) → 
       P69 x44 s43)
      ∧ (¬ x38 ≤ (nI 17) → (((nI 21) ≤ x38 → vp_in x31 14400 ∧ 
        vp_in x35 14400 ∧ ∀ s47 : yS, s47 = wI s40 187 (ix x35) (sI s40 187 (ix x31)) → 
        ∀ x48 : Int32, x48 = (x10 + 1) → 
        P69 x48 s47)
       ∧ (¬ (nI 21) ≤ x38 → vp_in x31 14400 ∧ 
        vp_in (sI s40 187 (ix x31)) 401 ∧ 
        vp_in x35 14400 ∧ ∀ s52 : yS, s52 = wI s40 187 (ix x35) (sI s40 203 (ix (sI s40 187 (ix x31)))) → 
        ∀ x53 : Int32, x53 = (x10 + 1) → 
        P69 x53 s52))))) → P142 x35 s36) → 
     ((r34 = 0 → P142 x33 s11)
     ∧ (¬ r34 = 0 → vp_in x33 14400 ∧ ∀ s55 : yS, s55 = wI s11 186 (ix x33) (nI 29) → 
      vp_in x31 14400 ∧ 
      vp_in x33 14400 ∧ ∀ s58 : yS, s58 = wI s55 187 (ix x33) (sI s55 187 (ix x31)) → 
      ∀ x59 : Int32, x59 = (x33 + 1) → 
      P142 x59 s58)))))) → P69 x10 s11) → 
   P69 0 s9)
  ∧ (¬ (sI s3 184 (ix v1)) ≤ x2 → vp_in x2 401 ∧ ∀ s61 : yS, s61 = wI s3 203 (ix x2) x1 → 
   W_X12_needs s61 0 v1 x2 
   (fun r62 => ∀ P37 : Int32 → Int32 → Prop, (∀ (y63 : Int32) (y64 : Int32), (∀ x65 : Int32, x65 = (y64 + y63) → 
    ∀ x66 : Int32, x66 = (x2 + 1) → 
    P4 x65 x66 s61) → P37 y63 y64) → 
   ((r62 = 0 → P37 1 x1)
   ∧ (¬ r62 = 0 → P37 (nI 2) x1)))))) → P4 x1 x2 s3) → 
 P4 0 0 s
set_option maxRecDepth 100000 in
set_option maxHeartbeats 40000000 in
theorem w_X12_forge {G : xG} (hG : yG G) {z : Nat} {s : yS} {v1 : Int32} {Q : Int32 → yS → Prop} (H : W_X12_forge s v1 Q) : xC G mX12_forge [.ref (q_b G + 139), .int v1] (hS G s) z 0 0 (yQi G z Q) := by
  have hW := hG.1
  have hcl := hG.2.1
  have hty := hG.2.2.1
  have hO : xO G mX12_forge tbX12_forge ptX12_forge := ⟨tkX12_forge, pkX12_forge hcl⟩
  unfold W_X12_forge at H
  refine xC.of hW (by decide) rfl (Nat.le_of_ble_eq_true rfl) ?_
  refine s_iconst (x := 0) (nx := 1) hO rfl (by decide) rfl ?_
  refine s_istore_n (nx := 2) (l' := [(2, .int 0), (0, .ref (q_b G + 139)), (1, .int v1)]) hO rfl (by decide) rfl rfl ?_
  refine s_iconst (x := 0) (nx := 3) hO rfl (by decide) rfl ?_
  refine goK (H (fun (x1 : Int32) (x2 : Int32) (s3 : yS) => xEx G mX12_forge 4 [(0, .ref (q_b G + 139)), (1, .int v1), (2, .int x1), (3, .int x2)] [] (hS G s3) z 0 0 (yQi G z Q)) (fun x1 x2 s3 H => ?_)) (fun H => ?_)
  · show xEx G mX12_forge 4 [(0, .ref (q_b G + 139)), (1, .int v1), (2, .int x1), (3, .int x2)] [] (hS G s3) z 0 0 (yQi G z Q)
    refine s_iload_n (nx := 5) hO rfl rfl rfl ?_
    refine s_aload_n (nx := 6) hO rfl rfl rfl ?_
    refine s_getf (v := .ref (q_b G + 184)) (nx := 9) hO rfl rfl (hs_o12 kc139) rfl rfl ?_
    refine s_iload_n (nx := 10) hO rfl rfl rfl ?_
    obtain ⟨b4, H⟩ := H
    refine s_iald (nx := 11) hO rfl (hs_I kc184) b4 rfl ?_
    refine s_icmp_ge (nx := 14) hO rfl rfl (fun c11 => ?_) (fun c11 => ?_)
    · replace H := H.1 c11
      refine s_aload_n (nx := 46) hO rfl rfl rfl ?_
      refine s_getf (v := .ref (q_b G + 203)) (nx := 49) hO rfl rfl (hs_o12 kc139) rfl rfl ?_
      refine s_aload_n (nx := 50) hO rfl rfl rfl ?_
      refine s_getf (v := .ref (q_b G + 184)) (nx := 53) hO rfl rfl (hs_o12 kc139) rfl rfl ?_
      refine s_iload_n (nx := 54) hO rfl rfl rfl ?_
      obtain ⟨b5, H⟩ := H
      refine s_iald (nx := 55) hO rfl (hs_I kc184) b5 rfl ?_
      refine s_iload_n (nx := 56) hO rfl rfl rfl ?_
      obtain ⟨b6, H⟩ := H
      refine goV (wI s3 203 (ix (sI s3 184 (ix v1))) x1) (fun s7 es7 => ?_)
      replace H := H s7 es7
      refine s_iast (nx := 57) hO rfl (hs_I kc203) b6 rfl ?_
      refine xEx.at (up_I kc203 es7) ?_
      refine s_aload_n (nx := 58) hO rfl rfl rfl ?_
      refine s_getf (v := .ref (q_b G + 184)) (nx := 61) hO rfl rfl (hs_o12 kc139) rfl rfl ?_
      refine s_bipush (x := (nI 12)) (nx := 63) hO rfl (by decide) rfl ?_
      refine s_iload_n (nx := 64) hO rfl rfl rfl ?_
      refine s_iadd (nx := 65) hO rfl rfl ?_
      refine s_iload_n (nx := 66) hO rfl rfl rfl ?_
      obtain ⟨b8, H⟩ := H
      refine goV (wI s7 184 (ix ((nI 12) + v1)) x1) (fun s9 es9 => ?_)
      replace H := H s9 es9
      refine s_iast (nx := 67) hO rfl (hs_I kc184) b8 rfl ?_
      refine xEx.at (up_I kc184 es9) ?_
      refine s_iconst (x := 0) (nx := 68) hO rfl (by decide) rfl ?_
      refine goK (H (fun (x10 : Int32) (s11 : yS) => xEx G mX12_forge 69 [(0, .ref (q_b G + 139)), (1, .int v1), (2, .int x1), (3, .int x10)] [] (hS G s11) z 0 0 (yQi G z Q)) (fun x10 s11 H => ?_)) (fun H => ?_)
      · show xEx G mX12_forge 69 [(0, .ref (q_b G + 139)), (1, .int v1), (2, .int x1), (3, .int x10)] [] (hS G s11) z 0 0 (yQi G z Q)
        refine s_iload_n (nx := 70) hO rfl rfl rfl ?_
        refine s_aload_n (nx := 71) hO rfl rfl rfl ?_
        refine s_getf (v := .ref (q_b G + 184)) (nx := 74) hO rfl rfl (hs_o12 kc139) rfl rfl ?_
        refine s_iload_n (nx := 75) hO rfl rfl rfl ?_
        obtain ⟨b12, H⟩ := H
        refine s_iald (nx := 76) hO rfl (hs_I kc184) b12 rfl ?_
        refine s_icmp_ge (nx := 79) hO rfl rfl (fun c76 => ?_) (fun c76 => ?_)
        · replace H := H.1 c76
          refine s_bipush (x := (nI 6)) (nx := 211) hO rfl (by decide) rfl ?_
          refine s_iload_n (nx := 212) hO rfl rfl rfl ?_
          refine s_imul (nx := 213) hO rfl rfl ?_
          refine goK (H (fun (x13 : Int32) (s14 : yS) => xEx G mX12_forge 214 [(0, .ref (q_b G + 139)), (1, .int v1), (2, .int x1), (3, .int x13)] [] (hS G s14) z 0 0 (yQi G z Q)) (fun x13 s14 H => ?_)) (fun H => ?_)
          · show xEx G mX12_forge 214 [(0, .ref (q_b G + 139)), (1, .int v1), (2, .int x1), (3, .int x13)] [] (hS G s14) z 0 0 (yQi G z Q)
            refine s_iload_n (nx := 215) hO rfl rfl rfl ?_
            refine s_bipush (x := (nI 6)) (nx := 217) hO rfl (by decide) rfl ?_
            refine s_iload_n (nx := 218) hO rfl rfl rfl ?_
            refine s_imul (nx := 219) hO rfl rfl ?_
            refine s_aload_n (nx := 220) hO rfl rfl rfl ?_
            refine s_getf (v := .ref (q_b G + 185)) (nx := 223) hO rfl rfl (hs_o12 kc139) rfl rfl ?_
            refine s_iload_n (nx := 224) hO rfl rfl rfl ?_
            obtain ⟨b15, H⟩ := H
            refine s_iald (nx := 225) hO rfl (hs_I kc185) b15 rfl ?_
            refine s_iadd (nx := 226) hO rfl rfl ?_
            refine s_icmp_ge (nx := 229) hO rfl rfl (fun c226 => ?_) (fun c226 => ?_)
            · replace H := H.1 c226
              refine s_iload_n (nx := 296) hO rfl rfl rfl ?_
              refine s_aload_n (nx := 297) hO rfl rfl rfl ?_
              refine s_getf (v := .ref (q_b G + 184)) (nx := 300) hO rfl rfl (hs_o12 kc139) rfl rfl ?_
              refine s_iload_n (nx := 301) hO rfl rfl rfl ?_
              obtain ⟨b16, H⟩ := H
              refine s_iald (nx := 302) hO rfl (hs_I kc184) b16 rfl ?_
              refine s_isub (nx := 303) hO rfl rfl ?_
              exact s_iret hO rfl rfl rfl ⟨rfl, _, _, rfl, rfl, H⟩
            · replace H := H.2 c226
              refine s_aload_n (nx := 230) hO rfl rfl rfl ?_
              refine s_getf (v := .ref (q_b G + 188)) (nx := 233) hO rfl rfl (hs_o12 kc139) rfl rfl ?_
              refine s_bipush (x := (nI 72)) (nx := 235) hO rfl (by decide) rfl ?_
              refine s_iload_n (nx := 236) hO rfl rfl rfl ?_
              refine s_iadd (nx := 237) hO rfl rfl ?_
              refine s_aload_n (nx := 238) hO rfl rfl rfl ?_
              refine s_getf (v := .ref (q_b G + 203)) (nx := 241) hO rfl rfl (hs_o12 kc139) rfl rfl ?_
              refine s_aload_n (nx := 242) hO rfl rfl rfl ?_
              refine s_getf (v := .ref (q_b G + 188)) (nx := 245) hO rfl rfl (hs_o12 kc139) rfl rfl ?_
              refine s_iload_n (nx := 246) hO rfl rfl rfl ?_
              obtain ⟨b17, H⟩ := H
              refine s_iald (nx := 247) hO rfl (hs_I kc188) b17 rfl ?_
              obtain ⟨b18, H⟩ := H
              refine s_iald (nx := 248) hO rfl (hs_I kc203) b18 rfl ?_
              obtain ⟨b19, H⟩ := H
              refine goV (wI s14 188 (ix ((nI 72) + x13)) (sI s14 203 (ix (sI s14 188 (ix x13))))) (fun s20 es20 => ?_)
              replace H := H s20 es20
              refine s_iast (nx := 249) hO rfl (hs_I kc188) b19 rfl ?_
              refine xEx.at (up_I kc188 es20) ?_
              refine s_aload_n (nx := 250) hO rfl rfl rfl ?_
              refine s_getf (v := .ref (q_b G + 189)) (nx := 253) hO rfl rfl (hs_o12 kc139) rfl rfl ?_
              refine s_bipush (x := (nI 72)) (nx := 255) hO rfl (by decide) rfl ?_
              refine s_iload_n (nx := 256) hO rfl rfl rfl ?_
              refine s_iadd (nx := 257) hO rfl rfl ?_
              refine s_aload_n (nx := 258) hO rfl rfl rfl ?_
              refine s_getf (v := .ref (q_b G + 203)) (nx := 261) hO rfl rfl (hs_o12 kc139) rfl rfl ?_
              refine s_aload_n (nx := 262) hO rfl rfl rfl ?_
              refine s_getf (v := .ref (q_b G + 189)) (nx := 265) hO rfl rfl (hs_o12 kc139) rfl rfl ?_
              refine s_iload_n (nx := 266) hO rfl rfl rfl ?_
              obtain ⟨b21, H⟩ := H
              refine s_iald (nx := 267) hO rfl (hs_I kc189) b21 rfl ?_
              obtain ⟨b22, H⟩ := H
              refine s_iald (nx := 268) hO rfl (hs_I kc203) b22 rfl ?_
              obtain ⟨b23, H⟩ := H
              refine goV (wI s20 189 (ix ((nI 72) + x13)) (sI s20 203 (ix (sI s20 189 (ix x13))))) (fun s24 es24 => ?_)
              replace H := H s24 es24
              refine s_iast (nx := 269) hO rfl (hs_I kc189) b23 rfl ?_
              refine xEx.at (up_I kc189 es24) ?_
              refine s_aload_n (nx := 270) hO rfl rfl rfl ?_
              refine s_getf (v := .ref (q_b G + 190)) (nx := 273) hO rfl rfl (hs_o12 kc139) rfl rfl ?_
              refine s_bipush (x := (nI 72)) (nx := 275) hO rfl (by decide) rfl ?_
              refine s_iload_n (nx := 276) hO rfl rfl rfl ?_
              refine s_iadd (nx := 277) hO rfl rfl ?_
              refine s_aload_n (nx := 278) hO rfl rfl rfl ?_
              refine s_getf (v := .ref (q_b G + 203)) (nx := 281) hO rfl rfl (hs_o12 kc139) rfl rfl ?_
              refine s_aload_n (nx := 282) hO rfl rfl rfl ?_
              refine s_getf (v := .ref (q_b G + 190)) (nx := 285) hO rfl rfl (hs_o12 kc139) rfl rfl ?_
              refine s_iload_n (nx := 286) hO rfl rfl rfl ?_
              obtain ⟨b25, H⟩ := H
              refine s_iald (nx := 287) hO rfl (hs_I kc190) b25 rfl ?_
              obtain ⟨b26, H⟩ := H
              refine s_iald (nx := 288) hO rfl (hs_I kc203) b26 rfl ?_
              obtain ⟨b27, H⟩ := H
              refine goV (wI s24 190 (ix ((nI 72) + x13)) (sI s24 203 (ix (sI s24 190 (ix x13))))) (fun s28 es28 => ?_)
              replace H := H s28 es28
              refine s_iast (nx := 289) hO rfl (hs_I kc190) b27 rfl ?_
              refine xEx.at (up_I kc190 es28) ?_
              refine goV ((x13 + 1)) (fun x29 ex29 => ?_)
              replace H := H x29 ex29
              refine e_iinc (nx := 292) (l' := [(3, .int x29), (0, .ref (q_b G + 139)), (1, .int v1), (2, .int x1)]) ex29 hO rfl (by decide) rfl rfl rfl rfl ?_
              refine s_goto hO rfl ?_
              exact xEx.loc (x_sub1 (List.Mem.tail _ (List.Mem.head _)) (x_sub1 (List.Mem.tail _ (List.Mem.tail _ (List.Mem.head _))) (x_sub1 (List.Mem.tail _ (List.Mem.tail _ (List.Mem.tail _ (List.Mem.head _)))) (x_sub1 (List.Mem.head _) x_sub0)))) H
          refine goV (((nI 6) * v1)) (fun x30 ex30 => ?_)
          replace H := H x30 ex30
          refine e_istore_n (nx := 214) (l' := [(3, .int x30), (0, .ref (q_b G + 139)), (1, .int v1), (2, .int x1)]) ex30 hO rfl (by decide) rfl rfl ?_
          exact xEx.loc (x_sub1 (List.Mem.tail _ (List.Mem.head _)) (x_sub1 (List.Mem.tail _ (List.Mem.tail _ (List.Mem.head _))) (x_sub1 (List.Mem.tail _ (List.Mem.tail _ (List.Mem.tail _ (List.Mem.head _)))) (x_sub1 (List.Mem.head _) x_sub0)))) H
        · replace H := H.2 c76
          refine s_sipush (x := (nI 400)) (nx := 82) hO rfl (by decide) rfl ?_
          refine s_iload_n (nx := 83) hO rfl rfl rfl ?_
          refine s_imul (nx := 84) hO rfl rfl ?_
          refine s_iload_n (nx := 85) hO rfl rfl rfl ?_
          refine s_iadd (nx := 86) hO rfl rfl ?_
          refine goV ((((nI 400) * v1) + x10)) (fun x31 ex31 => ?_)
          replace H := H x31 ex31
          refine e_istore (nx := 88) (l' := [(4, .int x31), (0, .ref (q_b G + 139)), (1, .int v1), (2, .int x1), (3, .int x10)]) ex31 hO rfl (by decide) rfl rfl ?_
          refine s_sipush (x := (nI 4800)) (nx := 91) hO rfl (by decide) rfl ?_
          refine s_sipush (x := (nI 400)) (nx := 94) hO rfl (by decide) rfl ?_
          refine s_iload_n (nx := 95) hO rfl rfl rfl ?_
          refine s_imul (nx := 96) hO rfl rfl ?_
          refine s_iadd (nx := 97) hO rfl rfl ?_
          refine s_aload_n (nx := 98) hO rfl rfl rfl ?_
          refine s_getf (v := .ref (q_b G + 203)) (nx := 101) hO rfl rfl (hs_o12 kc139) rfl rfl ?_
          refine s_iload_n (nx := 102) hO rfl rfl rfl ?_
          obtain ⟨b32, H⟩ := H
          refine s_iald (nx := 103) hO rfl (hs_I kc203) b32 rfl ?_
          refine s_iadd (nx := 104) hO rfl rfl ?_
          refine goV ((((nI 4800) + ((nI 400) * v1)) + (sI s11 203 (ix x10)))) (fun x33 ex33 => ?_)
          replace H := H x33 ex33
          refine e_istore (nx := 106) (l' := [(5, .int x33), (4, .int x31), (0, .ref (q_b G + 139)), (1, .int v1), (2, .int x1), (3, .int x10)]) ex33 hO rfl (by decide) rfl rfl ?_
          refine s_aload_n (nx := 107) hO rfl rfl rfl ?_
          refine s_iconst (x := 0) (nx := 108) hO rfl (by decide) rfl ?_
          refine s_iload_n (nx := 109) hO rfl rfl rfl ?_
          refine s_iload_n (nx := 110) hO rfl rfl rfl ?_
          refine s_callV [.int 0, .int v1, .int x10] (ci := 12) (F := TX12) (N := 116) (nx := 113) hO rfl kX12_forge_598 (by rw [hcl]; rfl) (hs_o12 kc139) (w_X12_needs hG H) rfl rfl (Nat.le_of_ble_eq_true rfl) (Nat.zero_le _) (Nat.zero_le _) rfl (k_Pi (fun r34 H => ?_))
          refine goK (H (fun (x35 : Int32) (s36 : yS) => xEx G mX12_forge 142 [(0, .ref (q_b G + 139)), (1, .int v1), (2, .int x1), (3, .int x10), (4, .int x31), (5, .int x35)] [] (hS G s36) z 0 0 (yQi G z Q)) (fun x35 s36 H => ?_)) (fun H => ?_)
          · show xEx G mX12_forge 142 [(0, .ref (q_b G + 139)), (1, .int v1), (2, .int x1), (3, .int x10), (4, .int x31), (5, .int x35)] [] (hS G s36) z 0 0 (yQi G z Q)
            refine s_aload_n (nx := 143) hO rfl rfl rfl ?_
            refine s_getf (v := .ref (q_b G + 186)) (nx := 146) hO rfl rfl (hs_o12 kc139) rfl rfl ?_
            refine s_iload (nx := 148) hO rfl rfl rfl ?_
            obtain ⟨b37, H⟩ := H
            refine s_iald (nx := 149) hO rfl (hs_I kc186) b37 rfl ?_
            refine goV ((sI s36 186 (ix x31))) (fun x38 ex38 => ?_)
            replace H := H x38 ex38
            refine e_istore (nx := 151) (l' := [(6, .int x38), (0, .ref (q_b G + 139)), (1, .int v1), (2, .int x1), (3, .int x10), (4, .int x31), (5, .int x35)]) ex38 hO rfl (by decide) rfl rfl ?_
            refine s_aload_n (nx := 152) hO rfl rfl rfl ?_
            refine s_getf (v := .ref (q_b G + 186)) (nx := 155) hO rfl rfl (hs_o12 kc139) rfl rfl ?_
            refine s_iload (nx := 157) hO rfl rfl rfl ?_
            refine s_iload (nx := 159) hO rfl rfl rfl ?_
            obtain ⟨b39, H⟩ := H
            refine goV (wI s36 186 (ix x35) x38) (fun s40 es40 => ?_)
            replace H := H s40 es40
            refine s_iast (nx := 160) hO rfl (hs_I kc186) b39 rfl ?_
            refine xEx.at (up_I kc186 es40) ?_
            refine s_aload_n (nx := 161) hO rfl rfl rfl ?_
            refine s_getf (v := .ref (q_b G + 187)) (nx := 164) hO rfl rfl (hs_o12 kc139) rfl rfl ?_
            refine s_iload (nx := 166) hO rfl rfl rfl ?_
            refine s_iload (nx := 168) hO rfl rfl rfl ?_
            refine s_bipush (x := (nI 17)) (nx := 170) hO rfl (by decide) rfl ?_
            refine s_icmp_le (nx := 173) hO rfl rfl (fun c170 => ?_) (fun c170 => ?_)
            · replace H := H.1 c170
              refine s_aload_n (nx := 196) hO rfl rfl rfl ?_
              refine s_getf (v := .ref (q_b G + 187)) (nx := 199) hO rfl rfl (hs_o12 kc139) rfl rfl ?_
              refine s_iload (nx := 201) hO rfl rfl rfl ?_
              obtain ⟨b41, H⟩ := H
              refine s_iald (nx := 202) hO rfl (hs_I kc187) b41 rfl ?_
              obtain ⟨b42, H⟩ := H
              refine goV (wI s40 187 (ix x35) (sI s40 187 (ix x31))) (fun s43 es43 => ?_)
              replace H := H s43 es43
              refine s_iast (nx := 203) hO rfl (hs_I kc187) b42 rfl ?_
              refine xEx.at (up_I kc187 es43) ?_
              refine goV ((x10 + 1)) (fun x44 ex44 => ?_)
              replace H := H x44 ex44
              refine e_iinc (nx := 206) (l' := [(3, .int x44), (6, .int x38), (0, .ref (q_b G + 139)), (1, .int v1), (2, .int x1), (4, .int x31), (5, .int x35)]) ex44 hO rfl (by decide) rfl rfl rfl rfl ?_
              refine s_goto hO rfl ?_
              exact xEx.loc (x_sub1 (List.Mem.tail _ (List.Mem.tail _ (List.Mem.head _))) (x_sub1 (List.Mem.tail _ (List.Mem.tail _ (List.Mem.tail _ (List.Mem.head _)))) (x_sub1 (List.Mem.tail _ (List.Mem.tail _ (List.Mem.tail _ (List.Mem.tail _ (List.Mem.head _))))) (x_sub1 (List.Mem.head _) x_sub0)))) H
            · replace H := H.2 c170
              refine s_iload (nx := 175) hO rfl rfl rfl ?_
              refine s_bipush (x := (nI 21)) (nx := 177) hO rfl (by decide) rfl ?_
              refine s_icmp_ge (nx := 180) hO rfl rfl (fun c177 => ?_) (fun c177 => ?_)
              · replace H := H.1 c177
                refine s_aload_n (nx := 196) hO rfl rfl rfl ?_
                refine s_getf (v := .ref (q_b G + 187)) (nx := 199) hO rfl rfl (hs_o12 kc139) rfl rfl ?_
                refine s_iload (nx := 201) hO rfl rfl rfl ?_
                obtain ⟨b45, H⟩ := H
                refine s_iald (nx := 202) hO rfl (hs_I kc187) b45 rfl ?_
                obtain ⟨b46, H⟩ := H
                refine goV (wI s40 187 (ix x35) (sI s40 187 (ix x31))) (fun s47 es47 => ?_)
                replace H := H s47 es47
                refine s_iast (nx := 203) hO rfl (hs_I kc187) b46 rfl ?_
                refine xEx.at (up_I kc187 es47) ?_
                refine goV ((x10 + 1)) (fun x48 ex48 => ?_)
                replace H := H x48 ex48
                refine e_iinc (nx := 206) (l' := [(3, .int x48), (6, .int x38), (0, .ref (q_b G + 139)), (1, .int v1), (2, .int x1), (4, .int x31), (5, .int x35)]) ex48 hO rfl (by decide) rfl rfl rfl rfl ?_
                refine s_goto hO rfl ?_
                exact xEx.loc (x_sub1 (List.Mem.tail _ (List.Mem.tail _ (List.Mem.head _))) (x_sub1 (List.Mem.tail _ (List.Mem.tail _ (List.Mem.tail _ (List.Mem.head _)))) (x_sub1 (List.Mem.tail _ (List.Mem.tail _ (List.Mem.tail _ (List.Mem.tail _ (List.Mem.head _))))) (x_sub1 (List.Mem.head _) x_sub0)))) H
              · replace H := H.2 c177
                refine s_aload_n (nx := 181) hO rfl rfl rfl ?_
                refine s_getf (v := .ref (q_b G + 203)) (nx := 184) hO rfl rfl (hs_o12 kc139) rfl rfl ?_
                refine s_aload_n (nx := 185) hO rfl rfl rfl ?_
                refine s_getf (v := .ref (q_b G + 187)) (nx := 188) hO rfl rfl (hs_o12 kc139) rfl rfl ?_
                refine s_iload (nx := 190) hO rfl rfl rfl ?_
                obtain ⟨b49, H⟩ := H
                refine s_iald (nx := 191) hO rfl (hs_I kc187) b49 rfl ?_
                obtain ⟨b50, H⟩ := H
                refine s_iald (nx := 192) hO rfl (hs_I kc203) b50 rfl ?_
                refine s_goto hO rfl ?_
                obtain ⟨b51, H⟩ := H
                refine goV (wI s40 187 (ix x35) (sI s40 203 (ix (sI s40 187 (ix x31))))) (fun s52 es52 => ?_)
                replace H := H s52 es52
                refine s_iast (nx := 203) hO rfl (hs_I kc187) b51 rfl ?_
                refine xEx.at (up_I kc187 es52) ?_
                refine goV ((x10 + 1)) (fun x53 ex53 => ?_)
                replace H := H x53 ex53
                refine e_iinc (nx := 206) (l' := [(3, .int x53), (6, .int x38), (0, .ref (q_b G + 139)), (1, .int v1), (2, .int x1), (4, .int x31), (5, .int x35)]) ex53 hO rfl (by decide) rfl rfl rfl rfl ?_
                refine s_goto hO rfl ?_
                exact xEx.loc (x_sub1 (List.Mem.tail _ (List.Mem.tail _ (List.Mem.head _))) (x_sub1 (List.Mem.tail _ (List.Mem.tail _ (List.Mem.tail _ (List.Mem.head _)))) (x_sub1 (List.Mem.tail _ (List.Mem.tail _ (List.Mem.tail _ (List.Mem.tail _ (List.Mem.head _))))) (x_sub1 (List.Mem.head _) x_sub0)))) H
          refine s_if_eq (nx := 116) hO rfl rfl (fun c113 => ?_) (fun c113 => ?_)
          · replace H := H.1 c113
            exact xEx.loc (x_sub1 (List.Mem.tail _ (List.Mem.tail _ (List.Mem.head _))) (x_sub1 (List.Mem.tail _ (List.Mem.tail _ (List.Mem.tail _ (List.Mem.head _)))) (x_sub1 (List.Mem.tail _ (List.Mem.tail _ (List.Mem.tail _ (List.Mem.tail _ (List.Mem.head _))))) (x_sub1 (List.Mem.tail _ (List.Mem.tail _ (List.Mem.tail _ (List.Mem.tail _ (List.Mem.tail _ (List.Mem.head _)))))) (x_sub1 (List.Mem.tail _ (List.Mem.head _)) (x_sub1 (List.Mem.head _) x_sub0)))))) H
          · replace H := H.2 c113
            refine s_aload_n (nx := 117) hO rfl rfl rfl ?_
            refine s_getf (v := .ref (q_b G + 186)) (nx := 120) hO rfl rfl (hs_o12 kc139) rfl rfl ?_
            refine s_iload (nx := 122) hO rfl rfl rfl ?_
            refine s_bipush (x := (nI 29)) (nx := 124) hO rfl (by decide) rfl ?_
            obtain ⟨b54, H⟩ := H
            refine goV (wI s11 186 (ix x33) (nI 29)) (fun s55 es55 => ?_)
            replace H := H s55 es55
            refine s_iast (nx := 125) hO rfl (hs_I kc186) b54 rfl ?_
            refine xEx.at (up_I kc186 es55) ?_
            refine s_aload_n (nx := 126) hO rfl rfl rfl ?_
            refine s_getf (v := .ref (q_b G + 187)) (nx := 129) hO rfl rfl (hs_o12 kc139) rfl rfl ?_
            refine s_iload (nx := 131) hO rfl rfl rfl ?_
            refine s_aload_n (nx := 132) hO rfl rfl rfl ?_
            refine s_getf (v := .ref (q_b G + 187)) (nx := 135) hO rfl rfl (hs_o12 kc139) rfl rfl ?_
            refine s_iload (nx := 137) hO rfl rfl rfl ?_
            obtain ⟨b56, H⟩ := H
            refine s_iald (nx := 138) hO rfl (hs_I kc187) b56 rfl ?_
            obtain ⟨b57, H⟩ := H
            refine goV (wI s55 187 (ix x33) (sI s55 187 (ix x31))) (fun s58 es58 => ?_)
            replace H := H s58 es58
            refine s_iast (nx := 139) hO rfl (hs_I kc187) b57 rfl ?_
            refine xEx.at (up_I kc187 es58) ?_
            refine goV ((x33 + 1)) (fun x59 ex59 => ?_)
            replace H := H x59 ex59
            refine e_iinc (nx := 142) (l' := [(5, .int x59), (4, .int x31), (0, .ref (q_b G + 139)), (1, .int v1), (2, .int x1), (3, .int x10)]) ex59 hO rfl (by decide) rfl rfl rfl rfl ?_
            exact xEx.loc (x_sub1 (List.Mem.tail _ (List.Mem.tail _ (List.Mem.head _))) (x_sub1 (List.Mem.tail _ (List.Mem.tail _ (List.Mem.tail _ (List.Mem.head _)))) (x_sub1 (List.Mem.tail _ (List.Mem.tail _ (List.Mem.tail _ (List.Mem.tail _ (List.Mem.head _))))) (x_sub1 (List.Mem.tail _ (List.Mem.tail _ (List.Mem.tail _ (List.Mem.tail _ (List.Mem.tail _ (List.Mem.head _)))))) (x_sub1 (List.Mem.tail _ (List.Mem.head _)) (x_sub1 (List.Mem.head _) x_sub0)))))) H
      refine s_istore_n (nx := 69) (l' := [(3, .int 0), (0, .ref (q_b G + 139)), (1, .int v1), (2, .int x1)]) hO rfl (by decide) rfl rfl ?_
      exact xEx.loc (x_sub1 (List.Mem.tail _ (List.Mem.head _)) (x_sub1 (List.Mem.tail _ (List.Mem.tail _ (List.Mem.head _))) (x_sub1 (List.Mem.tail _ (List.Mem.tail _ (List.Mem.tail _ (List.Mem.head _)))) (x_sub1 (List.Mem.head _) x_sub0)))) H
    · replace H := H.2 c11
      refine s_aload_n (nx := 15) hO rfl rfl rfl ?_
      refine s_getf (v := .ref (q_b G + 203)) (nx := 18) hO rfl rfl (hs_o12 kc139) rfl rfl ?_
      refine s_iload_n (nx := 19) hO rfl rfl rfl ?_
      refine s_iload_n (nx := 20) hO rfl rfl rfl ?_
      obtain ⟨b60, H⟩ := H
      refine goV (wI s3 203 (ix x2) x1) (fun s61 es61 => ?_)
      replace H := H s61 es61
      refine s_iast (nx := 21) hO rfl (hs_I kc203) b60 rfl ?_
      refine xEx.at (up_I kc203 es61) ?_
      refine s_iload_n (nx := 22) hO rfl rfl rfl ?_
      refine s_aload_n (nx := 23) hO rfl rfl rfl ?_
      refine s_iconst (x := 0) (nx := 24) hO rfl (by decide) rfl ?_
      refine s_iload_n (nx := 25) hO rfl rfl rfl ?_
      refine s_iload_n (nx := 26) hO rfl rfl rfl ?_
      refine s_callV [.int 0, .int v1, .int x2] (ci := 12) (F := TX12) (N := 116) (nx := 29) hO rfl kX12_forge_598 (by rw [hcl]; rfl) (hs_o12 kc139) (w_X12_needs hG H) rfl rfl (Nat.le_of_ble_eq_true rfl) (Nat.zero_le _) (Nat.zero_le _) rfl (k_Pi (fun r62 H => ?_))
      refine goK (H (fun (y63 : Int32) (y64 : Int32) => xEx G mX12_forge 37 [(0, .ref (q_b G + 139)), (1, .int v1), (3, .int x2)] [.int y63, .int y64] (hS G s61) z 0 0 (yQi G z Q)) (fun y63 y64 H => ?_)) (fun H => ?_)
      · show xEx G mX12_forge 37 [(0, .ref (q_b G + 139)), (1, .int v1), (3, .int x2)] [.int y63, .int y64] (hS G s61) z 0 0 (yQi G z Q)
        refine s_iadd (nx := 38) hO rfl rfl ?_
        refine goV ((y64 + y63)) (fun x65 ex65 => ?_)
        replace H := H x65 ex65
        refine e_istore_n (nx := 39) (l' := [(2, .int x65), (0, .ref (q_b G + 139)), (1, .int v1), (3, .int x2)]) ex65 hO rfl (by decide) rfl rfl ?_
        refine goV ((x2 + 1)) (fun x66 ex66 => ?_)
        replace H := H x66 ex66
        refine e_iinc (nx := 42) (l' := [(3, .int x66), (2, .int x65), (0, .ref (q_b G + 139)), (1, .int v1)]) ex66 hO rfl (by decide) rfl rfl rfl rfl ?_
        refine s_goto hO rfl ?_
        exact xEx.loc (x_sub1 (List.Mem.tail _ (List.Mem.tail _ (List.Mem.head _))) (x_sub1 (List.Mem.tail _ (List.Mem.tail _ (List.Mem.tail _ (List.Mem.head _)))) (x_sub1 (List.Mem.tail _ (List.Mem.head _)) (x_sub1 (List.Mem.head _) x_sub0)))) H
      refine s_if_eq (nx := 32) hO rfl rfl (fun c29 => ?_) (fun c29 => ?_)
      · replace H := H.1 c29
        refine s_iconst (x := 1) (nx := 37) hO rfl (by decide) rfl ?_
        exact xEx.loc (x_sub1 (List.Mem.head _) (x_sub1 (List.Mem.tail _ (List.Mem.head _)) (x_sub1 (List.Mem.tail _ (List.Mem.tail _ (List.Mem.tail _ (List.Mem.head _)))) x_sub0))) H
      · replace H := H.2 c29
        refine s_iconst (x := (nI 2)) (nx := 33) hO rfl (by decide) rfl ?_
        refine s_goto hO rfl ?_
        exact xEx.loc (x_sub1 (List.Mem.head _) (x_sub1 (List.Mem.tail _ (List.Mem.head _)) (x_sub1 (List.Mem.tail _ (List.Mem.tail _ (List.Mem.tail _ (List.Mem.head _)))) x_sub0))) H
  refine s_istore_n (nx := 4) (l' := [(3, .int 0), (2, .int 0), (0, .ref (q_b G + 139)), (1, .int v1)]) hO rfl (by decide) rfl rfl ?_
  exact xEx.loc (x_sub1 (List.Mem.tail _ (List.Mem.tail _ (List.Mem.head _))) (x_sub1 (List.Mem.tail _ (List.Mem.tail _ (List.Mem.tail _ (List.Mem.head _)))) (x_sub1 (List.Mem.tail _ (List.Mem.head _)) (x_sub1 (List.Mem.head _) x_sub0)))) H
def W_X12_forgeIt (s : yS) (Q : Int32 → yS → Prop) : Prop :=
 ∀ s1 : yS, s1 = wI s 139 0 0 → 
 vp_in 0 3 ∧ 
 ((¬ (sI s1 177 (ix 0)) = 0 → W_X12_makeMay s1 0 
  (fun s3 => ∀ P23 : Int32 → Prop, (∀ (x4 : Int32), (vp_in 0 3 ∧ 
   (((sI s3 178 (ix 0)) ≤ x4 → W_X12_sizeOf s3 0 
    (fun r6 => ∀ P104 : Int32 → Int32 → Prop, (∀ (x7 : Int32) (x8 : Int32), (vp_in 0 3 ∧ 
     (((sI s3 178 (ix 0)) ≤ x8 → ((x7 ≤ (nI 8192) → W_X12_copyProgram s3 0 1 
       (fun s10 => vp_in 1 2 ∧ ∀ s12 : yS, s12 = wI s10 200 (ix 1) (vp_nar .boolean 0) → 
       ∀ s13 : yS, s13 = wI s12 139 15 0 → 
       ∀ P216 : Int32 → Int32 → yS → Prop, (∀ (x14 : Int32) (x15 : Int32) (s16 : yS), (vp_in 0 3 ∧ 
        (((sI s16 178 (ix 0)) ≤ x15 → Q x14 s16)
        ∧ (¬ (sI s16 178 (ix 0)) ≤ x15 → W_X12_forge s16 x15 
         (fun r18 s19 => ∀ x20 : Int32, x20 = (x14 + r18) → 
         W_X12_verify s19 1 x15 
         (fun s21 => ∀ x22 : Int32, x22 = (x15 + 1) → 
         P216 x20 x22 s21))))) → P216 x14 x15 s16) → 
       P216 0 0 s13))
      ∧ (¬ x7 ≤ (nI 8192) → Q (-2) s3)))
     ∧ (¬ (sI s3 178 (ix 0)) ≤ x8 → ∀ P119 : Int32 → Int32 → Prop, (∀ (x23 : Int32) (x24 : Int32), (vp_in x8 36 ∧ 
       (((sI s3 184 (ix x8)) ≤ x24 → ∀ x26 : Int32, x26 = (x7 + ((nI 2) * x23)) → 
        vp_in x8 36 ∧ 
        ((((sI s3 184 (ix x8)) + x23) ≤ (nI 400) → ∀ x28 : Int32, x28 = (x8 + 1) → 
         P104 x26 x28)
        ∧ (¬ ((sI s3 184 (ix x8)) + x23) ≤ (nI 400) → Q (-2) s3)))
       ∧ (¬ (sI s3 184 (ix x8)) ≤ x24 → W_X12_needs s3 0 x8 x24 
        (fun r29 => ∀ P147 : Int32 → Int32 → Prop, (∀ (y30 : Int32) (y31 : Int32), (∀ x32 : Int32, x32 = (y31 + y30) → 
         ∀ x33 : Int32, x33 = (x24 + 1) → 
         P119 x32 x33) → P147 y30 y31) → 
        ((r29 = 0 → P147 0 x23)
        ∧ (¬ r29 = 0 → P147 1 x23)))))) → P119 x23 x24) → 
      P119 0 0))) → P104 x7 x8) → 
    P104 r6 0))
   ∧ (¬ (sI s3 178 (ix 0)) ≤ x4 → ∀ P37 : Int32 → Int32 → Prop, (∀ (x34 : Int32) (x35 : Int32), (vp_in x4 36 ∧ 
     (((sI s3 184 (ix x4)) ≤ x35 → ∀ x37 : Int32, x37 = (x4 + 1) → 
      P23 x37)
     ∧ (¬ (sI s3 184 (ix x4)) ≤ x35 → W_X12_needs s3 0 x4 x35 
      (fun r38 => ∀ P63 : Int32 → Int32 → Prop, (∀ (y39 : Int32) (y40 : Int32), (∀ x41 : Int32, x41 = (y40 + y39) → 
       vp_in (((nI 400) * x4) + x35) 14400 ∧ 
       ((¬ (sI s3 186 (ix (((nI 400) * x4) + x35))) = (nI 29) → ∀ x43 : Int32, x43 = (x35 + 1) → 
        P37 x41 x43)
       ∧ ((sI s3 186 (ix (((nI 400) * x4) + x35))) = (nI 29) → Q (-1) s3))) → P63 y39 y40) → 
      ((r38 = 0 → P63 0 x34)
      ∧ (¬ r38 = 0 → P63 1 x34)))))) → P37 x34 x35) → 
    P37 0 0))) → P23 x4) → 
  P23 0))
 ∧ ((sI s1 177 (ix 0)) = 0 → Q (-1) s1))
set_option maxRecDepth 100000 in
set_option maxHeartbeats 40000000 in
theorem w_X12_forgeIt {G : xG} (hG : yG G) {z : Nat} {s : yS} {Q : Int32 → yS → Prop} (H : W_X12_forgeIt s Q) : xC G mX12_forgeIt [.ref (q_b G + 139)] (hS G s) z 0 0 (yQi G z Q) := by
  have hW := hG.1
  have hcl := hG.2.1
  have hty := hG.2.2.1
  have hO : xO G mX12_forgeIt tbX12_forgeIt ptX12_forgeIt := ⟨tkX12_forgeIt, pkX12_forgeIt hcl⟩
  unfold W_X12_forgeIt at H
  refine xC.of hW (by decide) rfl (Nat.le_of_ble_eq_true rfl) ?_
  refine s_aload_n (nx := 1) hO rfl rfl rfl ?_
  refine s_iconst (x := 0) (nx := 2) hO rfl (by decide) rfl ?_
  refine goV (wI s 139 0 0) (fun s1 es1 => ?_)
  replace H := H s1 es1
  refine s_putf (nx := 5) hO rfl rfl (hs_o12 kc139) (Nat.le_of_ble_eq_true rfl) (by rw [hty]; rfl) (by rw [hty]; rfl) pX12_0 rfl ?_
  refine xEx.at (up_oI12 kc139 es1) ?_
  refine s_aload_n (nx := 6) hO rfl rfl rfl ?_
  refine s_getf (v := .ref (q_b G + 177)) (nx := 9) hO rfl rfl (hs_o12 kc139) rfl rfl ?_
  refine s_iconst (x := 0) (nx := 10) hO rfl (by decide) rfl ?_
  obtain ⟨b2, H⟩ := H
  refine s_zald (nx := 11) hO rfl (hs_Z kc177) b2 rfl ?_
  refine s_if_ne (nx := 14) hO rfl rfl (fun c11 => ?_) (fun c11 => ?_)
  · replace H := H.1 c11
    refine s_aload_n (nx := 17) hO rfl rfl rfl ?_
    refine s_iconst (x := 0) (nx := 18) hO rfl (by decide) rfl ?_
    refine s_callV [.int 0] (ci := 12) (F := TX12) (N := 116) (nx := 21) hO rfl kX12_forgeIt_595 (by rw [hcl]; rfl) (hs_o12 kc139) (w_X12_makeMay hG H) rfl rfl (Nat.le_of_ble_eq_true rfl) (Nat.zero_le _) (Nat.zero_le _) rfl (k_Qv (fun s3 H => ?_))
    refine s_iconst (x := 0) (nx := 22) hO rfl (by decide) rfl ?_
    refine goK (H (fun (x4 : Int32) => xEx G mX12_forgeIt 23 [(0, .ref (q_b G + 139)), (1, .int x4)] [] (hS G s3) z 0 0 (yQi G z Q)) (fun x4 H => ?_)) (fun H => ?_)
    · show xEx G mX12_forgeIt 23 [(0, .ref (q_b G + 139)), (1, .int x4)] [] (hS G s3) z 0 0 (yQi G z Q)
      refine s_iload_n (nx := 24) hO rfl rfl rfl ?_
      refine s_aload_n (nx := 25) hO rfl rfl rfl ?_
      refine s_getf (v := .ref (q_b G + 178)) (nx := 28) hO rfl rfl (hs_o12 kc139) rfl rfl ?_
      refine s_iconst (x := 0) (nx := 29) hO rfl (by decide) rfl ?_
      obtain ⟨b5, H⟩ := H
      refine s_iald (nx := 30) hO rfl (hs_I kc178) b5 rfl ?_
      refine s_icmp_ge (nx := 33) hO rfl rfl (fun c30 => ?_) (fun c30 => ?_)
      · replace H := H.1 c30
        refine s_aload_n (nx := 97) hO rfl rfl rfl ?_
        refine s_iconst (x := 0) (nx := 98) hO rfl (by decide) rfl ?_
        refine s_callV [.int 0] (ci := 12) (F := TX12) (N := 116) (nx := 101) hO rfl kX12_forgeIt_601 (by rw [hcl]; rfl) (hs_o12 kc139) (w_X12_sizeOf hG H) rfl rfl (Nat.le_of_ble_eq_true rfl) (Nat.zero_le _) (Nat.zero_le _) rfl (k_Pi (fun r6 H => ?_))
        refine s_istore_n (nx := 102) (l' := [(1, .int r6), (0, .ref (q_b G + 139))]) hO rfl (by decide) rfl rfl ?_
        refine s_iconst (x := 0) (nx := 103) hO rfl (by decide) rfl ?_
        refine goK (H (fun (x7 : Int32) (x8 : Int32) => xEx G mX12_forgeIt 104 [(0, .ref (q_b G + 139)), (1, .int x7), (2, .int x8)] [] (hS G s3) z 0 0 (yQi G z Q)) (fun x7 x8 H => ?_)) (fun H => ?_)
        · show xEx G mX12_forgeIt 104 [(0, .ref (q_b G + 139)), (1, .int x7), (2, .int x8)] [] (hS G s3) z 0 0 (yQi G z Q)
          refine s_iload_n (nx := 105) hO rfl rfl rfl ?_
          refine s_aload_n (nx := 106) hO rfl rfl rfl ?_
          refine s_getf (v := .ref (q_b G + 178)) (nx := 109) hO rfl rfl (hs_o12 kc139) rfl rfl ?_
          refine s_iconst (x := 0) (nx := 110) hO rfl (by decide) rfl ?_
          obtain ⟨b9, H⟩ := H
          refine s_iald (nx := 111) hO rfl (hs_I kc178) b9 rfl ?_
          refine s_icmp_ge (nx := 114) hO rfl rfl (fun c111 => ?_) (fun c111 => ?_)
          · replace H := H.1 c111
            refine s_iload_n (nx := 185) hO rfl rfl rfl ?_
            refine s_sipush (x := (nI 8192)) (nx := 188) hO rfl (by decide) rfl ?_
            refine s_icmp_le (nx := 191) hO rfl rfl (fun c188 => ?_) (fun c188 => ?_)
            · replace H := H.1 c188
              refine s_aload_n (nx := 195) hO rfl rfl rfl ?_
              refine s_iconst (x := 0) (nx := 196) hO rfl (by decide) rfl ?_
              refine s_iconst (x := 1) (nx := 197) hO rfl (by decide) rfl ?_
              refine s_callV [.int 0, .int 1] (ci := 12) (F := TX12) (N := 116) (nx := 200) hO rfl kX12_forgeIt_546 (by rw [hcl]; rfl) (hs_o12 kc139) (w_X12_copyProgram hG H) rfl rfl (Nat.le_of_ble_eq_true rfl) (Nat.zero_le _) (Nat.zero_le _) rfl (k_Qv (fun s10 H => ?_))
              refine s_aload_n (nx := 201) hO rfl rfl rfl ?_
              refine s_getf (v := .ref (q_b G + 200)) (nx := 204) hO rfl rfl (hs_o12 kc139) rfl rfl ?_
              refine s_iconst (x := 1) (nx := 205) hO rfl (by decide) rfl ?_
              refine s_iconst (x := 0) (nx := 206) hO rfl (by decide) rfl ?_
              obtain ⟨b11, H⟩ := H
              refine goV (wI s10 200 (ix 1) (vp_nar .boolean 0)) (fun s12 es12 => ?_)
              replace H := H s12 es12
              refine s_zast (nx := 207) hO rfl (hs_Z kc200) b11 rfl ?_
              refine xEx.at (up_Z kc200 es12) ?_
              refine s_aload_n (nx := 208) hO rfl rfl rfl ?_
              refine s_iconst (x := 0) (nx := 209) hO rfl (by decide) rfl ?_
              refine goV (wI s12 139 15 0) (fun s13 es13 => ?_)
              replace H := H s13 es13
              refine s_putf (nx := 212) hO rfl rfl (hs_o12 kc139) (Nat.le_of_ble_eq_true rfl) (by rw [hty]; rfl) (by rw [hty]; rfl) pX12_15 rfl ?_
              refine xEx.at (up_oI12 kc139 es13) ?_
              refine s_iconst (x := 0) (nx := 213) hO rfl (by decide) rfl ?_
              refine s_istore_n (nx := 214) (l' := [(2, .int 0), (0, .ref (q_b G + 139)), (1, .int x7)]) hO rfl (by decide) rfl rfl ?_
              refine s_iconst (x := 0) (nx := 215) hO rfl (by decide) rfl ?_
              refine goK (H (fun (x14 : Int32) (x15 : Int32) (s16 : yS) => xEx G mX12_forgeIt 216 [(0, .ref (q_b G + 139)), (2, .int x14), (3, .int x15)] [] (hS G s16) z 0 0 (yQi G z Q)) (fun x14 x15 s16 H => ?_)) (fun H => ?_)
              · show xEx G mX12_forgeIt 216 [(0, .ref (q_b G + 139)), (2, .int x14), (3, .int x15)] [] (hS G s16) z 0 0 (yQi G z Q)
                refine s_iload_n (nx := 217) hO rfl rfl rfl ?_
                refine s_aload_n (nx := 218) hO rfl rfl rfl ?_
                refine s_getf (v := .ref (q_b G + 178)) (nx := 221) hO rfl rfl (hs_o12 kc139) rfl rfl ?_
                refine s_iconst (x := 0) (nx := 222) hO rfl (by decide) rfl ?_
                obtain ⟨b17, H⟩ := H
                refine s_iald (nx := 223) hO rfl (hs_I kc178) b17 rfl ?_
                refine s_icmp_ge (nx := 226) hO rfl rfl (fun c223 => ?_) (fun c223 => ?_)
                · replace H := H.1 c223
                  refine s_iload_n (nx := 247) hO rfl rfl rfl ?_
                  exact s_iret hO rfl rfl rfl ⟨rfl, _, _, rfl, rfl, H⟩
                · replace H := H.2 c223
                  refine s_iload_n (nx := 227) hO rfl rfl rfl ?_
                  refine s_aload_n (nx := 228) hO rfl rfl rfl ?_
                  refine s_iload_n (nx := 229) hO rfl rfl rfl ?_
                  refine s_callV [.int x15] (ci := 12) (F := TX12) (N := 116) (nx := 232) hO rfl kX12_forgeIt_604 (by rw [hcl]; rfl) (hs_o12 kc139) (w_X12_forge hG H) rfl rfl (Nat.le_of_ble_eq_true rfl) (Nat.zero_le _) (Nat.zero_le _) rfl (k_Qi (fun r18 s19 H => ?_))
                  refine s_iadd (nx := 233) hO rfl rfl ?_
                  refine goV ((x14 + r18)) (fun x20 ex20 => ?_)
                  replace H := H x20 ex20
                  refine e_istore_n (nx := 234) (l' := [(2, .int x20), (0, .ref (q_b G + 139)), (3, .int x15)]) ex20 hO rfl (by decide) rfl rfl ?_
                  refine s_aload_n (nx := 235) hO rfl rfl rfl ?_
                  refine s_iconst (x := 1) (nx := 236) hO rfl (by decide) rfl ?_
                  refine s_iload_n (nx := 237) hO rfl rfl rfl ?_
                  refine s_callV [.int 1, .int x15] (ci := 12) (F := TX12) (N := 116) (nx := 240) hO rfl kX12_forgeIt_543 (by rw [hcl]; rfl) (hs_o12 kc139) (w_X12_verify hG H) rfl rfl (Nat.le_of_ble_eq_true rfl) (Nat.zero_le _) (Nat.zero_le _) rfl (k_Qv (fun s21 H => ?_))
                  refine goV ((x15 + 1)) (fun x22 ex22 => ?_)
                  replace H := H x22 ex22
                  refine e_iinc (nx := 243) (l' := [(3, .int x22), (2, .int x20), (0, .ref (q_b G + 139))]) ex22 hO rfl (by decide) rfl rfl rfl rfl ?_
                  refine s_goto hO rfl ?_
                  exact xEx.loc (x_sub1 (List.Mem.tail _ (List.Mem.tail _ (List.Mem.head _))) (x_sub1 (List.Mem.tail _ (List.Mem.head _)) (x_sub1 (List.Mem.head _) x_sub0))) H
              refine s_istore_n (nx := 216) (l' := [(3, .int 0), (2, .int 0), (0, .ref (q_b G + 139)), (1, .int x7)]) hO rfl (by decide) rfl rfl ?_
              exact xEx.loc (x_sub1 (List.Mem.tail _ (List.Mem.tail _ (List.Mem.head _))) (x_sub1 (List.Mem.tail _ (List.Mem.head _)) (x_sub1 (List.Mem.head _) x_sub0))) H
            · replace H := H.2 c188
              refine s_bipush (x := (-2)) (nx := 193) hO rfl (by decide) rfl ?_
              exact s_iret hO rfl rfl rfl ⟨rfl, _, _, rfl, rfl, H⟩
          · replace H := H.2 c111
            refine s_iconst (x := 0) (nx := 115) hO rfl (by decide) rfl ?_
            refine s_istore_n (nx := 116) (l' := [(3, .int 0), (0, .ref (q_b G + 139)), (1, .int x7), (2, .int x8)]) hO rfl (by decide) rfl rfl ?_
            refine s_iconst (x := 0) (nx := 117) hO rfl (by decide) rfl ?_
            refine goK (H (fun (x23 : Int32) (x24 : Int32) => xEx G mX12_forgeIt 119 [(0, .ref (q_b G + 139)), (1, .int x7), (2, .int x8), (3, .int x23), (4, .int x24)] [] (hS G s3) z 0 0 (yQi G z Q)) (fun x23 x24 H => ?_)) (fun H => ?_)
            · show xEx G mX12_forgeIt 119 [(0, .ref (q_b G + 139)), (1, .int x7), (2, .int x8), (3, .int x23), (4, .int x24)] [] (hS G s3) z 0 0 (yQi G z Q)
              refine s_iload (nx := 121) hO rfl rfl rfl ?_
              refine s_aload_n (nx := 122) hO rfl rfl rfl ?_
              refine s_getf (v := .ref (q_b G + 184)) (nx := 125) hO rfl rfl (hs_o12 kc139) rfl rfl ?_
              refine s_iload_n (nx := 126) hO rfl rfl rfl ?_
              obtain ⟨b25, H⟩ := H
              refine s_iald (nx := 127) hO rfl (hs_I kc184) b25 rfl ?_
              refine s_icmp_ge (nx := 130) hO rfl rfl (fun c127 => ?_) (fun c127 => ?_)
              · replace H := H.1 c127
                refine s_iload_n (nx := 156) hO rfl rfl rfl ?_
                refine s_iconst (x := (nI 2)) (nx := 157) hO rfl (by decide) rfl ?_
                refine s_iload_n (nx := 158) hO rfl rfl rfl ?_
                refine s_imul (nx := 159) hO rfl rfl ?_
                refine s_iadd (nx := 160) hO rfl rfl ?_
                refine goV ((x7 + ((nI 2) * x23))) (fun x26 ex26 => ?_)
                replace H := H x26 ex26
                refine e_istore_n (nx := 161) (l' := [(1, .int x26), (0, .ref (q_b G + 139)), (2, .int x8), (3, .int x23), (4, .int x24)]) ex26 hO rfl (by decide) rfl rfl ?_
                refine s_aload_n (nx := 162) hO rfl rfl rfl ?_
                refine s_getf (v := .ref (q_b G + 184)) (nx := 165) hO rfl rfl (hs_o12 kc139) rfl rfl ?_
                refine s_iload_n (nx := 166) hO rfl rfl rfl ?_
                obtain ⟨b27, H⟩ := H
                refine s_iald (nx := 167) hO rfl (hs_I kc184) b27 rfl ?_
                refine s_iload_n (nx := 168) hO rfl rfl rfl ?_
                refine s_iadd (nx := 169) hO rfl rfl ?_
                refine s_sipush (x := (nI 400)) (nx := 172) hO rfl (by decide) rfl ?_
                refine s_icmp_le (nx := 175) hO rfl rfl (fun c172 => ?_) (fun c172 => ?_)
                · replace H := H.1 c172
                  refine goV ((x8 + 1)) (fun x28 ex28 => ?_)
                  replace H := H x28 ex28
                  refine e_iinc (nx := 181) (l' := [(2, .int x28), (1, .int x26), (0, .ref (q_b G + 139)), (3, .int x23), (4, .int x24)]) ex28 hO rfl (by decide) rfl rfl rfl rfl ?_
                  refine s_goto hO rfl ?_
                  exact xEx.loc (x_sub1 (List.Mem.tail _ (List.Mem.tail _ (List.Mem.head _))) (x_sub1 (List.Mem.tail _ (List.Mem.head _)) (x_sub1 (List.Mem.head _) x_sub0))) H
                · replace H := H.2 c172
                  refine s_bipush (x := (-2)) (nx := 177) hO rfl (by decide) rfl ?_
                  exact s_iret hO rfl rfl rfl ⟨rfl, _, _, rfl, rfl, H⟩
              · replace H := H.2 c127
                refine s_iload_n (nx := 131) hO rfl rfl rfl ?_
                refine s_aload_n (nx := 132) hO rfl rfl rfl ?_
                refine s_iconst (x := 0) (nx := 133) hO rfl (by decide) rfl ?_
                refine s_iload_n (nx := 134) hO rfl rfl rfl ?_
                refine s_iload (nx := 136) hO rfl rfl rfl ?_
                refine s_callV [.int 0, .int x8, .int x24] (ci := 12) (F := TX12) (N := 116) (nx := 139) hO rfl kX12_forgeIt_598 (by rw [hcl]; rfl) (hs_o12 kc139) (w_X12_needs hG H) rfl rfl (Nat.le_of_ble_eq_true rfl) (Nat.zero_le _) (Nat.zero_le _) rfl (k_Pi (fun r29 H => ?_))
                refine goK (H (fun (y30 : Int32) (y31 : Int32) => xEx G mX12_forgeIt 147 [(0, .ref (q_b G + 139)), (1, .int x7), (2, .int x8), (4, .int x24)] [.int y30, .int y31] (hS G s3) z 0 0 (yQi G z Q)) (fun y30 y31 H => ?_)) (fun H => ?_)
                · show xEx G mX12_forgeIt 147 [(0, .ref (q_b G + 139)), (1, .int x7), (2, .int x8), (4, .int x24)] [.int y30, .int y31] (hS G s3) z 0 0 (yQi G z Q)
                  refine s_iadd (nx := 148) hO rfl rfl ?_
                  refine goV ((y31 + y30)) (fun x32 ex32 => ?_)
                  replace H := H x32 ex32
                  refine e_istore_n (nx := 149) (l' := [(3, .int x32), (0, .ref (q_b G + 139)), (1, .int x7), (2, .int x8), (4, .int x24)]) ex32 hO rfl (by decide) rfl rfl ?_
                  refine goV ((x24 + 1)) (fun x33 ex33 => ?_)
                  replace H := H x33 ex33
                  refine e_iinc (nx := 152) (l' := [(4, .int x33), (3, .int x32), (0, .ref (q_b G + 139)), (1, .int x7), (2, .int x8)]) ex33 hO rfl (by decide) rfl rfl rfl rfl ?_
                  refine s_goto hO rfl ?_
                  exact xEx.loc (x_sub1 (List.Mem.tail _ (List.Mem.tail _ (List.Mem.head _))) (x_sub1 (List.Mem.tail _ (List.Mem.tail _ (List.Mem.tail _ (List.Mem.head _)))) (x_sub1 (List.Mem.tail _ (List.Mem.tail _ (List.Mem.tail _ (List.Mem.tail _ (List.Mem.head _))))) (x_sub1 (List.Mem.tail _ (List.Mem.head _)) (x_sub1 (List.Mem.head _) x_sub0))))) H
                refine s_if_eq (nx := 142) hO rfl rfl (fun c139 => ?_) (fun c139 => ?_)
                · replace H := H.1 c139
                  refine s_iconst (x := 0) (nx := 147) hO rfl (by decide) rfl ?_
                  exact xEx.loc (x_sub1 (List.Mem.head _) (x_sub1 (List.Mem.tail _ (List.Mem.head _)) (x_sub1 (List.Mem.tail _ (List.Mem.tail _ (List.Mem.head _))) (x_sub1 (List.Mem.tail _ (List.Mem.tail _ (List.Mem.tail _ (List.Mem.tail _ (List.Mem.head _))))) x_sub0)))) H
                · replace H := H.2 c139
                  refine s_iconst (x := 1) (nx := 143) hO rfl (by decide) rfl ?_
                  refine s_goto hO rfl ?_
                  exact xEx.loc (x_sub1 (List.Mem.head _) (x_sub1 (List.Mem.tail _ (List.Mem.head _)) (x_sub1 (List.Mem.tail _ (List.Mem.tail _ (List.Mem.head _))) (x_sub1 (List.Mem.tail _ (List.Mem.tail _ (List.Mem.tail _ (List.Mem.tail _ (List.Mem.head _))))) x_sub0)))) H
            refine s_istore (nx := 119) (l' := [(4, .int 0), (3, .int 0), (0, .ref (q_b G + 139)), (1, .int x7), (2, .int x8)]) hO rfl (by decide) rfl rfl ?_
            exact xEx.loc (x_sub1 (List.Mem.tail _ (List.Mem.tail _ (List.Mem.head _))) (x_sub1 (List.Mem.tail _ (List.Mem.tail _ (List.Mem.tail _ (List.Mem.head _)))) (x_sub1 (List.Mem.tail _ (List.Mem.tail _ (List.Mem.tail _ (List.Mem.tail _ (List.Mem.head _))))) (x_sub1 (List.Mem.tail _ (List.Mem.head _)) (x_sub1 (List.Mem.head _) x_sub0))))) H
        refine s_istore_n (nx := 104) (l' := [(2, .int 0), (1, .int r6), (0, .ref (q_b G + 139))]) hO rfl (by decide) rfl rfl ?_
        exact xEx.loc (x_sub1 (List.Mem.tail _ (List.Mem.tail _ (List.Mem.head _))) (x_sub1 (List.Mem.tail _ (List.Mem.head _)) (x_sub1 (List.Mem.head _) x_sub0))) H
      · replace H := H.2 c30
        refine s_iconst (x := 0) (nx := 34) hO rfl (by decide) rfl ?_
        refine s_istore_n (nx := 35) (l' := [(2, .int 0), (0, .ref (q_b G + 139)), (1, .int x4)]) hO rfl (by decide) rfl rfl ?_
        refine s_iconst (x := 0) (nx := 36) hO rfl (by decide) rfl ?_
        refine goK (H (fun (x34 : Int32) (x35 : Int32) => xEx G mX12_forgeIt 37 [(0, .ref (q_b G + 139)), (1, .int x4), (2, .int x34), (3, .int x35)] [] (hS G s3) z 0 0 (yQi G z Q)) (fun x34 x35 H => ?_)) (fun H => ?_)
        · show xEx G mX12_forgeIt 37 [(0, .ref (q_b G + 139)), (1, .int x4), (2, .int x34), (3, .int x35)] [] (hS G s3) z 0 0 (yQi G z Q)
          refine s_iload_n (nx := 38) hO rfl rfl rfl ?_
          refine s_aload_n (nx := 39) hO rfl rfl rfl ?_
          refine s_getf (v := .ref (q_b G + 184)) (nx := 42) hO rfl rfl (hs_o12 kc139) rfl rfl ?_
          refine s_iload_n (nx := 43) hO rfl rfl rfl ?_
          obtain ⟨b36, H⟩ := H
          refine s_iald (nx := 44) hO rfl (hs_I kc184) b36 rfl ?_
          refine s_icmp_ge (nx := 47) hO rfl rfl (fun c44 => ?_) (fun c44 => ?_)
          · replace H := H.1 c44
            refine goV ((x4 + 1)) (fun x37 ex37 => ?_)
            replace H := H x37 ex37
            refine e_iinc (nx := 93) (l' := [(1, .int x37), (0, .ref (q_b G + 139)), (2, .int x34), (3, .int x35)]) ex37 hO rfl (by decide) rfl rfl rfl rfl ?_
            refine s_goto hO rfl ?_
            exact xEx.loc (x_sub1 (List.Mem.tail _ (List.Mem.head _)) (x_sub1 (List.Mem.head _) x_sub0)) H
          · replace H := H.2 c44
            refine s_iload_n (nx := 48) hO rfl rfl rfl ?_
            refine s_aload_n (nx := 49) hO rfl rfl rfl ?_
            refine s_iconst (x := 0) (nx := 50) hO rfl (by decide) rfl ?_
            refine s_iload_n (nx := 51) hO rfl rfl rfl ?_
            refine s_iload_n (nx := 52) hO rfl rfl rfl ?_
            refine s_callV [.int 0, .int x4, .int x35] (ci := 12) (F := TX12) (N := 116) (nx := 55) hO rfl kX12_forgeIt_598 (by rw [hcl]; rfl) (hs_o12 kc139) (w_X12_needs hG H) rfl rfl (Nat.le_of_ble_eq_true rfl) (Nat.zero_le _) (Nat.zero_le _) rfl (k_Pi (fun r38 H => ?_))
            refine goK (H (fun (y39 : Int32) (y40 : Int32) => xEx G mX12_forgeIt 63 [(0, .ref (q_b G + 139)), (1, .int x4), (3, .int x35)] [.int y39, .int y40] (hS G s3) z 0 0 (yQi G z Q)) (fun y39 y40 H => ?_)) (fun H => ?_)
            · show xEx G mX12_forgeIt 63 [(0, .ref (q_b G + 139)), (1, .int x4), (3, .int x35)] [.int y39, .int y40] (hS G s3) z 0 0 (yQi G z Q)
              refine s_iadd (nx := 64) hO rfl rfl ?_
              refine goV ((y40 + y39)) (fun x41 ex41 => ?_)
              replace H := H x41 ex41
              refine e_istore_n (nx := 65) (l' := [(2, .int x41), (0, .ref (q_b G + 139)), (1, .int x4), (3, .int x35)]) ex41 hO rfl (by decide) rfl rfl ?_
              refine s_aload_n (nx := 66) hO rfl rfl rfl ?_
              refine s_getf (v := .ref (q_b G + 186)) (nx := 69) hO rfl rfl (hs_o12 kc139) rfl rfl ?_
              refine s_sipush (x := (nI 400)) (nx := 72) hO rfl (by decide) rfl ?_
              refine s_iload_n (nx := 73) hO rfl rfl rfl ?_
              refine s_imul (nx := 74) hO rfl rfl ?_
              refine s_iload_n (nx := 75) hO rfl rfl rfl ?_
              refine s_iadd (nx := 76) hO rfl rfl ?_
              obtain ⟨b42, H⟩ := H
              refine s_iald (nx := 77) hO rfl (hs_I kc186) b42 rfl ?_
              refine s_bipush (x := (nI 29)) (nx := 79) hO rfl (by decide) rfl ?_
              refine s_icmp_ne (nx := 82) hO rfl rfl (fun c79 => ?_) (fun c79 => ?_)
              · replace H := H.1 c79
                refine goV ((x35 + 1)) (fun x43 ex43 => ?_)
                replace H := H x43 ex43
                refine e_iinc (nx := 87) (l' := [(3, .int x43), (2, .int x41), (0, .ref (q_b G + 139)), (1, .int x4)]) ex43 hO rfl (by decide) rfl rfl rfl rfl ?_
                refine s_goto hO rfl ?_
                exact xEx.loc (x_sub1 (List.Mem.tail _ (List.Mem.tail _ (List.Mem.head _))) (x_sub1 (List.Mem.tail _ (List.Mem.tail _ (List.Mem.tail _ (List.Mem.head _)))) (x_sub1 (List.Mem.tail _ (List.Mem.head _)) (x_sub1 (List.Mem.head _) x_sub0)))) H
              · replace H := H.2 c79
                refine s_iconst (x := (-1)) (nx := 83) hO rfl (by decide) rfl ?_
                exact s_iret hO rfl rfl rfl ⟨rfl, _, _, rfl, rfl, H⟩
            refine s_if_eq (nx := 58) hO rfl rfl (fun c55 => ?_) (fun c55 => ?_)
            · replace H := H.1 c55
              refine s_iconst (x := 0) (nx := 63) hO rfl (by decide) rfl ?_
              exact xEx.loc (x_sub1 (List.Mem.head _) (x_sub1 (List.Mem.tail _ (List.Mem.head _)) (x_sub1 (List.Mem.tail _ (List.Mem.tail _ (List.Mem.tail _ (List.Mem.head _)))) x_sub0))) H
            · replace H := H.2 c55
              refine s_iconst (x := 1) (nx := 59) hO rfl (by decide) rfl ?_
              refine s_goto hO rfl ?_
              exact xEx.loc (x_sub1 (List.Mem.head _) (x_sub1 (List.Mem.tail _ (List.Mem.head _)) (x_sub1 (List.Mem.tail _ (List.Mem.tail _ (List.Mem.tail _ (List.Mem.head _)))) x_sub0))) H
        refine s_istore_n (nx := 37) (l' := [(3, .int 0), (2, .int 0), (0, .ref (q_b G + 139)), (1, .int x4)]) hO rfl (by decide) rfl rfl ?_
        exact xEx.loc (x_sub1 (List.Mem.tail _ (List.Mem.tail _ (List.Mem.head _))) (x_sub1 (List.Mem.tail _ (List.Mem.tail _ (List.Mem.tail _ (List.Mem.head _)))) (x_sub1 (List.Mem.tail _ (List.Mem.head _)) (x_sub1 (List.Mem.head _) x_sub0)))) H
    refine s_istore_n (nx := 23) (l' := [(1, .int 0), (0, .ref (q_b G + 139))]) hO rfl (by decide) rfl rfl ?_
    exact xEx.loc (x_sub1 (List.Mem.tail _ (List.Mem.head _)) (x_sub1 (List.Mem.head _) x_sub0)) H
  · replace H := H.2 c11
    refine s_iconst (x := (-1)) (nx := 15) hO rfl (by decide) rfl ?_
    exact s_iret hO rfl rfl rfl ⟨rfl, _, _, rfl, rfl, H⟩
def W_X12_put (s : yS) (v1 : Int32) (v2 : Int32) (Q : yS → Prop) : Prop :=
 ∀ P4 : Int32 → yS → Prop, (∀ (x1 : Int32) (s2 : yS), (((x1 < 0 → Q s2)
  ∧ (¬ x1 < 0 → vp_in (sI s2 139 5) 8192 ∧ ∀ s4 : yS, s4 = wI s2 141 (ix (sI s2 139 5)) ((v1 >>> (((nI 8) * x1) &&& 31)) &&& (nI 255)) → 
   ∀ s5 : yS, s5 = wI s4 139 5 ((sI s4 139 5) + 1) → 
   ∀ x6 : Int32, x6 = (x1 + (-1)) → 
   P4 x6 s5))) → P4 x1 s2) → 
 ∀ x7 : Int32, x7 = (v2 - 1) → 
 P4 x7 s
set_option maxRecDepth 100000 in
set_option maxHeartbeats 40000000 in
theorem w_X12_put {G : xG} (hG : yG G) {z : Nat} {s : yS} {v1 : Int32} {v2 : Int32} {Q : yS → Prop} (H : W_X12_put s v1 v2 Q) : xC G mX12_put [.ref (q_b G + 139), .int v1, .int v2] (hS G s) z 0 0 (yQv G z Q) := by
  have hW := hG.1
  have hcl := hG.2.1
  have hty := hG.2.2.1
  have hO : xO G mX12_put tbX12_put ptX12_put := ⟨tkX12_put, pkX12_put hcl⟩
  unfold W_X12_put at H
  refine xC.of hW (by decide) rfl (Nat.le_of_ble_eq_true rfl) ?_
  refine s_iload_n (nx := 1) hO rfl rfl rfl ?_
  refine s_iconst (x := 1) (nx := 2) hO rfl (by decide) rfl ?_
  refine s_isub (nx := 3) hO rfl rfl ?_
  refine goK (H (fun (x1 : Int32) (s2 : yS) => xEx G mX12_put 4 [(0, .ref (q_b G + 139)), (1, .int v1), (3, .int x1)] [] (hS G s2) z 0 0 (yQv G z Q)) (fun x1 s2 H => ?_)) (fun H => ?_)
  · show xEx G mX12_put 4 [(0, .ref (q_b G + 139)), (1, .int v1), (3, .int x1)] [] (hS G s2) z 0 0 (yQv G z Q)
    refine s_iload_n (nx := 5) hO rfl rfl rfl ?_
    refine s_if_lt (nx := 8) hO rfl rfl (fun c5 => ?_) (fun c5 => ?_)
    · replace H := H.1 c5
      exact s_vret hO rfl rfl ⟨rfl, _, rfl, rfl, H⟩
    · replace H := H.2 c5
      refine s_aload_n (nx := 9) hO rfl rfl rfl ?_
      refine s_getf (v := .ref (q_b G + 141)) (nx := 12) hO rfl rfl (hs_o12 kc139) rfl rfl ?_
      refine s_aload_n (nx := 13) hO rfl rfl rfl ?_
      refine s_getf (v := .int (sI s2 139 5)) (nx := 16) hO rfl rfl (hs_o12 kc139) rfl rfl ?_
      refine s_iload_n (nx := 17) hO rfl rfl rfl ?_
      refine s_bipush (x := (nI 8)) (nx := 19) hO rfl (by decide) rfl ?_
      refine s_iload_n (nx := 20) hO rfl rfl rfl ?_
      refine s_imul (nx := 21) hO rfl rfl ?_
      refine s_ishr (nx := 22) hO rfl rfl ?_
      refine s_sipush (x := (nI 255)) (nx := 25) hO rfl (by decide) rfl ?_
      refine s_iand (nx := 26) hO rfl rfl ?_
      obtain ⟨b3, H⟩ := H
      refine goV (wI s2 141 (ix (sI s2 139 5)) ((v1 >>> (((nI 8) * x1) &&& 31)) &&& (nI 255))) (fun s4 es4 => ?_)
      replace H := H s4 es4
      refine s_iast (nx := 27) hO rfl (hs_I kc141) b3 rfl ?_
      refine xEx.at (up_I kc141 es4) ?_
      refine s_aload_n (nx := 28) hO rfl rfl rfl ?_
      refine s_dup (nx := 29) hO rfl rfl rfl ?_
      refine s_getf (v := .int (sI s4 139 5)) (nx := 32) hO rfl rfl (hs_o12 kc139) rfl rfl ?_
      refine s_iconst (x := 1) (nx := 33) hO rfl (by decide) rfl ?_
      refine s_iadd (nx := 34) hO rfl rfl ?_
      refine goV (wI s4 139 5 ((sI s4 139 5) + 1)) (fun s5 es5 => ?_)
      replace H := H s5 es5
      refine s_putf (nx := 37) hO rfl rfl (hs_o12 kc139) (Nat.le_of_ble_eq_true rfl) (by rw [hty]; rfl) (by rw [hty]; rfl) pX12_5 rfl ?_
      refine xEx.at (up_oI12 kc139 es5) ?_
      refine goV ((x1 + (-1))) (fun x6 ex6 => ?_)
      replace H := H x6 ex6
      refine e_iinc (nx := 40) (l' := [(3, .int x6), (0, .ref (q_b G + 139)), (1, .int v1)]) ex6 hO rfl (by decide) rfl rfl rfl rfl ?_
      refine s_goto hO rfl ?_
      exact xEx.loc (x_sub1 (List.Mem.tail _ (List.Mem.head _)) (x_sub1 (List.Mem.tail _ (List.Mem.tail _ (List.Mem.head _))) (x_sub1 (List.Mem.head _) x_sub0))) H
  refine goV ((v2 - 1)) (fun x7 ex7 => ?_)
  replace H := H x7 ex7
  refine e_istore_n (nx := 4) (l' := [(3, .int x7), (0, .ref (q_b G + 139)), (1, .int v1), (2, .int v2)]) ex7 hO rfl (by decide) rfl rfl ?_
  exact xEx.loc (x_sub1 (List.Mem.tail _ (List.Mem.head _)) (x_sub1 (List.Mem.tail _ (List.Mem.tail _ (List.Mem.head _))) (x_sub1 (List.Mem.head _) x_sub0))) H
def W_X12_saveProgram (s : yS) (v1 : Int32) (Q : Int32 → yS → Prop) : Prop :=
 ∀ s1 : yS, s1 = wI s 139 0 0 → 
 ∀ P14 : Int32 → Prop, (∀ (y2 : Int32), (vp_in y2 3 ∧ 
  ((¬ (sI s1 177 (ix y2)) = 0 → ∀ s4 : yS, s4 = wI s1 139 5 0 → 
   W_X12_put s4 (nI 71) 1 
   (fun s5 => W_X12_put s5 (nI 70) 1 
   (fun s6 => W_X12_put s6 1 1 
   (fun s7 => vp_in y2 3 ∧ 
   W_X12_put s7 (sI s7 178 (ix y2)) 1 
   (fun s9 => ∀ P64 : Int32 → yS → Prop, (∀ (x10 : Int32) (s11 : yS), (vp_in y2 3 ∧ 
    (((sI s11 178 (ix y2)) ≤ x10 → Q (sI s11 139 5) s11)
    ∧ (¬ (sI s11 178 (ix y2)) ≤ x10 → ∀ x13 : Int32, x13 = (((nI 12) * y2) + x10) → 
     vp_in x13 36 ∧ 
     W_X12_put s11 (sI s11 179 (ix x13)) 1 
     (fun s15 => vp_in x13 36 ∧ 
     W_X12_put s15 (sI s15 180 (ix x13)) 1 
     (fun s17 => vp_in x13 36 ∧ 
     W_X12_put s17 (sI s17 181 (ix x13)) (nI 2) 
     (fun s19 => vp_in x13 36 ∧ 
     W_X12_put s19 (sI s19 182 (ix x13)) 1 
     (fun s21 => vp_in x13 36 ∧ 
     W_X12_put s21 (sI s21 184 (ix x13)) (nI 2) 
     (fun s23 => ∀ P145 : Int32 → yS → Prop, (∀ (x24 : Int32) (s25 : yS), (vp_in x13 36 ∧ 
      (((sI s25 184 (ix x13)) ≤ x24 → vp_in x13 36 ∧ 
       W_X12_put s25 (sI s25 185 (ix x13)) 1 
       (fun s28 => ∀ P242 : Int32 → yS → Prop, (∀ (x29 : Int32) (s30 : yS), (vp_in x13 36 ∧ 
        ((((((nI 72) * y2) + ((nI 6) * x10)) + (sI s30 185 (ix x13))) ≤ x29 → ∀ x32 : Int32, x32 = (x10 + 1) → 
         P64 x32 s30)
        ∧ (¬ ((((nI 72) * y2) + ((nI 6) * x10)) + (sI s30 185 (ix x13))) ≤ x29 → vp_in x29 216 ∧ 
         W_X12_put s30 (sI s30 188 (ix x29)) (nI 2) 
         (fun s34 => vp_in x29 216 ∧ 
         W_X12_put s34 (sI s34 189 (ix x29)) (nI 2) 
         (fun s36 => vp_in x29 216 ∧ 
         W_X12_put s36 (sI s36 190 (ix x29)) (nI 2) 
         (fun s38 => vp_in x29 216 ∧ 
         (((sI s38 191 (ix x29)) = 0 → W_X12_put s38 1 1 
          (fun s40 => vp_in x29 216 ∧ 
          vp_in x29 216 ∧ 
          (((sI s40 191 (ix x29)) = 0 → W_X12_put s40 (sI s40 192 (ix x29)) (nI 4) 
           (fun s43 => ∀ x44 : Int32, x44 = (x29 + 1) → 
           P242 x44 s43))
          ∧ (¬ (sI s40 191 (ix x29)) = 0 → W_X12_put s40 (sI s40 192 (ix x29)) 0 
           (fun s45 => ∀ x46 : Int32, x46 = (x29 + 1) → 
           P242 x46 s45)))))
         ∧ (¬ (sI s38 191 (ix x29)) = 0 → W_X12_put s38 0 1 
          (fun s47 => vp_in x29 216 ∧ 
          vp_in x29 216 ∧ 
          (((sI s47 191 (ix x29)) = 0 → W_X12_put s47 (sI s47 192 (ix x29)) (nI 4) 
           (fun s50 => ∀ x51 : Int32, x51 = (x29 + 1) → 
           P242 x51 s50))
          ∧ (¬ (sI s47 191 (ix x29)) = 0 → W_X12_put s47 (sI s47 192 (ix x29)) 0 
           (fun s52 => ∀ x53 : Int32, x53 = (x29 + 1) → 
           P242 x53 s52)))))))))))) → P242 x29 s30) → 
       ∀ x54 : Int32, x54 = (((nI 72) * y2) + ((nI 6) * x10)) → 
       P242 x54 s28))
      ∧ (¬ (sI s25 184 (ix x13)) ≤ x24 → vp_in ((((nI 4800) * y2) + ((nI 400) * x10)) + x24) 14400 ∧ 
       ∀ x56 : Int32, x56 = (sI s25 186 (ix ((((nI 4800) * y2) + ((nI 400) * x10)) + x24))) → 
       W_X12_put s25 x56 1 
       (fun s57 => vp_in ((((nI 4800) * y2) + ((nI 400) * x10)) + x24) 14400 ∧ 
       W_X12_behind s57 x56 
       (fun r59 => W_X12_put s57 (sI s57 187 (ix ((((nI 4800) * y2) + ((nI 400) * x10)) + x24))) r59 
       (fun s60 => ∀ x61 : Int32, x61 = (x24 + 1) → 
       P145 x61 s60)))))) → P145 x24 s25) → 
     P145 0 s23)))))))) → P64 x10 s11) → 
   P64 0 s9)))))
  ∧ ((sI s1 177 (ix y2)) = 0 → Q (-1) s1))) → P14 y2) → 
 ((v1 = 0 → P14 0)
 ∧ (¬ v1 = 0 → P14 1))
set_option maxRecDepth 100000 in
set_option maxHeartbeats 40000000 in
theorem w_X12_saveProgram {G : xG} (hG : yG G) {z : Nat} {s : yS} {v1 : Int32} {Q : Int32 → yS → Prop} (H : W_X12_saveProgram s v1 Q) : xC G mX12_saveProgram [.ref (q_b G + 139), .int v1] (hS G s) z 0 0 (yQi G z Q) := by
  have hW := hG.1
  have hcl := hG.2.1
  have hty := hG.2.2.1
  have hO : xO G mX12_saveProgram tbX12_saveProgram ptX12_saveProgram := ⟨tkX12_saveProgram, pkX12_saveProgram hcl⟩
  unfold W_X12_saveProgram at H
  refine xC.of hW (by decide) rfl (Nat.le_of_ble_eq_true rfl) ?_
  refine s_aload_n (nx := 1) hO rfl rfl rfl ?_
  refine s_iconst (x := 0) (nx := 2) hO rfl (by decide) rfl ?_
  refine goV (wI s 139 0 0) (fun s1 es1 => ?_)
  replace H := H s1 es1
  refine s_putf (nx := 5) hO rfl rfl (hs_o12 kc139) (Nat.le_of_ble_eq_true rfl) (by rw [hty]; rfl) (by rw [hty]; rfl) pX12_0 rfl ?_
  refine xEx.at (up_oI12 kc139 es1) ?_
  refine s_iload_n (nx := 6) hO rfl rfl rfl ?_
  refine goK (H (fun (y2 : Int32) => xEx G mX12_saveProgram 14 [(0, .ref (q_b G + 139))] [.int y2] (hS G s1) z 0 0 (yQi G z Q)) (fun y2 H => ?_)) (fun H => ?_)
  · show xEx G mX12_saveProgram 14 [(0, .ref (q_b G + 139))] [.int y2] (hS G s1) z 0 0 (yQi G z Q)
    refine s_istore_n (nx := 15) (l' := [(2, .int y2), (0, .ref (q_b G + 139))]) hO rfl (by decide) rfl rfl ?_
    refine s_aload_n (nx := 16) hO rfl rfl rfl ?_
    refine s_getf (v := .ref (q_b G + 177)) (nx := 19) hO rfl rfl (hs_o12 kc139) rfl rfl ?_
    refine s_iload_n (nx := 20) hO rfl rfl rfl ?_
    obtain ⟨b3, H⟩ := H
    refine s_zald (nx := 21) hO rfl (hs_Z kc177) b3 rfl ?_
    refine s_if_ne (nx := 24) hO rfl rfl (fun c21 => ?_) (fun c21 => ?_)
    · replace H := H.1 c21
      refine s_aload_n (nx := 27) hO rfl rfl rfl ?_
      refine s_iconst (x := 0) (nx := 28) hO rfl (by decide) rfl ?_
      refine goV (wI s1 139 5 0) (fun s4 es4 => ?_)
      replace H := H s4 es4
      refine s_putf (nx := 31) hO rfl rfl (hs_o12 kc139) (Nat.le_of_ble_eq_true rfl) (by rw [hty]; rfl) (by rw [hty]; rfl) pX12_5 rfl ?_
      refine xEx.at (up_oI12 kc139 es4) ?_
      refine s_aload_n (nx := 32) hO rfl rfl rfl ?_
      refine s_bipush (x := (nI 71)) (nx := 34) hO rfl (by decide) rfl ?_
      refine s_iconst (x := 1) (nx := 35) hO rfl (by decide) rfl ?_
      refine s_callV [.int (nI 71), .int 1] (ci := 12) (F := TX12) (N := 116) (nx := 38) hO rfl kX12_saveProgram_610 (by rw [hcl]; rfl) (hs_o12 kc139) (w_X12_put hG H) rfl rfl (Nat.le_of_ble_eq_true rfl) (Nat.zero_le _) (Nat.zero_le _) rfl (k_Qv (fun s5 H => ?_))
      refine s_aload_n (nx := 39) hO rfl rfl rfl ?_
      refine s_bipush (x := (nI 70)) (nx := 41) hO rfl (by decide) rfl ?_
      refine s_iconst (x := 1) (nx := 42) hO rfl (by decide) rfl ?_
      refine s_callV [.int (nI 70), .int 1] (ci := 12) (F := TX12) (N := 116) (nx := 45) hO rfl kX12_saveProgram_610 (by rw [hcl]; rfl) (hs_o12 kc139) (w_X12_put hG H) rfl rfl (Nat.le_of_ble_eq_true rfl) (Nat.zero_le _) (Nat.zero_le _) rfl (k_Qv (fun s6 H => ?_))
      refine s_aload_n (nx := 46) hO rfl rfl rfl ?_
      refine s_iconst (x := 1) (nx := 47) hO rfl (by decide) rfl ?_
      refine s_iconst (x := 1) (nx := 48) hO rfl (by decide) rfl ?_
      refine s_callV [.int 1, .int 1] (ci := 12) (F := TX12) (N := 116) (nx := 51) hO rfl kX12_saveProgram_610 (by rw [hcl]; rfl) (hs_o12 kc139) (w_X12_put hG H) rfl rfl (Nat.le_of_ble_eq_true rfl) (Nat.zero_le _) (Nat.zero_le _) rfl (k_Qv (fun s7 H => ?_))
      refine s_aload_n (nx := 52) hO rfl rfl rfl ?_
      refine s_aload_n (nx := 53) hO rfl rfl rfl ?_
      refine s_getf (v := .ref (q_b G + 178)) (nx := 56) hO rfl rfl (hs_o12 kc139) rfl rfl ?_
      refine s_iload_n (nx := 57) hO rfl rfl rfl ?_
      obtain ⟨b8, H⟩ := H
      refine s_iald (nx := 58) hO rfl (hs_I kc178) b8 rfl ?_
      refine s_iconst (x := 1) (nx := 59) hO rfl (by decide) rfl ?_
      refine s_callV [.int (sI s7 178 (ix y2)), .int 1] (ci := 12) (F := TX12) (N := 116) (nx := 62) hO rfl kX12_saveProgram_610 (by rw [hcl]; rfl) (hs_o12 kc139) (w_X12_put hG H) rfl rfl (Nat.le_of_ble_eq_true rfl) (Nat.zero_le _) (Nat.zero_le _) rfl (k_Qv (fun s9 H => ?_))
      refine s_iconst (x := 0) (nx := 63) hO rfl (by decide) rfl ?_
      refine goK (H (fun (x10 : Int32) (s11 : yS) => xEx G mX12_saveProgram 64 [(0, .ref (q_b G + 139)), (2, .int y2), (3, .int x10)] [] (hS G s11) z 0 0 (yQi G z Q)) (fun x10 s11 H => ?_)) (fun H => ?_)
      · show xEx G mX12_saveProgram 64 [(0, .ref (q_b G + 139)), (2, .int y2), (3, .int x10)] [] (hS G s11) z 0 0 (yQi G z Q)
        refine s_iload_n (nx := 65) hO rfl rfl rfl ?_
        refine s_aload_n (nx := 66) hO rfl rfl rfl ?_
        refine s_getf (v := .ref (q_b G + 178)) (nx := 69) hO rfl rfl (hs_o12 kc139) rfl rfl ?_
        refine s_iload_n (nx := 70) hO rfl rfl rfl ?_
        obtain ⟨b12, H⟩ := H
        refine s_iald (nx := 71) hO rfl (hs_I kc178) b12 rfl ?_
        refine s_icmp_ge (nx := 74) hO rfl rfl (fun c71 => ?_) (fun c71 => ?_)
        · replace H := H.1 c71
          refine s_aload_n (nx := 359) hO rfl rfl rfl ?_
          refine s_getf (v := .int (sI s11 139 5)) (nx := 362) hO rfl rfl (hs_o12 kc139) rfl rfl ?_
          exact s_iret hO rfl rfl rfl ⟨rfl, _, _, rfl, rfl, H⟩
        · replace H := H.2 c71
          refine s_bipush (x := (nI 12)) (nx := 76) hO rfl (by decide) rfl ?_
          refine s_iload_n (nx := 77) hO rfl rfl rfl ?_
          refine s_imul (nx := 78) hO rfl rfl ?_
          refine s_iload_n (nx := 79) hO rfl rfl rfl ?_
          refine s_iadd (nx := 80) hO rfl rfl ?_
          refine goV ((((nI 12) * y2) + x10)) (fun x13 ex13 => ?_)
          replace H := H x13 ex13
          refine e_istore (nx := 82) (l' := [(4, .int x13), (0, .ref (q_b G + 139)), (2, .int y2), (3, .int x10)]) ex13 hO rfl (by decide) rfl rfl ?_
          refine s_aload_n (nx := 83) hO rfl rfl rfl ?_
          refine s_aload_n (nx := 84) hO rfl rfl rfl ?_
          refine s_getf (v := .ref (q_b G + 179)) (nx := 87) hO rfl rfl (hs_o12 kc139) rfl rfl ?_
          refine s_iload (nx := 89) hO rfl rfl rfl ?_
          obtain ⟨b14, H⟩ := H
          refine s_iald (nx := 90) hO rfl (hs_I kc179) b14 rfl ?_
          refine s_iconst (x := 1) (nx := 91) hO rfl (by decide) rfl ?_
          refine s_callV [.int (sI s11 179 (ix x13)), .int 1] (ci := 12) (F := TX12) (N := 116) (nx := 94) hO rfl kX12_saveProgram_610 (by rw [hcl]; rfl) (hs_o12 kc139) (w_X12_put hG H) rfl rfl (Nat.le_of_ble_eq_true rfl) (Nat.zero_le _) (Nat.zero_le _) rfl (k_Qv (fun s15 H => ?_))
          refine s_aload_n (nx := 95) hO rfl rfl rfl ?_
          refine s_aload_n (nx := 96) hO rfl rfl rfl ?_
          refine s_getf (v := .ref (q_b G + 180)) (nx := 99) hO rfl rfl (hs_o12 kc139) rfl rfl ?_
          refine s_iload (nx := 101) hO rfl rfl rfl ?_
          obtain ⟨b16, H⟩ := H
          refine s_iald (nx := 102) hO rfl (hs_I kc180) b16 rfl ?_
          refine s_iconst (x := 1) (nx := 103) hO rfl (by decide) rfl ?_
          refine s_callV [.int (sI s15 180 (ix x13)), .int 1] (ci := 12) (F := TX12) (N := 116) (nx := 106) hO rfl kX12_saveProgram_610 (by rw [hcl]; rfl) (hs_o12 kc139) (w_X12_put hG H) rfl rfl (Nat.le_of_ble_eq_true rfl) (Nat.zero_le _) (Nat.zero_le _) rfl (k_Qv (fun s17 H => ?_))
          refine s_aload_n (nx := 107) hO rfl rfl rfl ?_
          refine s_aload_n (nx := 108) hO rfl rfl rfl ?_
          refine s_getf (v := .ref (q_b G + 181)) (nx := 111) hO rfl rfl (hs_o12 kc139) rfl rfl ?_
          refine s_iload (nx := 113) hO rfl rfl rfl ?_
          obtain ⟨b18, H⟩ := H
          refine s_iald (nx := 114) hO rfl (hs_I kc181) b18 rfl ?_
          refine s_iconst (x := (nI 2)) (nx := 115) hO rfl (by decide) rfl ?_
          refine s_callV [.int (sI s17 181 (ix x13)), .int (nI 2)] (ci := 12) (F := TX12) (N := 116) (nx := 118) hO rfl kX12_saveProgram_610 (by rw [hcl]; rfl) (hs_o12 kc139) (w_X12_put hG H) rfl rfl (Nat.le_of_ble_eq_true rfl) (Nat.zero_le _) (Nat.zero_le _) rfl (k_Qv (fun s19 H => ?_))
          refine s_aload_n (nx := 119) hO rfl rfl rfl ?_
          refine s_aload_n (nx := 120) hO rfl rfl rfl ?_
          refine s_getf (v := .ref (q_b G + 182)) (nx := 123) hO rfl rfl (hs_o12 kc139) rfl rfl ?_
          refine s_iload (nx := 125) hO rfl rfl rfl ?_
          obtain ⟨b20, H⟩ := H
          refine s_iald (nx := 126) hO rfl (hs_I kc182) b20 rfl ?_
          refine s_iconst (x := 1) (nx := 127) hO rfl (by decide) rfl ?_
          refine s_callV [.int (sI s19 182 (ix x13)), .int 1] (ci := 12) (F := TX12) (N := 116) (nx := 130) hO rfl kX12_saveProgram_610 (by rw [hcl]; rfl) (hs_o12 kc139) (w_X12_put hG H) rfl rfl (Nat.le_of_ble_eq_true rfl) (Nat.zero_le _) (Nat.zero_le _) rfl (k_Qv (fun s21 H => ?_))
          refine s_aload_n (nx := 131) hO rfl rfl rfl ?_
          refine s_aload_n (nx := 132) hO rfl rfl rfl ?_
          refine s_getf (v := .ref (q_b G + 184)) (nx := 135) hO rfl rfl (hs_o12 kc139) rfl rfl ?_
          refine s_iload (nx := 137) hO rfl rfl rfl ?_
          obtain ⟨b22, H⟩ := H
          refine s_iald (nx := 138) hO rfl (hs_I kc184) b22 rfl ?_
          refine s_iconst (x := (nI 2)) (nx := 139) hO rfl (by decide) rfl ?_
          refine s_callV [.int (sI s21 184 (ix x13)), .int (nI 2)] (ci := 12) (F := TX12) (N := 116) (nx := 142) hO rfl kX12_saveProgram_610 (by rw [hcl]; rfl) (hs_o12 kc139) (w_X12_put hG H) rfl rfl (Nat.le_of_ble_eq_true rfl) (Nat.zero_le _) (Nat.zero_le _) rfl (k_Qv (fun s23 H => ?_))
          refine s_iconst (x := 0) (nx := 143) hO rfl (by decide) rfl ?_
          refine goK (H (fun (x24 : Int32) (s25 : yS) => xEx G mX12_saveProgram 145 [(0, .ref (q_b G + 139)), (2, .int y2), (3, .int x10), (4, .int x13), (5, .int x24)] [] (hS G s25) z 0 0 (yQi G z Q)) (fun x24 s25 H => ?_)) (fun H => ?_)
          · show xEx G mX12_saveProgram 145 [(0, .ref (q_b G + 139)), (2, .int y2), (3, .int x10), (4, .int x13), (5, .int x24)] [] (hS G s25) z 0 0 (yQi G z Q)
            refine s_iload (nx := 147) hO rfl rfl rfl ?_
            refine s_aload_n (nx := 148) hO rfl rfl rfl ?_
            refine s_getf (v := .ref (q_b G + 184)) (nx := 151) hO rfl rfl (hs_o12 kc139) rfl rfl ?_
            refine s_iload (nx := 153) hO rfl rfl rfl ?_
            obtain ⟨b26, H⟩ := H
            refine s_iald (nx := 154) hO rfl (hs_I kc184) b26 rfl ?_
            refine s_icmp_ge (nx := 157) hO rfl rfl (fun c154 => ?_) (fun c154 => ?_)
            · replace H := H.1 c154
              refine s_aload_n (nx := 220) hO rfl rfl rfl ?_
              refine s_aload_n (nx := 221) hO rfl rfl rfl ?_
              refine s_getf (v := .ref (q_b G + 185)) (nx := 224) hO rfl rfl (hs_o12 kc139) rfl rfl ?_
              refine s_iload (nx := 226) hO rfl rfl rfl ?_
              obtain ⟨b27, H⟩ := H
              refine s_iald (nx := 227) hO rfl (hs_I kc185) b27 rfl ?_
              refine s_iconst (x := 1) (nx := 228) hO rfl (by decide) rfl ?_
              refine s_callV [.int (sI s25 185 (ix x13)), .int 1] (ci := 12) (F := TX12) (N := 116) (nx := 231) hO rfl kX12_saveProgram_610 (by rw [hcl]; rfl) (hs_o12 kc139) (w_X12_put hG H) rfl rfl (Nat.le_of_ble_eq_true rfl) (Nat.zero_le _) (Nat.zero_le _) rfl (k_Qv (fun s28 H => ?_))
              refine s_bipush (x := (nI 72)) (nx := 233) hO rfl (by decide) rfl ?_
              refine s_iload_n (nx := 234) hO rfl rfl rfl ?_
              refine s_imul (nx := 235) hO rfl rfl ?_
              refine s_bipush (x := (nI 6)) (nx := 237) hO rfl (by decide) rfl ?_
              refine s_iload_n (nx := 238) hO rfl rfl rfl ?_
              refine s_imul (nx := 239) hO rfl rfl ?_
              refine s_iadd (nx := 240) hO rfl rfl ?_
              refine goK (H (fun (x29 : Int32) (s30 : yS) => xEx G mX12_saveProgram 242 [(0, .ref (q_b G + 139)), (2, .int y2), (3, .int x10), (4, .int x13), (5, .int x29)] [] (hS G s30) z 0 0 (yQi G z Q)) (fun x29 s30 H => ?_)) (fun H => ?_)
              · show xEx G mX12_saveProgram 242 [(0, .ref (q_b G + 139)), (2, .int y2), (3, .int x10), (4, .int x13), (5, .int x29)] [] (hS G s30) z 0 0 (yQi G z Q)
                refine s_iload (nx := 244) hO rfl rfl rfl ?_
                refine s_bipush (x := (nI 72)) (nx := 246) hO rfl (by decide) rfl ?_
                refine s_iload_n (nx := 247) hO rfl rfl rfl ?_
                refine s_imul (nx := 248) hO rfl rfl ?_
                refine s_bipush (x := (nI 6)) (nx := 250) hO rfl (by decide) rfl ?_
                refine s_iload_n (nx := 251) hO rfl rfl rfl ?_
                refine s_imul (nx := 252) hO rfl rfl ?_
                refine s_iadd (nx := 253) hO rfl rfl ?_
                refine s_aload_n (nx := 254) hO rfl rfl rfl ?_
                refine s_getf (v := .ref (q_b G + 185)) (nx := 257) hO rfl rfl (hs_o12 kc139) rfl rfl ?_
                refine s_iload (nx := 259) hO rfl rfl rfl ?_
                obtain ⟨b31, H⟩ := H
                refine s_iald (nx := 260) hO rfl (hs_I kc185) b31 rfl ?_
                refine s_iadd (nx := 261) hO rfl rfl ?_
                refine s_icmp_ge (nx := 264) hO rfl rfl (fun c261 => ?_) (fun c261 => ?_)
                · replace H := H.1 c261
                  refine goV ((x10 + 1)) (fun x32 ex32 => ?_)
                  replace H := H x32 ex32
                  refine e_iinc (nx := 355) (l' := [(3, .int x32), (0, .ref (q_b G + 139)), (2, .int y2), (4, .int x13), (5, .int x29)]) ex32 hO rfl (by decide) rfl rfl rfl rfl ?_
                  refine s_goto hO rfl ?_
                  exact xEx.loc (x_sub1 (List.Mem.tail _ (List.Mem.head _)) (x_sub1 (List.Mem.tail _ (List.Mem.tail _ (List.Mem.head _))) (x_sub1 (List.Mem.head _) x_sub0))) H
                · replace H := H.2 c261
                  refine s_aload_n (nx := 265) hO rfl rfl rfl ?_
                  refine s_aload_n (nx := 266) hO rfl rfl rfl ?_
                  refine s_getf (v := .ref (q_b G + 188)) (nx := 269) hO rfl rfl (hs_o12 kc139) rfl rfl ?_
                  refine s_iload (nx := 271) hO rfl rfl rfl ?_
                  obtain ⟨b33, H⟩ := H
                  refine s_iald (nx := 272) hO rfl (hs_I kc188) b33 rfl ?_
                  refine s_iconst (x := (nI 2)) (nx := 273) hO rfl (by decide) rfl ?_
                  refine s_callV [.int (sI s30 188 (ix x29)), .int (nI 2)] (ci := 12) (F := TX12) (N := 116) (nx := 276) hO rfl kX12_saveProgram_610 (by rw [hcl]; rfl) (hs_o12 kc139) (w_X12_put hG H) rfl rfl (Nat.le_of_ble_eq_true rfl) (Nat.zero_le _) (Nat.zero_le _) rfl (k_Qv (fun s34 H => ?_))
                  refine s_aload_n (nx := 277) hO rfl rfl rfl ?_
                  refine s_aload_n (nx := 278) hO rfl rfl rfl ?_
                  refine s_getf (v := .ref (q_b G + 189)) (nx := 281) hO rfl rfl (hs_o12 kc139) rfl rfl ?_
                  refine s_iload (nx := 283) hO rfl rfl rfl ?_
                  obtain ⟨b35, H⟩ := H
                  refine s_iald (nx := 284) hO rfl (hs_I kc189) b35 rfl ?_
                  refine s_iconst (x := (nI 2)) (nx := 285) hO rfl (by decide) rfl ?_
                  refine s_callV [.int (sI s34 189 (ix x29)), .int (nI 2)] (ci := 12) (F := TX12) (N := 116) (nx := 288) hO rfl kX12_saveProgram_610 (by rw [hcl]; rfl) (hs_o12 kc139) (w_X12_put hG H) rfl rfl (Nat.le_of_ble_eq_true rfl) (Nat.zero_le _) (Nat.zero_le _) rfl (k_Qv (fun s36 H => ?_))
                  refine s_aload_n (nx := 289) hO rfl rfl rfl ?_
                  refine s_aload_n (nx := 290) hO rfl rfl rfl ?_
                  refine s_getf (v := .ref (q_b G + 190)) (nx := 293) hO rfl rfl (hs_o12 kc139) rfl rfl ?_
                  refine s_iload (nx := 295) hO rfl rfl rfl ?_
                  obtain ⟨b37, H⟩ := H
                  refine s_iald (nx := 296) hO rfl (hs_I kc190) b37 rfl ?_
                  refine s_iconst (x := (nI 2)) (nx := 297) hO rfl (by decide) rfl ?_
                  refine s_callV [.int (sI s36 190 (ix x29)), .int (nI 2)] (ci := 12) (F := TX12) (N := 116) (nx := 300) hO rfl kX12_saveProgram_610 (by rw [hcl]; rfl) (hs_o12 kc139) (w_X12_put hG H) rfl rfl (Nat.le_of_ble_eq_true rfl) (Nat.zero_le _) (Nat.zero_le _) rfl (k_Qv (fun s38 H => ?_))
                  refine s_aload_n (nx := 301) hO rfl rfl rfl ?_
                  refine s_aload_n (nx := 302) hO rfl rfl rfl ?_
                  refine s_getf (v := .ref (q_b G + 191)) (nx := 305) hO rfl rfl (hs_o12 kc139) rfl rfl ?_
                  refine s_iload (nx := 307) hO rfl rfl rfl ?_
                  obtain ⟨b39, H⟩ := H
                  refine s_zald (nx := 308) hO rfl (hs_Z kc191) b39 rfl ?_
                  refine s_if_eq (nx := 311) hO rfl rfl (fun c308 => ?_) (fun c308 => ?_)
                  · replace H := H.1 c308
                    refine s_iconst (x := 1) (nx := 316) hO rfl (by decide) rfl ?_
                    refine s_iconst (x := 1) (nx := 317) hO rfl (by decide) rfl ?_
                    refine s_callV [.int 1, .int 1] (ci := 12) (F := TX12) (N := 116) (nx := 320) hO rfl kX12_saveProgram_610 (by rw [hcl]; rfl) (hs_o12 kc139) (w_X12_put hG H) rfl rfl (Nat.le_of_ble_eq_true rfl) (Nat.zero_le _) (Nat.zero_le _) rfl (k_Qv (fun s40 H => ?_))
                    refine s_aload_n (nx := 321) hO rfl rfl rfl ?_
                    refine s_aload_n (nx := 322) hO rfl rfl rfl ?_
                    refine s_getf (v := .ref (q_b G + 192)) (nx := 325) hO rfl rfl (hs_o12 kc139) rfl rfl ?_
                    refine s_iload (nx := 327) hO rfl rfl rfl ?_
                    obtain ⟨b41, H⟩ := H
                    refine s_iald (nx := 328) hO rfl (hs_I kc192) b41 rfl ?_
                    refine s_aload_n (nx := 329) hO rfl rfl rfl ?_
                    refine s_getf (v := .ref (q_b G + 191)) (nx := 332) hO rfl rfl (hs_o12 kc139) rfl rfl ?_
                    refine s_iload (nx := 334) hO rfl rfl rfl ?_
                    obtain ⟨b42, H⟩ := H
                    refine s_zald (nx := 335) hO rfl (hs_Z kc191) b42 rfl ?_
                    refine s_if_eq (nx := 338) hO rfl rfl (fun c335 => ?_) (fun c335 => ?_)
                    · replace H := H.1 c335
                      refine s_iconst (x := (nI 4)) (nx := 343) hO rfl (by decide) rfl ?_
                      refine s_callV [.int (sI s40 192 (ix x29)), .int (nI 4)] (ci := 12) (F := TX12) (N := 116) (nx := 346) hO rfl kX12_saveProgram_610 (by rw [hcl]; rfl) (hs_o12 kc139) (w_X12_put hG H) rfl rfl (Nat.le_of_ble_eq_true rfl) (Nat.zero_le _) (Nat.zero_le _) rfl (k_Qv (fun s43 H => ?_))
                      refine goV ((x29 + 1)) (fun x44 ex44 => ?_)
                      replace H := H x44 ex44
                      refine e_iinc (nx := 349) (l' := [(5, .int x44), (0, .ref (q_b G + 139)), (2, .int y2), (3, .int x10), (4, .int x13)]) ex44 hO rfl (by decide) rfl rfl rfl rfl ?_
                      refine s_goto hO rfl ?_
                      exact xEx.loc (x_sub1 (List.Mem.tail _ (List.Mem.head _)) (x_sub1 (List.Mem.tail _ (List.Mem.tail _ (List.Mem.head _))) (x_sub1 (List.Mem.tail _ (List.Mem.tail _ (List.Mem.tail _ (List.Mem.head _)))) (x_sub1 (List.Mem.tail _ (List.Mem.tail _ (List.Mem.tail _ (List.Mem.tail _ (List.Mem.head _))))) (x_sub1 (List.Mem.head _) x_sub0))))) H
                    · replace H := H.2 c335
                      refine s_iconst (x := 0) (nx := 339) hO rfl (by decide) rfl ?_
                      refine s_goto hO rfl ?_
                      refine s_callV [.int (sI s40 192 (ix x29)), .int 0] (ci := 12) (F := TX12) (N := 116) (nx := 346) hO rfl kX12_saveProgram_610 (by rw [hcl]; rfl) (hs_o12 kc139) (w_X12_put hG H) rfl rfl (Nat.le_of_ble_eq_true rfl) (Nat.zero_le _) (Nat.zero_le _) rfl (k_Qv (fun s45 H => ?_))
                      refine goV ((x29 + 1)) (fun x46 ex46 => ?_)
                      replace H := H x46 ex46
                      refine e_iinc (nx := 349) (l' := [(5, .int x46), (0, .ref (q_b G + 139)), (2, .int y2), (3, .int x10), (4, .int x13)]) ex46 hO rfl (by decide) rfl rfl rfl rfl ?_
                      refine s_goto hO rfl ?_
                      exact xEx.loc (x_sub1 (List.Mem.tail _ (List.Mem.head _)) (x_sub1 (List.Mem.tail _ (List.Mem.tail _ (List.Mem.head _))) (x_sub1 (List.Mem.tail _ (List.Mem.tail _ (List.Mem.tail _ (List.Mem.head _)))) (x_sub1 (List.Mem.tail _ (List.Mem.tail _ (List.Mem.tail _ (List.Mem.tail _ (List.Mem.head _))))) (x_sub1 (List.Mem.head _) x_sub0))))) H
                  · replace H := H.2 c308
                    refine s_iconst (x := 0) (nx := 312) hO rfl (by decide) rfl ?_
                    refine s_goto hO rfl ?_
                    refine s_iconst (x := 1) (nx := 317) hO rfl (by decide) rfl ?_
                    refine s_callV [.int 0, .int 1] (ci := 12) (F := TX12) (N := 116) (nx := 320) hO rfl kX12_saveProgram_610 (by rw [hcl]; rfl) (hs_o12 kc139) (w_X12_put hG H) rfl rfl (Nat.le_of_ble_eq_true rfl) (Nat.zero_le _) (Nat.zero_le _) rfl (k_Qv (fun s47 H => ?_))
                    refine s_aload_n (nx := 321) hO rfl rfl rfl ?_
                    refine s_aload_n (nx := 322) hO rfl rfl rfl ?_
                    refine s_getf (v := .ref (q_b G + 192)) (nx := 325) hO rfl rfl (hs_o12 kc139) rfl rfl ?_
                    refine s_iload (nx := 327) hO rfl rfl rfl ?_
                    obtain ⟨b48, H⟩ := H
                    refine s_iald (nx := 328) hO rfl (hs_I kc192) b48 rfl ?_
                    refine s_aload_n (nx := 329) hO rfl rfl rfl ?_
                    refine s_getf (v := .ref (q_b G + 191)) (nx := 332) hO rfl rfl (hs_o12 kc139) rfl rfl ?_
                    refine s_iload (nx := 334) hO rfl rfl rfl ?_
                    obtain ⟨b49, H⟩ := H
                    refine s_zald (nx := 335) hO rfl (hs_Z kc191) b49 rfl ?_
                    refine s_if_eq (nx := 338) hO rfl rfl (fun c335 => ?_) (fun c335 => ?_)
                    · replace H := H.1 c335
                      refine s_iconst (x := (nI 4)) (nx := 343) hO rfl (by decide) rfl ?_
                      refine s_callV [.int (sI s47 192 (ix x29)), .int (nI 4)] (ci := 12) (F := TX12) (N := 116) (nx := 346) hO rfl kX12_saveProgram_610 (by rw [hcl]; rfl) (hs_o12 kc139) (w_X12_put hG H) rfl rfl (Nat.le_of_ble_eq_true rfl) (Nat.zero_le _) (Nat.zero_le _) rfl (k_Qv (fun s50 H => ?_))
                      refine goV ((x29 + 1)) (fun x51 ex51 => ?_)
                      replace H := H x51 ex51
                      refine e_iinc (nx := 349) (l' := [(5, .int x51), (0, .ref (q_b G + 139)), (2, .int y2), (3, .int x10), (4, .int x13)]) ex51 hO rfl (by decide) rfl rfl rfl rfl ?_
                      refine s_goto hO rfl ?_
                      exact xEx.loc (x_sub1 (List.Mem.tail _ (List.Mem.head _)) (x_sub1 (List.Mem.tail _ (List.Mem.tail _ (List.Mem.head _))) (x_sub1 (List.Mem.tail _ (List.Mem.tail _ (List.Mem.tail _ (List.Mem.head _)))) (x_sub1 (List.Mem.tail _ (List.Mem.tail _ (List.Mem.tail _ (List.Mem.tail _ (List.Mem.head _))))) (x_sub1 (List.Mem.head _) x_sub0))))) H
                    · replace H := H.2 c335
                      refine s_iconst (x := 0) (nx := 339) hO rfl (by decide) rfl ?_
                      refine s_goto hO rfl ?_
                      refine s_callV [.int (sI s47 192 (ix x29)), .int 0] (ci := 12) (F := TX12) (N := 116) (nx := 346) hO rfl kX12_saveProgram_610 (by rw [hcl]; rfl) (hs_o12 kc139) (w_X12_put hG H) rfl rfl (Nat.le_of_ble_eq_true rfl) (Nat.zero_le _) (Nat.zero_le _) rfl (k_Qv (fun s52 H => ?_))
                      refine goV ((x29 + 1)) (fun x53 ex53 => ?_)
                      replace H := H x53 ex53
                      refine e_iinc (nx := 349) (l' := [(5, .int x53), (0, .ref (q_b G + 139)), (2, .int y2), (3, .int x10), (4, .int x13)]) ex53 hO rfl (by decide) rfl rfl rfl rfl ?_
                      refine s_goto hO rfl ?_
                      exact xEx.loc (x_sub1 (List.Mem.tail _ (List.Mem.head _)) (x_sub1 (List.Mem.tail _ (List.Mem.tail _ (List.Mem.head _))) (x_sub1 (List.Mem.tail _ (List.Mem.tail _ (List.Mem.tail _ (List.Mem.head _)))) (x_sub1 (List.Mem.tail _ (List.Mem.tail _ (List.Mem.tail _ (List.Mem.tail _ (List.Mem.head _))))) (x_sub1 (List.Mem.head _) x_sub0))))) H
              refine goV ((((nI 72) * y2) + ((nI 6) * x10))) (fun x54 ex54 => ?_)
              replace H := H x54 ex54
              refine e_istore (nx := 242) (l' := [(5, .int x54), (0, .ref (q_b G + 139)), (2, .int y2), (3, .int x10), (4, .int x13)]) ex54 hO rfl (by decide) rfl rfl ?_
              exact xEx.loc (x_sub1 (List.Mem.tail _ (List.Mem.head _)) (x_sub1 (List.Mem.tail _ (List.Mem.tail _ (List.Mem.head _))) (x_sub1 (List.Mem.tail _ (List.Mem.tail _ (List.Mem.tail _ (List.Mem.head _)))) (x_sub1 (List.Mem.tail _ (List.Mem.tail _ (List.Mem.tail _ (List.Mem.tail _ (List.Mem.head _))))) (x_sub1 (List.Mem.head _) x_sub0))))) H
            · replace H := H.2 c154
              refine s_aload_n (nx := 158) hO rfl rfl rfl ?_
              refine s_getf (v := .ref (q_b G + 186)) (nx := 161) hO rfl rfl (hs_o12 kc139) rfl rfl ?_
              refine s_sipush (x := (nI 4800)) (nx := 164) hO rfl (by decide) rfl ?_
              refine s_iload_n (nx := 165) hO rfl rfl rfl ?_
              refine s_imul (nx := 166) hO rfl rfl ?_
              refine s_sipush (x := (nI 400)) (nx := 169) hO rfl (by decide) rfl ?_
              refine s_iload_n (nx := 170) hO rfl rfl rfl ?_
              refine s_imul (nx := 171) hO rfl rfl ?_
              refine s_iadd (nx := 172) hO rfl rfl ?_
              refine s_iload (nx := 174) hO rfl rfl rfl ?_
              refine s_iadd (nx := 175) hO rfl rfl ?_
              obtain ⟨b55, H⟩ := H
              refine s_iald (nx := 176) hO rfl (hs_I kc186) b55 rfl ?_
              refine goV ((sI s25 186 (ix ((((nI 4800) * y2) + ((nI 400) * x10)) + x24)))) (fun x56 ex56 => ?_)
              replace H := H x56 ex56
              refine e_istore (nx := 178) (l' := [(6, .int x56), (0, .ref (q_b G + 139)), (2, .int y2), (3, .int x10), (4, .int x13), (5, .int x24)]) ex56 hO rfl (by decide) rfl rfl ?_
              refine s_aload_n (nx := 179) hO rfl rfl rfl ?_
              refine s_iload (nx := 181) hO rfl rfl rfl ?_
              refine s_iconst (x := 1) (nx := 182) hO rfl (by decide) rfl ?_
              refine s_callV [.int x56, .int 1] (ci := 12) (F := TX12) (N := 116) (nx := 185) hO rfl kX12_saveProgram_610 (by rw [hcl]; rfl) (hs_o12 kc139) (w_X12_put hG H) rfl rfl (Nat.le_of_ble_eq_true rfl) (Nat.zero_le _) (Nat.zero_le _) rfl (k_Qv (fun s57 H => ?_))
              refine s_aload_n (nx := 186) hO rfl rfl rfl ?_
              refine s_aload_n (nx := 187) hO rfl rfl rfl ?_
              refine s_getf (v := .ref (q_b G + 187)) (nx := 190) hO rfl rfl (hs_o12 kc139) rfl rfl ?_
              refine s_sipush (x := (nI 4800)) (nx := 193) hO rfl (by decide) rfl ?_
              refine s_iload_n (nx := 194) hO rfl rfl rfl ?_
              refine s_imul (nx := 195) hO rfl rfl ?_
              refine s_sipush (x := (nI 400)) (nx := 198) hO rfl (by decide) rfl ?_
              refine s_iload_n (nx := 199) hO rfl rfl rfl ?_
              refine s_imul (nx := 200) hO rfl rfl ?_
              refine s_iadd (nx := 201) hO rfl rfl ?_
              refine s_iload (nx := 203) hO rfl rfl rfl ?_
              refine s_iadd (nx := 204) hO rfl rfl ?_
              obtain ⟨b58, H⟩ := H
              refine s_iald (nx := 205) hO rfl (hs_I kc187) b58 rfl ?_
              refine s_iload (nx := 207) hO rfl rfl rfl ?_
              refine s_callS [.int x56] (nx := 210) hO rfl kX12_saveProgram_607 (w_X12_behind hG H) rfl rfl (Nat.le_of_ble_eq_true rfl) (Nat.zero_le _) (Nat.zero_le _) rfl (k_Pi (fun r59 H => ?_))
              refine s_callV [.int (sI s57 187 (ix ((((nI 4800) * y2) + ((nI 400) * x10)) + x24))), .int r59] (ci := 12) (F := TX12) (N := 116) (nx := 213) hO rfl kX12_saveProgram_610 (by rw [hcl]; rfl) (hs_o12 kc139) (w_X12_put hG H) rfl rfl (Nat.le_of_ble_eq_true rfl) (Nat.zero_le _) (Nat.zero_le _) rfl (k_Qv (fun s60 H => ?_))
              refine goV ((x24 + 1)) (fun x61 ex61 => ?_)
              replace H := H x61 ex61
              refine e_iinc (nx := 216) (l' := [(5, .int x61), (6, .int x56), (0, .ref (q_b G + 139)), (2, .int y2), (3, .int x10), (4, .int x13)]) ex61 hO rfl (by decide) rfl rfl rfl rfl ?_
              refine s_goto hO rfl ?_
              exact xEx.loc (x_sub1 (List.Mem.tail _ (List.Mem.tail _ (List.Mem.head _))) (x_sub1 (List.Mem.tail _ (List.Mem.tail _ (List.Mem.tail _ (List.Mem.head _)))) (x_sub1 (List.Mem.tail _ (List.Mem.tail _ (List.Mem.tail _ (List.Mem.tail _ (List.Mem.head _))))) (x_sub1 (List.Mem.tail _ (List.Mem.tail _ (List.Mem.tail _ (List.Mem.tail _ (List.Mem.tail _ (List.Mem.head _)))))) (x_sub1 (List.Mem.head _) x_sub0))))) H
          refine s_istore (nx := 145) (l' := [(5, .int 0), (4, .int x13), (0, .ref (q_b G + 139)), (2, .int y2), (3, .int x10)]) hO rfl (by decide) rfl rfl ?_
          exact xEx.loc (x_sub1 (List.Mem.tail _ (List.Mem.tail _ (List.Mem.head _))) (x_sub1 (List.Mem.tail _ (List.Mem.tail _ (List.Mem.tail _ (List.Mem.head _)))) (x_sub1 (List.Mem.tail _ (List.Mem.tail _ (List.Mem.tail _ (List.Mem.tail _ (List.Mem.head _))))) (x_sub1 (List.Mem.tail _ (List.Mem.head _)) (x_sub1 (List.Mem.head _) x_sub0))))) H
      refine s_istore_n (nx := 64) (l' := [(3, .int 0), (2, .int y2), (0, .ref (q_b G + 139))]) hO rfl (by decide) rfl rfl ?_
      exact xEx.loc (x_sub1 (List.Mem.tail _ (List.Mem.tail _ (List.Mem.head _))) (x_sub1 (List.Mem.tail _ (List.Mem.head _)) (x_sub1 (List.Mem.head _) x_sub0))) H
    · replace H := H.2 c21
      refine s_iconst (x := (-1)) (nx := 25) hO rfl (by decide) rfl ?_
      exact s_iret hO rfl rfl rfl ⟨rfl, _, _, rfl, rfl, H⟩
  refine s_if_eq (nx := 9) hO rfl rfl (fun c6 => ?_) (fun c6 => ?_)
  · replace H := H.1 c6
    refine s_iconst (x := 0) (nx := 14) hO rfl (by decide) rfl ?_
    exact xEx.loc (x_sub1 (List.Mem.head _) x_sub0) H
  · replace H := H.2 c6
    refine s_iconst (x := 1) (nx := 10) hO rfl (by decide) rfl ?_
    refine s_goto hO rfl ?_
    exact xEx.loc (x_sub1 (List.Mem.head _) x_sub0) H
def W_X12_addAnswer (s : yS) (v1 : Int32) (Q : Int32 → yS → Prop) : Prop :=
 ∀ s1 : yS, s1 = wI s 139 0 0 → 
 ((¬ (sI s1 139 88) = (nI 256) → vp_in (sI s1 139 88) 256 ∧ ∀ s3 : yS, s3 = wI s1 204 (ix (sI s1 139 88)) v1 → 
  ∀ s4 : yS, s4 = wI s3 139 88 ((sI s3 139 88) + 1) → 
  Q (sI s4 139 88) s4)
 ∧ ((sI s1 139 88) = (nI 256) → Q (-1) s1))
set_option maxRecDepth 100000 in
set_option maxHeartbeats 40000000 in
theorem w_X12_addAnswer {G : xG} (hG : yG G) {z : Nat} {s : yS} {v1 : Int32} {Q : Int32 → yS → Prop} (H : W_X12_addAnswer s v1 Q) : xC G mX12_addAnswer [.ref (q_b G + 139), .int v1] (hS G s) z 0 0 (yQi G z Q) := by
  have hW := hG.1
  have hcl := hG.2.1
  have hty := hG.2.2.1
  have hO : xO G mX12_addAnswer tbX12_addAnswer ptX12_addAnswer := ⟨tkX12_addAnswer, pkX12_addAnswer hcl⟩
  unfold W_X12_addAnswer at H
  refine xC.of hW (by decide) rfl (Nat.le_of_ble_eq_true rfl) ?_
  refine s_aload_n (nx := 1) hO rfl rfl rfl ?_
  refine s_iconst (x := 0) (nx := 2) hO rfl (by decide) rfl ?_
  refine goV (wI s 139 0 0) (fun s1 es1 => ?_)
  replace H := H s1 es1
  refine s_putf (nx := 5) hO rfl rfl (hs_o12 kc139) (Nat.le_of_ble_eq_true rfl) (by rw [hty]; rfl) (by rw [hty]; rfl) pX12_0 rfl ?_
  refine xEx.at (up_oI12 kc139 es1) ?_
  refine s_aload_n (nx := 6) hO rfl rfl rfl ?_
  refine s_getf (v := .int (sI s1 139 88)) (nx := 9) hO rfl rfl (hs_o12 kc139) rfl rfl ?_
  refine s_sipush (x := (nI 256)) (nx := 12) hO rfl (by decide) rfl ?_
  refine s_icmp_ne (nx := 15) hO rfl rfl (fun c12 => ?_) (fun c12 => ?_)
  · replace H := H.1 c12
    refine s_aload_n (nx := 18) hO rfl rfl rfl ?_
    refine s_getf (v := .ref (q_b G + 204)) (nx := 21) hO rfl rfl (hs_o12 kc139) rfl rfl ?_
    refine s_aload_n (nx := 22) hO rfl rfl rfl ?_
    refine s_getf (v := .int (sI s1 139 88)) (nx := 25) hO rfl rfl (hs_o12 kc139) rfl rfl ?_
    refine s_iload_n (nx := 26) hO rfl rfl rfl ?_
    obtain ⟨b2, H⟩ := H
    refine goV (wI s1 204 (ix (sI s1 139 88)) v1) (fun s3 es3 => ?_)
    replace H := H s3 es3
    refine s_iast (nx := 27) hO rfl (hs_I kc204) b2 rfl ?_
    refine xEx.at (up_I kc204 es3) ?_
    refine s_aload_n (nx := 28) hO rfl rfl rfl ?_
    refine s_dup (nx := 29) hO rfl rfl rfl ?_
    refine s_getf (v := .int (sI s3 139 88)) (nx := 32) hO rfl rfl (hs_o12 kc139) rfl rfl ?_
    refine s_iconst (x := 1) (nx := 33) hO rfl (by decide) rfl ?_
    refine s_iadd (nx := 34) hO rfl rfl ?_
    refine goV (wI s3 139 88 ((sI s3 139 88) + 1)) (fun s4 es4 => ?_)
    replace H := H s4 es4
    refine s_putf (nx := 37) hO rfl rfl (hs_o12 kc139) (Nat.le_of_ble_eq_true rfl) (by rw [hty]; rfl) (by rw [hty]; rfl) pX12_88 rfl ?_
    refine xEx.at (up_oI12 kc139 es4) ?_
    refine s_aload_n (nx := 38) hO rfl rfl rfl ?_
    refine s_getf (v := .int (sI s4 139 88)) (nx := 41) hO rfl rfl (hs_o12 kc139) rfl rfl ?_
    exact s_iret hO rfl rfl rfl ⟨rfl, _, _, rfl, rfl, H⟩
  · replace H := H.2 c12
    refine s_iconst (x := (-1)) (nx := 16) hO rfl (by decide) rfl ?_
    exact s_iret hO rfl rfl rfl ⟨rfl, _, _, rfl, rfl, H⟩
def W_X12_dropAnswers (s : yS) (Q : yS → Prop) : Prop :=
 ∀ s1 : yS, s1 = wI s 139 0 0 → 
 ∀ s2 : yS, s2 = wI s1 139 88 0 → 
 Q s2
set_option maxRecDepth 100000 in
set_option maxHeartbeats 40000000 in
theorem w_X12_dropAnswers {G : xG} (hG : yG G) {z : Nat} {s : yS} {Q : yS → Prop} (H : W_X12_dropAnswers s Q) : xC G mX12_dropAnswers [.ref (q_b G + 139)] (hS G s) z 0 0 (yQv G z Q) := by
  have hW := hG.1
  have hcl := hG.2.1
  have hty := hG.2.2.1
  have hO : xO G mX12_dropAnswers tbX12_dropAnswers ptX12_dropAnswers := ⟨tkX12_dropAnswers, pkX12_dropAnswers hcl⟩
  unfold W_X12_dropAnswers at H
  refine xC.of hW (by decide) rfl (Nat.le_of_ble_eq_true rfl) ?_
  refine s_aload_n (nx := 1) hO rfl rfl rfl ?_
  refine s_iconst (x := 0) (nx := 2) hO rfl (by decide) rfl ?_
  refine goV (wI s 139 0 0) (fun s1 es1 => ?_)
  replace H := H s1 es1
  refine s_putf (nx := 5) hO rfl rfl (hs_o12 kc139) (Nat.le_of_ble_eq_true rfl) (by rw [hty]; rfl) (by rw [hty]; rfl) pX12_0 rfl ?_
  refine xEx.at (up_oI12 kc139 es1) ?_
  refine s_aload_n (nx := 6) hO rfl rfl rfl ?_
  refine s_iconst (x := 0) (nx := 7) hO rfl (by decide) rfl ?_
  refine goV (wI s1 139 88 0) (fun s2 es2 => ?_)
  replace H := H s2 es2
  refine s_putf (nx := 10) hO rfl rfl (hs_o12 kc139) (Nat.le_of_ble_eq_true rfl) (by rw [hty]; rfl) (by rw [hty]; rfl) pX12_88 rfl ?_
  refine xEx.at (up_oI12 kc139 es2) ?_
  exact s_vret hO rfl rfl ⟨rfl, _, rfl, rfl, H⟩
def W_X12_here (s : yS) (Q : Int32 → Prop) : Prop :=
 vp_in ((sI s 139 111) - 1) 40 ∧ 
 vp_in ((sI s 139 111) - 1) 40 ∧ 
 Q ((((nI 4800) * (sI s 139 112)) + ((nI 400) * (sI s 211 (ix ((sI s 139 111) - 1))))) + (sI s 212 (ix ((sI s 139 111) - 1))))
set_option maxRecDepth 100000 in
set_option maxHeartbeats 40000000 in
theorem w_X12_here {G : xG} (hG : yG G) {z : Nat} {s : yS} {Q : Int32 → Prop} (H : W_X12_here s Q) : xC G mX12_here [.ref (q_b G + 139)] (hS G s) z 0 0 (yPi G z s Q) := by
  have hW := hG.1
  have hcl := hG.2.1
  have hty := hG.2.2.1
  have hO : xO G mX12_here tbX12_here ptX12_here := ⟨tkX12_here, pkX12_here hcl⟩
  unfold W_X12_here at H
  refine xC.of hW (by decide) rfl (Nat.le_of_ble_eq_true rfl) ?_
  refine s_sipush (x := (nI 4800)) (nx := 3) hO rfl (by decide) rfl ?_
  refine s_aload_n (nx := 4) hO rfl rfl rfl ?_
  refine s_getf (v := .int (sI s 139 112)) (nx := 7) hO rfl rfl (hs_o12 kc139) rfl rfl ?_
  refine s_imul (nx := 8) hO rfl rfl ?_
  refine s_sipush (x := (nI 400)) (nx := 11) hO rfl (by decide) rfl ?_
  refine s_aload_n (nx := 12) hO rfl rfl rfl ?_
  refine s_getf (v := .ref (q_b G + 211)) (nx := 15) hO rfl rfl (hs_o12 kc139) rfl rfl ?_
  refine s_aload_n (nx := 16) hO rfl rfl rfl ?_
  refine s_getf (v := .int (sI s 139 111)) (nx := 19) hO rfl rfl (hs_o12 kc139) rfl rfl ?_
  refine s_iconst (x := 1) (nx := 20) hO rfl (by decide) rfl ?_
  refine s_isub (nx := 21) hO rfl rfl ?_
  obtain ⟨b1, H⟩ := H
  refine s_iald (nx := 22) hO rfl (hs_I kc211) b1 rfl ?_
  refine s_imul (nx := 23) hO rfl rfl ?_
  refine s_iadd (nx := 24) hO rfl rfl ?_
  refine s_aload_n (nx := 25) hO rfl rfl rfl ?_
  refine s_getf (v := .ref (q_b G + 212)) (nx := 28) hO rfl rfl (hs_o12 kc139) rfl rfl ?_
  refine s_aload_n (nx := 29) hO rfl rfl rfl ?_
  refine s_getf (v := .int (sI s 139 111)) (nx := 32) hO rfl rfl (hs_o12 kc139) rfl rfl ?_
  refine s_iconst (x := 1) (nx := 33) hO rfl (by decide) rfl ?_
  refine s_isub (nx := 34) hO rfl rfl ?_
  obtain ⟨b2, H⟩ := H
  refine s_iald (nx := 35) hO rfl (hs_I kc212) b2 rfl ?_
  refine s_iadd (nx := 36) hO rfl rfl ?_
  exact s_iret hO rfl rfl rfl ⟨rfl, _, rfl, rfl, H⟩
def W_X12_push (s : yS) (v1 : Int32) (Q : yS → Prop) : Prop :=
 vp_in ((sI s 139 111) - 1) 40 ∧ 
 vp_in (((nI 16) * ((sI s 139 111) - 1)) + (sI s 213 (ix ((sI s 139 111) - 1)))) 640 ∧ ∀ s3 : yS, s3 = wI s 215 (ix (((nI 16) * ((sI s 139 111) - 1)) + (sI s 213 (ix ((sI s 139 111) - 1))))) v1 → 
 vp_in ((sI s3 139 111) - 1) 40 ∧ 
 vp_in ((sI s3 139 111) - 1) 40 ∧ ∀ s6 : yS, s6 = wI s3 213 (ix ((sI s3 139 111) - 1)) ((sI s3 213 (ix ((sI s3 139 111) - 1))) + 1) → 
 Q s6
set_option maxRecDepth 100000 in
set_option maxHeartbeats 40000000 in
theorem w_X12_push {G : xG} (hG : yG G) {z : Nat} {s : yS} {v1 : Int32} {Q : yS → Prop} (H : W_X12_push s v1 Q) : xC G mX12_push [.ref (q_b G + 139), .int v1] (hS G s) z 0 0 (yQv G z Q) := by
  have hW := hG.1
  have hcl := hG.2.1
  have hty := hG.2.2.1
  have hO : xO G mX12_push tbX12_push ptX12_push := ⟨tkX12_push, pkX12_push hcl⟩
  unfold W_X12_push at H
  refine xC.of hW (by decide) rfl (Nat.le_of_ble_eq_true rfl) ?_
  refine s_aload_n (nx := 1) hO rfl rfl rfl ?_
  refine s_getf (v := .ref (q_b G + 215)) (nx := 4) hO rfl rfl (hs_o12 kc139) rfl rfl ?_
  refine s_bipush (x := (nI 16)) (nx := 6) hO rfl (by decide) rfl ?_
  refine s_aload_n (nx := 7) hO rfl rfl rfl ?_
  refine s_getf (v := .int (sI s 139 111)) (nx := 10) hO rfl rfl (hs_o12 kc139) rfl rfl ?_
  refine s_iconst (x := 1) (nx := 11) hO rfl (by decide) rfl ?_
  refine s_isub (nx := 12) hO rfl rfl ?_
  refine s_imul (nx := 13) hO rfl rfl ?_
  refine s_aload_n (nx := 14) hO rfl rfl rfl ?_
  refine s_getf (v := .ref (q_b G + 213)) (nx := 17) hO rfl rfl (hs_o12 kc139) rfl rfl ?_
  refine s_aload_n (nx := 18) hO rfl rfl rfl ?_
  refine s_getf (v := .int (sI s 139 111)) (nx := 21) hO rfl rfl (hs_o12 kc139) rfl rfl ?_
  refine s_iconst (x := 1) (nx := 22) hO rfl (by decide) rfl ?_
  refine s_isub (nx := 23) hO rfl rfl ?_
  obtain ⟨b1, H⟩ := H
  refine s_iald (nx := 24) hO rfl (hs_I kc213) b1 rfl ?_
  refine s_iadd (nx := 25) hO rfl rfl ?_
  refine s_iload_n (nx := 26) hO rfl rfl rfl ?_
  obtain ⟨b2, H⟩ := H
  refine goV (wI s 215 (ix (((nI 16) * ((sI s 139 111) - 1)) + (sI s 213 (ix ((sI s 139 111) - 1))))) v1) (fun s3 es3 => ?_)
  replace H := H s3 es3
  refine s_iast (nx := 27) hO rfl (hs_I kc215) b2 rfl ?_
  refine xEx.at (up_I kc215 es3) ?_
  refine s_aload_n (nx := 28) hO rfl rfl rfl ?_
  refine s_getf (v := .ref (q_b G + 213)) (nx := 31) hO rfl rfl (hs_o12 kc139) rfl rfl ?_
  refine s_aload_n (nx := 32) hO rfl rfl rfl ?_
  refine s_getf (v := .int (sI s3 139 111)) (nx := 35) hO rfl rfl (hs_o12 kc139) rfl rfl ?_
  refine s_iconst (x := 1) (nx := 36) hO rfl (by decide) rfl ?_
  refine s_isub (nx := 37) hO rfl rfl ?_
  refine s_dup2 (nx := 38) hO rfl rfl rfl rfl ?_
  obtain ⟨b4, H⟩ := H
  refine s_iald (nx := 39) hO rfl (hs_I kc213) b4 rfl ?_
  refine s_iconst (x := 1) (nx := 40) hO rfl (by decide) rfl ?_
  refine s_iadd (nx := 41) hO rfl rfl ?_
  obtain ⟨b5, H⟩ := H
  refine goV (wI s3 213 (ix ((sI s3 139 111) - 1)) ((sI s3 213 (ix ((sI s3 139 111) - 1))) + 1)) (fun s6 es6 => ?_)
  replace H := H s6 es6
  refine s_iast (nx := 42) hO rfl (hs_I kc213) b5 rfl ?_
  refine xEx.at (up_I kc213 es6) ?_
  exact s_vret hO rfl rfl ⟨rfl, _, rfl, rfl, H⟩
def W_X12_pop (s : yS) (Q : Int32 → yS → Prop) : Prop :=
 vp_in ((sI s 139 111) - 1) 40 ∧ 
 vp_in ((sI s 139 111) - 1) 40 ∧ ∀ s3 : yS, s3 = wI s 213 (ix ((sI s 139 111) - 1)) ((sI s 213 (ix ((sI s 139 111) - 1))) - 1) → 
 vp_in ((sI s3 139 111) - 1) 40 ∧ 
 vp_in (((nI 16) * ((sI s3 139 111) - 1)) + (sI s3 213 (ix ((sI s3 139 111) - 1)))) 640 ∧ 
 Q (sI s3 215 (ix (((nI 16) * ((sI s3 139 111) - 1)) + (sI s3 213 (ix ((sI s3 139 111) - 1)))))) s3
set_option maxRecDepth 100000 in
set_option maxHeartbeats 40000000 in
theorem w_X12_pop {G : xG} (hG : yG G) {z : Nat} {s : yS} {Q : Int32 → yS → Prop} (H : W_X12_pop s Q) : xC G mX12_pop [.ref (q_b G + 139)] (hS G s) z 0 0 (yQi G z Q) := by
  have hW := hG.1
  have hcl := hG.2.1
  have hty := hG.2.2.1
  have hO : xO G mX12_pop tbX12_pop ptX12_pop := ⟨tkX12_pop, pkX12_pop hcl⟩
  unfold W_X12_pop at H
  refine xC.of hW (by decide) rfl (Nat.le_of_ble_eq_true rfl) ?_
  refine s_aload_n (nx := 1) hO rfl rfl rfl ?_
  refine s_getf (v := .ref (q_b G + 213)) (nx := 4) hO rfl rfl (hs_o12 kc139) rfl rfl ?_
  refine s_aload_n (nx := 5) hO rfl rfl rfl ?_
  refine s_getf (v := .int (sI s 139 111)) (nx := 8) hO rfl rfl (hs_o12 kc139) rfl rfl ?_
  refine s_iconst (x := 1) (nx := 9) hO rfl (by decide) rfl ?_
  refine s_isub (nx := 10) hO rfl rfl ?_
  refine s_dup2 (nx := 11) hO rfl rfl rfl rfl ?_
  obtain ⟨b1, H⟩ := H
  refine s_iald (nx := 12) hO rfl (hs_I kc213) b1 rfl ?_
  refine s_iconst (x := 1) (nx := 13) hO rfl (by decide) rfl ?_
  refine s_isub (nx := 14) hO rfl rfl ?_
  obtain ⟨b2, H⟩ := H
  refine goV (wI s 213 (ix ((sI s 139 111) - 1)) ((sI s 213 (ix ((sI s 139 111) - 1))) - 1)) (fun s3 es3 => ?_)
  replace H := H s3 es3
  refine s_iast (nx := 15) hO rfl (hs_I kc213) b2 rfl ?_
  refine xEx.at (up_I kc213 es3) ?_
  refine s_aload_n (nx := 16) hO rfl rfl rfl ?_
  refine s_getf (v := .ref (q_b G + 215)) (nx := 19) hO rfl rfl (hs_o12 kc139) rfl rfl ?_
  refine s_bipush (x := (nI 16)) (nx := 21) hO rfl (by decide) rfl ?_
  refine s_aload_n (nx := 22) hO rfl rfl rfl ?_
  refine s_getf (v := .int (sI s3 139 111)) (nx := 25) hO rfl rfl (hs_o12 kc139) rfl rfl ?_
  refine s_iconst (x := 1) (nx := 26) hO rfl (by decide) rfl ?_
  refine s_isub (nx := 27) hO rfl rfl ?_
  refine s_imul (nx := 28) hO rfl rfl ?_
  refine s_aload_n (nx := 29) hO rfl rfl rfl ?_
  refine s_getf (v := .ref (q_b G + 213)) (nx := 32) hO rfl rfl (hs_o12 kc139) rfl rfl ?_
  refine s_aload_n (nx := 33) hO rfl rfl rfl ?_
  refine s_getf (v := .int (sI s3 139 111)) (nx := 36) hO rfl rfl (hs_o12 kc139) rfl rfl ?_
  refine s_iconst (x := 1) (nx := 37) hO rfl (by decide) rfl ?_
  refine s_isub (nx := 38) hO rfl rfl ?_
  obtain ⟨b4, H⟩ := H
  refine s_iald (nx := 39) hO rfl (hs_I kc213) b4 rfl ?_
  refine s_iadd (nx := 40) hO rfl rfl ?_
  obtain ⟨b5, H⟩ := H
  refine s_iald (nx := 41) hO rfl (hs_I kc215) b5 rfl ?_
  exact s_iret hO rfl rfl rfl ⟨rfl, _, _, rfl, rfl, H⟩
def W_X12_under (s : yS) (v1 : Int32) (Q : Int32 → Prop) : Prop :=
 vp_in ((sI s 139 111) - 1) 40 ∧ 
 vp_in (((((nI 16) * ((sI s 139 111) - 1)) + (sI s 213 (ix ((sI s 139 111) - 1)))) - 1) - v1) 640 ∧ 
 Q (sI s 215 (ix (((((nI 16) * ((sI s 139 111) - 1)) + (sI s 213 (ix ((sI s 139 111) - 1)))) - 1) - v1)))
set_option maxRecDepth 100000 in
set_option maxHeartbeats 40000000 in
theorem w_X12_under {G : xG} (hG : yG G) {z : Nat} {s : yS} {v1 : Int32} {Q : Int32 → Prop} (H : W_X12_under s v1 Q) : xC G mX12_under [.ref (q_b G + 139), .int v1] (hS G s) z 0 0 (yPi G z s Q) := by
  have hW := hG.1
  have hcl := hG.2.1
  have hty := hG.2.2.1
  have hO : xO G mX12_under tbX12_under ptX12_under := ⟨tkX12_under, pkX12_under hcl⟩
  unfold W_X12_under at H
  refine xC.of hW (by decide) rfl (Nat.le_of_ble_eq_true rfl) ?_
  refine s_aload_n (nx := 1) hO rfl rfl rfl ?_
  refine s_getf (v := .ref (q_b G + 215)) (nx := 4) hO rfl rfl (hs_o12 kc139) rfl rfl ?_
  refine s_bipush (x := (nI 16)) (nx := 6) hO rfl (by decide) rfl ?_
  refine s_aload_n (nx := 7) hO rfl rfl rfl ?_
  refine s_getf (v := .int (sI s 139 111)) (nx := 10) hO rfl rfl (hs_o12 kc139) rfl rfl ?_
  refine s_iconst (x := 1) (nx := 11) hO rfl (by decide) rfl ?_
  refine s_isub (nx := 12) hO rfl rfl ?_
  refine s_imul (nx := 13) hO rfl rfl ?_
  refine s_aload_n (nx := 14) hO rfl rfl rfl ?_
  refine s_getf (v := .ref (q_b G + 213)) (nx := 17) hO rfl rfl (hs_o12 kc139) rfl rfl ?_
  refine s_aload_n (nx := 18) hO rfl rfl rfl ?_
  refine s_getf (v := .int (sI s 139 111)) (nx := 21) hO rfl rfl (hs_o12 kc139) rfl rfl ?_
  refine s_iconst (x := 1) (nx := 22) hO rfl (by decide) rfl ?_
  refine s_isub (nx := 23) hO rfl rfl ?_
  obtain ⟨b1, H⟩ := H
  refine s_iald (nx := 24) hO rfl (hs_I kc213) b1 rfl ?_
  refine s_iadd (nx := 25) hO rfl rfl ?_
  refine s_iconst (x := 1) (nx := 26) hO rfl (by decide) rfl ?_
  refine s_isub (nx := 27) hO rfl rfl ?_
  refine s_iload_n (nx := 28) hO rfl rfl rfl ?_
  refine s_isub (nx := 29) hO rfl rfl ?_
  obtain ⟨b2, H⟩ := H
  refine s_iald (nx := 30) hO rfl (hs_I kc215) b2 rfl ?_
  exact s_iret hO rfl rfl rfl ⟨rfl, _, rfl, rfl, H⟩
def W_X12_enter (s : yS) (v1 : Int32) (Q : yS → Prop) : Prop :=
 vp_in (sI s 139 111) 40 ∧ ∀ s2 : yS, s2 = wI s 211 (ix (sI s 139 111)) v1 → 
 vp_in (sI s2 139 111) 40 ∧ ∀ s4 : yS, s4 = wI s2 212 (ix (sI s2 139 111)) 0 → 
 vp_in (sI s4 139 111) 40 ∧ ∀ s6 : yS, s6 = wI s4 213 (ix (sI s4 139 111)) 0 → 
 ∀ P32 : Int32 → yS → Prop, (∀ (x7 : Int32) (s8 : yS), ((((nI 12) ≤ x7 → ∀ s9 : yS, s9 = wI s8 139 111 ((sI s8 139 111) + 1) → 
   Q s9)
  ∧ (¬ (nI 12) ≤ x7 → vp_in (((nI 12) * (sI s8 139 111)) + x7) 480 ∧ ∀ s11 : yS, s11 = wI s8 214 (ix (((nI 12) * (sI s8 139 111)) + x7)) 0 → 
   ∀ x12 : Int32, x12 = (x7 + 1) → 
   P32 x12 s11))) → P32 x7 s8) → 
 P32 0 s6
set_option maxRecDepth 100000 in
set_option maxHeartbeats 40000000 in
theorem w_X12_enter {G : xG} (hG : yG G) {z : Nat} {s : yS} {v1 : Int32} {Q : yS → Prop} (H : W_X12_enter s v1 Q) : xC G mX12_enter [.ref (q_b G + 139), .int v1] (hS G s) z 0 0 (yQv G z Q) := by
  have hW := hG.1
  have hcl := hG.2.1
  have hty := hG.2.2.1
  have hO : xO G mX12_enter tbX12_enter ptX12_enter := ⟨tkX12_enter, pkX12_enter hcl⟩
  unfold W_X12_enter at H
  refine xC.of hW (by decide) rfl (Nat.le_of_ble_eq_true rfl) ?_
  refine s_aload_n (nx := 1) hO rfl rfl rfl ?_
  refine s_getf (v := .ref (q_b G + 211)) (nx := 4) hO rfl rfl (hs_o12 kc139) rfl rfl ?_
  refine s_aload_n (nx := 5) hO rfl rfl rfl ?_
  refine s_getf (v := .int (sI s 139 111)) (nx := 8) hO rfl rfl (hs_o12 kc139) rfl rfl ?_
  refine s_iload_n (nx := 9) hO rfl rfl rfl ?_
  obtain ⟨b1, H⟩ := H
  refine goV (wI s 211 (ix (sI s 139 111)) v1) (fun s2 es2 => ?_)
  replace H := H s2 es2
  refine s_iast (nx := 10) hO rfl (hs_I kc211) b1 rfl ?_
  refine xEx.at (up_I kc211 es2) ?_
  refine s_aload_n (nx := 11) hO rfl rfl rfl ?_
  refine s_getf (v := .ref (q_b G + 212)) (nx := 14) hO rfl rfl (hs_o12 kc139) rfl rfl ?_
  refine s_aload_n (nx := 15) hO rfl rfl rfl ?_
  refine s_getf (v := .int (sI s2 139 111)) (nx := 18) hO rfl rfl (hs_o12 kc139) rfl rfl ?_
  refine s_iconst (x := 0) (nx := 19) hO rfl (by decide) rfl ?_
  obtain ⟨b3, H⟩ := H
  refine goV (wI s2 212 (ix (sI s2 139 111)) 0) (fun s4 es4 => ?_)
  replace H := H s4 es4
  refine s_iast (nx := 20) hO rfl (hs_I kc212) b3 rfl ?_
  refine xEx.at (up_I kc212 es4) ?_
  refine s_aload_n (nx := 21) hO rfl rfl rfl ?_
  refine s_getf (v := .ref (q_b G + 213)) (nx := 24) hO rfl rfl (hs_o12 kc139) rfl rfl ?_
  refine s_aload_n (nx := 25) hO rfl rfl rfl ?_
  refine s_getf (v := .int (sI s4 139 111)) (nx := 28) hO rfl rfl (hs_o12 kc139) rfl rfl ?_
  refine s_iconst (x := 0) (nx := 29) hO rfl (by decide) rfl ?_
  obtain ⟨b5, H⟩ := H
  refine goV (wI s4 213 (ix (sI s4 139 111)) 0) (fun s6 es6 => ?_)
  replace H := H s6 es6
  refine s_iast (nx := 30) hO rfl (hs_I kc213) b5 rfl ?_
  refine xEx.at (up_I kc213 es6) ?_
  refine s_iconst (x := 0) (nx := 31) hO rfl (by decide) rfl ?_
  refine goK (H (fun (x7 : Int32) (s8 : yS) => xEx G mX12_enter 32 [(0, .ref (q_b G + 139)), (2, .int x7)] [] (hS G s8) z 0 0 (yQv G z Q)) (fun x7 s8 H => ?_)) (fun H => ?_)
  · show xEx G mX12_enter 32 [(0, .ref (q_b G + 139)), (2, .int x7)] [] (hS G s8) z 0 0 (yQv G z Q)
    refine s_iload_n (nx := 33) hO rfl rfl rfl ?_
    refine s_bipush (x := (nI 12)) (nx := 35) hO rfl (by decide) rfl ?_
    refine s_icmp_ge (nx := 38) hO rfl rfl (fun c35 => ?_) (fun c35 => ?_)
    · replace H := H.1 c35
      refine s_aload_n (nx := 60) hO rfl rfl rfl ?_
      refine s_dup (nx := 61) hO rfl rfl rfl ?_
      refine s_getf (v := .int (sI s8 139 111)) (nx := 64) hO rfl rfl (hs_o12 kc139) rfl rfl ?_
      refine s_iconst (x := 1) (nx := 65) hO rfl (by decide) rfl ?_
      refine s_iadd (nx := 66) hO rfl rfl ?_
      refine goV (wI s8 139 111 ((sI s8 139 111) + 1)) (fun s9 es9 => ?_)
      replace H := H s9 es9
      refine s_putf (nx := 69) hO rfl rfl (hs_o12 kc139) (Nat.le_of_ble_eq_true rfl) (by rw [hty]; rfl) (by rw [hty]; rfl) pX12_111 rfl ?_
      refine xEx.at (up_oI12 kc139 es9) ?_
      exact s_vret hO rfl rfl ⟨rfl, _, rfl, rfl, H⟩
    · replace H := H.2 c35
      refine s_aload_n (nx := 39) hO rfl rfl rfl ?_
      refine s_getf (v := .ref (q_b G + 214)) (nx := 42) hO rfl rfl (hs_o12 kc139) rfl rfl ?_
      refine s_bipush (x := (nI 12)) (nx := 44) hO rfl (by decide) rfl ?_
      refine s_aload_n (nx := 45) hO rfl rfl rfl ?_
      refine s_getf (v := .int (sI s8 139 111)) (nx := 48) hO rfl rfl (hs_o12 kc139) rfl rfl ?_
      refine s_imul (nx := 49) hO rfl rfl ?_
      refine s_iload_n (nx := 50) hO rfl rfl rfl ?_
      refine s_iadd (nx := 51) hO rfl rfl ?_
      refine s_iconst (x := 0) (nx := 52) hO rfl (by decide) rfl ?_
      obtain ⟨b10, H⟩ := H
      refine goV (wI s8 214 (ix (((nI 12) * (sI s8 139 111)) + x7)) 0) (fun s11 es11 => ?_)
      replace H := H s11 es11
      refine s_iast (nx := 53) hO rfl (hs_I kc214) b10 rfl ?_
      refine xEx.at (up_I kc214 es11) ?_
      refine goV ((x7 + 1)) (fun x12 ex12 => ?_)
      replace H := H x12 ex12
      refine e_iinc (nx := 56) (l' := [(2, .int x12), (0, .ref (q_b G + 139))]) ex12 hO rfl (by decide) rfl rfl rfl rfl ?_
      refine s_goto hO rfl ?_
      exact xEx.loc (x_sub1 (List.Mem.tail _ (List.Mem.head _)) (x_sub1 (List.Mem.head _) x_sub0)) H
  refine s_istore_n (nx := 32) (l' := [(2, .int 0), (0, .ref (q_b G + 139)), (1, .int v1)]) hO rfl (by decide) rfl rfl ?_
  exact xEx.loc (x_sub1 (List.Mem.tail _ (List.Mem.head _)) (x_sub1 (List.Mem.head _) x_sub0)) H
def W_X12_end (s : yS) (v1 : Int32) (v2 : Int32) (Q : yS → Prop) : Prop :=
 ∀ s1 : yS, s1 = wI s 139 90 v1 → 
 ∀ s2 : yS, s2 = wI s1 139 91 v2 → 
 ∀ s3 : yS, s3 = wI s2 139 111 0 → 
 Q s3
set_option maxRecDepth 100000 in
set_option maxHeartbeats 40000000 in
theorem w_X12_end {G : xG} (hG : yG G) {z : Nat} {s : yS} {v1 : Int32} {v2 : Int32} {Q : yS → Prop} (H : W_X12_end s v1 v2 Q) : xC G mX12_end [.ref (q_b G + 139), .int v1, .int v2] (hS G s) z 0 0 (yQv G z Q) := by
  have hW := hG.1
  have hcl := hG.2.1
  have hty := hG.2.2.1
  have hO : xO G mX12_end tbX12_end ptX12_end := ⟨tkX12_end, pkX12_end hcl⟩
  unfold W_X12_end at H
  refine xC.of hW (by decide) rfl (Nat.le_of_ble_eq_true rfl) ?_
  refine s_aload_n (nx := 1) hO rfl rfl rfl ?_
  refine s_iload_n (nx := 2) hO rfl rfl rfl ?_
  refine goV (wI s 139 90 v1) (fun s1 es1 => ?_)
  replace H := H s1 es1
  refine s_putf (nx := 5) hO rfl rfl (hs_o12 kc139) (Nat.le_of_ble_eq_true rfl) (by rw [hty]; rfl) (by rw [hty]; rfl) pX12_90 rfl ?_
  refine xEx.at (up_oI12 kc139 es1) ?_
  refine s_aload_n (nx := 6) hO rfl rfl rfl ?_
  refine s_iload_n (nx := 7) hO rfl rfl rfl ?_
  refine goV (wI s1 139 91 v2) (fun s2 es2 => ?_)
  replace H := H s2 es2
  refine s_putf (nx := 10) hO rfl rfl (hs_o12 kc139) (Nat.le_of_ble_eq_true rfl) (by rw [hty]; rfl) (by rw [hty]; rfl) pX12_91 rfl ?_
  refine xEx.at (up_oI12 kc139 es2) ?_
  refine s_aload_n (nx := 11) hO rfl rfl rfl ?_
  refine s_iconst (x := 0) (nx := 12) hO rfl (by decide) rfl ?_
  refine goV (wI s2 139 111 0) (fun s3 es3 => ?_)
  replace H := H s3 es3
  refine s_putf (nx := 15) hO rfl rfl (hs_o12 kc139) (Nat.le_of_ble_eq_true rfl) (by rw [hty]; rfl) (by rw [hty]; rfl) pX12_111 rfl ?_
  refine xEx.at (up_oI12 kc139 es3) ?_
  exact s_vret hO rfl rfl ⟨rfl, _, rfl, rfl, H⟩
def W_X12_raise (s : yS) (v1 : Int32) (Q : yS → Prop) : Prop :=
 ∀ P0 : yS → Prop, (∀ (s1 : yS), ((((sI s1 139 111) ≤ 0 → W_X12_end s1 1 v1 
   (fun s2 => Q s2))
  ∧ (¬ (sI s1 139 111) ≤ 0 → vp_in ((sI s1 139 111) - 1) 40 ∧ 
   ∀ x4 : Int32, x4 = (sI s1 211 (ix ((sI s1 139 111) - 1))) → 
   vp_in ((sI s1 139 111) - 1) 40 ∧ 
   ∀ x6 : Int32, x6 = (sI s1 212 (ix ((sI s1 139 111) - 1))) → 
   ∀ x7 : Int32, x7 = (((nI 72) * (sI s1 139 112)) + ((nI 6) * x4)) → 
   ∀ P49 : Int32 → Prop, (∀ (x8 : Int32), (vp_in (((nI 12) * (sI s1 139 112)) + x4) 36 ∧ 
    (((x7 + (sI s1 185 (ix (((nI 12) * (sI s1 139 112)) + x4)))) ≤ x8 → ∀ s10 : yS, s10 = wI s1 139 111 ((sI s1 139 111) - 1) → 
     P0 s10)
    ∧ (¬ (x7 + (sI s1 185 (ix (((nI 12) * (sI s1 139 112)) + x4)))) ≤ x8 → vp_in x8 216 ∧ 
     ∀ P150 : Prop, ((∀ x12 : Int32, x12 = (x8 + 1) → 
      P49 x12) → P150) → 
     ((x6 < (sI s1 188 (ix x8)) → P150)
     ∧ (¬ x6 < (sI s1 188 (ix x8)) → vp_in x8 216 ∧ 
      (((sI s1 189 (ix x8)) ≤ x6 → P150)
      ∧ (¬ (sI s1 189 (ix x8)) ≤ x6 → vp_in x8 216 ∧ 
       ∀ P114 : Prop, ((vp_in ((sI s1 139 111) - 1) 40 ∧ ∀ s16 : yS, s16 = wI s1 213 (ix ((sI s1 139 111) - 1)) 0 → 
        W_X12_push s16 v1 
        (fun s17 => vp_in x8 216 ∧ 
        vp_in ((sI s17 139 111) - 1) 40 ∧ ∀ s20 : yS, s20 = wI s17 212 (ix ((sI s17 139 111) - 1)) (sI s17 190 (ix x8)) → 
        Q s20)) → P114) → 
       ((¬ (sI s1 191 (ix x8)) = 0 → P114)
       ∧ ((sI s1 191 (ix x8)) = 0 → vp_in x8 216 ∧ 
        ((¬ (sI s1 192 (ix x8)) = v1 → P150)
        ∧ ((sI s1 192 (ix x8)) = v1 → P114))))))))))) → P49 x8) → 
   P49 x7))) → P0 s1) → 
 P0 s
set_option maxRecDepth 100000 in
set_option maxHeartbeats 40000000 in
theorem w_X12_raise {G : xG} (hG : yG G) {z : Nat} {s : yS} {v1 : Int32} {Q : yS → Prop} (H : W_X12_raise s v1 Q) : xC G mX12_raise [.ref (q_b G + 139), .int v1] (hS G s) z 0 0 (yQv G z Q) := by
  have hW := hG.1
  have hcl := hG.2.1
  have hty := hG.2.2.1
  have hO : xO G mX12_raise tbX12_raise ptX12_raise := ⟨tkX12_raise, pkX12_raise hcl⟩
  unfold W_X12_raise at H
  refine xC.of hW (by decide) rfl (Nat.le_of_ble_eq_true rfl) ?_
  refine goK (H (fun (s1 : yS) => xEx G mX12_raise 0 [(0, .ref (q_b G + 139)), (1, .int v1)] [] (hS G s1) z 0 0 (yQv G z Q)) (fun s1 H => ?_)) (fun H => ?_)
  · show xEx G mX12_raise 0 [(0, .ref (q_b G + 139)), (1, .int v1)] [] (hS G s1) z 0 0 (yQv G z Q)
    refine s_aload_n (nx := 1) hO rfl rfl rfl ?_
    refine s_getf (v := .int (sI s1 139 111)) (nx := 4) hO rfl rfl (hs_o12 kc139) rfl rfl ?_
    refine s_if_le (nx := 7) hO rfl rfl (fun c4 => ?_) (fun c4 => ?_)
    · replace H := H.1 c4
      refine s_aload_n (nx := 170) hO rfl rfl rfl ?_
      refine s_iconst (x := 1) (nx := 171) hO rfl (by decide) rfl ?_
      refine s_iload_n (nx := 172) hO rfl rfl rfl ?_
      refine s_callV [.int 1, .int v1] (ci := 12) (F := TX12) (N := 116) (nx := 175) hO rfl kX12_raise_631 (by rw [hcl]; rfl) (hs_o12 kc139) (w_X12_end hG H) rfl rfl (Nat.le_of_ble_eq_true rfl) (Nat.zero_le _) (Nat.zero_le _) rfl (k_Qv (fun s2 H => ?_))
      exact s_vret hO rfl rfl ⟨rfl, _, rfl, rfl, H⟩
    · replace H := H.2 c4
      refine s_aload_n (nx := 8) hO rfl rfl rfl ?_
      refine s_getf (v := .ref (q_b G + 211)) (nx := 11) hO rfl rfl (hs_o12 kc139) rfl rfl ?_
      refine s_aload_n (nx := 12) hO rfl rfl rfl ?_
      refine s_getf (v := .int (sI s1 139 111)) (nx := 15) hO rfl rfl (hs_o12 kc139) rfl rfl ?_
      refine s_iconst (x := 1) (nx := 16) hO rfl (by decide) rfl ?_
      refine s_isub (nx := 17) hO rfl rfl ?_
      obtain ⟨b3, H⟩ := H
      refine s_iald (nx := 18) hO rfl (hs_I kc211) b3 rfl ?_
      refine goV ((sI s1 211 (ix ((sI s1 139 111) - 1)))) (fun x4 ex4 => ?_)
      replace H := H x4 ex4
      refine e_istore_n (nx := 19) (l' := [(2, .int x4), (0, .ref (q_b G + 139)), (1, .int v1)]) ex4 hO rfl (by decide) rfl rfl ?_
      refine s_aload_n (nx := 20) hO rfl rfl rfl ?_
      refine s_getf (v := .ref (q_b G + 212)) (nx := 23) hO rfl rfl (hs_o12 kc139) rfl rfl ?_
      refine s_aload_n (nx := 24) hO rfl rfl rfl ?_
      refine s_getf (v := .int (sI s1 139 111)) (nx := 27) hO rfl rfl (hs_o12 kc139) rfl rfl ?_
      refine s_iconst (x := 1) (nx := 28) hO rfl (by decide) rfl ?_
      refine s_isub (nx := 29) hO rfl rfl ?_
      obtain ⟨b5, H⟩ := H
      refine s_iald (nx := 30) hO rfl (hs_I kc212) b5 rfl ?_
      refine goV ((sI s1 212 (ix ((sI s1 139 111) - 1)))) (fun x6 ex6 => ?_)
      replace H := H x6 ex6
      refine e_istore_n (nx := 31) (l' := [(3, .int x6), (2, .int x4), (0, .ref (q_b G + 139)), (1, .int v1)]) ex6 hO rfl (by decide) rfl rfl ?_
      refine s_bipush (x := (nI 72)) (nx := 33) hO rfl (by decide) rfl ?_
      refine s_aload_n (nx := 34) hO rfl rfl rfl ?_
      refine s_getf (v := .int (sI s1 139 112)) (nx := 37) hO rfl rfl (hs_o12 kc139) rfl rfl ?_
      refine s_imul (nx := 38) hO rfl rfl ?_
      refine s_bipush (x := (nI 6)) (nx := 40) hO rfl (by decide) rfl ?_
      refine s_iload_n (nx := 41) hO rfl rfl rfl ?_
      refine s_imul (nx := 42) hO rfl rfl ?_
      refine s_iadd (nx := 43) hO rfl rfl ?_
      refine goV ((((nI 72) * (sI s1 139 112)) + ((nI 6) * x4))) (fun x7 ex7 => ?_)
      replace H := H x7 ex7
      refine e_istore (nx := 45) (l' := [(4, .int x7), (3, .int x6), (2, .int x4), (0, .ref (q_b G + 139)), (1, .int v1)]) ex7 hO rfl (by decide) rfl rfl ?_
      refine s_iload (nx := 47) hO rfl rfl rfl ?_
      refine goK (H (fun (x8 : Int32) => xEx G mX12_raise 49 [(0, .ref (q_b G + 139)), (1, .int v1), (2, .int x4), (3, .int x6), (4, .int x7), (5, .int x8)] [] (hS G s1) z 0 0 (yQv G z Q)) (fun x8 H => ?_)) (fun H => ?_)
      · show xEx G mX12_raise 49 [(0, .ref (q_b G + 139)), (1, .int v1), (2, .int x4), (3, .int x6), (4, .int x7), (5, .int x8)] [] (hS G s1) z 0 0 (yQv G z Q)
        refine s_iload (nx := 51) hO rfl rfl rfl ?_
        refine s_iload (nx := 53) hO rfl rfl rfl ?_
        refine s_aload_n (nx := 54) hO rfl rfl rfl ?_
        refine s_getf (v := .ref (q_b G + 185)) (nx := 57) hO rfl rfl (hs_o12 kc139) rfl rfl ?_
        refine s_bipush (x := (nI 12)) (nx := 59) hO rfl (by decide) rfl ?_
        refine s_aload_n (nx := 60) hO rfl rfl rfl ?_
        refine s_getf (v := .int (sI s1 139 112)) (nx := 63) hO rfl rfl (hs_o12 kc139) rfl rfl ?_
        refine s_imul (nx := 64) hO rfl rfl ?_
        refine s_iload_n (nx := 65) hO rfl rfl rfl ?_
        refine s_iadd (nx := 66) hO rfl rfl ?_
        obtain ⟨b9, H⟩ := H
        refine s_iald (nx := 67) hO rfl (hs_I kc185) b9 rfl ?_
        refine s_iadd (nx := 68) hO rfl rfl ?_
        refine s_icmp_ge (nx := 71) hO rfl rfl (fun c68 => ?_) (fun c68 => ?_)
        · replace H := H.1 c68
          refine s_aload_n (nx := 157) hO rfl rfl rfl ?_
          refine s_dup (nx := 158) hO rfl rfl rfl ?_
          refine s_getf (v := .int (sI s1 139 111)) (nx := 161) hO rfl rfl (hs_o12 kc139) rfl rfl ?_
          refine s_iconst (x := 1) (nx := 162) hO rfl (by decide) rfl ?_
          refine s_isub (nx := 163) hO rfl rfl ?_
          refine goV (wI s1 139 111 ((sI s1 139 111) - 1)) (fun s10 es10 => ?_)
          replace H := H s10 es10
          refine s_putf (nx := 166) hO rfl rfl (hs_o12 kc139) (Nat.le_of_ble_eq_true rfl) (by rw [hty]; rfl) (by rw [hty]; rfl) pX12_111 rfl ?_
          refine xEx.at (up_oI12 kc139 es10) ?_
          refine s_goto hO rfl ?_
          exact xEx.loc (x_sub1 (List.Mem.head _) (x_sub1 (List.Mem.tail _ (List.Mem.head _)) x_sub0)) H
        · replace H := H.2 c68
          refine s_aload_n (nx := 72) hO rfl rfl rfl ?_
          refine s_getf (v := .ref (q_b G + 188)) (nx := 75) hO rfl rfl (hs_o12 kc139) rfl rfl ?_
          refine s_iload (nx := 77) hO rfl rfl rfl ?_
          obtain ⟨b11, H⟩ := H
          refine s_iald (nx := 78) hO rfl (hs_I kc188) b11 rfl ?_
          refine s_iload_n (nx := 79) hO rfl rfl rfl ?_
          refine goK (H (xEx G mX12_raise 150 [(0, .ref (q_b G + 139)), (1, .int v1), (2, .int x4), (3, .int x6), (4, .int x7), (5, .int x8)] [] (hS G s1) z 0 0 (yQv G z Q)) (fun H => ?_)) (fun H => ?_)
          · show xEx G mX12_raise 150 [(0, .ref (q_b G + 139)), (1, .int v1), (2, .int x4), (3, .int x6), (4, .int x7), (5, .int x8)] [] (hS G s1) z 0 0 (yQv G z Q)
            refine goV ((x8 + 1)) (fun x12 ex12 => ?_)
            replace H := H x12 ex12
            refine e_iinc (nx := 153) (l' := [(5, .int x12), (0, .ref (q_b G + 139)), (1, .int v1), (2, .int x4), (3, .int x6), (4, .int x7)]) ex12 hO rfl (by decide) rfl rfl rfl rfl ?_
            refine s_goto hO rfl ?_
            exact xEx.loc (x_sub1 (List.Mem.tail _ (List.Mem.head _)) (x_sub1 (List.Mem.tail _ (List.Mem.tail _ (List.Mem.head _))) (x_sub1 (List.Mem.tail _ (List.Mem.tail _ (List.Mem.tail _ (List.Mem.head _)))) (x_sub1 (List.Mem.tail _ (List.Mem.tail _ (List.Mem.tail _ (List.Mem.tail _ (List.Mem.head _))))) (x_sub1 (List.Mem.tail _ (List.Mem.tail _ (List.Mem.tail _ (List.Mem.tail _ (List.Mem.tail _ (List.Mem.head _)))))) (x_sub1 (List.Mem.head _) x_sub0)))))) H
          refine s_icmp_gt (nx := 82) hO rfl rfl (fun c79 => ?_) (fun c79 => ?_)
          · replace H := H.1 c79
            exact xEx.loc (x_sub1 (List.Mem.head _) (x_sub1 (List.Mem.tail _ (List.Mem.head _)) (x_sub1 (List.Mem.tail _ (List.Mem.tail _ (List.Mem.head _))) (x_sub1 (List.Mem.tail _ (List.Mem.tail _ (List.Mem.tail _ (List.Mem.head _)))) (x_sub1 (List.Mem.tail _ (List.Mem.tail _ (List.Mem.tail _ (List.Mem.tail _ (List.Mem.head _))))) (x_sub1 (List.Mem.tail _ (List.Mem.tail _ (List.Mem.tail _ (List.Mem.tail _ (List.Mem.tail _ (List.Mem.head _)))))) x_sub0)))))) H
          · replace H := H.2 c79
            refine s_iload_n (nx := 83) hO rfl rfl rfl ?_
            refine s_aload_n (nx := 84) hO rfl rfl rfl ?_
            refine s_getf (v := .ref (q_b G + 189)) (nx := 87) hO rfl rfl (hs_o12 kc139) rfl rfl ?_
            refine s_iload (nx := 89) hO rfl rfl rfl ?_
            obtain ⟨b13, H⟩ := H
            refine s_iald (nx := 90) hO rfl (hs_I kc189) b13 rfl ?_
            refine s_icmp_ge (nx := 93) hO rfl rfl (fun c90 => ?_) (fun c90 => ?_)
            · replace H := H.1 c90
              exact xEx.loc (x_sub1 (List.Mem.head _) (x_sub1 (List.Mem.tail _ (List.Mem.head _)) (x_sub1 (List.Mem.tail _ (List.Mem.tail _ (List.Mem.head _))) (x_sub1 (List.Mem.tail _ (List.Mem.tail _ (List.Mem.tail _ (List.Mem.head _)))) (x_sub1 (List.Mem.tail _ (List.Mem.tail _ (List.Mem.tail _ (List.Mem.tail _ (List.Mem.head _))))) (x_sub1 (List.Mem.tail _ (List.Mem.tail _ (List.Mem.tail _ (List.Mem.tail _ (List.Mem.tail _ (List.Mem.head _)))))) x_sub0)))))) H
            · replace H := H.2 c90
              refine s_aload_n (nx := 94) hO rfl rfl rfl ?_
              refine s_getf (v := .ref (q_b G + 191)) (nx := 97) hO rfl rfl (hs_o12 kc139) rfl rfl ?_
              refine s_iload (nx := 99) hO rfl rfl rfl ?_
              obtain ⟨b14, H⟩ := H
              refine s_zald (nx := 100) hO rfl (hs_Z kc191) b14 rfl ?_
              refine goK (H (xEx G mX12_raise 114 [(0, .ref (q_b G + 139)), (1, .int v1), (5, .int x8)] [] (hS G s1) z 0 0 (yQv G z Q)) (fun H => ?_)) (fun H => ?_)
              · show xEx G mX12_raise 114 [(0, .ref (q_b G + 139)), (1, .int v1), (5, .int x8)] [] (hS G s1) z 0 0 (yQv G z Q)
                refine s_aload_n (nx := 115) hO rfl rfl rfl ?_
                refine s_getf (v := .ref (q_b G + 213)) (nx := 118) hO rfl rfl (hs_o12 kc139) rfl rfl ?_
                refine s_aload_n (nx := 119) hO rfl rfl rfl ?_
                refine s_getf (v := .int (sI s1 139 111)) (nx := 122) hO rfl rfl (hs_o12 kc139) rfl rfl ?_
                refine s_iconst (x := 1) (nx := 123) hO rfl (by decide) rfl ?_
                refine s_isub (nx := 124) hO rfl rfl ?_
                refine s_iconst (x := 0) (nx := 125) hO rfl (by decide) rfl ?_
                obtain ⟨b15, H⟩ := H
                refine goV (wI s1 213 (ix ((sI s1 139 111) - 1)) 0) (fun s16 es16 => ?_)
                replace H := H s16 es16
                refine s_iast (nx := 126) hO rfl (hs_I kc213) b15 rfl ?_
                refine xEx.at (up_I kc213 es16) ?_
                refine s_aload_n (nx := 127) hO rfl rfl rfl ?_
                refine s_iload_n (nx := 128) hO rfl rfl rfl ?_
                refine s_callV [.int v1] (ci := 12) (F := TX12) (N := 116) (nx := 131) hO rfl kX12_raise_628 (by rw [hcl]; rfl) (hs_o12 kc139) (w_X12_push hG H) rfl rfl (Nat.le_of_ble_eq_true rfl) (Nat.zero_le _) (Nat.zero_le _) rfl (k_Qv (fun s17 H => ?_))
                refine s_aload_n (nx := 132) hO rfl rfl rfl ?_
                refine s_getf (v := .ref (q_b G + 212)) (nx := 135) hO rfl rfl (hs_o12 kc139) rfl rfl ?_
                refine s_aload_n (nx := 136) hO rfl rfl rfl ?_
                refine s_getf (v := .int (sI s17 139 111)) (nx := 139) hO rfl rfl (hs_o12 kc139) rfl rfl ?_
                refine s_iconst (x := 1) (nx := 140) hO rfl (by decide) rfl ?_
                refine s_isub (nx := 141) hO rfl rfl ?_
                refine s_aload_n (nx := 142) hO rfl rfl rfl ?_
                refine s_getf (v := .ref (q_b G + 190)) (nx := 145) hO rfl rfl (hs_o12 kc139) rfl rfl ?_
                refine s_iload (nx := 147) hO rfl rfl rfl ?_
                obtain ⟨b18, H⟩ := H
                refine s_iald (nx := 148) hO rfl (hs_I kc190) b18 rfl ?_
                obtain ⟨b19, H⟩ := H
                refine goV (wI s17 212 (ix ((sI s17 139 111) - 1)) (sI s17 190 (ix x8))) (fun s20 es20 => ?_)
                replace H := H s20 es20
                refine s_iast (nx := 149) hO rfl (hs_I kc212) b19 rfl ?_
                refine xEx.at (up_I kc212 es20) ?_
                exact s_vret hO rfl rfl ⟨rfl, _, rfl, rfl, H⟩
              refine s_if_ne (nx := 103) hO rfl rfl (fun c100 => ?_) (fun c100 => ?_)
              · replace H := H.1 c100
                exact xEx.loc (x_sub1 (List.Mem.head _) (x_sub1 (List.Mem.tail _ (List.Mem.head _)) (x_sub1 (List.Mem.tail _ (List.Mem.tail _ (List.Mem.tail _ (List.Mem.tail _ (List.Mem.tail _ (List.Mem.head _)))))) x_sub0))) H
              · replace H := H.2 c100
                refine s_aload_n (nx := 104) hO rfl rfl rfl ?_
                refine s_getf (v := .ref (q_b G + 192)) (nx := 107) hO rfl rfl (hs_o12 kc139) rfl rfl ?_
                refine s_iload (nx := 109) hO rfl rfl rfl ?_
                obtain ⟨b21, H⟩ := H
                refine s_iald (nx := 110) hO rfl (hs_I kc192) b21 rfl ?_
                refine s_iload_n (nx := 111) hO rfl rfl rfl ?_
                refine s_icmp_ne (nx := 114) hO rfl rfl (fun c111 => ?_) (fun c111 => ?_)
                · replace H := H.1 c111
                  exact xEx.loc (x_sub1 (List.Mem.head _) (x_sub1 (List.Mem.tail _ (List.Mem.head _)) (x_sub1 (List.Mem.tail _ (List.Mem.tail _ (List.Mem.head _))) (x_sub1 (List.Mem.tail _ (List.Mem.tail _ (List.Mem.tail _ (List.Mem.head _)))) (x_sub1 (List.Mem.tail _ (List.Mem.tail _ (List.Mem.tail _ (List.Mem.tail _ (List.Mem.head _))))) (x_sub1 (List.Mem.tail _ (List.Mem.tail _ (List.Mem.tail _ (List.Mem.tail _ (List.Mem.tail _ (List.Mem.head _)))))) x_sub0)))))) H
                · replace H := H.2 c111
                  exact xEx.loc (x_sub1 (List.Mem.head _) (x_sub1 (List.Mem.tail _ (List.Mem.head _)) (x_sub1 (List.Mem.tail _ (List.Mem.tail _ (List.Mem.tail _ (List.Mem.tail _ (List.Mem.tail _ (List.Mem.head _)))))) x_sub0))) H
      refine s_istore (nx := 49) (l' := [(5, .int x7), (4, .int x7), (3, .int x6), (2, .int x4), (0, .ref (q_b G + 139)), (1, .int v1)]) hO rfl (by decide) rfl rfl ?_
      exact xEx.loc (x_sub1 (List.Mem.tail _ (List.Mem.tail _ (List.Mem.tail _ (List.Mem.tail _ (List.Mem.head _))))) (x_sub1 (List.Mem.tail _ (List.Mem.tail _ (List.Mem.tail _ (List.Mem.tail _ (List.Mem.tail _ (List.Mem.head _)))))) (x_sub1 (List.Mem.tail _ (List.Mem.tail _ (List.Mem.tail _ (List.Mem.head _)))) (x_sub1 (List.Mem.tail _ (List.Mem.tail _ (List.Mem.head _))) (x_sub1 (List.Mem.tail _ (List.Mem.head _)) (x_sub1 (List.Mem.head _) x_sub0)))))) H
  exact xEx.loc (x_sub1 (List.Mem.head _) (x_sub1 (List.Mem.tail _ (List.Mem.head _)) x_sub0)) H

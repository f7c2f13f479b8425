def W_X12_forgeIt (s : yS) (Q : Int32 → yS → Prop) : Prop :=
 ∀ s1 : yS, s1 = wI s 139 0 0 → 
 vp_in 0 3 ∧ 
 ((¬ (sI s1 177 (ix 0)) = 0 → W_X12_makeMay s1 0 
  (fun s3 => ∀ P23 : Int32 → Prop, (∀ (x4 : Int32), (vp_in 0 3 ∧ 
   (((sI s3 178 (ix 0)) ≤ x4 → W_X12_sizeOf s3 0 
    (fun r6 => ∀ P104 : Int32 → Int32 → Prop, (∀ (x7 : Int32) (x8 : Int32), (vp_in 0 3 ∧ 
     (((sI s3 178 (ix 0)) ≤ x8 → ((x7 ≤ (nI 8192) → W_X12_copyProgram s3 0 1 
       (fun s10 => vp_in 1 2 ∧ ∀ s12 : yS, s12 = wI s10 200 (ix 1) (vp_nar .boolean 0) → 
       ∀ s13 : yS, s13 = wI s12 139 15 0 → 
       ∀ P216 : Int32 → Int32 → yS → Prop, (∀ (x14 : Int32) (x15 : Int32) (s16 : yS), (vp_in 0 3 ∧ 
        (((sI s16 178 (ix 0)) ≤ x15 → Q x14 s16)
        ∧ (¬ (sI s16 178 (ix 0)) ≤ x15 → W_X12_forge s16 x15 
         (fun r18 s19 => ∀ x20 : Int32, x20 = (x14 + r18) → 
         W_X12_verify s19 1 x15 
         (fun s21 => ∀ x22 : Int32, x22 = (x15 + 1) → 
         P216 x20 x22 s21))))) → P216 x14 x15 s16) → 
       P216 0 0 s13))
      ∧ (¬ x7 ≤ (nI 8192) → Q (-2) s3)))
     ∧ (¬ (sI s3 178 (ix 0)) ≤ x8 → ∀ P119 : Int32 → Int32 → Prop, (∀ (x23 : Int32) (x24 : Int32), (vp_in x8 36 ∧ 
       (((sI s3 184 (ix x8)) ≤ x24 → ∀ x26 : Int32, x26 = (x7 + ((nI 2) * x23)) → 
        vp_in x8 36 ∧ 
        ((((sI s3 184 (ix x8)) + x23) ≤ (nI 400) → ∀ x28 : Int32, x28 = (x8 + 1) → 
         P104 x26 x28)
        ∧ (¬ ((sI s3 184 (ix x8)) + x23) ≤ (nI 400) → Q (-2) s3)))
       ∧ (¬ (sI s3 184 (ix x8)) ≤ x24 → W_X12_needs s3 0 x8 x24 
        (fun r29 => ∀ P147 : Int32 → Prop, (∀ (y30 : Int32), (∀ x31 : Int32, x31 = (x23 + y30) → 
         ∀ x32 : Int32, x32 = (x24 + 1) → 
         P119 x31 x32) → P147 y30) → 
        ((r29 = 0 → P147 0)
        ∧ (¬ r29 = 0 → P147 1)))))) → P119 x23 x24) → 
      P119 0 0))) → P104 x7 x8) → 
    P104 r6 0))
   ∧ (¬ (sI s3 178 (ix 0)) ≤ x4 → ∀ P37 : Int32 → Int32 → Prop, (∀ (x33 : Int32) (x34 : Int32), (vp_in x4 36 ∧ 
     (((sI s3 184 (ix x4)) ≤ x34 → ∀ x36 : Int32, x36 = (x4 + 1) → 
      P23 x36)
     ∧ (¬ (sI s3 184 (ix x4)) ≤ x34 → W_X12_needs s3 0 x4 x34 
      (fun r37 => ∀ P63 : Int32 → Prop, (∀ (y38 : Int32), (∀ x39 : Int32, x39 = (x33 + y38) → 
       vp_in (((nI 400) * x4) + x34) 14400 ∧ 
       ((¬ (sI s3 186 (ix (((nI 400) * x4) + x34))) = (nI 29) → ∀ x41 : Int32, x41 = (x34 + 1) → 
        P37 x39 x41)
       ∧ ((sI s3 186 (ix (((nI 400) * x4) + x34))) = (nI 29) → Q (-1) s3))) → P63 y38) → 
      ((r37 = 0 → P63 0)
      ∧ (¬ r37 = 0 → P63 1)))))) → P37 x33 x34) → 
    P37 0 0))) → P23 x4) → 
  P23 0))
 ∧ ((sI s1 177 (ix 0)) = 0 → Q (-1) s1))
set_option maxRecDepth 100000 in
set_option maxHeartbeats 40000000 in
theorem w_X12_forgeIt {G : xG} (hG : yG G) {z : Nat} {s : yS} {Q : Int32 → yS → Prop} (H : W_X12_forgeIt s Q) : xC G mX12_forgeIt [.ref (q_b G + 139)] (hS G s) z 0 0 (yQi G z Q) := by
  have hW := hG.1
  have hcl := hG.2.1
  have hty := hG.2.2.1
  have hO : xO G mX12_forgeIt tbX12_forgeIt ptX12_forgeIt := ⟨tkX12_forgeIt, pkX12_forgeIt hcl⟩
  unfold W_X12_forgeIt at H
  refine xC.of hW (by decide) rfl (Nat.le_of_ble_eq_true rfl) ?_
  refine s_aload_n (nx := 1) hO rfl rfl rfl ?_
  refine s_iconst (x := 0) (nx := 2) hO rfl (by decide) rfl ?_
  refine goV (wI s 139 0 0) (fun s1 es1 => ?_)
  replace H := H s1 es1
  refine s_putf (nx := 5) hO rfl rfl (hs_o12 kc139) (Nat.le_of_ble_eq_true rfl) (by rw [hty]; rfl) (by rw [hty]; rfl) pX12_0 rfl ?_
  refine xEx.at (up_oI12 kc139 es1) ?_
  refine s_aload_n (nx := 6) hO rfl rfl rfl ?_
  refine s_getf (v := .ref (q_b G + 177)) (nx := 9) hO rfl rfl (hs_o12 kc139) rfl rfl ?_
  refine s_iconst (x := 0) (nx := 10) hO rfl (by decide) rfl ?_
  obtain ⟨b2, H⟩ := H
  refine s_zald (nx := 11) hO rfl (hs_Z kc177) b2 rfl ?_
  refine s_if_ne (nx := 14) hO rfl rfl (fun c11 => ?_) (fun c11 => ?_)
  · replace H := H.1 c11
    refine s_aload_n (nx := 17) hO rfl rfl rfl ?_
    refine s_iconst (x := 0) (nx := 18) hO rfl (by decide) rfl ?_
    refine s_callV [.int 0] (ci := 12) (F := TX12) (N := 116) (nx := 21) hO rfl kX12_forgeIt_595 (by rw [hcl]; rfl) (hs_o12 kc139) (w_X12_makeMay hG H) rfl rfl (Nat.le_of_ble_eq_true rfl) (Nat.zero_le _) (Nat.zero_le _) rfl (k_Qv (fun s3 H => ?_))
    refine s_iconst (x := 0) (nx := 22) hO rfl (by decide) rfl ?_
    refine goK (H (fun (x4 : Int32) => xEx G mX12_forgeIt 23 [(0, .ref (q_b G + 139)), (1, .int x4)] [] (hS G s3) z 0 0 (yQi G z Q)) (fun x4 H => ?_)) (fun H => ?_)
    · show xEx G mX12_forgeIt 23 [(0, .ref (q_b G + 139)), (1, .int x4)] [] (hS G s3) z 0 0 (yQi G z Q)
      refine s_iload_n (nx := 24) hO rfl rfl rfl ?_
      refine s_aload_n (nx := 25) hO rfl rfl rfl ?_
      refine s_getf (v := .ref (q_b G + 178)) (nx := 28) hO rfl rfl (hs_o12 kc139) rfl rfl ?_
      refine s_iconst (x := 0) (nx := 29) hO rfl (by decide) rfl ?_
      obtain ⟨b5, H⟩ := H
      refine s_iald (nx := 30) hO rfl (hs_I kc178) b5 rfl ?_
      refine s_icmp_ge (nx := 33) hO rfl rfl (fun c30 => ?_) (fun c30 => ?_)
      · replace H := H.1 c30
        refine s_aload_n (nx := 97) hO rfl rfl rfl ?_
        refine s_iconst (x := 0) (nx := 98) hO rfl (by decide) rfl ?_
        refine s_callV [.int 0] (ci := 12) (F := TX12) (N := 116) (nx := 101) hO rfl kX12_forgeIt_601 (by rw [hcl]; rfl) (hs_o12 kc139) (w_X12_sizeOf hG H) rfl rfl (Nat.le_of_ble_eq_true rfl) (Nat.zero_le _) (Nat.zero_le _) rfl (k_Pi (fun r6 H => ?_))
        refine s_istore_n (nx := 102) (l' := [(1, .int r6), (0, .ref (q_b G + 139))]) hO rfl (by decide) rfl rfl ?_
        refine s_iconst (x := 0) (nx := 103) hO rfl (by decide) rfl ?_
        refine goK (H (fun (x7 : Int32) (x8 : Int32) => xEx G mX12_forgeIt 104 [(0, .ref (q_b G + 139)), (1, .int x7), (2, .int x8)] [] (hS G s3) z 0 0 (yQi G z Q)) (fun x7 x8 H => ?_)) (fun H => ?_)
        · show xEx G mX12_forgeIt 104 [(0, .ref (q_b G + 139)), (1, .int x7), (2, .int x8)] [] (hS G s3) z 0 0 (yQi G z Q)
          refine s_iload_n (nx := 105) hO rfl rfl rfl ?_
          refine s_aload_n (nx := 106) hO rfl rfl rfl ?_
          refine s_getf (v := .ref (q_b G + 178)) (nx := 109) hO rfl rfl (hs_o12 kc139) rfl rfl ?_
          refine s_iconst (x := 0) (nx := 110) hO rfl (by decide) rfl ?_
          obtain ⟨b9, H⟩ := H
          refine s_iald (nx := 111) hO rfl (hs_I kc178) b9 rfl ?_
          refine s_icmp_ge (nx := 114) hO rfl rfl (fun c111 => ?_) (fun c111 => ?_)
          · replace H := H.1 c111
            refine s_iload_n (nx := 185) hO rfl rfl rfl ?_
            refine s_sipush (x := (nI 8192)) (nx := 188) hO rfl (by decide) rfl ?_
            refine s_icmp_le (nx := 191) hO rfl rfl (fun c188 => ?_) (fun c188 => ?_)
            · replace H := H.1 c188
              refine s_aload_n (nx := 195) hO rfl rfl rfl ?_
              refine s_iconst (x := 0) (nx := 196) hO rfl (by decide) rfl ?_
              refine s_iconst (x := 1) (nx := 197) hO rfl (by decide) rfl ?_
              refine s_callV [.int 0, .int 1] (ci := 12) (F := TX12) (N := 116) (nx := 200) hO rfl kX12_forgeIt_546 (by rw [hcl]; rfl) (hs_o12 kc139) (w_X12_copyProgram hG H) rfl rfl (Nat.le_of_ble_eq_true rfl) (Nat.zero_le _) (Nat.zero_le _) rfl (k_Qv (fun s10 H => ?_))
              refine s_aload_n (nx := 201) hO rfl rfl rfl ?_
              refine s_getf (v := .ref (q_b G + 200)) (nx := 204) hO rfl rfl (hs_o12 kc139) rfl rfl ?_
              refine s_iconst (x := 1) (nx := 205) hO rfl (by decide) rfl ?_
              refine s_iconst (x := 0) (nx := 206) hO rfl (by decide) rfl ?_
              obtain ⟨b11, H⟩ := H
              refine goV (wI s10 200 (ix 1) (vp_nar .boolean 0)) (fun s12 es12 => ?_)
              replace H := H s12 es12
              refine s_zast (nx := 207) hO rfl (hs_Z kc200) b11 rfl ?_
              refine xEx.at (up_Z kc200 es12) ?_
              refine s_aload_n (nx := 208) hO rfl rfl rfl ?_
              refine s_iconst (x := 0) (nx := 209) hO rfl (by decide) rfl ?_
              refine goV (wI s12 139 15 0) (fun s13 es13 => ?_)
              replace H := H s13 es13
              refine s_putf (nx := 212) hO rfl rfl (hs_o12 kc139) (Nat.le_of_ble_eq_true rfl) (by rw [hty]; rfl) (by rw [hty]; rfl) pX12_15 rfl ?_
              refine xEx.at (up_oI12 kc139 es13) ?_
              refine s_iconst (x := 0) (nx := 213) hO rfl (by decide) rfl ?_
              refine s_istore_n (nx := 214) (l' := [(2, .int 0), (0, .ref (q_b G + 139)), (1, .int x7)]) hO rfl (by decide) rfl rfl ?_
              refine s_iconst (x := 0) (nx := 215) hO rfl (by decide) rfl ?_
              refine goK (H (fun (x14 : Int32) (x15 : Int32) (s16 : yS) => xEx G mX12_forgeIt 216 [(0, .ref (q_b G + 139)), (2, .int x14), (3, .int x15)] [] (hS G s16) z 0 0 (yQi G z Q)) (fun x14 x15 s16 H => ?_)) (fun H => ?_)
              · show xEx G mX12_forgeIt 216 [(0, .ref (q_b G + 139)), (2, .int x14), (3, .int x15)] [] (hS G s16) z 0 0 (yQi G z Q)
                refine s_iload_n (nx := 217) hO rfl rfl rfl ?_
                refine s_aload_n (nx := 218) hO rfl rfl rfl ?_
                refine s_getf (v := .ref (q_b G + 178)) (nx := 221) hO rfl rfl (hs_o12 kc139) rfl rfl ?_
                refine s_iconst (x := 0) (nx := 222) hO rfl (by decide) rfl ?_
                obtain ⟨b17, H⟩ := H
                refine s_iald (nx := 223) hO rfl (hs_I kc178) b17 rfl ?_
                refine s_icmp_ge (nx := 226) hO rfl rfl (fun c223 => ?_) (fun c223 => ?_)
                · replace H := H.1 c223
                  refine s_iload_n (nx := 247) hO rfl rfl rfl ?_
                  exact s_iret hO rfl rfl rfl ⟨rfl, _, _, rfl, rfl, H⟩
                · replace H := H.2 c223
                  refine s_iload_n (nx := 227) hO rfl rfl rfl ?_
                  refine s_aload_n (nx := 228) hO rfl rfl rfl ?_
                  refine s_iload_n (nx := 229) hO rfl rfl rfl ?_
                  refine s_callV [.int x15] (ci := 12) (F := TX12) (N := 116) (nx := 232) hO rfl kX12_forgeIt_604 (by rw [hcl]; rfl) (hs_o12 kc139) (w_X12_forge hG H) rfl rfl (Nat.le_of_ble_eq_true rfl) (Nat.zero_le _) (Nat.zero_le _) rfl (k_Qi (fun r18 s19 H => ?_))
                  refine s_iadd (nx := 233) hO rfl rfl ?_
                  refine goV ((x14 + r18)) (fun x20 ex20 => ?_)
                  replace H := H x20 ex20
                  refine e_istore_n (nx := 234) (l' := [(2, .int x20), (0, .ref (q_b G + 139)), (3, .int x15)]) ex20 hO rfl (by decide) rfl rfl ?_
                  refine s_aload_n (nx := 235) hO rfl rfl rfl ?_
                  refine s_iconst (x := 1) (nx := 236) hO rfl (by decide) rfl ?_
                  refine s_iload_n (nx := 237) hO rfl rfl rfl ?_
                  refine s_callV [.int 1, .int x15] (ci := 12) (F := TX12) (N := 116) (nx := 240) hO rfl kX12_forgeIt_543 (by rw [hcl]; rfl) (hs_o12 kc139) (w_X12_verify hG H) rfl rfl (Nat.le_of_ble_eq_true rfl) (Nat.zero_le _) (Nat.zero_le _) rfl (k_Qv (fun s21 H => ?_))
                  refine goV ((x15 + 1)) (fun x22 ex22 => ?_)
                  replace H := H x22 ex22
                  refine e_iinc (nx := 243) (l' := [(3, .int x22), (2, .int x20), (0, .ref (q_b G + 139))]) ex22 hO rfl (by decide) rfl rfl rfl rfl ?_
                  refine s_goto hO rfl ?_
                  exact xEx.loc (x_sub1 (List.Mem.tail _ (List.Mem.tail _ (List.Mem.head _))) (x_sub1 (List.Mem.tail _ (List.Mem.head _)) (x_sub1 (List.Mem.head _) x_sub0))) H
              refine s_istore_n (nx := 216) (l' := [(3, .int 0), (2, .int 0), (0, .ref (q_b G + 139)), (1, .int x7)]) hO rfl (by decide) rfl rfl ?_
              exact xEx.loc (x_sub1 (List.Mem.tail _ (List.Mem.tail _ (List.Mem.head _))) (x_sub1 (List.Mem.tail _ (List.Mem.head _)) (x_sub1 (List.Mem.head _) x_sub0))) H
            · replace H := H.2 c188
              refine s_bipush (x := (-2)) (nx := 193) hO rfl (by decide) rfl ?_
              exact s_iret hO rfl rfl rfl ⟨rfl, _, _, rfl, rfl, H⟩
          · replace H := H.2 c111
            refine s_iconst (x := 0) (nx := 115) hO rfl (by decide) rfl ?_
            refine s_istore_n (nx := 116) (l' := [(3, .int 0), (0, .ref (q_b G + 139)), (1, .int x7), (2, .int x8)]) hO rfl (by decide) rfl rfl ?_
            refine s_iconst (x := 0) (nx := 117) hO rfl (by decide) rfl ?_
            refine goK (H (fun (x23 : Int32) (x24 : Int32) => xEx G mX12_forgeIt 119 [(0, .ref (q_b G + 139)), (1, .int x7), (2, .int x8), (3, .int x23), (4, .int x24)] [] (hS G s3) z 0 0 (yQi G z Q)) (fun x23 x24 H => ?_)) (fun H => ?_)
            · show xEx G mX12_forgeIt 119 [(0, .ref (q_b G + 139)), (1, .int x7), (2, .int x8), (3, .int x23), (4, .int x24)] [] (hS G s3) z 0 0 (yQi G z Q)
              refine s_iload (nx := 121) hO rfl rfl rfl ?_
              refine s_aload_n (nx := 122) hO rfl rfl rfl ?_
              refine s_getf (v := .ref (q_b G + 184)) (nx := 125) hO rfl rfl (hs_o12 kc139) rfl rfl ?_
              refine s_iload_n (nx := 126) hO rfl rfl rfl ?_
              obtain ⟨b25, H⟩ := H
              refine s_iald (nx := 127) hO rfl (hs_I kc184) b25 rfl ?_
              refine s_icmp_ge (nx := 130) hO rfl rfl (fun c127 => ?_) (fun c127 => ?_)
              · replace H := H.1 c127
                refine s_iload_n (nx := 156) hO rfl rfl rfl ?_
                refine s_iconst (x := (nI 2)) (nx := 157) hO rfl (by decide) rfl ?_
                refine s_iload_n (nx := 158) hO rfl rfl rfl ?_
                refine s_imul (nx := 159) hO rfl rfl ?_
                refine s_iadd (nx := 160) hO rfl rfl ?_
                refine goV ((x7 + ((nI 2) * x23))) (fun x26 ex26 => ?_)
                replace H := H x26 ex26
                refine e_istore_n (nx := 161) (l' := [(1, .int x26), (0, .ref (q_b G + 139)), (2, .int x8), (3, .int x23), (4, .int x24)]) ex26 hO rfl (by decide) rfl rfl ?_
                refine s_aload_n (nx := 162) hO rfl rfl rfl ?_
                refine s_getf (v := .ref (q_b G + 184)) (nx := 165) hO rfl rfl (hs_o12 kc139) rfl rfl ?_
                refine s_iload_n (nx := 166) hO rfl rfl rfl ?_
                obtain ⟨b27, H⟩ := H
                refine s_iald (nx := 167) hO rfl (hs_I kc184) b27 rfl ?_
                refine s_iload_n (nx := 168) hO rfl rfl rfl ?_
                refine s_iadd (nx := 169) hO rfl rfl ?_
                refine s_sipush (x := (nI 400)) (nx := 172) hO rfl (by decide) rfl ?_
                refine s_icmp_le (nx := 175) hO rfl rfl (fun c172 => ?_) (fun c172 => ?_)
                · replace H := H.1 c172
                  refine goV ((x8 + 1)) (fun x28 ex28 => ?_)
                  replace H := H x28 ex28
                  refine e_iinc (nx := 181) (l' := [(2, .int x28), (1, .int x26), (0, .ref (q_b G + 139)), (3, .int x23), (4, .int x24)]) ex28 hO rfl (by decide) rfl rfl rfl rfl ?_
                  refine s_goto hO rfl ?_
                  exact xEx.loc (x_sub1 (List.Mem.tail _ (List.Mem.tail _ (List.Mem.head _))) (x_sub1 (List.Mem.tail _ (List.Mem.head _)) (x_sub1 (List.Mem.head _) x_sub0))) H
                · replace H := H.2 c172
                  refine s_bipush (x := (-2)) (nx := 177) hO rfl (by decide) rfl ?_
                  exact s_iret hO rfl rfl rfl ⟨rfl, _, _, rfl, rfl, H⟩
              · replace H := H.2 c127
                refine s_iload_n (nx := 131) hO rfl rfl rfl ?_
                refine s_aload_n (nx := 132) hO rfl rfl rfl ?_
                refine s_iconst (x := 0) (nx := 133) hO rfl (by decide) rfl ?_
                refine s_iload_n (nx := 134) hO rfl rfl rfl ?_
                refine s_iload (nx := 136) hO rfl rfl rfl ?_
                refine s_callV [.int 0, .int x8, .int x24] (ci := 12) (F := TX12) (N := 116) (nx := 139) hO rfl kX12_forgeIt_598 (by rw [hcl]; rfl) (hs_o12 kc139) (w_X12_needs hG H) rfl rfl (Nat.le_of_ble_eq_true rfl) (Nat.zero_le _) (Nat.zero_le _) rfl (k_Pi (fun r29 H => ?_))
                refine goK (H (fun (y30 : Int32) => xEx G mX12_forgeIt 147 [(0, .ref (q_b G + 139)), (1, .int x7), (2, .int x8), (4, .int x24)] [.int y30, .int x23] (hS G s3) z 0 0 (yQi G z Q)) (fun y30 H => ?_)) (fun H => ?_)
                · show xEx G mX12_forgeIt 147 [(0, .ref (q_b G + 139)), (1, .int x7), (2, .int x8), (4, .int x24)] [.int y30, .int x23] (hS G s3) z 0 0 (yQi G z Q)
                  refine s_iadd (nx := 148) hO rfl rfl ?_
                  refine goV ((x23 + y30)) (fun x31 ex31 => ?_)
                  replace H := H x31 ex31
                  refine e_istore_n (nx := 149) (l' := [(3, .int x31), (0, .ref (q_b G + 139)), (1, .int x7), (2, .int x8), (4, .int x24)]) ex31 hO rfl (by decide) rfl rfl ?_
                  refine goV ((x24 + 1)) (fun x32 ex32 => ?_)
                  replace H := H x32 ex32
                  refine e_iinc (nx := 152) (l' := [(4, .int x32), (3, .int x31), (0, .ref (q_b G + 139)), (1, .int x7), (2, .int x8)]) ex32 hO rfl (by decide) rfl rfl rfl rfl ?_
                  refine s_goto hO rfl ?_
                  exact xEx.loc (x_sub1 (List.Mem.tail _ (List.Mem.tail _ (List.Mem.head _))) (x_sub1 (List.Mem.tail _ (List.Mem.tail _ (List.Mem.tail _ (List.Mem.head _)))) (x_sub1 (List.Mem.tail _ (List.Mem.tail _ (List.Mem.tail _ (List.Mem.tail _ (List.Mem.head _))))) (x_sub1 (List.Mem.tail _ (List.Mem.head _)) (x_sub1 (List.Mem.head _) x_sub0))))) H
                refine s_if_eq (nx := 142) hO rfl rfl (fun c139 => ?_) (fun c139 => ?_)
                · replace H := H.1 c139
                  refine s_iconst (x := 0) (nx := 147) hO rfl (by decide) rfl ?_
                  exact xEx.loc (x_sub1 (List.Mem.head _) (x_sub1 (List.Mem.tail _ (List.Mem.head _)) (x_sub1 (List.Mem.tail _ (List.Mem.tail _ (List.Mem.head _))) (x_sub1 (List.Mem.tail _ (List.Mem.tail _ (List.Mem.tail _ (List.Mem.tail _ (List.Mem.head _))))) x_sub0)))) H
                · replace H := H.2 c139
                  refine s_iconst (x := 1) (nx := 143) hO rfl (by decide) rfl ?_
                  refine s_goto hO rfl ?_
                  exact xEx.loc (x_sub1 (List.Mem.head _) (x_sub1 (List.Mem.tail _ (List.Mem.head _)) (x_sub1 (List.Mem.tail _ (List.Mem.tail _ (List.Mem.head _))) (x_sub1 (List.Mem.tail _ (List.Mem.tail _ (List.Mem.tail _ (List.Mem.tail _ (List.Mem.head _))))) x_sub0)))) H
            refine s_istore (nx := 119) (l' := [(4, .int 0), (3, .int 0), (0, .ref (q_b G + 139)), (1, .int x7), (2, .int x8)]) hO rfl (by decide) rfl rfl ?_
            exact xEx.loc (x_sub1 (List.Mem.tail _ (List.Mem.tail _ (List.Mem.head _))) (x_sub1 (List.Mem.tail _ (List.Mem.tail _ (List.Mem.tail _ (List.Mem.head _)))) (x_sub1 (List.Mem.tail _ (List.Mem.tail _ (List.Mem.tail _ (List.Mem.tail _ (List.Mem.head _))))) (x_sub1 (List.Mem.tail _ (List.Mem.head _)) (x_sub1 (List.Mem.head _) x_sub0))))) H
        refine s_istore_n (nx := 104) (l' := [(2, .int 0), (1, .int r6), (0, .ref (q_b G + 139))]) hO rfl (by decide) rfl rfl ?_
        exact xEx.loc (x_sub1 (List.Mem.tail _ (List.Mem.tail _ (List.Mem.head _))) (x_sub1 (List.Mem.tail _ (List.Mem.head _)) (x_sub1 (List.Mem.head _) x_sub0))) H
      · replace H := H.2 c30
        refine s_iconst (x := 0) (nx := 34) hO rfl (by decide) rfl ?_
        refine s_istore_n (nx := 35) (l' := [(2, .int 0), (0, .ref (q_b G + 139)), (1, .int x4)]) hO rfl (by decide) rfl rfl ?_
        refine s_iconst (x := 0) (nx := 36) hO rfl (by decide) rfl ?_
        refine goK (H (fun (x33 : Int32) (x34 : Int32) => xEx G mX12_forgeIt 37 [(0, .ref (q_b G + 139)), (1, .int x4), (2, .int x33), (3, .int x34)] [] (hS G s3) z 0 0 (yQi G z Q)) (fun x33 x34 H => ?_)) (fun H => ?_)
        · show xEx G mX12_forgeIt 37 [(0, .ref (q_b G + 139)), (1, .int x4), (2, .int x33), (3, .int x34)] [] (hS G s3) z 0 0 (yQi G z Q)
          refine s_iload_n (nx := 38) hO rfl rfl rfl ?_
          refine s_aload_n (nx := 39) hO rfl rfl rfl ?_
          refine s_getf (v := .ref (q_b G + 184)) (nx := 42) hO rfl rfl (hs_o12 kc139) rfl rfl ?_
          refine s_iload_n (nx := 43) hO rfl rfl rfl ?_
          obtain ⟨b35, H⟩ := H
          refine s_iald (nx := 44) hO rfl (hs_I kc184) b35 rfl ?_
          refine s_icmp_ge (nx := 47) hO rfl rfl (fun c44 => ?_) (fun c44 => ?_)
          · replace H := H.1 c44
            refine goV ((x4 + 1)) (fun x36 ex36 => ?_)
            replace H := H x36 ex36
            refine e_iinc (nx := 93) (l' := [(1, .int x36), (0, .ref (q_b G + 139)), (2, .int x33), (3, .int x34)]) ex36 hO rfl (by decide) rfl rfl rfl rfl ?_
            refine s_goto hO rfl ?_
            exact xEx.loc (x_sub1 (List.Mem.tail _ (List.Mem.head _)) (x_sub1 (List.Mem.head _) x_sub0)) H
          · replace H := H.2 c44
            refine s_iload_n (nx := 48) hO rfl rfl rfl ?_
            refine s_aload_n (nx := 49) hO rfl rfl rfl ?_
            refine s_iconst (x := 0) (nx := 50) hO rfl (by decide) rfl ?_
            refine s_iload_n (nx := 51) hO rfl rfl rfl ?_
            refine s_iload_n (nx := 52) hO rfl rfl rfl ?_
            refine s_callV [.int 0, .int x4, .int x34] (ci := 12) (F := TX12) (N := 116) (nx := 55) hO rfl kX12_forgeIt_598 (by rw [hcl]; rfl) (hs_o12 kc139) (w_X12_needs hG H) rfl rfl (Nat.le_of_ble_eq_true rfl) (Nat.zero_le _) (Nat.zero_le _) rfl (k_Pi (fun r37 H => ?_))
            refine goK (H (fun (y38 : Int32) => xEx G mX12_forgeIt 63 [(0, .ref (q_b G + 139)), (1, .int x4), (3, .int x34)] [.int y38, .int x33] (hS G s3) z 0 0 (yQi G z Q)) (fun y38 H => ?_)) (fun H => ?_)
            · show xEx G mX12_forgeIt 63 [(0, .ref (q_b G + 139)), (1, .int x4), (3, .int x34)] [.int y38, .int x33] (hS G s3) z 0 0 (yQi G z Q)
              refine s_iadd (nx := 64) hO rfl rfl ?_
              refine goV ((x33 + y38)) (fun x39 ex39 => ?_)
              replace H := H x39 ex39
              refine e_istore_n (nx := 65) (l' := [(2, .int x39), (0, .ref (q_b G + 139)), (1, .int x4), (3, .int x34)]) ex39 hO rfl (by decide) rfl rfl ?_
              refine s_aload_n (nx := 66) hO rfl rfl rfl ?_
              refine s_getf (v := .ref (q_b G + 186)) (nx := 69) hO rfl rfl (hs_o12 kc139) rfl rfl ?_
              refine s_sipush (x := (nI 400)) (nx := 72) hO rfl (by decide) rfl ?_
              refine s_iload_n (nx := 73) hO rfl rfl rfl ?_
              refine s_imul (nx := 74) hO rfl rfl ?_
              refine s_iload_n (nx := 75) hO rfl rfl rfl ?_
              refine s_iadd (nx := 76) hO rfl rfl ?_
              obtain ⟨b40, H⟩ := H
              refine s_iald (nx := 77) hO rfl (hs_I kc186) b40 rfl ?_
              refine s_bipush (x := (nI 29)) (nx := 79) hO rfl (by decide) rfl ?_
              refine s_icmp_ne (nx := 82) hO rfl rfl (fun c79 => ?_) (fun c79 => ?_)
              · replace H := H.1 c79
                refine goV ((x34 + 1)) (fun x41 ex41 => ?_)
                replace H := H x41 ex41
                refine e_iinc (nx := 87) (l' := [(3, .int x41), (2, .int x39), (0, .ref (q_b G + 139)), (1, .int x4)]) ex41 hO rfl (by decide) rfl rfl rfl rfl ?_
                refine s_goto hO rfl ?_
                exact xEx.loc (x_sub1 (List.Mem.tail _ (List.Mem.tail _ (List.Mem.head _))) (x_sub1 (List.Mem.tail _ (List.Mem.tail _ (List.Mem.tail _ (List.Mem.head _)))) (x_sub1 (List.Mem.tail _ (List.Mem.head _)) (x_sub1 (List.Mem.head _) x_sub0)))) H
              · replace H := H.2 c79
                refine s_iconst (x := (-1)) (nx := 83) hO rfl (by decide) rfl ?_
                exact s_iret hO rfl rfl rfl ⟨rfl, _, _, rfl, rfl, H⟩
            refine s_if_eq (nx := 58) hO rfl rfl (fun c55 => ?_) (fun c55 => ?_)
            · replace H := H.1 c55
              refine s_iconst (x := 0) (nx := 63) hO rfl (by decide) rfl ?_
              exact xEx.loc (x_sub1 (List.Mem.head _) (x_sub1 (List.Mem.tail _ (List.Mem.head _)) (x_sub1 (List.Mem.tail _ (List.Mem.tail _ (List.Mem.tail _ (List.Mem.head _)))) x_sub0))) H
            · replace H := H.2 c55
              refine s_iconst (x := 1) (nx := 59) hO rfl (by decide) rfl ?_
              refine s_goto hO rfl ?_
              exact xEx.loc (x_sub1 (List.Mem.head _) (x_sub1 (List.Mem.tail _ (List.Mem.head _)) (x_sub1 (List.Mem.tail _ (List.Mem.tail _ (List.Mem.tail _ (List.Mem.head _)))) x_sub0))) H
        refine s_istore_n (nx := 37) (l' := [(3, .int 0), (2, .int 0), (0, .ref (q_b G + 139)), (1, .int x4)]) hO rfl (by decide) rfl rfl ?_
        exact xEx.loc (x_sub1 (List.Mem.tail _ (List.Mem.tail _ (List.Mem.head _))) (x_sub1 (List.Mem.tail _ (List.Mem.tail _ (List.Mem.tail _ (List.Mem.head _)))) (x_sub1 (List.Mem.tail _ (List.Mem.head _)) (x_sub1 (List.Mem.head _) x_sub0)))) H
    refine s_istore_n (nx := 23) (l' := [(1, .int 0), (0, .ref (q_b G + 139))]) hO rfl (by decide) rfl rfl ?_
    exact xEx.loc (x_sub1 (List.Mem.tail _ (List.Mem.head _)) (x_sub1 (List.Mem.head _) x_sub0)) H
  · replace H := H.2 c11
    refine s_iconst (x := (-1)) (nx := 15) hO rfl (by decide) rfl ?_
    exact s_iret hO rfl rfl rfl ⟨rfl, _, _, rfl, rfl, H⟩
def W_X12_put (s : yS) (v1 : Int32) (v2 : Int32) (Q : yS → Prop) : Prop :=
 ∀ P4 : Int32 → yS → Prop, (∀ (x1 : Int32) (s2 : yS), (((x1 < 0 → Q s2)
  ∧ (¬ x1 < 0 → vp_in (sI s2 139 5) 8192 ∧ ∀ s4 : yS, s4 = wI s2 141 (ix (sI s2 139 5)) ((v1 >>> (((nI 8) * x1) &&& 31)) &&& (nI 255)) → 
   ∀ s5 : yS, s5 = wI s4 139 5 ((sI s4 139 5) + 1) → 
   ∀ x6 : Int32, x6 = (x1 + (-1)) → 
   P4 x6 s5))) → P4 x1 s2) → 
 ∀ x7 : Int32, x7 = (v2 - 1) → 
 P4 x7 s
set_option maxRecDepth 100000 in
set_option maxHeartbeats 40000000 in
theorem w_X12_put {G : xG} (hG : yG G) {z : Nat} {s : yS} {v1 : Int32} {v2 : Int32} {Q : yS → Prop} (H : W_X12_put s v1 v2 Q) : xC G mX12_put [.ref (q_b G + 139), .int v1, .int v2] (hS G s) z 0 0 (yQv G z Q) := by
  have hW := hG.1
  have hcl := hG.2.1
  have hty := hG.2.2.1
  have hO : xO G mX12_put tbX12_put ptX12_put := ⟨tkX12_put, pkX12_put hcl⟩
  unfold W_X12_put at H
  refine xC.of hW (by decide) rfl (Nat.le_of_ble_eq_true rfl) ?_
  refine s_iload_n (nx := 1) hO rfl rfl rfl ?_
  refine s_iconst (x := 1) (nx := 2) hO rfl (by decide) rfl ?_
  refine s_isub (nx := 3) hO rfl rfl ?_
  refine goK (H (fun (x1 : Int32) (s2 : yS) => xEx G mX12_put 4 [(0, .ref (q_b G + 139)), (1, .int v1), (3, .int x1)] [] (hS G s2) z 0 0 (yQv G z Q)) (fun x1 s2 H => ?_)) (fun H => ?_)
  · show xEx G mX12_put 4 [(0, .ref (q_b G + 139)), (1, .int v1), (3, .int x1)] [] (hS G s2) z 0 0 (yQv G z Q)
    refine s_iload_n (nx := 5) hO rfl rfl rfl ?_
    refine s_if_lt (nx := 8) hO rfl rfl (fun c5 => ?_) (fun c5 => ?_)
    · replace H := H.1 c5
      exact s_vret hO rfl rfl ⟨rfl, _, rfl, rfl, H⟩
    · replace H := H.2 c5
      refine s_aload_n (nx := 9) hO rfl rfl rfl ?_
      refine s_getf (v := .ref (q_b G + 141)) (nx := 12) hO rfl rfl (hs_o12 kc139) rfl rfl ?_
      refine s_aload_n (nx := 13) hO rfl rfl rfl ?_
      refine s_getf (v := .int (sI s2 139 5)) (nx := 16) hO rfl rfl (hs_o12 kc139) rfl rfl ?_
      refine s_iload_n (nx := 17) hO rfl rfl rfl ?_
      refine s_bipush (x := (nI 8)) (nx := 19) hO rfl (by decide) rfl ?_
      refine s_iload_n (nx := 20) hO rfl rfl rfl ?_
      refine s_imul (nx := 21) hO rfl rfl ?_
      refine s_ishr (nx := 22) hO rfl rfl ?_
      refine s_sipush (x := (nI 255)) (nx := 25) hO rfl (by decide) rfl ?_
      refine s_iand (nx := 26) hO rfl rfl ?_
      obtain ⟨b3, H⟩ := H
      refine goV (wI s2 141 (ix (sI s2 139 5)) ((v1 >>> (((nI 8) * x1) &&& 31)) &&& (nI 255))) (fun s4 es4 => ?_)
      replace H := H s4 es4
      refine s_iast (nx := 27) hO rfl (hs_I kc141) b3 rfl ?_
      refine xEx.at (up_I kc141 es4) ?_
      refine s_aload_n (nx := 28) hO rfl rfl rfl ?_
      refine s_dup (nx := 29) hO rfl rfl rfl ?_
      refine s_getf (v := .int (sI s4 139 5)) (nx := 32) hO rfl rfl (hs_o12 kc139) rfl rfl ?_
      refine s_iconst (x := 1) (nx := 33) hO rfl (by decide) rfl ?_
      refine s_iadd (nx := 34) hO rfl rfl ?_
      refine goV (wI s4 139 5 ((sI s4 139 5) + 1)) (fun s5 es5 => ?_)
      replace H := H s5 es5
      refine s_putf (nx := 37) hO rfl rfl (hs_o12 kc139) (Nat.le_of_ble_eq_true rfl) (by rw [hty]; rfl) (by rw [hty]; rfl) pX12_5 rfl ?_
      refine xEx.at (up_oI12 kc139 es5) ?_
      refine goV ((x1 + (-1))) (fun x6 ex6 => ?_)
      replace H := H x6 ex6
      refine e_iinc (nx := 40) (l' := [(3, .int x6), (0, .ref (q_b G + 139)), (1, .int v1)]) ex6 hO rfl (by decide) rfl rfl rfl rfl ?_
      refine s_goto hO rfl ?_
      exact xEx.loc (x_sub1 (List.Mem.tail _ (List.Mem.head _)) (x_sub1 (List.Mem.tail _ (List.Mem.tail _ (List.Mem.head _))) (x_sub1 (List.Mem.head _) x_sub0))) H
  refine goV ((v2 - 1)) (fun x7 ex7 => ?_)
  replace H := H x7 ex7
  refine e_istore_n (nx := 4) (l' := [(3, .int x7), (0, .ref (q_b G + 139)), (1, .int v1), (2, .int v2)]) ex7 hO rfl (by decide) rfl rfl ?_
  exact xEx.loc (x_sub1 (List.Mem.tail _ (List.Mem.head _)) (x_sub1 (List.Mem.tail _ (List.Mem.tail _ (List.Mem.head _))) (x_sub1 (List.Mem.head _) x_sub0))) H
def W_X12_saveProgram (s : yS) (v1 : Int32) (Q : Int32 → yS → Prop) : Prop :=
 ∀ s1 : yS, s1 = wI s 139 0 0 → 
 ∀ P14 : Int32 → Prop, (∀ (y2 : Int32), (vp_in y2 3 ∧ 
  ((¬ (sI s1 177 (ix y2)) = 0 → ∀ s4 : yS, s4 = wI s1 139 5 0 → 
   W_X12_put s4 (nI 71) 1 
   (fun s5 => W_X12_put s5 (nI 70) 1 
   (fun s6 => W_X12_put s6 1 1 
   (fun s7 => vp_in y2 3 ∧ 
   W_X12_put s7 (sI s7 178 (ix y2)) 1 
   (fun s9 => ∀ P64 : Int32 → yS → Prop, (∀ (x10 : Int32) (s11 : yS), (vp_in y2 3 ∧ 
    (((sI s11 178 (ix y2)) ≤ x10 → Q (sI s11 139 5) s11)
    ∧ (¬ (sI s11 178 (ix y2)) ≤ x10 → ∀ x13 : Int32, x13 = (((nI 12) * y2) + x10) → 
     vp_in x13 36 ∧ 
     W_X12_put s11 (sI s11 179 (ix x13)) 1 
     (fun s15 => vp_in x13 36 ∧ 
     W_X12_put s15 (sI s15 180 (ix x13)) 1 
     (fun s17 => vp_in x13 36 ∧ 
     W_X12_put s17 (sI s17 181 (ix x13)) (nI 2) 
     (fun s19 => vp_in x13 36 ∧ 
     W_X12_put s19 (sI s19 182 (ix x13)) 1 
     (fun s21 => vp_in x13 36 ∧ 
     W_X12_put s21 (sI s21 184 (ix x13)) (nI 2) 
     (fun s23 => ∀ P145 : Int32 → yS → Prop, (∀ (x24 : Int32) (s25 : yS), (vp_in x13 36 ∧ 
      (((sI s25 184 (ix x13)) ≤ x24 → vp_in x13 36 ∧ 
       W_X12_put s25 (sI s25 185 (ix x13)) 1 
       (fun s28 => ∀ P242 : Int32 → yS → Prop, (∀ (x29 : Int32) (s30 : yS), (vp_in x13 36 ∧ 
        ((((((nI 72) * y2) + ((nI 6) * x10)) + (sI s30 185 (ix x13))) ≤ x29 → ∀ x32 : Int32, x32 = (x10 + 1) → 
         P64 x32 s30)
        ∧ (¬ ((((nI 72) * y2) + ((nI 6) * x10)) + (sI s30 185 (ix x13))) ≤ x29 → vp_in x29 216 ∧ 
         W_X12_put s30 (sI s30 188 (ix x29)) (nI 2) 
         (fun s34 => vp_in x29 216 ∧ 
         W_X12_put s34 (sI s34 189 (ix x29)) (nI 2) 
         (fun s36 => vp_in x29 216 ∧ 
         W_X12_put s36 (sI s36 190 (ix x29)) (nI 2) 
         (fun s38 => vp_in x29 216 ∧ 
         ∀ P316 : Int32 → Prop, (∀ (y40 : Int32), (W_X12_put s38 y40 1 
          (fun s41 => vp_in x29 216 ∧ 
          vp_in x29 216 ∧ 
          ∀ P343 : Int32 → Prop, (∀ (y44 : Int32), (W_X12_put s41 (sI s41 192 (ix x29)) y44 
           (fun s45 => ∀ x46 : Int32, x46 = (x29 + 1) → 
           P242 x46 s45)) → P343 y44) → 
          (((sI s41 191 (ix x29)) = 0 → P343 (nI 4))
          ∧ (¬ (sI s41 191 (ix x29)) = 0 → P343 0)))) → P316 y40) → 
         (((sI s38 191 (ix x29)) = 0 → P316 1)
         ∧ (¬ (sI s38 191 (ix x29)) = 0 → P316 0)))))))) → P242 x29 s30) → 
       ∀ x47 : Int32, x47 = (((nI 72) * y2) + ((nI 6) * x10)) → 
       P242 x47 s28))
      ∧ (¬ (sI s25 184 (ix x13)) ≤ x24 → vp_in ((((nI 4800) * y2) + ((nI 400) * x10)) + x24) 14400 ∧ 
       ∀ x49 : Int32, x49 = (sI s25 186 (ix ((((nI 4800) * y2) + ((nI 400) * x10)) + x24))) → 
       W_X12_put s25 x49 1 
       (fun s50 => vp_in ((((nI 4800) * y2) + ((nI 400) * x10)) + x24) 14400 ∧ 
       W_X12_behind s50 x49 
       (fun r52 => W_X12_put s50 (sI s50 187 (ix ((((nI 4800) * y2) + ((nI 400) * x10)) + x24))) r52 
       (fun s53 => ∀ x54 : Int32, x54 = (x24 + 1) → 
       P145 x54 s53)))))) → P145 x24 s25) → 
     P145 0 s23)))))))) → P64 x10 s11) → 
   P64 0 s9)))))
  ∧ ((sI s1 177 (ix y2)) = 0 → Q (-1) s1))) → P14 y2) → 
 ((v1 = 0 → P14 0)
 ∧ (¬ v1 = 0 → P14 1))
set_option maxRecDepth 100000 in
set_option maxHeartbeats 40000000 in
theorem w_X12_saveProgram {G : xG} (hG : yG G) {z : Nat} {s : yS} {v1 : Int32} {Q : Int32 → yS → Prop} (H : W_X12_saveProgram s v1 Q) : xC G mX12_saveProgram [.ref (q_b G + 139), .int v1] (hS G s) z 0 0 (yQi G z Q) := by
  have hW := hG.1
  have hcl := hG.2.1
  have hty := hG.2.2.1
  have hO : xO G mX12_saveProgram tbX12_saveProgram ptX12_saveProgram := ⟨tkX12_saveProgram, pkX12_saveProgram hcl⟩
  unfold W_X12_saveProgram at H
  refine xC.of hW (by decide) rfl (Nat.le_of_ble_eq_true rfl) ?_
  refine s_aload_n (nx := 1) hO rfl rfl rfl ?_
  refine s_iconst (x := 0) (nx := 2) hO rfl (by decide) rfl ?_
  refine goV (wI s 139 0 0) (fun s1 es1 => ?_)
  replace H := H s1 es1
  refine s_putf (nx := 5) hO rfl rfl (hs_o12 kc139) (Nat.le_of_ble_eq_true rfl) (by rw [hty]; rfl) (by rw [hty]; rfl) pX12_0 rfl ?_
  refine xEx.at (up_oI12 kc139 es1) ?_
  refine s_iload_n (nx := 6) hO rfl rfl rfl ?_
  refine goK (H (fun (y2 : Int32) => xEx G mX12_saveProgram 14 [(0, .ref (q_b G + 139))] [.int y2] (hS G s1) z 0 0 (yQi G z Q)) (fun y2 H => ?_)) (fun H => ?_)
  · show xEx G mX12_saveProgram 14 [(0, .ref (q_b G + 139))] [.int y2] (hS G s1) z 0 0 (yQi G z Q)
    refine s_istore_n (nx := 15) (l' := [(2, .int y2), (0, .ref (q_b G + 139))]) hO rfl (by decide) rfl rfl ?_
    refine s_aload_n (nx := 16) hO rfl rfl rfl ?_
    refine s_getf (v := .ref (q_b G + 177)) (nx := 19) hO rfl rfl (hs_o12 kc139) rfl rfl ?_
    refine s_iload_n (nx := 20) hO rfl rfl rfl ?_
    obtain ⟨b3, H⟩ := H
    refine s_zald (nx := 21) hO rfl (hs_Z kc177) b3 rfl ?_
    refine s_if_ne (nx := 24) hO rfl rfl (fun c21 => ?_) (fun c21 => ?_)
    · replace H := H.1 c21
      refine s_aload_n (nx := 27) hO rfl rfl rfl ?_
      refine s_iconst (x := 0) (nx := 28) hO rfl (by decide) rfl ?_
      refine goV (wI s1 139 5 0) (fun s4 es4 => ?_)
      replace H := H s4 es4
      refine s_putf (nx := 31) hO rfl rfl (hs_o12 kc139) (Nat.le_of_ble_eq_true rfl) (by rw [hty]; rfl) (by rw [hty]; rfl) pX12_5 rfl ?_
      refine xEx.at (up_oI12 kc139 es4) ?_
      refine s_aload_n (nx := 32) hO rfl rfl rfl ?_
      refine s_bipush (x := (nI 71)) (nx := 34) hO rfl (by decide) rfl ?_
      refine s_iconst (x := 1) (nx := 35) hO rfl (by decide) rfl ?_
      refine s_callV [.int (nI 71), .int 1] (ci := 12) (F := TX12) (N := 116) (nx := 38) hO rfl kX12_saveProgram_610 (by rw [hcl]; rfl) (hs_o12 kc139) (w_X12_put hG H) rfl rfl (Nat.le_of_ble_eq_true rfl) (Nat.zero_le _) (Nat.zero_le _) rfl (k_Qv (fun s5 H => ?_))
      refine s_aload_n (nx := 39) hO rfl rfl rfl ?_
      refine s_bipush (x := (nI 70)) (nx := 41) hO rfl (by decide) rfl ?_
      refine s_iconst (x := 1) (nx := 42) hO rfl (by decide) rfl ?_
      refine s_callV [.int (nI 70), .int 1] (ci := 12) (F := TX12) (N := 116) (nx := 45) hO rfl kX12_saveProgram_610 (by rw [hcl]; rfl) (hs_o12 kc139) (w_X12_put hG H) rfl rfl (Nat.le_of_ble_eq_true rfl) (Nat.zero_le _) (Nat.zero_le _) rfl (k_Qv (fun s6 H => ?_))
      refine s_aload_n (nx := 46) hO rfl rfl rfl ?_
      refine s_iconst (x := 1) (nx := 47) hO rfl (by decide) rfl ?_
      refine s_iconst (x := 1) (nx := 48) hO rfl (by decide) rfl ?_
      refine s_callV [.int 1, .int 1] (ci := 12) (F := TX12) (N := 116) (nx := 51) hO rfl kX12_saveProgram_610 (by rw [hcl]; rfl) (hs_o12 kc139) (w_X12_put hG H) rfl rfl (Nat.le_of_ble_eq_true rfl) (Nat.zero_le _) (Nat.zero_le _) rfl (k_Qv (fun s7 H => ?_))
      refine s_aload_n (nx := 52) hO rfl rfl rfl ?_
      refine s_aload_n (nx := 53) hO rfl rfl rfl ?_
      refine s_getf (v := .ref (q_b G + 178)) (nx := 56) hO rfl rfl (hs_o12 kc139) rfl rfl ?_
      refine s_iload_n (nx := 57) hO rfl rfl rfl ?_
      obtain ⟨b8, H⟩ := H
      refine s_iald (nx := 58) hO rfl (hs_I kc178) b8 rfl ?_
      refine s_iconst (x := 1) (nx := 59) hO rfl (by decide) rfl ?_
      refine s_callV [.int (sI s7 178 (ix y2)), .int 1] (ci := 12) (F := TX12) (N := 116) (nx := 62) hO rfl kX12_saveProgram_610 (by rw [hcl]; rfl) (hs_o12 kc139) (w_X12_put hG H) rfl rfl (Nat.le_of_ble_eq_true rfl) (Nat.zero_le _) (Nat.zero_le _) rfl (k_Qv (fun s9 H => ?_))
      refine s_iconst (x := 0) (nx := 63) hO rfl (by decide) rfl ?_
      refine goK (H (fun (x10 : Int32) (s11 : yS) => xEx G mX12_saveProgram 64 [(0, .ref (q_b G + 139)), (2, .int y2), (3, .int x10)] [] (hS G s11) z 0 0 (yQi G z Q)) (fun x10 s11 H => ?_)) (fun H => ?_)
      · show xEx G mX12_saveProgram 64 [(0, .ref (q_b G + 139)), (2, .int y2), (3, .int x10)] [] (hS G s11) z 0 0 (yQi G z Q)
        refine s_iload_n (nx := 65) hO rfl rfl rfl ?_
        refine s_aload_n (nx := 66) hO rfl rfl rfl ?_
        refine s_getf (v := .ref (q_b G + 178)) (nx := 69) hO rfl rfl (hs_o12 kc139) rfl rfl ?_
        refine s_iload_n (nx := 70) hO rfl rfl rfl ?_
        obtain ⟨b12, H⟩ := H
        refine s_iald (nx := 71) hO rfl (hs_I kc178) b12 rfl ?_
        refine s_icmp_ge (nx := 74) hO rfl rfl (fun c71 => ?_) (fun c71 => ?_)
        · replace H := H.1 c71
          refine s_aload_n (nx := 359) hO rfl rfl rfl ?_
          refine s_getf (v := .int (sI s11 139 5)) (nx := 362) hO rfl rfl (hs_o12 kc139) rfl rfl ?_
          exact s_iret hO rfl rfl rfl ⟨rfl, _, _, rfl, rfl, H⟩
        · replace H := H.2 c71
          refine s_bipush (x := (nI 12)) (nx := 76) hO rfl (by decide) rfl ?_
          refine s_iload_n (nx := 77) hO rfl rfl rfl ?_
          refine s_imul (nx := 78) hO rfl rfl ?_
          refine s_iload_n (nx := 79) hO rfl rfl rfl ?_
          refine s_iadd (nx := 80) hO rfl rfl ?_
          refine goV ((((nI 12) * y2) + x10)) (fun x13 ex13 => ?_)
          replace H := H x13 ex13
          refine e_istore (nx := 82) (l' := [(4, .int x13), (0, .ref (q_b G + 139)), (2, .int y2), (3, .int x10)]) ex13 hO rfl (by decide) rfl rfl ?_
          refine s_aload_n (nx := 83) hO rfl rfl rfl ?_
          refine s_aload_n (nx := 84) hO rfl rfl rfl ?_
          refine s_getf (v := .ref (q_b G + 179)) (nx := 87) hO rfl rfl (hs_o12 kc139) rfl rfl ?_
          refine s_iload (nx := 89) hO rfl rfl rfl ?_
          obtain ⟨b14, H⟩ := H
          refine s_iald (nx := 90) hO rfl (hs_I kc179) b14 rfl ?_
          refine s_iconst (x := 1) (nx := 91) hO rfl (by decide) rfl ?_
          refine s_callV [.int (sI s11 179 (ix x13)), .int 1] (ci := 12) (F := TX12) (N := 116) (nx := 94) hO rfl kX12_saveProgram_610 (by rw [hcl]; rfl) (hs_o12 kc139) (w_X12_put hG H) rfl rfl (Nat.le_of_ble_eq_true rfl) (Nat.zero_le _) (Nat.zero_le _) rfl (k_Qv (fun s15 H => ?_))
          refine s_aload_n (nx := 95) hO rfl rfl rfl ?_
          refine s_aload_n (nx := 96) hO rfl rfl rfl ?_
          refine s_getf (v := .ref (q_b G + 180)) (nx := 99) hO rfl rfl (hs_o12 kc139) rfl rfl ?_
          refine s_iload (nx := 101) hO rfl rfl rfl ?_
          obtain ⟨b16, H⟩ := H
          refine s_iald (nx := 102) hO rfl (hs_I kc180) b16 rfl ?_
          refine s_iconst (x := 1) (nx := 103) hO rfl (by decide) rfl ?_
          refine s_callV [.int (sI s15 180 (ix x13)), .int 1] (ci := 12) (F := TX12) (N := 116) (nx := 106) hO rfl kX12_saveProgram_610 (by rw [hcl]; rfl) (hs_o12 kc139) (w_X12_put hG H) rfl rfl (Nat.le_of_ble_eq_true rfl) (Nat.zero_le _) (Nat.zero_le _) rfl (k_Qv (fun s17 H => ?_))
          refine s_aload_n (nx := 107) hO rfl rfl rfl ?_
          refine s_aload_n (nx := 108) hO rfl rfl rfl ?_
          refine s_getf (v := .ref (q_b G + 181)) (nx := 111) hO rfl rfl (hs_o12 kc139) rfl rfl ?_
          refine s_iload (nx := 113) hO rfl rfl rfl ?_
          obtain ⟨b18, H⟩ := H
          refine s_iald (nx := 114) hO rfl (hs_I kc181) b18 rfl ?_
          refine s_iconst (x := (nI 2)) (nx := 115) hO rfl (by decide) rfl ?_
          refine s_callV [.int (sI s17 181 (ix x13)), .int (nI 2)] (ci := 12) (F := TX12) (N := 116) (nx := 118) hO rfl kX12_saveProgram_610 (by rw [hcl]; rfl) (hs_o12 kc139) (w_X12_put hG H) rfl rfl (Nat.le_of_ble_eq_true rfl) (Nat.zero_le _) (Nat.zero_le _) rfl (k_Qv (fun s19 H => ?_))
          refine s_aload_n (nx := 119) hO rfl rfl rfl ?_
          refine s_aload_n (nx := 120) hO rfl rfl rfl ?_
          refine s_getf (v := .ref (q_b G + 182)) (nx := 123) hO rfl rfl (hs_o12 kc139) rfl rfl ?_
          refine s_iload (nx := 125) hO rfl rfl rfl ?_
          obtain ⟨b20, H⟩ := H
          refine s_iald (nx := 126) hO rfl (hs_I kc182) b20 rfl ?_
          refine s_iconst (x := 1) (nx := 127) hO rfl (by decide) rfl ?_
          refine s_callV [.int (sI s19 182 (ix x13)), .int 1] (ci := 12) (F := TX12) (N := 116) (nx := 130) hO rfl kX12_saveProgram_610 (by rw [hcl]; rfl) (hs_o12 kc139) (w_X12_put hG H) rfl rfl (Nat.le_of_ble_eq_true rfl) (Nat.zero_le _) (Nat.zero_le _) rfl (k_Qv (fun s21 H => ?_))
          refine s_aload_n (nx := 131) hO rfl rfl rfl ?_
          refine s_aload_n (nx := 132) hO rfl rfl rfl ?_
          refine s_getf (v := .ref (q_b G + 184)) (nx := 135) hO rfl rfl (hs_o12 kc139) rfl rfl ?_
          refine s_iload (nx := 137) hO rfl rfl rfl ?_
          obtain ⟨b22, H⟩ := H
          refine s_iald (nx := 138) hO rfl (hs_I kc184) b22 rfl ?_
          refine s_iconst (x := (nI 2)) (nx := 139) hO rfl (by decide) rfl ?_
          refine s_callV [.int (sI s21 184 (ix x13)), .int (nI 2)] (ci := 12) (F := TX12) (N := 116) (nx := 142) hO rfl kX12_saveProgram_610 (by rw [hcl]; rfl) (hs_o12 kc139) (w_X12_put hG H) rfl rfl (Nat.le_of_ble_eq_true rfl) (Nat.zero_le _) (Nat.zero_le _) rfl (k_Qv (fun s23 H => ?_))
          refine s_iconst (x := 0) (nx := 143) hO rfl (by decide) rfl ?_
          refine goK (H (fun (x24 : Int32) (s25 : yS) => xEx G mX12_saveProgram 145 [(0, .ref (q_b G + 139)), (2, .int y2), (3, .int x10), (4, .int x13), (5, .int x24)] [] (hS G s25) z 0 0 (yQi G z Q)) (fun x24 s25 H => ?_)) (fun H => ?_)
          · show xEx G mX12_saveProgram 145 [(0, .ref (q_b G + 139)), (2, .int y2), (3, .int x10), (4, .int x13), (5, .int x24)] [] (hS G s25) z 0 0 (yQi G z Q)
            refine s_iload (nx := 147) hO rfl rfl rfl ?_
            refine s_aload_n (nx := 148) hO rfl rfl rfl ?_
            refine s_getf (v := .ref (q_b G + 184)) (nx := 151) hO rfl rfl (hs_o12 kc139) rfl rfl ?_
            refine s_iload (nx := 153) hO rfl rfl rfl ?_
            obtain ⟨b26, H⟩ := H
            refine s_iald (nx := 154) hO rfl (hs_I kc184) b26 rfl ?_
            refine s_icmp_ge (nx := 157) hO rfl rfl (fun c154 => ?_) (fun c154 => ?_)
            · replace H := H.1 c154
              refine s_aload_n (nx := 220) hO rfl rfl rfl ?_
              refine s_aload_n (nx := 221) hO rfl rfl rfl ?_
              refine s_getf (v := .ref (q_b G + 185)) (nx := 224) hO rfl rfl (hs_o12 kc139) rfl rfl ?_
              refine s_iload (nx := 226) hO rfl rfl rfl ?_
              obtain ⟨b27, H⟩ := H
              refine s_iald (nx := 227) hO rfl (hs_I kc185) b27 rfl ?_
              refine s_iconst (x := 1) (nx := 228) hO rfl (by decide) rfl ?_
              refine s_callV [.int (sI s25 185 (ix x13)), .int 1] (ci := 12) (F := TX12) (N := 116) (nx := 231) hO rfl kX12_saveProgram_610 (by rw [hcl]; rfl) (hs_o12 kc139) (w_X12_put hG H) rfl rfl (Nat.le_of_ble_eq_true rfl) (Nat.zero_le _) (Nat.zero_le _) rfl (k_Qv (fun s28 H => ?_))
              refine s_bipush (x := (nI 72)) (nx := 233) hO rfl (by decide) rfl ?_
              refine s_iload_n (nx := 234) hO rfl rfl rfl ?_
              refine s_imul (nx := 235) hO rfl rfl ?_
              refine s_bipush (x := (nI 6)) (nx := 237) hO rfl (by decide) rfl ?_
              refine s_iload_n (nx := 238) hO rfl rfl rfl ?_
              refine s_imul (nx := 239) hO rfl rfl ?_
              refine s_iadd (nx := 240) hO rfl rfl ?_
              refine goK (H (fun (x29 : Int32) (s30 : yS) => xEx G mX12_saveProgram 242 [(0, .ref (q_b G + 139)), (2, .int y2), (3, .int x10), (4, .int x13), (5, .int x29)] [] (hS G s30) z 0 0 (yQi G z Q)) (fun x29 s30 H => ?_)) (fun H => ?_)
              · show xEx G mX12_saveProgram 242 [(0, .ref (q_b G + 139)), (2, .int y2), (3, .int x10), (4, .int x13), (5, .int x29)] [] (hS G s30) z 0 0 (yQi G z Q)
                refine s_iload (nx := 244) hO rfl rfl rfl ?_
                refine s_bipush (x := (nI 72)) (nx := 246) hO rfl (by decide) rfl ?_
                refine s_iload_n (nx := 247) hO rfl rfl rfl ?_
                refine s_imul (nx := 248) hO rfl rfl ?_
                refine s_bipush (x := (nI 6)) (nx := 250) hO rfl (by decide) rfl ?_
                refine s_iload_n (nx := 251) hO rfl rfl rfl ?_
                refine s_imul (nx := 252) hO rfl rfl ?_
                refine s_iadd (nx := 253) hO rfl rfl ?_
                refine s_aload_n (nx := 254) hO rfl rfl rfl ?_
                refine s_getf (v := .ref (q_b G + 185)) (nx := 257) hO rfl rfl (hs_o12 kc139) rfl rfl ?_
                refine s_iload (nx := 259) hO rfl rfl rfl ?_
                obtain ⟨b31, H⟩ := H
                refine s_iald (nx := 260) hO rfl (hs_I kc185) b31 rfl ?_
                refine s_iadd (nx := 261) hO rfl rfl ?_
                refine s_icmp_ge (nx := 264) hO rfl rfl (fun c261 => ?_) (fun c261 => ?_)
                · replace H := H.1 c261
                  refine goV ((x10 + 1)) (fun x32 ex32 => ?_)
                  replace H := H x32 ex32
                  refine e_iinc (nx := 355) (l' := [(3, .int x32), (0, .ref (q_b G + 139)), (2, .int y2), (4, .int x13), (5, .int x29)]) ex32 hO rfl (by decide) rfl rfl rfl rfl ?_
                  refine s_goto hO rfl ?_
                  exact xEx.loc (x_sub1 (List.Mem.tail _ (List.Mem.head _)) (x_sub1 (List.Mem.tail _ (List.Mem.tail _ (List.Mem.head _))) (x_sub1 (List.Mem.head _) x_sub0))) H
                · replace H := H.2 c261
                  refine s_aload_n (nx := 265) hO rfl rfl rfl ?_
                  refine s_aload_n (nx := 266) hO rfl rfl rfl ?_
                  refine s_getf (v := .ref (q_b G + 188)) (nx := 269) hO rfl rfl (hs_o12 kc139) rfl rfl ?_
                  refine s_iload (nx := 271) hO rfl rfl rfl ?_
                  obtain ⟨b33, H⟩ := H
                  refine s_iald (nx := 272) hO rfl (hs_I kc188) b33 rfl ?_
                  refine s_iconst (x := (nI 2)) (nx := 273) hO rfl (by decide) rfl ?_
                  refine s_callV [.int (sI s30 188 (ix x29)), .int (nI 2)] (ci := 12) (F := TX12) (N := 116) (nx := 276) hO rfl kX12_saveProgram_610 (by rw [hcl]; rfl) (hs_o12 kc139) (w_X12_put hG H) rfl rfl (Nat.le_of_ble_eq_true rfl) (Nat.zero_le _) (Nat.zero_le _) rfl (k_Qv (fun s34 H => ?_))
                  refine s_aload_n (nx := 277) hO rfl rfl rfl ?_
                  refine s_aload_n (nx := 278) hO rfl rfl rfl ?_
                  refine s_getf (v := .ref (q_b G + 189)) (nx := 281) hO rfl rfl (hs_o12 kc139) rfl rfl ?_
                  refine s_iload (nx := 283) hO rfl rfl rfl ?_
                  obtain ⟨b35, H⟩ := H
                  refine s_iald (nx := 284) hO rfl (hs_I kc189) b35 rfl ?_
                  refine s_iconst (x := (nI 2)) (nx := 285) hO rfl (by decide) rfl ?_
                  refine s_callV [.int (sI s34 189 (ix x29)), .int (nI 2)] (ci := 12) (F := TX12) (N := 116) (nx := 288) hO rfl kX12_saveProgram_610 (by rw [hcl]; rfl) (hs_o12 kc139) (w_X12_put hG H) rfl rfl (Nat.le_of_ble_eq_true rfl) (Nat.zero_le _) (Nat.zero_le _) rfl (k_Qv (fun s36 H => ?_))
                  refine s_aload_n (nx := 289) hO rfl rfl rfl ?_
                  refine s_aload_n (nx := 290) hO rfl rfl rfl ?_
                  refine s_getf (v := .ref (q_b G + 190)) (nx := 293) hO rfl rfl (hs_o12 kc139) rfl rfl ?_
                  refine s_iload (nx := 295) hO rfl rfl rfl ?_
                  obtain ⟨b37, H⟩ := H
                  refine s_iald (nx := 296) hO rfl (hs_I kc190) b37 rfl ?_
                  refine s_iconst (x := (nI 2)) (nx := 297) hO rfl (by decide) rfl ?_
                  refine s_callV [.int (sI s36 190 (ix x29)), .int (nI 2)] (ci := 12) (F := TX12) (N := 116) (nx := 300) hO rfl kX12_saveProgram_610 (by rw [hcl]; rfl) (hs_o12 kc139) (w_X12_put hG H) rfl rfl (Nat.le_of_ble_eq_true rfl) (Nat.zero_le _) (Nat.zero_le _) rfl (k_Qv (fun s38 H => ?_))
                  refine s_aload_n (nx := 301) hO rfl rfl rfl ?_
                  refine s_aload_n (nx := 302) hO rfl rfl rfl ?_
                  refine s_getf (v := .ref (q_b G + 191)) (nx := 305) hO rfl rfl (hs_o12 kc139) rfl rfl ?_
                  refine s_iload (nx := 307) hO rfl rfl rfl ?_
                  obtain ⟨b39, H⟩ := H
                  refine s_zald (nx := 308) hO rfl (hs_Z kc191) b39 rfl ?_
                  refine goK (H (fun (y40 : Int32) => xEx G mX12_saveProgram 316 [(0, .ref (q_b G + 139)), (2, .int y2), (3, .int x10), (4, .int x13), (5, .int x29)] [.int y40, .ref (q_b G + 139)] (hS G s38) z 0 0 (yQi G z Q)) (fun y40 H => ?_)) (fun H => ?_)
                  · show xEx G mX12_saveProgram 316 [(0, .ref (q_b G + 139)), (2, .int y2), (3, .int x10), (4, .int x13), (5, .int x29)] [.int y40, .ref (q_b G + 139)] (hS G s38) z 0 0 (yQi G z Q)
                    refine s_iconst (x := 1) (nx := 317) hO rfl (by decide) rfl ?_
                    refine s_callV [.int y40, .int 1] (ci := 12) (F := TX12) (N := 116) (nx := 320) hO rfl kX12_saveProgram_610 (by rw [hcl]; rfl) (hs_o12 kc139) (w_X12_put hG H) rfl rfl (Nat.le_of_ble_eq_true rfl) (Nat.zero_le _) (Nat.zero_le _) rfl (k_Qv (fun s41 H => ?_))
                    refine s_aload_n (nx := 321) hO rfl rfl rfl ?_
                    refine s_aload_n (nx := 322) hO rfl rfl rfl ?_
                    refine s_getf (v := .ref (q_b G + 192)) (nx := 325) hO rfl rfl (hs_o12 kc139) rfl rfl ?_
                    refine s_iload (nx := 327) hO rfl rfl rfl ?_
                    obtain ⟨b42, H⟩ := H
                    refine s_iald (nx := 328) hO rfl (hs_I kc192) b42 rfl ?_
                    refine s_aload_n (nx := 329) hO rfl rfl rfl ?_
                    refine s_getf (v := .ref (q_b G + 191)) (nx := 332) hO rfl rfl (hs_o12 kc139) rfl rfl ?_
                    refine s_iload (nx := 334) hO rfl rfl rfl ?_
                    obtain ⟨b43, H⟩ := H
                    refine s_zald (nx := 335) hO rfl (hs_Z kc191) b43 rfl ?_
                    refine goK (H (fun (y44 : Int32) => xEx G mX12_saveProgram 343 [(0, .ref (q_b G + 139)), (2, .int y2), (3, .int x10), (4, .int x13), (5, .int x29)] [.int y44, .int (sI s41 192 (ix x29)), .ref (q_b G + 139)] (hS G s41) z 0 0 (yQi G z Q)) (fun y44 H => ?_)) (fun H => ?_)
                    · show xEx G mX12_saveProgram 343 [(0, .ref (q_b G + 139)), (2, .int y2), (3, .int x10), (4, .int x13), (5, .int x29)] [.int y44, .int (sI s41 192 (ix x29)), .ref (q_b G + 139)] (hS G s41) z 0 0 (yQi G z Q)
                      refine s_callV [.int (sI s41 192 (ix x29)), .int y44] (ci := 12) (F := TX12) (N := 116) (nx := 346) hO rfl kX12_saveProgram_610 (by rw [hcl]; rfl) (hs_o12 kc139) (w_X12_put hG H) rfl rfl (Nat.le_of_ble_eq_true rfl) (Nat.zero_le _) (Nat.zero_le _) rfl (k_Qv (fun s45 H => ?_))
                      refine goV ((x29 + 1)) (fun x46 ex46 => ?_)
                      replace H := H x46 ex46
                      refine e_iinc (nx := 349) (l' := [(5, .int x46), (0, .ref (q_b G + 139)), (2, .int y2), (3, .int x10), (4, .int x13)]) ex46 hO rfl (by decide) rfl rfl rfl rfl ?_
                      refine s_goto hO rfl ?_
                      exact xEx.loc (x_sub1 (List.Mem.tail _ (List.Mem.head _)) (x_sub1 (List.Mem.tail _ (List.Mem.tail _ (List.Mem.head _))) (x_sub1 (List.Mem.tail _ (List.Mem.tail _ (List.Mem.tail _ (List.Mem.head _)))) (x_sub1 (List.Mem.tail _ (List.Mem.tail _ (List.Mem.tail _ (List.Mem.tail _ (List.Mem.head _))))) (x_sub1 (List.Mem.head _) x_sub0))))) H
                    refine s_if_eq (nx := 338) hO rfl rfl (fun c335 => ?_) (fun c335 => ?_)
                    · replace H := H.1 c335
                      refine s_iconst (x := (nI 4)) (nx := 343) hO rfl (by decide) rfl ?_
                      exact xEx.loc (x_sub1 (List.Mem.head _) (x_sub1 (List.Mem.tail _ (List.Mem.head _)) (x_sub1 (List.Mem.tail _ (List.Mem.tail _ (List.Mem.head _))) (x_sub1 (List.Mem.tail _ (List.Mem.tail _ (List.Mem.tail _ (List.Mem.head _)))) (x_sub1 (List.Mem.tail _ (List.Mem.tail _ (List.Mem.tail _ (List.Mem.tail _ (List.Mem.head _))))) x_sub0))))) H
                    · replace H := H.2 c335
                      refine s_iconst (x := 0) (nx := 339) hO rfl (by decide) rfl ?_
                      refine s_goto hO rfl ?_
                      exact xEx.loc (x_sub1 (List.Mem.head _) (x_sub1 (List.Mem.tail _ (List.Mem.head _)) (x_sub1 (List.Mem.tail _ (List.Mem.tail _ (List.Mem.head _))) (x_sub1 (List.Mem.tail _ (List.Mem.tail _ (List.Mem.tail _ (List.Mem.head _)))) (x_sub1 (List.Mem.tail _ (List.Mem.tail _ (List.Mem.tail _ (List.Mem.tail _ (List.Mem.head _))))) x_sub0))))) H
                  refine s_if_eq (nx := 311) hO rfl rfl (fun c308 => ?_) (fun c308 => ?_)
                  · replace H := H.1 c308
                    refine s_iconst (x := 1) (nx := 316) hO rfl (by decide) rfl ?_
                    exact xEx.loc (x_sub1 (List.Mem.head _) (x_sub1 (List.Mem.tail _ (List.Mem.head _)) (x_sub1 (List.Mem.tail _ (List.Mem.tail _ (List.Mem.head _))) (x_sub1 (List.Mem.tail _ (List.Mem.tail _ (List.Mem.tail _ (List.Mem.head _)))) (x_sub1 (List.Mem.tail _ (List.Mem.tail _ (List.Mem.tail _ (List.Mem.tail _ (List.Mem.head _))))) x_sub0))))) H
                  · replace H := H.2 c308
                    refine s_iconst (x := 0) (nx := 312) hO rfl (by decide) rfl ?_
                    refine s_goto hO rfl ?_
                    exact xEx.loc (x_sub1 (List.Mem.head _) (x_sub1 (List.Mem.tail _ (List.Mem.head _)) (x_sub1 (List.Mem.tail _ (List.Mem.tail _ (List.Mem.head _))) (x_sub1 (List.Mem.tail _ (List.Mem.tail _ (List.Mem.tail _ (List.Mem.head _)))) (x_sub1 (List.Mem.tail _ (List.Mem.tail _ (List.Mem.tail _ (List.Mem.tail _ (List.Mem.head _))))) x_sub0))))) H
              refine goV ((((nI 72) * y2) + ((nI 6) * x10))) (fun x47 ex47 => ?_)
              replace H := H x47 ex47
              refine e_istore (nx := 242) (l' := [(5, .int x47), (0, .ref (q_b G + 139)), (2, .int y2), (3, .int x10), (4, .int x13)]) ex47 hO rfl (by decide) rfl rfl ?_
              exact xEx.loc (x_sub1 (List.Mem.tail _ (List.Mem.head _)) (x_sub1 (List.Mem.tail _ (List.Mem.tail _ (List.Mem.head _))) (x_sub1 (List.Mem.tail _ (List.Mem.tail _ (List.Mem.tail _ (List.Mem.head _)))) (x_sub1 (List.Mem.tail _ (List.Mem.tail _ (List.Mem.tail _ (List.Mem.tail _ (List.Mem.head _))))) (x_sub1 (List.Mem.head _) x_sub0))))) H
            · replace H := H.2 c154
              refine s_aload_n (nx := 158) hO rfl rfl rfl ?_
              refine s_getf (v := .ref (q_b G + 186)) (nx := 161) hO rfl rfl (hs_o12 kc139) rfl rfl ?_
              refine s_sipush (x := (nI 4800)) (nx := 164) hO rfl (by decide) rfl ?_
              refine s_iload_n (nx := 165) hO rfl rfl rfl ?_
              refine s_imul (nx := 166) hO rfl rfl ?_
              refine s_sipush (x := (nI 400)) (nx := 169) hO rfl (by decide) rfl ?_
              refine s_iload_n (nx := 170) hO rfl rfl rfl ?_
              refine s_imul (nx := 171) hO rfl rfl ?_
              refine s_iadd (nx := 172) hO rfl rfl ?_
              refine s_iload (nx := 174) hO rfl rfl rfl ?_
              refine s_iadd (nx := 175) hO rfl rfl ?_
              obtain ⟨b48, H⟩ := H
              refine s_iald (nx := 176) hO rfl (hs_I kc186) b48 rfl ?_
              refine goV ((sI s25 186 (ix ((((nI 4800) * y2) + ((nI 400) * x10)) + x24)))) (fun x49 ex49 => ?_)
              replace H := H x49 ex49
              refine e_istore (nx := 178) (l' := [(6, .int x49), (0, .ref (q_b G + 139)), (2, .int y2), (3, .int x10), (4, .int x13), (5, .int x24)]) ex49 hO rfl (by decide) rfl rfl ?_
              refine s_aload_n (nx := 179) hO rfl rfl rfl ?_
              refine s_iload (nx := 181) hO rfl rfl rfl ?_
              refine s_iconst (x := 1) (nx := 182) hO rfl (by decide) rfl ?_
              refine s_callV [.int x49, .int 1] (ci := 12) (F := TX12) (N := 116) (nx := 185) hO rfl kX12_saveProgram_610 (by rw [hcl]; rfl) (hs_o12 kc139) (w_X12_put hG H) rfl rfl (Nat.le_of_ble_eq_true rfl) (Nat.zero_le _) (Nat.zero_le _) rfl (k_Qv (fun s50 H => ?_))
              refine s_aload_n (nx := 186) hO rfl rfl rfl ?_
              refine s_aload_n (nx := 187) hO rfl rfl rfl ?_
              refine s_getf (v := .ref (q_b G + 187)) (nx := 190) hO rfl rfl (hs_o12 kc139) rfl rfl ?_
              refine s_sipush (x := (nI 4800)) (nx := 193) hO rfl (by decide) rfl ?_
              refine s_iload_n (nx := 194) hO rfl rfl rfl ?_
              refine s_imul (nx := 195) hO rfl rfl ?_
              refine s_sipush (x := (nI 400)) (nx := 198) hO rfl (by decide) rfl ?_
              refine s_iload_n (nx := 199) hO rfl rfl rfl ?_
              refine s_imul (nx := 200) hO rfl rfl ?_
              refine s_iadd (nx := 201) hO rfl rfl ?_
              refine s_iload (nx := 203) hO rfl rfl rfl ?_
              refine s_iadd (nx := 204) hO rfl rfl ?_
              obtain ⟨b51, H⟩ := H
              refine s_iald (nx := 205) hO rfl (hs_I kc187) b51 rfl ?_
              refine s_iload (nx := 207) hO rfl rfl rfl ?_
              refine s_callS [.int x49] (nx := 210) hO rfl kX12_saveProgram_607 (w_X12_behind hG H) rfl rfl (Nat.le_of_ble_eq_true rfl) (Nat.zero_le _) (Nat.zero_le _) rfl (k_Pi (fun r52 H => ?_))
              refine s_callV [.int (sI s50 187 (ix ((((nI 4800) * y2) + ((nI 400) * x10)) + x24))), .int r52] (ci := 12) (F := TX12) (N := 116) (nx := 213) hO rfl kX12_saveProgram_610 (by rw [hcl]; rfl) (hs_o12 kc139) (w_X12_put hG H) rfl rfl (Nat.le_of_ble_eq_true rfl) (Nat.zero_le _) (Nat.zero_le _) rfl (k_Qv (fun s53 H => ?_))
              refine goV ((x24 + 1)) (fun x54 ex54 => ?_)
              replace H := H x54 ex54
              refine e_iinc (nx := 216) (l' := [(5, .int x54), (6, .int x49), (0, .ref (q_b G + 139)), (2, .int y2), (3, .int x10), (4, .int x13)]) ex54 hO rfl (by decide) rfl rfl rfl rfl ?_
              refine s_goto hO rfl ?_
              exact xEx.loc (x_sub1 (List.Mem.tail _ (List.Mem.tail _ (List.Mem.head _))) (x_sub1 (List.Mem.tail _ (List.Mem.tail _ (List.Mem.tail _ (List.Mem.head _)))) (x_sub1 (List.Mem.tail _ (List.Mem.tail _ (List.Mem.tail _ (List.Mem.tail _ (List.Mem.head _))))) (x_sub1 (List.Mem.tail _ (List.Mem.tail _ (List.Mem.tail _ (List.Mem.tail _ (List.Mem.tail _ (List.Mem.head _)))))) (x_sub1 (List.Mem.head _) x_sub0))))) H
          refine s_istore (nx := 145) (l' := [(5, .int 0), (4, .int x13), (0, .ref (q_b G + 139)), (2, .int y2), (3, .int x10)]) hO rfl (by decide) rfl rfl ?_
          exact xEx.loc (x_sub1 (List.Mem.tail _ (List.Mem.tail _ (List.Mem.head _))) (x_sub1 (List.Mem.tail _ (List.Mem.tail _ (List.Mem.tail _ (List.Mem.head _)))) (x_sub1 (List.Mem.tail _ (List.Mem.tail _ (List.Mem.tail _ (List.Mem.tail _ (List.Mem.head _))))) (x_sub1 (List.Mem.tail _ (List.Mem.head _)) (x_sub1 (List.Mem.head _) x_sub0))))) H
      refine s_istore_n (nx := 64) (l' := [(3, .int 0), (2, .int y2), (0, .ref (q_b G + 139))]) hO rfl (by decide) rfl rfl ?_
      exact xEx.loc (x_sub1 (List.Mem.tail _ (List.Mem.tail _ (List.Mem.head _))) (x_sub1 (List.Mem.tail _ (List.Mem.head _)) (x_sub1 (List.Mem.head _) x_sub0))) H
    · replace H := H.2 c21
      refine s_iconst (x := (-1)) (nx := 25) hO rfl (by decide) rfl ?_
      exact s_iret hO rfl rfl rfl ⟨rfl, _, _, rfl, rfl, H⟩
  refine s_if_eq (nx := 9) hO rfl rfl (fun c6 => ?_) (fun c6 => ?_)
  · replace H := H.1 c6
    refine s_iconst (x := 0) (nx := 14) hO rfl (by decide) rfl ?_
    exact xEx.loc (x_sub1 (List.Mem.head _) x_sub0) H
  · replace H := H.2 c6
    refine s_iconst (x := 1) (nx := 10) hO rfl (by decide) rfl ?_
    refine s_goto hO rfl ?_
    exact xEx.loc (x_sub1 (List.Mem.head _) x_sub0) H
def W_X12_addAnswer (s : yS) (v1 : Int32) (Q : Int32 → yS → Prop) : Prop :=
 ∀ s1 : yS, s1 = wI s 139 0 0 → 
 ((¬ (sI s1 139 88) = (nI 256) → vp_in (sI s1 139 88) 256 ∧ ∀ s3 : yS, s3 = wI s1 204 (ix (sI s1 139 88)) v1 → 
  ∀ s4 : yS, s4 = wI s3 139 88 ((sI s3 139 88) + 1) → 
  Q (sI s4 139 88) s4)
 ∧ ((sI s1 139 88) = (nI 256) → Q (-1) s1))
set_option maxRecDepth 100000 in
set_option maxHeartbeats 40000000 in
theorem w_X12_addAnswer {G : xG} (hG : yG G) {z : Nat} {s : yS} {v1 : Int32} {Q : Int32 → yS → Prop} (H : W_X12_addAnswer s v1 Q) : xC G mX12_addAnswer [.ref (q_b G + 139), .int v1] (hS G s) z 0 0 (yQi G z Q) := by
  have hW := hG.1
  have hcl := hG.2.1
  have hty := hG.2.2.1
  have hO : xO G mX12_addAnswer tbX12_addAnswer ptX12_addAnswer := ⟨tkX12_addAnswer, pkX12_addAnswer hcl⟩
  unfold W_X12_addAnswer at H
  refine xC.of hW (by decide) rfl (Nat.le_of_ble_eq_true rfl) ?_
  refine s_aload_n (nx := 1) hO rfl rfl rfl ?_
  refine s_iconst (x := 0) (nx := 2) hO rfl (by decide) rfl ?_
  refine goV (wI s 139 0 0) (fun s1 es1 => ?_)
  replace H := H s1 es1
  refine s_putf (nx := 5) hO rfl rfl (hs_o12 kc139) (Nat.le_of_ble_eq_true rfl) (by rw [hty]; rfl) (by rw [hty]; rfl) pX12_0 rfl ?_
  refine xEx.at (up_oI12 kc139 es1) ?_
  refine s_aload_n (nx := 6) hO rfl rfl rfl ?_
  refine s_getf (v := .int (sI s1 139 88)) (nx := 9) hO rfl rfl (hs_o12 kc139) rfl rfl ?_
  refine s_sipush (x := (nI 256)) (nx := 12) hO rfl (by decide) rfl ?_
  refine s_icmp_ne (nx := 15) hO rfl rfl (fun c12 => ?_) (fun c12 => ?_)
  · replace H := H.1 c12
    refine s_aload_n (nx := 18) hO rfl rfl rfl ?_
    refine s_getf (v := .ref (q_b G + 204)) (nx := 21) hO rfl rfl (hs_o12 kc139) rfl rfl ?_
    refine s_aload_n (nx := 22) hO rfl rfl rfl ?_
    refine s_getf (v := .int (sI s1 139 88)) (nx := 25) hO rfl rfl (hs_o12 kc139) rfl rfl ?_
    refine s_iload_n (nx := 26) hO rfl rfl rfl ?_
    obtain ⟨b2, H⟩ := H
    refine goV (wI s1 204 (ix (sI s1 139 88)) v1) (fun s3 es3 => ?_)
    replace H := H s3 es3
    refine s_iast (nx := 27) hO rfl (hs_I kc204) b2 rfl ?_
    refine xEx.at (up_I kc204 es3) ?_
    refine s_aload_n (nx := 28) hO rfl rfl rfl ?_
    refine s_dup (nx := 29) hO rfl rfl rfl ?_
    refine s_getf (v := .int (sI s3 139 88)) (nx := 32) hO rfl rfl (hs_o12 kc139) rfl rfl ?_
    refine s_iconst (x := 1) (nx := 33) hO rfl (by decide) rfl ?_
    refine s_iadd (nx := 34) hO rfl rfl ?_
    refine goV (wI s3 139 88 ((sI s3 139 88) + 1)) (fun s4 es4 => ?_)
    replace H := H s4 es4
    refine s_putf (nx := 37) hO rfl rfl (hs_o12 kc139) (Nat.le_of_ble_eq_true rfl) (by rw [hty]; rfl) (by rw [hty]; rfl) pX12_88 rfl ?_
    refine xEx.at (up_oI12 kc139 es4) ?_
    refine s_aload_n (nx := 38) hO rfl rfl rfl ?_
    refine s_getf (v := .int (sI s4 139 88)) (nx := 41) hO rfl rfl (hs_o12 kc139) rfl rfl ?_
    exact s_iret hO rfl rfl rfl ⟨rfl, _, _, rfl, rfl, H⟩
  · replace H := H.2 c12
    refine s_iconst (x := (-1)) (nx := 16) hO rfl (by decide) rfl ?_
    exact s_iret hO rfl rfl rfl ⟨rfl, _, _, rfl, rfl, H⟩
def W_X12_dropAnswers (s : yS) (Q : yS → Prop) : Prop :=
 ∀ s1 : yS, s1 = wI s 139 0 0 → 
 ∀ s2 : yS, s2 = wI s1 139 88 0 → 
 Q s2
set_option maxRecDepth 100000 in
set_option maxHeartbeats 40000000 in
theorem w_X12_dropAnswers {G : xG} (hG : yG G) {z : Nat} {s : yS} {Q : yS → Prop} (H : W_X12_dropAnswers s Q) : xC G mX12_dropAnswers [.ref (q_b G + 139)] (hS G s) z 0 0 (yQv G z Q) := by
  have hW := hG.1
  have hcl := hG.2.1
  have hty := hG.2.2.1
  have hO : xO G mX12_dropAnswers tbX12_dropAnswers ptX12_dropAnswers := ⟨tkX12_dropAnswers, pkX12_dropAnswers hcl⟩
  unfold W_X12_dropAnswers at H
  refine xC.of hW (by decide) rfl (Nat.le_of_ble_eq_true rfl) ?_
  refine s_aload_n (nx := 1) hO rfl rfl rfl ?_
  refine s_iconst (x := 0) (nx := 2) hO rfl (by decide) rfl ?_
  refine goV (wI s 139 0 0) (fun s1 es1 => ?_)
  replace H := H s1 es1
  refine s_putf (nx := 5) hO rfl rfl (hs_o12 kc139) (Nat.le_of_ble_eq_true rfl) (by rw [hty]; rfl) (by rw [hty]; rfl) pX12_0 rfl ?_
  refine xEx.at (up_oI12 kc139 es1) ?_
  refine s_aload_n (nx := 6) hO rfl rfl rfl ?_
  refine s_iconst (x := 0) (nx := 7) hO rfl (by decide) rfl ?_
  refine goV (wI s1 139 88 0) (fun s2 es2 => ?_)
  replace H := H s2 es2
  refine s_putf (nx := 10) hO rfl rfl (hs_o12 kc139) (Nat.le_of_ble_eq_true rfl) (by rw [hty]; rfl) (by rw [hty]; rfl) pX12_88 rfl ?_
  refine xEx.at (up_oI12 kc139 es2) ?_
  exact s_vret hO rfl rfl ⟨rfl, _, rfl, rfl, H⟩
def W_X12_here (s : yS) (Q : Int32 → Prop) : Prop :=
 vp_in ((sI s 139 111) - 1) 40 ∧ 
 vp_in ((sI s 139 111) - 1) 40 ∧ 
 Q ((((nI 4800) * (sI s 139 112)) + ((nI 400) * (sI s 211 (ix ((sI s 139 111) - 1))))) + (sI s 212 (ix ((sI s 139 111) - 1))))
set_option maxRecDepth 100000 in
set_option maxHeartbeats 40000000 in
theorem w_X12_here {G : xG} (hG : yG G) {z : Nat} {s : yS} {Q : Int32 → Prop} (H : W_X12_here s Q) : xC G mX12_here [.ref (q_b G + 139)] (hS G s) z 0 0 (yPi G z s Q) := by
  have hW := hG.1
  have hcl := hG.2.1
  have hty := hG.2.2.1
  have hO : xO G mX12_here tbX12_here ptX12_here := ⟨tkX12_here, pkX12_here hcl⟩
  unfold W_X12_here at H
  refine xC.of hW (by decide) rfl (Nat.le_of_ble_eq_true rfl) ?_
  refine s_sipush (x := (nI 4800)) (nx := 3) hO rfl (by decide) rfl ?_
  refine s_aload_n (nx := 4) hO rfl rfl rfl ?_
  refine s_getf (v := .int (sI s 139 112)) (nx := 7) hO rfl rfl (hs_o12 kc139) rfl rfl ?_
  refine s_imul (nx := 8) hO rfl rfl ?_
  refine s_sipush (x := (nI 400)) (nx := 11) hO rfl (by decide) rfl ?_
  refine s_aload_n (nx := 12) hO rfl rfl rfl ?_
  refine s_getf (v := .ref (q_b G + 211)) (nx := 15) hO rfl rfl (hs_o12 kc139) rfl rfl ?_
  refine s_aload_n (nx := 16) hO rfl rfl rfl ?_
  refine s_getf (v := .int (sI s 139 111)) (nx := 19) hO rfl rfl (hs_o12 kc139) rfl rfl ?_
  refine s_iconst (x := 1) (nx := 20) hO rfl (by decide) rfl ?_
  refine s_isub (nx := 21) hO rfl rfl ?_
  obtain ⟨b1, H⟩ := H
  refine s_iald (nx := 22) hO rfl (hs_I kc211) b1 rfl ?_
  refine s_imul (nx := 23) hO rfl rfl ?_
  refine s_iadd (nx := 24) hO rfl rfl ?_
  refine s_aload_n (nx := 25) hO rfl rfl rfl ?_
  refine s_getf (v := .ref (q_b G + 212)) (nx := 28) hO rfl rfl (hs_o12 kc139) rfl rfl ?_
  refine s_aload_n (nx := 29) hO rfl rfl rfl ?_
  refine s_getf (v := .int (sI s 139 111)) (nx := 32) hO rfl rfl (hs_o12 kc139) rfl rfl ?_
  refine s_iconst (x := 1) (nx := 33) hO rfl (by decide) rfl ?_
  refine s_isub (nx := 34) hO rfl rfl ?_
  obtain ⟨b2, H⟩ := H
  refine s_iald (nx := 35) hO rfl (hs_I kc212) b2 rfl ?_
  refine s_iadd (nx := 36) hO rfl rfl ?_
  exact s_iret hO rfl rfl rfl ⟨rfl, _, rfl, rfl, H⟩
def W_X12_push (s : yS) (v1 : Int32) (Q : yS → Prop) : Prop :=
 vp_in ((sI s 139 111) - 1) 40 ∧ 
 vp_in (((nI 16) * ((sI s 139 111) - 1)) + (sI s 213 (ix ((sI s 139 111) - 1)))) 640 ∧ ∀ s3 : yS, s3 = wI s 215 (ix (((nI 16) * ((sI s 139 111) - 1)) + (sI s 213 (ix ((sI s 139 111) - 1))))) v1 → 
 vp_in ((sI s3 139 111) - 1) 40 ∧ 
 vp_in ((sI s3 139 111) - 1) 40 ∧ ∀ s6 : yS, s6 = wI s3 213 (ix ((sI s3 139 111) - 1)) ((sI s3 213 (ix ((sI s3 139 111) - 1))) + 1) → 
 Q s6
set_option maxRecDepth 100000 in
set_option maxHeartbeats 40000000 in
theorem w_X12_push {G : xG} (hG : yG G) {z : Nat} {s : yS} {v1 : Int32} {Q : yS → Prop} (H : W_X12_push s v1 Q) : xC G mX12_push [.ref (q_b G + 139), .int v1] (hS G s) z 0 0 (yQv G z Q) := by
  have hW := hG.1
  have hcl := hG.2.1
  have hty := hG.2.2.1
  have hO : xO G mX12_push tbX12_push ptX12_push := ⟨tkX12_push, pkX12_push hcl⟩
  unfold W_X12_push at H
  refine xC.of hW (by decide) rfl (Nat.le_of_ble_eq_true rfl) ?_
  refine s_aload_n (nx := 1) hO rfl rfl rfl ?_
  refine s_getf (v := .ref (q_b G + 215)) (nx := 4) hO rfl rfl (hs_o12 kc139) rfl rfl ?_
  refine s_bipush (x := (nI 16)) (nx := 6) hO rfl (by decide) rfl ?_
  refine s_aload_n (nx := 7) hO rfl rfl rfl ?_
  refine s_getf (v := .int (sI s 139 111)) (nx := 10) hO rfl rfl (hs_o12 kc139) rfl rfl ?_
  refine s_iconst (x := 1) (nx := 11) hO rfl (by decide) rfl ?_
  refine s_isub (nx := 12) hO rfl rfl ?_
  refine s_imul (nx := 13) hO rfl rfl ?_
  refine s_aload_n (nx := 14) hO rfl rfl rfl ?_
  refine s_getf (v := .ref (q_b G + 213)) (nx := 17) hO rfl rfl (hs_o12 kc139) rfl rfl ?_
  refine s_aload_n (nx := 18) hO rfl rfl rfl ?_
  refine s_getf (v := .int (sI s 139 111)) (nx := 21) hO rfl rfl (hs_o12 kc139) rfl rfl ?_
  refine s_iconst (x := 1) (nx := 22) hO rfl (by decide) rfl ?_
  refine s_isub (nx := 23) hO rfl rfl ?_
  obtain ⟨b1, H⟩ := H
  refine s_iald (nx := 24) hO rfl (hs_I kc213) b1 rfl ?_
  refine s_iadd (nx := 25) hO rfl rfl ?_
  refine s_iload_n (nx := 26) hO rfl rfl rfl ?_
  obtain ⟨b2, H⟩ := H
  refine goV (wI s 215 (ix (((nI 16) * ((sI s 139 111) - 1)) + (sI s 213 (ix ((sI s 139 111) - 1))))) v1) (fun s3 es3 => ?_)
  replace H := H s3 es3
  refine s_iast (nx := 27) hO rfl (hs_I kc215) b2 rfl ?_
  refine xEx.at (up_I kc215 es3) ?_
  refine s_aload_n (nx := 28) hO rfl rfl rfl ?_
  refine s_getf (v := .ref (q_b G + 213)) (nx := 31) hO rfl rfl (hs_o12 kc139) rfl rfl ?_
  refine s_aload_n (nx := 32) hO rfl rfl rfl ?_
  refine s_getf (v := .int (sI s3 139 111)) (nx := 35) hO rfl rfl (hs_o12 kc139) rfl rfl ?_
  refine s_iconst (x := 1) (nx := 36) hO rfl (by decide) rfl ?_
  refine s_isub (nx := 37) hO rfl rfl ?_
  refine s_dup2 (nx := 38) hO rfl rfl rfl rfl ?_
  obtain ⟨b4, H⟩ := H
  refine s_iald (nx := 39) hO rfl (hs_I kc213) b4 rfl ?_
  refine s_iconst (x := 1) (nx := 40) hO rfl (by decide) rfl ?_
  refine s_iadd (nx := 41) hO rfl rfl ?_
  obtain ⟨b5, H⟩ := H
  refine goV (wI s3 213 (ix ((sI s3 139 111) - 1)) ((sI s3 213 (ix ((sI s3 139 111) - 1))) + 1)) (fun s6 es6 => ?_)
  replace H := H s6 es6
  refine s_iast (nx := 42) hO rfl (hs_I kc213) b5 rfl ?_
  refine xEx.at (up_I kc213 es6) ?_
  exact s_vret hO rfl rfl ⟨rfl, _, rfl, rfl, H⟩
def W_X12_pop (s : yS) (Q : Int32 → yS → Prop) : Prop :=
 vp_in ((sI s 139 111) - 1) 40 ∧ 
 vp_in ((sI s 139 111) - 1) 40 ∧ ∀ s3 : yS, s3 = wI s 213 (ix ((sI s 139 111) - 1)) ((sI s 213 (ix ((sI s 139 111) - 1))) - 1) → 
 vp_in ((sI s3 139 111) - 1) 40 ∧ 
 vp_in (((nI 16) * ((sI s3 139 111) - 1)) + (sI s3 213 (ix ((sI s3 139 111) - 1)))) 640 ∧ 
 Q (sI s3 215 (ix (((nI 16) * ((sI s3 139 111) - 1)) + (sI s3 213 (ix ((sI s3 139 111) - 1)))))) s3
set_option maxRecDepth 100000 in
set_option maxHeartbeats 40000000 in
theorem w_X12_pop {G : xG} (hG : yG G) {z : Nat} {s : yS} {Q : Int32 → yS → Prop} (H : W_X12_pop s Q) : xC G mX12_pop [.ref (q_b G + 139)] (hS G s) z 0 0 (yQi G z Q) := by
  have hW := hG.1
  have hcl := hG.2.1
  have hty := hG.2.2.1
  have hO : xO G mX12_pop tbX12_pop ptX12_pop := ⟨tkX12_pop, pkX12_pop hcl⟩
  unfold W_X12_pop at H
  refine xC.of hW (by decide) rfl (Nat.le_of_ble_eq_true rfl) ?_
  refine s_aload_n (nx := 1) hO rfl rfl rfl ?_
  refine s_getf (v := .ref (q_b G + 213)) (nx := 4) hO rfl rfl (hs_o12 kc139) rfl rfl ?_
  refine s_aload_n (nx := 5) hO rfl rfl rfl ?_
  refine s_getf (v := .int (sI s 139 111)) (nx := 8) hO rfl rfl (hs_o12 kc139) rfl rfl ?_
  refine s_iconst (x := 1) (nx := 9) hO rfl (by decide) rfl ?_
  refine s_isub (nx := 10) hO rfl rfl ?_
  refine s_dup2 (nx := 11) hO rfl rfl rfl rfl ?_
  obtain ⟨b1, H⟩ := H
  refine s_iald (nx := 12) hO rfl (hs_I kc213) b1 rfl ?_
  refine s_iconst (x := 1) (nx := 13) hO rfl (by decide) rfl ?_
  refine s_isub (nx := 14) hO rfl rfl ?_
  obtain ⟨b2, H⟩ := H
  refine goV (wI s 213 (ix ((sI s 139 111) - 1)) ((sI s 213 (ix ((sI s 139 111) - 1))) - 1)) (fun s3 es3 => ?_)
  replace H := H s3 es3
  refine s_iast (nx := 15) hO rfl (hs_I kc213) b2 rfl ?_
  refine xEx.at (up_I kc213 es3) ?_
  refine s_aload_n (nx := 16) hO rfl rfl rfl ?_
  refine s_getf (v := .ref (q_b G + 215)) (nx := 19) hO rfl rfl (hs_o12 kc139) rfl rfl ?_
  refine s_bipush (x := (nI 16)) (nx := 21) hO rfl (by decide) rfl ?_
  refine s_aload_n (nx := 22) hO rfl rfl rfl ?_
  refine s_getf (v := .int (sI s3 139 111)) (nx := 25) hO rfl rfl (hs_o12 kc139) rfl rfl ?_
  refine s_iconst (x := 1) (nx := 26) hO rfl (by decide) rfl ?_
  refine s_isub (nx := 27) hO rfl rfl ?_
  refine s_imul (nx := 28) hO rfl rfl ?_
  refine s_aload_n (nx := 29) hO rfl rfl rfl ?_
  refine s_getf (v := .ref (q_b G + 213)) (nx := 32) hO rfl rfl (hs_o12 kc139) rfl rfl ?_
  refine s_aload_n (nx := 33) hO rfl rfl rfl ?_
  refine s_getf (v := .int (sI s3 139 111)) (nx := 36) hO rfl rfl (hs_o12 kc139) rfl rfl ?_
  refine s_iconst (x := 1) (nx := 37) hO rfl (by decide) rfl ?_
  refine s_isub (nx := 38) hO rfl rfl ?_
  obtain ⟨b4, H⟩ := H
  refine s_iald (nx := 39) hO rfl (hs_I kc213) b4 rfl ?_
  refine s_iadd (nx := 40) hO rfl rfl ?_
  obtain ⟨b5, H⟩ := H
  refine s_iald (nx := 41) hO rfl (hs_I kc215) b5 rfl ?_
  exact s_iret hO rfl rfl rfl ⟨rfl, _, _, rfl, rfl, H⟩
def W_X12_under (s : yS) (v1 : Int32) (Q : Int32 → Prop) : Prop :=
 vp_in ((sI s 139 111) - 1) 40 ∧ 
 vp_in (((((nI 16) * ((sI s 139 111) - 1)) + (sI s 213 (ix ((sI s 139 111) - 1)))) - 1) - v1) 640 ∧ 
 Q (sI s 215 (ix (((((nI 16) * ((sI s 139 111) - 1)) + (sI s 213 (ix ((sI s 139 111) - 1)))) - 1) - v1)))
set_option maxRecDepth 100000 in
set_option maxHeartbeats 40000000 in
theorem w_X12_under {G : xG} (hG : yG G) {z : Nat} {s : yS} {v1 : Int32} {Q : Int32 → Prop} (H : W_X12_under s v1 Q) : xC G mX12_under [.ref (q_b G + 139), .int v1] (hS G s) z 0 0 (yPi G z s Q) := by
  have hW := hG.1
  have hcl := hG.2.1
  have hty := hG.2.2.1
  have hO : xO G mX12_under tbX12_under ptX12_under := ⟨tkX12_under, pkX12_under hcl⟩
  unfold W_X12_under at H
  refine xC.of hW (by decide) rfl (Nat.le_of_ble_eq_true rfl) ?_
  refine s_aload_n (nx := 1) hO rfl rfl rfl ?_
  refine s_getf (v := .ref (q_b G + 215)) (nx := 4) hO rfl rfl (hs_o12 kc139) rfl rfl ?_
  refine s_bipush (x := (nI 16)) (nx := 6) hO rfl (by decide) rfl ?_
  refine s_aload_n (nx := 7) hO rfl rfl rfl ?_
  refine s_getf (v := .int (sI s 139 111)) (nx := 10) hO rfl rfl (hs_o12 kc139) rfl rfl ?_
  refine s_iconst (x := 1) (nx := 11) hO rfl (by decide) rfl ?_
  refine s_isub (nx := 12) hO rfl rfl ?_
  refine s_imul (nx := 13) hO rfl rfl ?_
  refine s_aload_n (nx := 14) hO rfl rfl rfl ?_
  refine s_getf (v := .ref (q_b G + 213)) (nx := 17) hO rfl rfl (hs_o12 kc139) rfl rfl ?_
  refine s_aload_n (nx := 18) hO rfl rfl rfl ?_
  refine s_getf (v := .int (sI s 139 111)) (nx := 21) hO rfl rfl (hs_o12 kc139) rfl rfl ?_
  refine s_iconst (x := 1) (nx := 22) hO rfl (by decide) rfl ?_
  refine s_isub (nx := 23) hO rfl rfl ?_
  obtain ⟨b1, H⟩ := H
  refine s_iald (nx := 24) hO rfl (hs_I kc213) b1 rfl ?_
  refine s_iadd (nx := 25) hO rfl rfl ?_
  refine s_iconst (x := 1) (nx := 26) hO rfl (by decide) rfl ?_
  refine s_isub (nx := 27) hO rfl rfl ?_
  refine s_iload_n (nx := 28) hO rfl rfl rfl ?_
  refine s_isub (nx := 29) hO rfl rfl ?_
  obtain ⟨b2, H⟩ := H
  refine s_iald (nx := 30) hO rfl (hs_I kc215) b2 rfl ?_
  exact s_iret hO rfl rfl rfl ⟨rfl, _, rfl, rfl, H⟩
def W_X12_enter (s : yS) (v1 : Int32) (Q : yS → Prop) : Prop :=
 vp_in (sI s 139 111) 40 ∧ ∀ s2 : yS, s2 = wI s 211 (ix (sI s 139 111)) v1 → 
 vp_in (sI s2 139 111) 40 ∧ ∀ s4 : yS, s4 = wI s2 212 (ix (sI s2 139 111)) 0 → 
 vp_in (sI s4 139 111) 40 ∧ ∀ s6 : yS, s6 = wI s4 213 (ix (sI s4 139 111)) 0 → 
 ∀ P32 : Int32 → yS → Prop, (∀ (x7 : Int32) (s8 : yS), ((((nI 12) ≤ x7 → ∀ s9 : yS, s9 = wI s8 139 111 ((sI s8 139 111) + 1) → 
   Q s9)
  ∧ (¬ (nI 12) ≤ x7 → vp_in (((nI 12) * (sI s8 139 111)) + x7) 480 ∧ ∀ s11 : yS, s11 = wI s8 214 (ix (((nI 12) * (sI s8 139 111)) + x7)) 0 → 
   ∀ x12 : Int32, x12 = (x7 + 1) → 
   P32 x12 s11))) → P32 x7 s8) → 
 P32 0 s6
set_option maxRecDepth 100000 in
set_option maxHeartbeats 40000000 in
theorem w_X12_enter {G : xG} (hG : yG G) {z : Nat} {s : yS} {v1 : Int32} {Q : yS → Prop} (H : W_X12_enter s v1 Q) : xC G mX12_enter [.ref (q_b G + 139), .int v1] (hS G s) z 0 0 (yQv G z Q) := by
  have hW := hG.1
  have hcl := hG.2.1
  have hty := hG.2.2.1
  have hO : xO G mX12_enter tbX12_enter ptX12_enter := ⟨tkX12_enter, pkX12_enter hcl⟩
  unfold W_X12_enter at H
  refine xC.of hW (by decide) rfl (Nat.le_of_ble_eq_true rfl) ?_
  refine s_aload_n (nx := 1) hO rfl rfl rfl ?_
  refine s_getf (v := .ref (q_b G + 211)) (nx := 4) hO rfl rfl (hs_o12 kc139) rfl rfl ?_
  refine s_aload_n (nx := 5) hO rfl rfl rfl ?_
  refine s_getf (v := .int (sI s 139 111)) (nx := 8) hO rfl rfl (hs_o12 kc139) rfl rfl ?_
  refine s_iload_n (nx := 9) hO rfl rfl rfl ?_
  obtain ⟨b1, H⟩ := H
  refine goV (wI s 211 (ix (sI s 139 111)) v1) (fun s2 es2 => ?_)
  replace H := H s2 es2
  refine s_iast (nx := 10) hO rfl (hs_I kc211) b1 rfl ?_
  refine xEx.at (up_I kc211 es2) ?_
  refine s_aload_n (nx := 11) hO rfl rfl rfl ?_
  refine s_getf (v := .ref (q_b G + 212)) (nx := 14) hO rfl rfl (hs_o12 kc139) rfl rfl ?_
  refine s_aload_n (nx := 15) hO rfl rfl rfl ?_
  refine s_getf (v := .int (sI s2 139 111)) (nx := 18) hO rfl rfl (hs_o12 kc139) rfl rfl ?_
  refine s_iconst (x := 0) (nx := 19) hO rfl (by decide) rfl ?_
  obtain ⟨b3, H⟩ := H
  refine goV (wI s2 212 (ix (sI s2 139 111)) 0) (fun s4 es4 => ?_)
  replace H := H s4 es4
  refine s_iast (nx := 20) hO rfl (hs_I kc212) b3 rfl ?_
  refine xEx.at (up_I kc212 es4) ?_
  refine s_aload_n (nx := 21) hO rfl rfl rfl ?_
  refine s_getf (v := .ref (q_b G + 213)) (nx := 24) hO rfl rfl (hs_o12 kc139) rfl rfl ?_
  refine s_aload_n (nx := 25) hO rfl rfl rfl ?_
  refine s_getf (v := .int (sI s4 139 111)) (nx := 28) hO rfl rfl (hs_o12 kc139) rfl rfl ?_
  refine s_iconst (x := 0) (nx := 29) hO rfl (by decide) rfl ?_
  obtain ⟨b5, H⟩ := H
  refine goV (wI s4 213 (ix (sI s4 139 111)) 0) (fun s6 es6 => ?_)
  replace H := H s6 es6
  refine s_iast (nx := 30) hO rfl (hs_I kc213) b5 rfl ?_
  refine xEx.at (up_I kc213 es6) ?_
  refine s_iconst (x := 0) (nx := 31) hO rfl (by decide) rfl ?_
  refine goK (H (fun (x7 : Int32) (s8 : yS) => xEx G mX12_enter 32 [(0, .ref (q_b G + 139)), (2, .int x7)] [] (hS G s8) z 0 0 (yQv G z Q)) (fun x7 s8 H => ?_)) (fun H => ?_)
  · show xEx G mX12_enter 32 [(0, .ref (q_b G + 139)), (2, .int x7)] [] (hS G s8) z 0 0 (yQv G z Q)
    refine s_iload_n (nx := 33) hO rfl rfl rfl ?_
    refine s_bipush (x := (nI 12)) (nx := 35) hO rfl (by decide) rfl ?_
    refine s_icmp_ge (nx := 38) hO rfl rfl (fun c35 => ?_) (fun c35 => ?_)
    · replace H := H.1 c35
      refine s_aload_n (nx := 60) hO rfl rfl rfl ?_
      refine s_dup (nx := 61) hO rfl rfl rfl ?_
      refine s_getf (v := .int (sI s8 139 111)) (nx := 64) hO rfl rfl (hs_o12 kc139) rfl rfl ?_
      refine s_iconst (x := 1) (nx := 65) hO rfl (by decide) rfl ?_
      refine s_iadd (nx := 66) hO rfl rfl ?_
      refine goV (wI s8 139 111 ((sI s8 139 111) + 1)) (fun s9 es9 => ?_)
      replace H := H s9 es9
      refine s_putf (nx := 69) hO rfl rfl (hs_o12 kc139) (Nat.le_of_ble_eq_true rfl) (by rw [hty]; rfl) (by rw [hty]; rfl) pX12_111 rfl ?_
      refine xEx.at (up_oI12 kc139 es9) ?_
      exact s_vret hO rfl rfl ⟨rfl, _, rfl, rfl, H⟩
    · replace H := H.2 c35
      refine s_aload_n (nx := 39) hO rfl rfl rfl ?_
      refine s_getf (v := .ref (q_b G + 214)) (nx := 42) hO rfl rfl (hs_o12 kc139) rfl rfl ?_
      refine s_bipush (x := (nI 12)) (nx := 44) hO rfl (by decide) rfl ?_
      refine s_aload_n (nx := 45) hO rfl rfl rfl ?_
      refine s_getf (v := .int (sI s8 139 111)) (nx := 48) hO rfl rfl (hs_o12 kc139) rfl rfl ?_
      refine s_imul (nx := 49) hO rfl rfl ?_
      refine s_iload_n (nx := 50) hO rfl rfl rfl ?_
      refine s_iadd (nx := 51) hO rfl rfl ?_
      refine s_iconst (x := 0) (nx := 52) hO rfl (by decide) rfl ?_
      obtain ⟨b10, H⟩ := H
      refine goV (wI s8 214 (ix (((nI 12) * (sI s8 139 111)) + x7)) 0) (fun s11 es11 => ?_)
      replace H := H s11 es11
      refine s_iast (nx := 53) hO rfl (hs_I kc214) b10 rfl ?_
      refine xEx.at (up_I kc214 es11) ?_
      refine goV ((x7 + 1)) (fun x12 ex12 => ?_)
      replace H := H x12 ex12
      refine e_iinc (nx := 56) (l' := [(2, .int x12), (0, .ref (q_b G + 139))]) ex12 hO rfl (by decide) rfl rfl rfl rfl ?_
      refine s_goto hO rfl ?_
      exact xEx.loc (x_sub1 (List.Mem.tail _ (List.Mem.head _)) (x_sub1 (List.Mem.head _) x_sub0)) H
  refine s_istore_n (nx := 32) (l' := [(2, .int 0), (0, .ref (q_b G + 139)), (1, .int v1)]) hO rfl (by decide) rfl rfl ?_
  exact xEx.loc (x_sub1 (List.Mem.tail _ (List.Mem.head _)) (x_sub1 (List.Mem.head _) x_sub0)) H
def W_X12_end (s : yS) (v1 : Int32) (v2 : Int32) (Q : yS → Prop) : Prop :=
 ∀ s1 : yS, s1 = wI s 139 90 v1 → 
 ∀ s2 : yS, s2 = wI s1 139 91 v2 → 
 ∀ s3 : yS, s3 = wI s2 139 111 0 → 
 Q s3
set_option maxRecDepth 100000 in
set_option maxHeartbeats 40000000 in
theorem w_X12_end {G : xG} (hG : yG G) {z : Nat} {s : yS} {v1 : Int32} {v2 : Int32} {Q : yS → Prop} (H : W_X12_end s v1 v2 Q) : xC G mX12_end [.ref (q_b G + 139), .int v1, .int v2] (hS G s) z 0 0 (yQv G z Q) := by
  have hW := hG.1
  have hcl := hG.2.1
  have hty := hG.2.2.1
  have hO : xO G mX12_end tbX12_end ptX12_end := ⟨tkX12_end, pkX12_end hcl⟩
  unfold W_X12_end at H
  refine xC.of hW (by decide) rfl (Nat.le_of_ble_eq_true rfl) ?_
  refine s_aload_n (nx := 1) hO rfl rfl rfl ?_
  refine s_iload_n (nx := 2) hO rfl rfl rfl ?_
  refine goV (wI s 139 90 v1) (fun s1 es1 => ?_)
  replace H := H s1 es1
  refine s_putf (nx := 5) hO rfl rfl (hs_o12 kc139) (Nat.le_of_ble_eq_true rfl) (by rw [hty]; rfl) (by rw [hty]; rfl) pX12_90 rfl ?_
  refine xEx.at (up_oI12 kc139 es1) ?_
  refine s_aload_n (nx := 6) hO rfl rfl rfl ?_
  refine s_iload_n (nx := 7) hO rfl rfl rfl ?_
  refine goV (wI s1 139 91 v2) (fun s2 es2 => ?_)
  replace H := H s2 es2
  refine s_putf (nx := 10) hO rfl rfl (hs_o12 kc139) (Nat.le_of_ble_eq_true rfl) (by rw [hty]; rfl) (by rw [hty]; rfl) pX12_91 rfl ?_
  refine xEx.at (up_oI12 kc139 es2) ?_
  refine s_aload_n (nx := 11) hO rfl rfl rfl ?_
  refine s_iconst (x := 0) (nx := 12) hO rfl (by decide) rfl ?_
  refine goV (wI s2 139 111 0) (fun s3 es3 => ?_)
  replace H := H s3 es3
  refine s_putf (nx := 15) hO rfl rfl (hs_o12 kc139) (Nat.le_of_ble_eq_true rfl) (by rw [hty]; rfl) (by rw [hty]; rfl) pX12_111 rfl ?_
  refine xEx.at (up_oI12 kc139 es3) ?_
  exact s_vret hO rfl rfl ⟨rfl, _, rfl, rfl, H⟩
def W_X12_raise (s : yS) (v1 : Int32) (Q : yS → Prop) : Prop :=
 ∀ P0 : yS → Prop, (∀ (s1 : yS), ((((sI s1 139 111) ≤ 0 → W_X12_end s1 1 v1 
   (fun s2 => Q s2))
  ∧ (¬ (sI s1 139 111) ≤ 0 → vp_in ((sI s1 139 111) - 1) 40 ∧ 
   ∀ x4 : Int32, x4 = (sI s1 211 (ix ((sI s1 139 111) - 1))) → 
   vp_in ((sI s1 139 111) - 1) 40 ∧ 
   ∀ x6 : Int32, x6 = (sI s1 212 (ix ((sI s1 139 111) - 1))) → 
   ∀ x7 : Int32, x7 = (((nI 72) * (sI s1 139 112)) + ((nI 6) * x4)) → 
   ∀ P49 : Int32 → Prop, (∀ (x8 : Int32), (vp_in (((nI 12) * (sI s1 139 112)) + x4) 36 ∧ 
    (((x7 + (sI s1 185 (ix (((nI 12) * (sI s1 139 112)) + x4)))) ≤ x8 → ∀ s10 : yS, s10 = wI s1 139 111 ((sI s1 139 111) - 1) → 
     P0 s10)
    ∧ (¬ (x7 + (sI s1 185 (ix (((nI 12) * (sI s1 139 112)) + x4)))) ≤ x8 → vp_in x8 216 ∧ 
     ∀ P150 : Prop, ((∀ x12 : Int32, x12 = (x8 + 1) → 
      P49 x12) → P150) → 
     ((x6 < (sI s1 188 (ix x8)) → P150)
     ∧ (¬ x6 < (sI s1 188 (ix x8)) → vp_in x8 216 ∧ 
      (((sI s1 189 (ix x8)) ≤ x6 → P150)
      ∧ (¬ (sI s1 189 (ix x8)) ≤ x6 → vp_in x8 216 ∧ 
       ∀ P114 : Prop, ((vp_in ((sI s1 139 111) - 1) 40 ∧ ∀ s16 : yS, s16 = wI s1 213 (ix ((sI s1 139 111) - 1)) 0 → 
        W_X12_push s16 v1 
        (fun s17 => vp_in x8 216 ∧ 
        vp_in ((sI s17 139 111) - 1) 40 ∧ ∀ s20 : yS, s20 = wI s17 212 (ix ((sI s17 139 111) - 1)) (sI s17 190 (ix x8)) → 
        Q s20)) → P114) → 
       ((¬ (sI s1 191 (ix x8)) = 0 → P114)
       ∧ ((sI s1 191 (ix x8)) = 0 → vp_in x8 216 ∧ 
        ((¬ (sI s1 192 (ix x8)) = v1 → P150)
        ∧ ((sI s1 192 (ix x8)) = v1 → P114))))))))))) → P49 x8) → 
   P49 x7))) → P0 s1) → 
 P0 s
set_option maxRecDepth 100000 in
set_option maxHeartbeats 40000000 in
theorem w_X12_raise {G : xG} (hG : yG G) {z : Nat} {s : yS} {v1 : Int32} {Q : yS → Prop} (H : W_X12_raise s v1 Q) : xC G mX12_raise [.ref (q_b G + 139), .int v1] (hS G s) z 0 0 (yQv G z Q) := by
  have hW := hG.1
  have hcl := hG.2.1
  have hty := hG.2.2.1
  have hO : xO G mX12_raise tbX12_raise ptX12_raise := ⟨tkX12_raise, pkX12_raise hcl⟩
  unfold W_X12_raise at H
  refine xC.of hW (by decide) rfl (Nat.le_of_ble_eq_true rfl) ?_
  refine goK (H (fun (s1 : yS) => xEx G mX12_raise 0 [(0, .ref (q_b G + 139)), (1, .int v1)] [] (hS G s1) z 0 0 (yQv G z Q)) (fun s1 H => ?_)) (fun H => ?_)
  · show xEx G mX12_raise 0 [(0, .ref (q_b G + 139)), (1, .int v1)] [] (hS G s1) z 0 0 (yQv G z Q)
    refine s_aload_n (nx := 1) hO rfl rfl rfl ?_
    refine s_getf (v := .int (sI s1 139 111)) (nx := 4) hO rfl rfl (hs_o12 kc139) rfl rfl ?_
    refine s_if_le (nx := 7) hO rfl rfl (fun c4 => ?_) (fun c4 => ?_)
    · replace H := H.1 c4
      refine s_aload_n (nx := 170) hO rfl rfl rfl ?_
      refine s_iconst (x := 1) (nx := 171) hO rfl (by decide) rfl ?_
      refine s_iload_n (nx := 172) hO rfl rfl rfl ?_
      refine s_callV [.int 1, .int v1] (ci := 12) (F := TX12) (N := 116) (nx := 175) hO rfl kX12_raise_631 (by rw [hcl]; rfl) (hs_o12 kc139) (w_X12_end hG H) rfl rfl (Nat.le_of_ble_eq_true rfl) (Nat.zero_le _) (Nat.zero_le _) rfl (k_Qv (fun s2 H => ?_))
      exact s_vret hO rfl rfl ⟨rfl, _, rfl, rfl, H⟩
    · replace H := H.2 c4
      refine s_aload_n (nx := 8) hO rfl rfl rfl ?_
      refine s_getf (v := .ref (q_b G + 211)) (nx := 11) hO rfl rfl (hs_o12 kc139) rfl rfl ?_
      refine s_aload_n (nx := 12) hO rfl rfl rfl ?_
      refine s_getf (v := .int (sI s1 139 111)) (nx := 15) hO rfl rfl (hs_o12 kc139) rfl rfl ?_
      refine s_iconst (x := 1) (nx := 16) hO rfl (by decide) rfl ?_
      refine s_isub (nx := 17) hO rfl rfl ?_
      obtain ⟨b3, H⟩ := H
      refine s_iald (nx := 18) hO rfl (hs_I kc211) b3 rfl ?_
      refine goV ((sI s1 211 (ix ((sI s1 139 111) - 1)))) (fun x4 ex4 => ?_)
      replace H := H x4 ex4
      refine e_istore_n (nx := 19) (l' := [(2, .int x4), (0, .ref (q_b G + 139)), (1, .int v1)]) ex4 hO rfl (by decide) rfl rfl ?_
      refine s_aload_n (nx := 20) hO rfl rfl rfl ?_
      refine s_getf (v := .ref (q_b G + 212)) (nx := 23) hO rfl rfl (hs_o12 kc139) rfl rfl ?_
      refine s_aload_n (nx := 24) hO rfl rfl rfl ?_
      refine s_getf (v := .int (sI s1 139 111)) (nx := 27) hO rfl rfl (hs_o12 kc139) rfl rfl ?_
      refine s_iconst (x := 1) (nx := 28) hO rfl (by decide) rfl ?_
      refine s_isub (nx := 29) hO rfl rfl ?_
      obtain ⟨b5, H⟩ := H
      refine s_iald (nx := 30) hO rfl (hs_I kc212) b5 rfl ?_
      refine goV ((sI s1 212 (ix ((sI s1 139 111) - 1)))) (fun x6 ex6 => ?_)
      replace H := H x6 ex6
      refine e_istore_n (nx := 31) (l' := [(3, .int x6), (2, .int x4), (0, .ref (q_b G + 139)), (1, .int v1)]) ex6 hO rfl (by decide) rfl rfl ?_
      refine s_bipush (x := (nI 72)) (nx := 33) hO rfl (by decide) rfl ?_
      refine s_aload_n (nx := 34) hO rfl rfl rfl ?_
      refine s_getf (v := .int (sI s1 139 112)) (nx := 37) hO rfl rfl (hs_o12 kc139) rfl rfl ?_
      refine s_imul (nx := 38) hO rfl rfl ?_
      refine s_bipush (x := (nI 6)) (nx := 40) hO rfl (by decide) rfl ?_
      refine s_iload_n (nx := 41) hO rfl rfl rfl ?_
      refine s_imul (nx := 42) hO rfl rfl ?_
      refine s_iadd (nx := 43) hO rfl rfl ?_
      refine goV ((((nI 72) * (sI s1 139 112)) + ((nI 6) * x4))) (fun x7 ex7 => ?_)
      replace H := H x7 ex7
      refine e_istore (nx := 45) (l' := [(4, .int x7), (3, .int x6), (2, .int x4), (0, .ref (q_b G + 139)), (1, .int v1)]) ex7 hO rfl (by decide) rfl rfl ?_
      refine s_iload (nx := 47) hO rfl rfl rfl ?_
      refine goK (H (fun (x8 : Int32) => xEx G mX12_raise 49 [(0, .ref (q_b G + 139)), (1, .int v1), (2, .int x4), (3, .int x6), (4, .int x7), (5, .int x8)] [] (hS G s1) z 0 0 (yQv G z Q)) (fun x8 H => ?_)) (fun H => ?_)
      · show xEx G mX12_raise 49 [(0, .ref (q_b G + 139)), (1, .int v1), (2, .int x4), (3, .int x6), (4, .int x7), (5, .int x8)] [] (hS G s1) z 0 0 (yQv G z Q)
        refine s_iload (nx := 51) hO rfl rfl rfl ?_
        refine s_iload (nx := 53) hO rfl rfl rfl ?_
        refine s_aload_n (nx := 54) hO rfl rfl rfl ?_
        refine s_getf (v := .ref (q_b G + 185)) (nx := 57) hO rfl rfl (hs_o12 kc139) rfl rfl ?_
        refine s_bipush (x := (nI 12)) (nx := 59) hO rfl (by decide) rfl ?_
        refine s_aload_n (nx := 60) hO rfl rfl rfl ?_
        refine s_getf (v := .int (sI s1 139 112)) (nx := 63) hO rfl rfl (hs_o12 kc139) rfl rfl ?_
        refine s_imul (nx := 64) hO rfl rfl ?_
        refine s_iload_n (nx := 65) hO rfl rfl rfl ?_
        refine s_iadd (nx := 66) hO rfl rfl ?_
        obtain ⟨b9, H⟩ := H
        refine s_iald (nx := 67) hO rfl (hs_I kc185) b9 rfl ?_
        refine s_iadd (nx := 68) hO rfl rfl ?_
        refine s_icmp_ge (nx := 71) hO rfl rfl (fun c68 => ?_) (fun c68 => ?_)
        · replace H := H.1 c68
          refine s_aload_n (nx := 157) hO rfl rfl rfl ?_
          refine s_dup (nx := 158) hO rfl rfl rfl ?_
          refine s_getf (v := .int (sI s1 139 111)) (nx := 161) hO rfl rfl (hs_o12 kc139) rfl rfl ?_
          refine s_iconst (x := 1) (nx := 162) hO rfl (by decide) rfl ?_
          refine s_isub (nx := 163) hO rfl rfl ?_
          refine goV (wI s1 139 111 ((sI s1 139 111) - 1)) (fun s10 es10 => ?_)
          replace H := H s10 es10
          refine s_putf (nx := 166) hO rfl rfl (hs_o12 kc139) (Nat.le_of_ble_eq_true rfl) (by rw [hty]; rfl) (by rw [hty]; rfl) pX12_111 rfl ?_
          refine xEx.at (up_oI12 kc139 es10) ?_
          refine s_goto hO rfl ?_
          exact xEx.loc (x_sub1 (List.Mem.head _) (x_sub1 (List.Mem.tail _ (List.Mem.head _)) x_sub0)) H
        · replace H := H.2 c68
          refine s_aload_n (nx := 72) hO rfl rfl rfl ?_
          refine s_getf (v := .ref (q_b G + 188)) (nx := 75) hO rfl rfl (hs_o12 kc139) rfl rfl ?_
          refine s_iload (nx := 77) hO rfl rfl rfl ?_
          obtain ⟨b11, H⟩ := H
          refine s_iald (nx := 78) hO rfl (hs_I kc188) b11 rfl ?_
          refine s_iload_n (nx := 79) hO rfl rfl rfl ?_
          refine goK (H (xEx G mX12_raise 150 [(0, .ref (q_b G + 139)), (1, .int v1), (2, .int x4), (3, .int x6), (4, .int x7), (5, .int x8)] [] (hS G s1) z 0 0 (yQv G z Q)) (fun H => ?_)) (fun H => ?_)
          · show xEx G mX12_raise 150 [(0, .ref (q_b G + 139)), (1, .int v1), (2, .int x4), (3, .int x6), (4, .int x7), (5, .int x8)] [] (hS G s1) z 0 0 (yQv G z Q)
            refine goV ((x8 + 1)) (fun x12 ex12 => ?_)
            replace H := H x12 ex12
            refine e_iinc (nx := 153) (l' := [(5, .int x12), (0, .ref (q_b G + 139)), (1, .int v1), (2, .int x4), (3, .int x6), (4, .int x7)]) ex12 hO rfl (by decide) rfl rfl rfl rfl ?_
            refine s_goto hO rfl ?_
            exact xEx.loc (x_sub1 (List.Mem.tail _ (List.Mem.head _)) (x_sub1 (List.Mem.tail _ (List.Mem.tail _ (List.Mem.head _))) (x_sub1 (List.Mem.tail _ (List.Mem.tail _ (List.Mem.tail _ (List.Mem.head _)))) (x_sub1 (List.Mem.tail _ (List.Mem.tail _ (List.Mem.tail _ (List.Mem.tail _ (List.Mem.head _))))) (x_sub1 (List.Mem.tail _ (List.Mem.tail _ (List.Mem.tail _ (List.Mem.tail _ (List.Mem.tail _ (List.Mem.head _)))))) (x_sub1 (List.Mem.head _) x_sub0)))))) H
          refine s_icmp_gt (nx := 82) hO rfl rfl (fun c79 => ?_) (fun c79 => ?_)
          · replace H := H.1 c79
            exact xEx.loc (x_sub1 (List.Mem.head _) (x_sub1 (List.Mem.tail _ (List.Mem.head _)) (x_sub1 (List.Mem.tail _ (List.Mem.tail _ (List.Mem.head _))) (x_sub1 (List.Mem.tail _ (List.Mem.tail _ (List.Mem.tail _ (List.Mem.head _)))) (x_sub1 (List.Mem.tail _ (List.Mem.tail _ (List.Mem.tail _ (List.Mem.tail _ (List.Mem.head _))))) (x_sub1 (List.Mem.tail _ (List.Mem.tail _ (List.Mem.tail _ (List.Mem.tail _ (List.Mem.tail _ (List.Mem.head _)))))) x_sub0)))))) H
          · replace H := H.2 c79
            refine s_iload_n (nx := 83) hO rfl rfl rfl ?_
            refine s_aload_n (nx := 84) hO rfl rfl rfl ?_
            refine s_getf (v := .ref (q_b G + 189)) (nx := 87) hO rfl rfl (hs_o12 kc139) rfl rfl ?_
            refine s_iload (nx := 89) hO rfl rfl rfl ?_
            obtain ⟨b13, H⟩ := H
            refine s_iald (nx := 90) hO rfl (hs_I kc189) b13 rfl ?_
            refine s_icmp_ge (nx := 93) hO rfl rfl (fun c90 => ?_) (fun c90 => ?_)
            · replace H := H.1 c90
              exact xEx.loc (x_sub1 (List.Mem.head _) (x_sub1 (List.Mem.tail _ (List.Mem.head _)) (x_sub1 (List.Mem.tail _ (List.Mem.tail _ (List.Mem.head _))) (x_sub1 (List.Mem.tail _ (List.Mem.tail _ (List.Mem.tail _ (List.Mem.head _)))) (x_sub1 (List.Mem.tail _ (List.Mem.tail _ (List.Mem.tail _ (List.Mem.tail _ (List.Mem.head _))))) (x_sub1 (List.Mem.tail _ (List.Mem.tail _ (List.Mem.tail _ (List.Mem.tail _ (List.Mem.tail _ (List.Mem.head _)))))) x_sub0)))))) H
            · replace H := H.2 c90
              refine s_aload_n (nx := 94) hO rfl rfl rfl ?_
              refine s_getf (v := .ref (q_b G + 191)) (nx := 97) hO rfl rfl (hs_o12 kc139) rfl rfl ?_
              refine s_iload (nx := 99) hO rfl rfl rfl ?_
              obtain ⟨b14, H⟩ := H
              refine s_zald (nx := 100) hO rfl (hs_Z kc191) b14 rfl ?_
              refine goK (H (xEx G mX12_raise 114 [(0, .ref (q_b G + 139)), (1, .int v1), (5, .int x8)] [] (hS G s1) z 0 0 (yQv G z Q)) (fun H => ?_)) (fun H => ?_)
              · show xEx G mX12_raise 114 [(0, .ref (q_b G + 139)), (1, .int v1), (5, .int x8)] [] (hS G s1) z 0 0 (yQv G z Q)
                refine s_aload_n (nx := 115) hO rfl rfl rfl ?_
                refine s_getf (v := .ref (q_b G + 213)) (nx := 118) hO rfl rfl (hs_o12 kc139) rfl rfl ?_
                refine s_aload_n (nx := 119) hO rfl rfl rfl ?_
                refine s_getf (v := .int (sI s1 139 111)) (nx := 122) hO rfl rfl (hs_o12 kc139) rfl rfl ?_
                refine s_iconst (x := 1) (nx := 123) hO rfl (by decide) rfl ?_
                refine s_isub (nx := 124) hO rfl rfl ?_
                refine s_iconst (x := 0) (nx := 125) hO rfl (by decide) rfl ?_
                obtain ⟨b15, H⟩ := H
                refine goV (wI s1 213 (ix ((sI s1 139 111) - 1)) 0) (fun s16 es16 => ?_)
                replace H := H s16 es16
                refine s_iast (nx := 126) hO rfl (hs_I kc213) b15 rfl ?_
                refine xEx.at (up_I kc213 es16) ?_
                refine s_aload_n (nx := 127) hO rfl rfl rfl ?_
                refine s_iload_n (nx := 128) hO rfl rfl rfl ?_
                refine s_callV [.int v1] (ci := 12) (F := TX12) (N := 116) (nx := 131) hO rfl kX12_raise_628 (by rw [hcl]; rfl) (hs_o12 kc139) (w_X12_push hG H) rfl rfl (Nat.le_of_ble_eq_true rfl) (Nat.zero_le _) (Nat.zero_le _) rfl (k_Qv (fun s17 H => ?_))
                refine s_aload_n (nx := 132) hO rfl rfl rfl ?_
                refine s_getf (v := .ref (q_b G + 212)) (nx := 135) hO rfl rfl (hs_o12 kc139) rfl rfl ?_
                refine s_aload_n (nx := 136) hO rfl rfl rfl ?_
                refine s_getf (v := .int (sI s17 139 111)) (nx := 139) hO rfl rfl (hs_o12 kc139) rfl rfl ?_
                refine s_iconst (x := 1) (nx := 140) hO rfl (by decide) rfl ?_
                refine s_isub (nx := 141) hO rfl rfl ?_
                refine s_aload_n (nx := 142) hO rfl rfl rfl ?_
                refine s_getf (v := .ref (q_b G + 190)) (nx := 145) hO rfl rfl (hs_o12 kc139) rfl rfl ?_
                refine s_iload (nx := 147) hO rfl rfl rfl ?_
                obtain ⟨b18, H⟩ := H
                refine s_iald (nx := 148) hO rfl (hs_I kc190) b18 rfl ?_
                obtain ⟨b19, H⟩ := H
                refine goV (wI s17 212 (ix ((sI s17 139 111) - 1)) (sI s17 190 (ix x8))) (fun s20 es20 => ?_)
                replace H := H s20 es20
                refine s_iast (nx := 149) hO rfl (hs_I kc212) b19 rfl ?_
                refine xEx.at (up_I kc212 es20) ?_
                exact s_vret hO rfl rfl ⟨rfl, _, rfl, rfl, H⟩
              refine s_if_ne (nx := 103) hO rfl rfl (fun c100 => ?_) (fun c100 => ?_)
              · replace H := H.1 c100
                exact xEx.loc (x_sub1 (List.Mem.head _) (x_sub1 (List.Mem.tail _ (List.Mem.head _)) (x_sub1 (List.Mem.tail _ (List.Mem.tail _ (List.Mem.tail _ (List.Mem.tail _ (List.Mem.tail _ (List.Mem.head _)))))) x_sub0))) H
              · replace H := H.2 c100
                refine s_aload_n (nx := 104) hO rfl rfl rfl ?_
                refine s_getf (v := .ref (q_b G + 192)) (nx := 107) hO rfl rfl (hs_o12 kc139) rfl rfl ?_
                refine s_iload (nx := 109) hO rfl rfl rfl ?_
                obtain ⟨b21, H⟩ := H
                refine s_iald (nx := 110) hO rfl (hs_I kc192) b21 rfl ?_
                refine s_iload_n (nx := 111) hO rfl rfl rfl ?_
                refine s_icmp_ne (nx := 114) hO rfl rfl (fun c111 => ?_) (fun c111 => ?_)
                · replace H := H.1 c111
                  exact xEx.loc (x_sub1 (List.Mem.head _) (x_sub1 (List.Mem.tail _ (List.Mem.head _)) (x_sub1 (List.Mem.tail _ (List.Mem.tail _ (List.Mem.head _))) (x_sub1 (List.Mem.tail _ (List.Mem.tail _ (List.Mem.tail _ (List.Mem.head _)))) (x_sub1 (List.Mem.tail _ (List.Mem.tail _ (List.Mem.tail _ (List.Mem.tail _ (List.Mem.head _))))) (x_sub1 (List.Mem.tail _ (List.Mem.tail _ (List.Mem.tail _ (List.Mem.tail _ (List.Mem.tail _ (List.Mem.head _)))))) x_sub0)))))) H
                · replace H := H.2 c111
                  exact xEx.loc (x_sub1 (List.Mem.head _) (x_sub1 (List.Mem.tail _ (List.Mem.head _)) (x_sub1 (List.Mem.tail _ (List.Mem.tail _ (List.Mem.tail _ (List.Mem.tail _ (List.Mem.tail _ (List.Mem.head _)))))) x_sub0))) H
      refine s_istore (nx := 49) (l' := [(5, .int x7), (4, .int x7), (3, .int x6), (2, .int x4), (0, .ref (q_b G + 139)), (1, .int v1)]) hO rfl (by decide) rfl rfl ?_
      exact xEx.loc (x_sub1 (List.Mem.tail _ (List.Mem.tail _ (List.Mem.tail _ (List.Mem.tail _ (List.Mem.head _))))) (x_sub1 (List.Mem.tail _ (List.Mem.tail _ (List.Mem.tail _ (List.Mem.tail _ (List.Mem.tail _ (List.Mem.head _)))))) (x_sub1 (List.Mem.tail _ (List.Mem.tail _ (List.Mem.tail _ (List.Mem.head _)))) (x_sub1 (List.Mem.tail _ (List.Mem.tail _ (List.Mem.head _))) (x_sub1 (List.Mem.tail _ (List.Mem.head _)) (x_sub1 (List.Mem.head _) x_sub0)))))) H
  exact xEx.loc (x_sub1 (List.Mem.head _) (x_sub1 (List.Mem.tail _ (List.Mem.head _)) x_sub0)) H
def W_X12_worked (s : yS) (v1 : Int32) (v2 : Int32) (v3 : Int32) (Q : Int32 → Prop) : Prop :=
 ((((v1).toInt < 6 ∨ 16 < (v1).toInt) → ((¬ v2 = v3 → Q 0)
  ∧ (v2 = v3 → Q 1)))
 ∧ ((v1).toInt = 6 → Q (v2 + v3))
 ∧ ((v1).toInt = 7 → Q (v2 - v3))
 ∧ ((v1).toInt = 8 → Q (v2 * v3))
 ∧ ((v1).toInt = 9 → ((¬ v3 = (-1) → (¬ v3 = 0) ∧ 
    Q (v2 / v3))
   ∧ (v3 = (-1) → Q (-v2))))
 ∧ ((v1).toInt = 10 → ((¬ v3 = (-1) → (¬ v3 = 0) ∧ 
    Q (v2 - v2 / v3 * v3))
   ∧ (v3 = (-1) → Q 0)))
 ∧ ((v1).toInt = 11 → Q (v2 &&& v3))
 ∧ ((v1).toInt = 12 → Q (v2 ||| v3))
 ∧ ((v1).toInt = 13 → Q (v2 ^^^ v3))
 ∧ ((v1).toInt = 14 → Q (v2 <<< ((v3 &&& (nI 31)) &&& 31)))
 ∧ ((v1).toInt = 15 → Q (v2 >>> ((v3 &&& (nI 31)) &&& 31)))
 ∧ ((v1).toInt = 16 → ((v3 ≤ v2 → Q 0)
   ∧ (¬ v3 ≤ v2 → Q 1))))
set_option maxRecDepth 100000 in
set_option maxHeartbeats 40000000 in
theorem w_X12_worked {G : xG} (hG : yG G) {z : Nat} {s : yS} {v1 : Int32} {v2 : Int32} {v3 : Int32} {Q : Int32 → Prop} (H : W_X12_worked s v1 v2 v3 Q) : xC G mX12_worked [.int v1, .int v2, .int v3] (hS G s) z 0 0 (yPi G z s Q) := by
  have hW := hG.1
  have hcl := hG.2.1
  have hty := hG.2.2.1
  have hO : xO G mX12_worked tbX12_worked ptX12_worked := ⟨tkX12_worked, pkX12_worked hcl⟩
  unfold W_X12_worked at H
  refine xC.of hW (by decide) rfl (Nat.le_of_ble_eq_true rfl) ?_
  refine s_iload_n (nx := 1) hO rfl rfl rfl ?_
  refine s_switch hO rfl (fun c1 => ?_) (fun dc1 fc1 => ?_)
  · replace H := H.1 c1
    refine s_iload_n (nx := 137) hO rfl rfl rfl ?_
    refine s_iload_n (nx := 138) hO rfl rfl rfl ?_
    refine s_icmp_ne (nx := 141) hO rfl rfl (fun c138 => ?_) (fun c138 => ?_)
    · replace H := H.1 c138
      refine s_iconst (x := 0) (nx := 146) hO rfl (by decide) rfl ?_
      exact s_iret hO rfl rfl rfl ⟨rfl, _, rfl, rfl, H⟩
    · replace H := H.2 c138
      refine s_iconst (x := 1) (nx := 142) hO rfl (by decide) rfl ?_
      refine s_goto hO rfl ?_
      exact s_iret hO rfl rfl rfl ⟨rfl, _, rfl, rfl, H⟩
  · obtain c1 | c1 | c1 | c1 | c1 | c1 | c1 | c1 | c1 | c1 | c1 : (v1).toInt = 6 ∨ (v1).toInt = 7 ∨ (v1).toInt = 8 ∨ (v1).toInt = 9 ∨ (v1).toInt = 10 ∨ (v1).toInt = 11 ∨ (v1).toInt = 12 ∨ (v1).toInt = 13 ∨ (v1).toInt = 14 ∨ (v1).toInt = 15 ∨ (v1).toInt = 16 := by omega
    · replace H := H.2.1 c1
      refine ⟨60, by rw [c1]; rfl, ?_⟩
      refine s_iload_n (nx := 61) hO rfl rfl rfl ?_
      refine s_iload_n (nx := 62) hO rfl rfl rfl ?_
      refine s_iadd (nx := 63) hO rfl rfl ?_
      exact s_iret hO rfl rfl rfl ⟨rfl, _, rfl, rfl, H⟩
    · replace H := H.2.2.1 c1
      refine ⟨64, by rw [c1]; rfl, ?_⟩
      refine s_iload_n (nx := 65) hO rfl rfl rfl ?_
      refine s_iload_n (nx := 66) hO rfl rfl rfl ?_
      refine s_isub (nx := 67) hO rfl rfl ?_
      exact s_iret hO rfl rfl rfl ⟨rfl, _, rfl, rfl, H⟩
    · replace H := H.2.2.2.1 c1
      refine ⟨68, by rw [c1]; rfl, ?_⟩
      refine s_iload_n (nx := 69) hO rfl rfl rfl ?_
      refine s_iload_n (nx := 70) hO rfl rfl rfl ?_
      refine s_imul (nx := 71) hO rfl rfl ?_
      exact s_iret hO rfl rfl rfl ⟨rfl, _, rfl, rfl, H⟩
    · replace H := H.2.2.2.2.1 c1
      refine ⟨72, by rw [c1]; rfl, ?_⟩
      refine s_iload_n (nx := 73) hO rfl rfl rfl ?_
      refine s_iconst (x := (-1)) (nx := 74) hO rfl (by decide) rfl ?_
      refine s_icmp_ne (nx := 77) hO rfl rfl (fun c74 => ?_) (fun c74 => ?_)
      · replace H := H.1 c74
        refine s_iload_n (nx := 83) hO rfl rfl rfl ?_
        refine s_iload_n (nx := 84) hO rfl rfl rfl ?_
        obtain ⟨b1, H⟩ := H
        refine s_idiv (nx := 85) hO rfl b1 rfl ?_
        exact s_iret hO rfl rfl rfl ⟨rfl, _, rfl, rfl, H⟩
      · replace H := H.2 c74
        refine s_iload_n (nx := 78) hO rfl rfl rfl ?_
        refine s_ineg (nx := 79) hO rfl rfl ?_
        refine s_goto hO rfl ?_
        exact s_iret hO rfl rfl rfl ⟨rfl, _, rfl, rfl, H⟩
    · replace H := H.2.2.2.2.2.1 c1
      refine ⟨86, by rw [c1]; rfl, ?_⟩
      refine s_iload_n (nx := 87) hO rfl rfl rfl ?_
      refine s_iconst (x := (-1)) (nx := 88) hO rfl (by decide) rfl ?_
      refine s_icmp_ne (nx := 91) hO rfl rfl (fun c88 => ?_) (fun c88 => ?_)
      · replace H := H.1 c88
        refine s_iload_n (nx := 96) hO rfl rfl rfl ?_
        refine s_iload_n (nx := 97) hO rfl rfl rfl ?_
        obtain ⟨b2, H⟩ := H
        refine s_irem (nx := 98) hO rfl b2 rfl ?_
        exact s_iret hO rfl rfl rfl ⟨rfl, _, rfl, rfl, H⟩
      · replace H := H.2 c88
        refine s_iconst (x := 0) (nx := 92) hO rfl (by decide) rfl ?_
        refine s_goto hO rfl ?_
        exact s_iret hO rfl rfl rfl ⟨rfl, _, rfl, rfl, H⟩
    · replace H := H.2.2.2.2.2.2.1 c1
      refine ⟨99, by rw [c1]; rfl, ?_⟩
      refine s_iload_n (nx := 100) hO rfl rfl rfl ?_
      refine s_iload_n (nx := 101) hO rfl rfl rfl ?_
      refine s_iand (nx := 102) hO rfl rfl ?_
      exact s_iret hO rfl rfl rfl ⟨rfl, _, rfl, rfl, H⟩
    · replace H := H.2.2.2.2.2.2.2.1 c1
      refine ⟨103, by rw [c1]; rfl, ?_⟩
      refine s_iload_n (nx := 104) hO rfl rfl rfl ?_
      refine s_iload_n (nx := 105) hO rfl rfl rfl ?_
      refine s_ior (nx := 106) hO rfl rfl ?_
      exact s_iret hO rfl rfl rfl ⟨rfl, _, rfl, rfl, H⟩
    · replace H := H.2.2.2.2.2.2.2.2.1 c1
      refine ⟨107, by rw [c1]; rfl, ?_⟩
      refine s_iload_n (nx := 108) hO rfl rfl rfl ?_
      refine s_iload_n (nx := 109) hO rfl rfl rfl ?_
      refine s_ixor (nx := 110) hO rfl rfl ?_
      exact s_iret hO rfl rfl rfl ⟨rfl, _, rfl, rfl, H⟩
    · replace H := H.2.2.2.2.2.2.2.2.2.1 c1
      refine ⟨111, by rw [c1]; rfl, ?_⟩
      refine s_iload_n (nx := 112) hO rfl rfl rfl ?_
      refine s_iload_n (nx := 113) hO rfl rfl rfl ?_
      refine s_bipush (x := (nI 31)) (nx := 115) hO rfl (by decide) rfl ?_
      refine s_iand (nx := 116) hO rfl rfl ?_
      refine s_ishl (nx := 117) hO rfl rfl ?_
      exact s_iret hO rfl rfl rfl ⟨rfl, _, rfl, rfl, H⟩
    · replace H := H.2.2.2.2.2.2.2.2.2.2.1 c1
      refine ⟨118, by rw [c1]; rfl, ?_⟩
      refine s_iload_n (nx := 119) hO rfl rfl rfl ?_
      refine s_iload_n (nx := 120) hO rfl rfl rfl ?_
      refine s_bipush (x := (nI 31)) (nx := 122) hO rfl (by decide) rfl ?_
      refine s_iand (nx := 123) hO rfl rfl ?_
      refine s_ishr (nx := 124) hO rfl rfl ?_
      exact s_iret hO rfl rfl rfl ⟨rfl, _, rfl, rfl, H⟩
    · replace H := H.2.2.2.2.2.2.2.2.2.2.2 c1
      refine ⟨125, by rw [c1]; rfl, ?_⟩
      refine s_iload_n (nx := 126) hO rfl rfl rfl ?_
      refine s_iload_n (nx := 127) hO rfl rfl rfl ?_
      refine s_icmp_ge (nx := 130) hO rfl rfl (fun c127 => ?_) (fun c127 => ?_)
      · replace H := H.1 c127
        refine s_iconst (x := 0) (nx := 135) hO rfl (by decide) rfl ?_
        exact s_iret hO rfl rfl rfl ⟨rfl, _, rfl, rfl, H⟩
      · replace H := H.2 c127
        refine s_iconst (x := 1) (nx := 131) hO rfl (by decide) rfl ?_
        refine s_goto hO rfl ?_
        exact s_iret hO rfl rfl rfl ⟨rfl, _, rfl, rfl, H⟩
def W_X12_goOn (s : yS) (Q : yS → Prop) : Prop :=
 vp_in ((sI s 139 111) - 1) 40 ∧ 
 vp_in ((sI s 139 111) - 1) 40 ∧ ∀ s3 : yS, s3 = wI s 212 (ix ((sI s 139 111) - 1)) ((sI s 212 (ix ((sI s 139 111) - 1))) + 1) → 
 Q s3
set_option maxRecDepth 100000 in
set_option maxHeartbeats 40000000 in
theorem w_X12_goOn {G : xG} (hG : yG G) {z : Nat} {s : yS} {Q : yS → Prop} (H : W_X12_goOn s Q) : xC G mX12_goOn [.ref (q_b G + 139)] (hS G s) z 0 0 (yQv G z Q) := by
  have hW := hG.1
  have hcl := hG.2.1
  have hty := hG.2.2.1
  have hO : xO G mX12_goOn tbX12_goOn ptX12_goOn := ⟨tkX12_goOn, pkX12_goOn hcl⟩
  unfold W_X12_goOn at H
  refine xC.of hW (by decide) rfl (Nat.le_of_ble_eq_true rfl) ?_
  refine s_aload_n (nx := 1) hO rfl rfl rfl ?_
  refine s_getf (v := .ref (q_b G + 212)) (nx := 4) hO rfl rfl (hs_o12 kc139) rfl rfl ?_
  refine s_aload_n (nx := 5) hO rfl rfl rfl ?_
  refine s_getf (v := .int (sI s 139 111)) (nx := 8) hO rfl rfl (hs_o12 kc139) rfl rfl ?_
  refine s_iconst (x := 1) (nx := 9) hO rfl (by decide) rfl ?_
  refine s_isub (nx := 10) hO rfl rfl ?_
  refine s_dup2 (nx := 11) hO rfl rfl rfl rfl ?_
  obtain ⟨b1, H⟩ := H
  refine s_iald (nx := 12) hO rfl (hs_I kc212) b1 rfl ?_
  refine s_iconst (x := 1) (nx := 13) hO rfl (by decide) rfl ?_
  refine s_iadd (nx := 14) hO rfl rfl ?_
  obtain ⟨b2, H⟩ := H
  refine goV (wI s 212 (ix ((sI s 139 111) - 1)) ((sI s 212 (ix ((sI s 139 111) - 1))) + 1)) (fun s3 es3 => ?_)
  replace H := H s3 es3
  refine s_iast (nx := 15) hO rfl (hs_I kc212) b2 rfl ?_
  refine xEx.at (up_I kc212 es3) ?_
  exact s_vret hO rfl rfl ⟨rfl, _, rfl, rfl, H⟩
def W_X12_newRow (s : yS) (Q : yS → Prop) : Prop :=
 W_X12_pop s 
 (fun r1 s2 => ∀ P28 : Prop, ((W_X12_raise s2 (nI 3) 
  (fun s3 => Q s3)) → P28) → 
 ((r1 < 0 → P28)
 ∧ (¬ r1 < 0 → (((nI 256) < r1 → P28)
  ∧ (¬ (nI 256) < r1 → ((((sI s2 139 95) + r1) ≤ (nI 4096) → ∀ s4 : yS, s4 = wI s2 139 105 ((sI s2 139 105) + 1) → 
    vp_in (sI s4 139 105) 20100 ∧ ∀ s6 : yS, s6 = wI s4 209 (ix (sI s4 139 105)) (sI s4 139 95) → 
    vp_in (sI s6 139 105) 20100 ∧ ∀ s8 : yS, s8 = wI s6 210 (ix (sI s6 139 105)) r1 → 
    ∀ P69 : Int32 → yS → Prop, (∀ (x9 : Int32) (s10 : yS), (((r1 ≤ x9 → ∀ s11 : yS, s11 = wI s10 139 95 ((sI s10 139 95) + r1) → 
      W_X12_push s11 (sI s11 139 105) 
      (fun s12 => W_X12_goOn s12 
      (fun s13 => Q s13)))
     ∧ (¬ r1 ≤ x9 → vp_in ((sI s10 139 95) + x9) 4100 ∧ ∀ s15 : yS, s15 = wI s10 208 (ix ((sI s10 139 95) + x9)) 0 → 
      ∀ x16 : Int32, x16 = (x9 + 1) → 
      P69 x16 s15))) → P69 x9 s10) → 
    P69 0 s8)
   ∧ (¬ ((sI s2 139 95) + r1) ≤ (nI 4096) → P28)))))))
set_option maxRecDepth 100000 in
set_option maxHeartbeats 40000000 in
theorem w_X12_newRow {G : xG} (hG : yG G) {z : Nat} {s : yS} {Q : yS → Prop} (H : W_X12_newRow s Q) : xC G mX12_newRow [.ref (q_b G + 139)] (hS G s) z 0 0 (yQv G z Q) := by
  have hW := hG.1
  have hcl := hG.2.1
  have hty := hG.2.2.1
  have hO : xO G mX12_newRow tbX12_newRow ptX12_newRow := ⟨tkX12_newRow, pkX12_newRow hcl⟩
  unfold W_X12_newRow at H
  refine xC.of hW (by decide) rfl (Nat.le_of_ble_eq_true rfl) ?_
  refine s_aload_n (nx := 1) hO rfl rfl rfl ?_
  refine s_callV [] (ci := 12) (F := TX12) (N := 116) (nx := 4) hO rfl kX12_newRow_634 (by rw [hcl]; rfl) (hs_o12 kc139) (w_X12_pop hG H) rfl rfl (Nat.le_of_ble_eq_true rfl) (Nat.zero_le _) (Nat.zero_le _) rfl (k_Qi (fun r1 s2 H => ?_))
  refine s_istore_n (nx := 5) (l' := [(1, .int r1), (0, .ref (q_b G + 139))]) hO rfl (by decide) rfl rfl ?_
  refine s_iload_n (nx := 6) hO rfl rfl rfl ?_
  refine goK (H (xEx G mX12_newRow 28 [(0, .ref (q_b G + 139))] [] (hS G s2) z 0 0 (yQv G z Q)) (fun H => ?_)) (fun H => ?_)
  · show xEx G mX12_newRow 28 [(0, .ref (q_b G + 139))] [] (hS G s2) z 0 0 (yQv G z Q)
    refine s_aload_n (nx := 29) hO rfl rfl rfl ?_
    refine s_iconst (x := (nI 3)) (nx := 30) hO rfl (by decide) rfl ?_
    refine s_callV [.int (nI 3)] (ci := 12) (F := TX12) (N := 116) (nx := 33) hO rfl kX12_newRow_640 (by rw [hcl]; rfl) (hs_o12 kc139) (w_X12_raise hG H) rfl rfl (Nat.le_of_ble_eq_true rfl) (Nat.zero_le _) (Nat.zero_le _) rfl (k_Qv (fun s3 H => ?_))
    exact s_vret hO rfl rfl ⟨rfl, _, rfl, rfl, H⟩
  refine s_if_lt (nx := 9) hO rfl rfl (fun c6 => ?_) (fun c6 => ?_)
  · replace H := H.1 c6
    exact xEx.loc (x_sub1 (List.Mem.tail _ (List.Mem.head _)) x_sub0) H
  · replace H := H.2 c6
    refine s_iload_n (nx := 10) hO rfl rfl rfl ?_
    refine s_sipush (x := (nI 256)) (nx := 13) hO rfl (by decide) rfl ?_
    refine s_icmp_gt (nx := 16) hO rfl rfl (fun c13 => ?_) (fun c13 => ?_)
    · replace H := H.1 c13
      exact xEx.loc (x_sub1 (List.Mem.tail _ (List.Mem.head _)) x_sub0) H
    · replace H := H.2 c13
      refine s_aload_n (nx := 17) hO rfl rfl rfl ?_
      refine s_getf (v := .int (sI s2 139 95)) (nx := 20) hO rfl rfl (hs_o12 kc139) rfl rfl ?_
      refine s_iload_n (nx := 21) hO rfl rfl rfl ?_
      refine s_iadd (nx := 22) hO rfl rfl ?_
      refine s_sipush (x := (nI 4096)) (nx := 25) hO rfl (by decide) rfl ?_
      refine s_icmp_le (nx := 28) hO rfl rfl (fun c25 => ?_) (fun c25 => ?_)
      · replace H := H.1 c25
        refine s_aload_n (nx := 35) hO rfl rfl rfl ?_
        refine s_dup (nx := 36) hO rfl rfl rfl ?_
        refine s_getf (v := .int (sI s2 139 105)) (nx := 39) hO rfl rfl (hs_o12 kc139) rfl rfl ?_
        refine s_iconst (x := 1) (nx := 40) hO rfl (by decide) rfl ?_
        refine s_iadd (nx := 41) hO rfl rfl ?_
        refine goV (wI s2 139 105 ((sI s2 139 105) + 1)) (fun s4 es4 => ?_)
        replace H := H s4 es4
        refine s_putf (nx := 44) hO rfl rfl (hs_o12 kc139) (Nat.le_of_ble_eq_true rfl) (by rw [hty]; rfl) (by rw [hty]; rfl) pX12_105 rfl ?_
        refine xEx.at (up_oI12 kc139 es4) ?_
        refine s_aload_n (nx := 45) hO rfl rfl rfl ?_
        refine s_getf (v := .ref (q_b G + 209)) (nx := 48) hO rfl rfl (hs_o12 kc139) rfl rfl ?_
        refine s_aload_n (nx := 49) hO rfl rfl rfl ?_
        refine s_getf (v := .int (sI s4 139 105)) (nx := 52) hO rfl rfl (hs_o12 kc139) rfl rfl ?_
        refine s_aload_n (nx := 53) hO rfl rfl rfl ?_
        refine s_getf (v := .int (sI s4 139 95)) (nx := 56) hO rfl rfl (hs_o12 kc139) rfl rfl ?_
        obtain ⟨b5, H⟩ := H
        refine goV (wI s4 209 (ix (sI s4 139 105)) (sI s4 139 95)) (fun s6 es6 => ?_)
        replace H := H s6 es6
        refine s_iast (nx := 57) hO rfl (hs_I kc209) b5 rfl ?_
        refine xEx.at (up_I kc209 es6) ?_
        refine s_aload_n (nx := 58) hO rfl rfl rfl ?_
        refine s_getf (v := .ref (q_b G + 210)) (nx := 61) hO rfl rfl (hs_o12 kc139) rfl rfl ?_
        refine s_aload_n (nx := 62) hO rfl rfl rfl ?_
        refine s_getf (v := .int (sI s6 139 105)) (nx := 65) hO rfl rfl (hs_o12 kc139) rfl rfl ?_
        refine s_iload_n (nx := 66) hO rfl rfl rfl ?_
        obtain ⟨b7, H⟩ := H
        refine goV (wI s6 210 (ix (sI s6 139 105)) r1) (fun s8 es8 => ?_)
        replace H := H s8 es8
        refine s_iast (nx := 67) hO rfl (hs_I kc210) b7 rfl ?_
        refine xEx.at (up_I kc210 es8) ?_
        refine s_iconst (x := 0) (nx := 68) hO rfl (by decide) rfl ?_
        refine goK (H (fun (x9 : Int32) (s10 : yS) => xEx G mX12_newRow 69 [(0, .ref (q_b G + 139)), (1, .int r1), (2, .int x9)] [] (hS G s10) z 0 0 (yQv G z Q)) (fun x9 s10 H => ?_)) (fun H => ?_)
        · show xEx G mX12_newRow 69 [(0, .ref (q_b G + 139)), (1, .int r1), (2, .int x9)] [] (hS G s10) z 0 0 (yQv G z Q)
          refine s_iload_n (nx := 70) hO rfl rfl rfl ?_
          refine s_iload_n (nx := 71) hO rfl rfl rfl ?_
          refine s_icmp_ge (nx := 74) hO rfl rfl (fun c71 => ?_) (fun c71 => ?_)
          · replace H := H.1 c71
            refine s_aload_n (nx := 93) hO rfl rfl rfl ?_
            refine s_dup (nx := 94) hO rfl rfl rfl ?_
            refine s_getf (v := .int (sI s10 139 95)) (nx := 97) hO rfl rfl (hs_o12 kc139) rfl rfl ?_
            refine s_iload_n (nx := 98) hO rfl rfl rfl ?_
            refine s_iadd (nx := 99) hO rfl rfl ?_
            refine goV (wI s10 139 95 ((sI s10 139 95) + r1)) (fun s11 es11 => ?_)
            replace H := H s11 es11
            refine s_putf (nx := 102) hO rfl rfl (hs_o12 kc139) (Nat.le_of_ble_eq_true rfl) (by rw [hty]; rfl) (by rw [hty]; rfl) pX12_95 rfl ?_
            refine xEx.at (up_oI12 kc139 es11) ?_
            refine s_aload_n (nx := 103) hO rfl rfl rfl ?_
            refine s_aload_n (nx := 104) hO rfl rfl rfl ?_
            refine s_getf (v := .int (sI s11 139 105)) (nx := 107) hO rfl rfl (hs_o12 kc139) rfl rfl ?_
            refine s_callV [.int (sI s11 139 105)] (ci := 12) (F := TX12) (N := 116) (nx := 110) hO rfl kX12_newRow_628 (by rw [hcl]; rfl) (hs_o12 kc139) (w_X12_push hG H) rfl rfl (Nat.le_of_ble_eq_true rfl) (Nat.zero_le _) (Nat.zero_le _) rfl (k_Qv (fun s12 H => ?_))
            refine s_aload_n (nx := 111) hO rfl rfl rfl ?_
            refine s_callV [] (ci := 12) (F := TX12) (N := 116) (nx := 114) hO rfl kX12_newRow_646 (by rw [hcl]; rfl) (hs_o12 kc139) (w_X12_goOn hG H) rfl rfl (Nat.le_of_ble_eq_true rfl) (Nat.zero_le _) (Nat.zero_le _) rfl (k_Qv (fun s13 H => ?_))
            exact s_vret hO rfl rfl ⟨rfl, _, rfl, rfl, H⟩
          · replace H := H.2 c71
            refine s_aload_n (nx := 75) hO rfl rfl rfl ?_
            refine s_getf (v := .ref (q_b G + 208)) (nx := 78) hO rfl rfl (hs_o12 kc139) rfl rfl ?_
            refine s_aload_n (nx := 79) hO rfl rfl rfl ?_
            refine s_getf (v := .int (sI s10 139 95)) (nx := 82) hO rfl rfl (hs_o12 kc139) rfl rfl ?_
            refine s_iload_n (nx := 83) hO rfl rfl rfl ?_
            refine s_iadd (nx := 84) hO rfl rfl ?_
            refine s_iconst (x := 0) (nx := 85) hO rfl (by decide) rfl ?_
            obtain ⟨b14, H⟩ := H
            refine goV (wI s10 208 (ix ((sI s10 139 95) + x9)) 0) (fun s15 es15 => ?_)
            replace H := H s15 es15
            refine s_iast (nx := 86) hO rfl (hs_I kc208) b14 rfl ?_
            refine xEx.at (up_I kc208 es15) ?_
            refine goV ((x9 + 1)) (fun x16 ex16 => ?_)
            replace H := H x16 ex16
            refine e_iinc (nx := 89) (l' := [(2, .int x16), (0, .ref (q_b G + 139)), (1, .int r1)]) ex16 hO rfl (by decide) rfl rfl rfl rfl ?_
            refine s_goto hO rfl ?_
            exact xEx.loc (x_sub1 (List.Mem.tail _ (List.Mem.head _)) (x_sub1 (List.Mem.tail _ (List.Mem.tail _ (List.Mem.head _))) (x_sub1 (List.Mem.head _) x_sub0))) H
        refine s_istore_n (nx := 69) (l' := [(2, .int 0), (1, .int r1), (0, .ref (q_b G + 139))]) hO rfl (by decide) rfl rfl ?_
        exact xEx.loc (x_sub1 (List.Mem.tail _ (List.Mem.tail _ (List.Mem.head _))) (x_sub1 (List.Mem.tail _ (List.Mem.head _)) (x_sub1 (List.Mem.head _) x_sub0))) H
      · replace H := H.2 c25
        exact xEx.loc (x_sub1 (List.Mem.tail _ (List.Mem.head _)) x_sub0) H
def W_X12_reach (s : yS) (v1 : Int32) (Q : yS → Prop) : Prop :=
 ∀ P12 : Int32 → yS → Prop, (∀ (y1 : Int32) (s2 : yS), (W_X12_pop s2 
  (fun r3 s4 => W_X12_pop s4 
  (fun r5 s6 => ∀ P39 : Prop, ((W_X12_raise s6 (nI 2) 
   (fun s7 => Q s7)) → P39) → 
  ((r3 < 0 → P39)
  ∧ (¬ r3 < 0 → vp_in r5 20100 ∧ 
   ((r3 < (sI s6 210 (ix r5)) → ∀ P85 : yS → Prop, (∀ (s9 : yS), (W_X12_goOn s9 
     (fun s10 => Q s10)) → P85 s9) → 
    ((v1 = 0 → vp_in r5 20100 ∧ 
     vp_in ((sI s6 209 (ix r5)) + r3) 4100 ∧ 
     W_X12_push s6 (sI s6 208 (ix ((sI s6 209 (ix r5)) + r3))) 
     (fun s13 => P85 s13))
    ∧ (¬ v1 = 0 → vp_in r5 20100 ∧ 
     vp_in ((sI s6 209 (ix r5)) + r3) 4100 ∧ ∀ s16 : yS, s16 = wI s6 208 (ix ((sI s6 209 (ix r5)) + r3)) y1 → 
     P85 s16)))
   ∧ (¬ r3 < (sI s6 210 (ix r5)) → P39))))))) → P12 y1 s2) → 
 ((v1 = 0 → P12 0 s)
 ∧ (¬ v1 = 0 → W_X12_pop s 
  (fun r17 s18 => P12 r17 s18)))
set_option maxRecDepth 100000 in
set_option maxHeartbeats 40000000 in
theorem w_X12_reach {G : xG} (hG : yG G) {z : Nat} {s : yS} {v1 : Int32} {Q : yS → Prop} (H : W_X12_reach s v1 Q) : xC G mX12_reach [.ref (q_b G + 139), .int v1] (hS G s) z 0 0 (yQv G z Q) := by
  have hW := hG.1
  have hcl := hG.2.1
  have hty := hG.2.2.1
  have hO : xO G mX12_reach tbX12_reach ptX12_reach := ⟨tkX12_reach, pkX12_reach hcl⟩
  unfold W_X12_reach at H
  refine xC.of hW (by decide) rfl (Nat.le_of_ble_eq_true rfl) ?_
  refine s_iload_n (nx := 1) hO rfl rfl rfl ?_
  refine goK (H (fun (y1 : Int32) (s2 : yS) => xEx G mX12_reach 12 [(0, .ref (q_b G + 139)), (1, .int v1)] [.int y1] (hS G s2) z 0 0 (yQv G z Q)) (fun y1 s2 H => ?_)) (fun H => ?_)
  · show xEx G mX12_reach 12 [(0, .ref (q_b G + 139)), (1, .int v1)] [.int y1] (hS G s2) z 0 0 (yQv G z Q)
    refine s_istore_n (nx := 13) (l' := [(2, .int y1), (0, .ref (q_b G + 139)), (1, .int v1)]) hO rfl (by decide) rfl rfl ?_
    refine s_aload_n (nx := 14) hO rfl rfl rfl ?_
    refine s_callV [] (ci := 12) (F := TX12) (N := 116) (nx := 17) hO rfl kX12_reach_634 (by rw [hcl]; rfl) (hs_o12 kc139) (w_X12_pop hG H) rfl rfl (Nat.le_of_ble_eq_true rfl) (Nat.zero_le _) (Nat.zero_le _) rfl (k_Qi (fun r3 s4 H => ?_))
    refine s_istore_n (nx := 18) (l' := [(3, .int r3), (2, .int y1), (0, .ref (q_b G + 139)), (1, .int v1)]) hO rfl (by decide) rfl rfl ?_
    refine s_aload_n (nx := 19) hO rfl rfl rfl ?_
    refine s_callV [] (ci := 12) (F := TX12) (N := 116) (nx := 22) hO rfl kX12_reach_634 (by rw [hcl]; rfl) (hs_o12 kc139) (w_X12_pop hG H) rfl rfl (Nat.le_of_ble_eq_true rfl) (Nat.zero_le _) (Nat.zero_le _) rfl (k_Qi (fun r5 s6 H => ?_))
    refine s_istore (nx := 24) (l' := [(4, .int r5), (3, .int r3), (2, .int y1), (0, .ref (q_b G + 139)), (1, .int v1)]) hO rfl (by decide) rfl rfl ?_
    refine s_iload_n (nx := 25) hO rfl rfl rfl ?_
    refine goK (H (xEx G mX12_reach 39 [(0, .ref (q_b G + 139))] [] (hS G s6) z 0 0 (yQv G z Q)) (fun H => ?_)) (fun H => ?_)
    · show xEx G mX12_reach 39 [(0, .ref (q_b G + 139))] [] (hS G s6) z 0 0 (yQv G z Q)
      refine s_aload_n (nx := 40) hO rfl rfl rfl ?_
      refine s_iconst (x := (nI 2)) (nx := 41) hO rfl (by decide) rfl ?_
      refine s_callV [.int (nI 2)] (ci := 12) (F := TX12) (N := 116) (nx := 44) hO rfl kX12_reach_640 (by rw [hcl]; rfl) (hs_o12 kc139) (w_X12_raise hG H) rfl rfl (Nat.le_of_ble_eq_true rfl) (Nat.zero_le _) (Nat.zero_le _) rfl (k_Qv (fun s7 H => ?_))
      exact s_vret hO rfl rfl ⟨rfl, _, rfl, rfl, H⟩
    refine s_if_lt (nx := 28) hO rfl rfl (fun c25 => ?_) (fun c25 => ?_)
    · replace H := H.1 c25
      exact xEx.loc (x_sub1 (List.Mem.tail _ (List.Mem.tail _ (List.Mem.tail _ (List.Mem.head _)))) x_sub0) H
    · replace H := H.2 c25
      refine s_iload_n (nx := 29) hO rfl rfl rfl ?_
      refine s_aload_n (nx := 30) hO rfl rfl rfl ?_
      refine s_getf (v := .ref (q_b G + 210)) (nx := 33) hO rfl rfl (hs_o12 kc139) rfl rfl ?_
      refine s_iload (nx := 35) hO rfl rfl rfl ?_
      obtain ⟨b8, H⟩ := H
      refine s_iald (nx := 36) hO rfl (hs_I kc210) b8 rfl ?_
      refine s_icmp_lt (nx := 39) hO rfl rfl (fun c36 => ?_) (fun c36 => ?_)
      · replace H := H.1 c36
        refine s_iload_n (nx := 46) hO rfl rfl rfl ?_
        refine goK (H (fun (s9 : yS) => xEx G mX12_reach 85 [(0, .ref (q_b G + 139))] [] (hS G s9) z 0 0 (yQv G z Q)) (fun s9 H => ?_)) (fun H => ?_)
        · show xEx G mX12_reach 85 [(0, .ref (q_b G + 139))] [] (hS G s9) z 0 0 (yQv G z Q)
          refine s_aload_n (nx := 86) hO rfl rfl rfl ?_
          refine s_callV [] (ci := 12) (F := TX12) (N := 116) (nx := 89) hO rfl kX12_reach_646 (by rw [hcl]; rfl) (hs_o12 kc139) (w_X12_goOn hG H) rfl rfl (Nat.le_of_ble_eq_true rfl) (Nat.zero_le _) (Nat.zero_le _) rfl (k_Qv (fun s10 H => ?_))
          exact s_vret hO rfl rfl ⟨rfl, _, rfl, rfl, H⟩
        refine s_if_eq (nx := 49) hO rfl rfl (fun c46 => ?_) (fun c46 => ?_)
        · replace H := H.1 c46
          refine s_aload_n (nx := 68) hO rfl rfl rfl ?_
          refine s_aload_n (nx := 69) hO rfl rfl rfl ?_
          refine s_getf (v := .ref (q_b G + 208)) (nx := 72) hO rfl rfl (hs_o12 kc139) rfl rfl ?_
          refine s_aload_n (nx := 73) hO rfl rfl rfl ?_
          refine s_getf (v := .ref (q_b G + 209)) (nx := 76) hO rfl rfl (hs_o12 kc139) rfl rfl ?_
          refine s_iload (nx := 78) hO rfl rfl rfl ?_
          obtain ⟨b11, H⟩ := H
          refine s_iald (nx := 79) hO rfl (hs_I kc209) b11 rfl ?_
          refine s_iload_n (nx := 80) hO rfl rfl rfl ?_
          refine s_iadd (nx := 81) hO rfl rfl ?_
          obtain ⟨b12, H⟩ := H
          refine s_iald (nx := 82) hO rfl (hs_I kc208) b12 rfl ?_
          refine s_callV [.int (sI s6 208 (ix ((sI s6 209 (ix r5)) + r3)))] (ci := 12) (F := TX12) (N := 116) (nx := 85) hO rfl kX12_reach_628 (by rw [hcl]; rfl) (hs_o12 kc139) (w_X12_push hG H) rfl rfl (Nat.le_of_ble_eq_true rfl) (Nat.zero_le _) (Nat.zero_le _) rfl (k_Qv (fun s13 H => ?_))
          exact xEx.loc (x_sub1 (List.Mem.tail _ (List.Mem.tail _ (List.Mem.tail _ (List.Mem.head _)))) x_sub0) H
        · replace H := H.2 c46
          refine s_aload_n (nx := 50) hO rfl rfl rfl ?_
          refine s_getf (v := .ref (q_b G + 208)) (nx := 53) hO rfl rfl (hs_o12 kc139) rfl rfl ?_
          refine s_aload_n (nx := 54) hO rfl rfl rfl ?_
          refine s_getf (v := .ref (q_b G + 209)) (nx := 57) hO rfl rfl (hs_o12 kc139) rfl rfl ?_
          refine s_iload (nx := 59) hO rfl rfl rfl ?_
          obtain ⟨b14, H⟩ := H
          refine s_iald (nx := 60) hO rfl (hs_I kc209) b14 rfl ?_
          refine s_iload_n (nx := 61) hO rfl rfl rfl ?_
          refine s_iadd (nx := 62) hO rfl rfl ?_
          refine s_iload_n (nx := 63) hO rfl rfl rfl ?_
          obtain ⟨b15, H⟩ := H
          refine goV (wI s6 208 (ix ((sI s6 209 (ix r5)) + r3)) y1) (fun s16 es16 => ?_)
          replace H := H s16 es16
          refine s_iast (nx := 64) hO rfl (hs_I kc208) b15 rfl ?_
          refine xEx.at (up_I kc208 es16) ?_
          refine s_goto hO rfl ?_
          exact xEx.loc (x_sub1 (List.Mem.tail _ (List.Mem.tail _ (List.Mem.tail _ (List.Mem.head _)))) x_sub0) H
      · replace H := H.2 c36
        exact xEx.loc (x_sub1 (List.Mem.tail _ (List.Mem.tail _ (List.Mem.tail _ (List.Mem.head _)))) x_sub0) H
  refine s_if_eq (nx := 4) hO rfl rfl (fun c1 => ?_) (fun c1 => ?_)
  · replace H := H.1 c1
    refine s_iconst (x := 0) (nx := 12) hO rfl (by decide) rfl ?_
    exact xEx.loc (x_sub1 (List.Mem.head _) (x_sub1 (List.Mem.tail _ (List.Mem.head _)) x_sub0)) H
  · replace H := H.2 c1
    refine s_aload_n (nx := 5) hO rfl rfl rfl ?_
    refine s_callV [] (ci := 12) (F := TX12) (N := 116) (nx := 8) hO rfl kX12_reach_634 (by rw [hcl]; rfl) (hs_o12 kc139) (w_X12_pop hG H) rfl rfl (Nat.le_of_ble_eq_true rfl) (Nat.zero_le _) (Nat.zero_le _) rfl (k_Qi (fun r17 s18 H => ?_))
    refine s_goto hO rfl ?_
    exact xEx.loc (x_sub1 (List.Mem.head _) (x_sub1 (List.Mem.tail _ (List.Mem.head _)) x_sub0)) H
def W_X12_callIn (s : yS) (v1 : Int32) (Q : yS → Prop) : Prop :=
 ((¬ (sI s 139 111) = (nI 40) → vp_in (((nI 12) * (sI s 139 112)) + v1) 36 ∧ 
  ∀ x2 : Int32, x2 = (sI s 179 (ix (((nI 12) * (sI s 139 112)) + v1))) → 
  W_X12_enter s v1 
  (fun s3 => ∀ P39 : Int32 → yS → Prop, (∀ (x4 : Int32) (s5 : yS), (((x4 < 0 → Q s5)
   ∧ (¬ x4 < 0 → ∀ x6 : Int32, x6 = ((sI s5 139 111) - (nI 2)) → 
    vp_in x6 40 ∧ 
    vp_in x6 40 ∧ ∀ s9 : yS, s9 = wI s5 213 (ix x6) ((sI s5 213 (ix x6)) - 1) → 
    vp_in x6 40 ∧ 
    vp_in (((nI 16) * x6) + (sI s9 213 (ix x6))) 640 ∧ 
    vp_in (((nI 12) * ((sI s9 139 111) - 1)) + x4) 480 ∧ ∀ s13 : yS, s13 = wI s9 214 (ix (((nI 12) * ((sI s9 139 111) - 1)) + x4)) (sI s9 215 (ix (((nI 16) * x6) + (sI s9 213 (ix x6))))) → 
    ∀ x14 : Int32, x14 = (x4 + (-1)) → 
    P39 x14 s13))) → P39 x4 s5) → 
  ∀ x15 : Int32, x15 = (x2 - 1) → 
  P39 x15 s3))
 ∧ ((sI s 139 111) = (nI 40) → W_X12_raise s (nI 4) 
  (fun s16 => Q s16)))
set_option maxRecDepth 100000 in
set_option maxHeartbeats 40000000 in
theorem w_X12_callIn {G : xG} (hG : yG G) {z : Nat} {s : yS} {v1 : Int32} {Q : yS → Prop} (H : W_X12_callIn s v1 Q) : xC G mX12_callIn [.ref (q_b G + 139), .int v1] (hS G s) z 0 0 (yQv G z Q) := by
  have hW := hG.1
  have hcl := hG.2.1
  have hty := hG.2.2.1
  have hO : xO G mX12_callIn tbX12_callIn ptX12_callIn := ⟨tkX12_callIn, pkX12_callIn hcl⟩
  unfold W_X12_callIn at H
  refine xC.of hW (by decide) rfl (Nat.le_of_ble_eq_true rfl) ?_
  refine s_aload_n (nx := 1) hO rfl rfl rfl ?_
  refine s_getf (v := .int (sI s 139 111)) (nx := 4) hO rfl rfl (hs_o12 kc139) rfl rfl ?_
  refine s_bipush (x := (nI 40)) (nx := 6) hO rfl (by decide) rfl ?_
  refine s_icmp_ne (nx := 9) hO rfl rfl (fun c6 => ?_) (fun c6 => ?_)
  · replace H := H.1 c6
    refine s_aload_n (nx := 16) hO rfl rfl rfl ?_
    refine s_getf (v := .ref (q_b G + 179)) (nx := 19) hO rfl rfl (hs_o12 kc139) rfl rfl ?_
    refine s_bipush (x := (nI 12)) (nx := 21) hO rfl (by decide) rfl ?_
    refine s_aload_n (nx := 22) hO rfl rfl rfl ?_
    refine s_getf (v := .int (sI s 139 112)) (nx := 25) hO rfl rfl (hs_o12 kc139) rfl rfl ?_
    refine s_imul (nx := 26) hO rfl rfl ?_
    refine s_iload_n (nx := 27) hO rfl rfl rfl ?_
    refine s_iadd (nx := 28) hO rfl rfl ?_
    obtain ⟨b1, H⟩ := H
    refine s_iald (nx := 29) hO rfl (hs_I kc179) b1 rfl ?_
    refine goV ((sI s 179 (ix (((nI 12) * (sI s 139 112)) + v1)))) (fun x2 ex2 => ?_)
    replace H := H x2 ex2
    refine e_istore_n (nx := 30) (l' := [(2, .int x2), (0, .ref (q_b G + 139)), (1, .int v1)]) ex2 hO rfl (by decide) rfl rfl ?_
    refine s_aload_n (nx := 31) hO rfl rfl rfl ?_
    refine s_iload_n (nx := 32) hO rfl rfl rfl ?_
    refine s_callV [.int v1] (ci := 12) (F := TX12) (N := 116) (nx := 35) hO rfl kX12_callIn_649 (by rw [hcl]; rfl) (hs_o12 kc139) (w_X12_enter hG H) rfl rfl (Nat.le_of_ble_eq_true rfl) (Nat.zero_le _) (Nat.zero_le _) rfl (k_Qv (fun s3 H => ?_))
    refine s_iload_n (nx := 36) hO rfl rfl rfl ?_
    refine s_iconst (x := 1) (nx := 37) hO rfl (by decide) rfl ?_
    refine s_isub (nx := 38) hO rfl rfl ?_
    refine goK (H (fun (x4 : Int32) (s5 : yS) => xEx G mX12_callIn 39 [(0, .ref (q_b G + 139)), (3, .int x4)] [] (hS G s5) z 0 0 (yQv G z Q)) (fun x4 s5 H => ?_)) (fun H => ?_)
    · show xEx G mX12_callIn 39 [(0, .ref (q_b G + 139)), (3, .int x4)] [] (hS G s5) z 0 0 (yQv G z Q)
      refine s_iload_n (nx := 40) hO rfl rfl rfl ?_
      refine s_if_lt (nx := 43) hO rfl rfl (fun c40 => ?_) (fun c40 => ?_)
      · replace H := H.1 c40
        exact s_vret hO rfl rfl ⟨rfl, _, rfl, rfl, H⟩
      · replace H := H.2 c40
        refine s_aload_n (nx := 44) hO rfl rfl rfl ?_
        refine s_getf (v := .int (sI s5 139 111)) (nx := 47) hO rfl rfl (hs_o12 kc139) rfl rfl ?_
        refine s_iconst (x := (nI 2)) (nx := 48) hO rfl (by decide) rfl ?_
        refine s_isub (nx := 49) hO rfl rfl ?_
        refine goV (((sI s5 139 111) - (nI 2))) (fun x6 ex6 => ?_)
        replace H := H x6 ex6
        refine e_istore (nx := 51) (l' := [(4, .int x6), (0, .ref (q_b G + 139)), (3, .int x4)]) ex6 hO rfl (by decide) rfl rfl ?_
        refine s_aload_n (nx := 52) hO rfl rfl rfl ?_
        refine s_getf (v := .ref (q_b G + 213)) (nx := 55) hO rfl rfl (hs_o12 kc139) rfl rfl ?_
        refine s_iload (nx := 57) hO rfl rfl rfl ?_
        refine s_dup2 (nx := 58) hO rfl rfl rfl rfl ?_
        obtain ⟨b7, H⟩ := H
        refine s_iald (nx := 59) hO rfl (hs_I kc213) b7 rfl ?_
        refine s_iconst (x := 1) (nx := 60) hO rfl (by decide) rfl ?_
        refine s_isub (nx := 61) hO rfl rfl ?_
        obtain ⟨b8, H⟩ := H
        refine goV (wI s5 213 (ix x6) ((sI s5 213 (ix x6)) - 1)) (fun s9 es9 => ?_)
        replace H := H s9 es9
        refine s_iast (nx := 62) hO rfl (hs_I kc213) b8 rfl ?_
        refine xEx.at (up_I kc213 es9) ?_
        refine s_aload_n (nx := 63) hO rfl rfl rfl ?_
        refine s_getf (v := .ref (q_b G + 214)) (nx := 66) hO rfl rfl (hs_o12 kc139) rfl rfl ?_
        refine s_bipush (x := (nI 12)) (nx := 68) hO rfl (by decide) rfl ?_
        refine s_aload_n (nx := 69) hO rfl rfl rfl ?_
        refine s_getf (v := .int (sI s9 139 111)) (nx := 72) hO rfl rfl (hs_o12 kc139) rfl rfl ?_
        refine s_iconst (x := 1) (nx := 73) hO rfl (by decide) rfl ?_
        refine s_isub (nx := 74) hO rfl rfl ?_
        refine s_imul (nx := 75) hO rfl rfl ?_
        refine s_iload_n (nx := 76) hO rfl rfl rfl ?_
        refine s_iadd (nx := 77) hO rfl rfl ?_
        refine s_aload_n (nx := 78) hO rfl rfl rfl ?_
        refine s_getf (v := .ref (q_b G + 215)) (nx := 81) hO rfl rfl (hs_o12 kc139) rfl rfl ?_
        refine s_bipush (x := (nI 16)) (nx := 83) hO rfl (by decide) rfl ?_
        refine s_iload (nx := 85) hO rfl rfl rfl ?_
        refine s_imul (nx := 86) hO rfl rfl ?_
        refine s_aload_n (nx := 87) hO rfl rfl rfl ?_
        refine s_getf (v := .ref (q_b G + 213)) (nx := 90) hO rfl rfl (hs_o12 kc139) rfl rfl ?_
        refine s_iload (nx := 92) hO rfl rfl rfl ?_
        obtain ⟨b10, H⟩ := H
        refine s_iald (nx := 93) hO rfl (hs_I kc213) b10 rfl ?_
        refine s_iadd (nx := 94) hO rfl rfl ?_
        obtain ⟨b11, H⟩ := H
        refine s_iald (nx := 95) hO rfl (hs_I kc215) b11 rfl ?_
        obtain ⟨b12, H⟩ := H
        refine goV (wI s9 214 (ix (((nI 12) * ((sI s9 139 111) - 1)) + x4)) (sI s9 215 (ix (((nI 16) * x6) + (sI s9 213 (ix x6)))))) (fun s13 es13 => ?_)
        replace H := H s13 es13
        refine s_iast (nx := 96) hO rfl (hs_I kc214) b12 rfl ?_
        refine xEx.at (up_I kc214 es13) ?_
        refine goV ((x4 + (-1))) (fun x14 ex14 => ?_)
        replace H := H x14 ex14
        refine e_iinc (nx := 99) (l' := [(3, .int x14), (4, .int x6), (0, .ref (q_b G + 139))]) ex14 hO rfl (by decide) rfl rfl rfl rfl ?_
        refine s_goto hO rfl ?_
        exact xEx.loc (x_sub1 (List.Mem.tail _ (List.Mem.tail _ (List.Mem.head _))) (x_sub1 (List.Mem.head _) x_sub0)) H
    refine goV ((x2 - 1)) (fun x15 ex15 => ?_)
    replace H := H x15 ex15
    refine e_istore_n (nx := 39) (l' := [(3, .int x15), (2, .int x2), (0, .ref (q_b G + 139)), (1, .int v1)]) ex15 hO rfl (by decide) rfl rfl ?_
    exact xEx.loc (x_sub1 (List.Mem.tail _ (List.Mem.tail _ (List.Mem.head _))) (x_sub1 (List.Mem.head _) x_sub0)) H
  · replace H := H.2 c6
    refine s_aload_n (nx := 10) hO rfl rfl rfl ?_
    refine s_iconst (x := (nI 4)) (nx := 11) hO rfl (by decide) rfl ?_
    refine s_callV [.int (nI 4)] (ci := 12) (F := TX12) (N := 116) (nx := 14) hO rfl kX12_callIn_640 (by rw [hcl]; rfl) (hs_o12 kc139) (w_X12_raise hG H) rfl rfl (Nat.le_of_ble_eq_true rfl) (Nat.zero_le _) (Nat.zero_le _) rfl (k_Qv (fun s16 H => ?_))
    exact s_vret hO rfl rfl ⟨rfl, _, rfl, rfl, H⟩

def W_X12_readGuards (s : yS) (v1 : Int32) (Q : yS → Prop) : Prop :=
 ∀ P2 : Int32 → yS → Prop, (∀ (x1 : Int32) (s2 : yS), (((¬ (sI s2 139 15) = 0 → Q s2)
  ∧ ((sI s2 139 15) = 0 → ((¬ (sI s2 139 11) = 0 → Q s2)
   ∧ ((sI s2 139 11) = 0 → ((¬ x1 = (nI 4) → W_X12_readGuard s2 v1 
     (fun s3 => ∀ x4 : Int32, x4 = (x1 + 1) → 
     P2 x4 s3))
    ∧ (x1 = (nI 4) → W_X12_wrong s2 (nI 2) (sI s2 139 12) 
     (fun s5 => Q s5)))))))) → P2 x1 s2) → 
 P2 0 s
set_option maxRecDepth 100000 in
set_option maxHeartbeats 40000000 in
theorem w_X12_readGuards {G : xG} (hG : yG G) {z : Nat} {s : yS} {v1 : Int32} {Q : yS → Prop} (H : W_X12_readGuards s v1 Q) : xC G mX12_readGuards [.ref (q_b G + 139), .int v1] (hS G s) z 0 0 (yQv G z Q) := by
  have hW := hG.1
  have hcl := hG.2.1
  have hty := hG.2.2.1
  have hO : xO G mX12_readGuards tbX12_readGuards ptX12_readGuards := ⟨tkX12_readGuards, pkX12_readGuards hcl⟩
  unfold W_X12_readGuards at H
  refine xC.of hW (by decide) rfl (Nat.le_of_ble_eq_true rfl) ?_
  refine s_iconst (x := 0) (nx := 1) hO rfl (by decide) rfl ?_
  refine goK (H (fun (x1 : Int32) (s2 : yS) => xEx G mX12_readGuards 2 [(0, .ref (q_b G + 139)), (1, .int v1), (2, .int x1)] [] (hS G s2) z 0 0 (yQv G z Q)) (fun x1 s2 H => ?_)) (fun H => ?_)
  · show xEx G mX12_readGuards 2 [(0, .ref (q_b G + 139)), (1, .int v1), (2, .int x1)] [] (hS G s2) z 0 0 (yQv G z Q)
    refine s_aload_n (nx := 3) hO rfl rfl rfl ?_
    refine s_getf (v := .int (sI s2 139 15)) (nx := 6) hO rfl rfl (hs_o12 kc139) rfl rfl ?_
    refine s_if_ne (nx := 9) hO rfl rfl (fun c6 => ?_) (fun c6 => ?_)
    · replace H := H.1 c6
      exact s_vret hO rfl rfl ⟨rfl, _, rfl, rfl, H⟩
    · replace H := H.2 c6
      refine s_aload_n (nx := 10) hO rfl rfl rfl ?_
      refine s_getf (v := .int (sI s2 139 11)) (nx := 13) hO rfl rfl (hs_o12 kc139) rfl rfl ?_
      refine s_if_ne (nx := 16) hO rfl rfl (fun c13 => ?_) (fun c13 => ?_)
      · replace H := H.1 c13
        exact s_vret hO rfl rfl ⟨rfl, _, rfl, rfl, H⟩
      · replace H := H.2 c13
        refine s_iload_n (nx := 17) hO rfl rfl rfl ?_
        refine s_iconst (x := (nI 4)) (nx := 18) hO rfl (by decide) rfl ?_
        refine s_icmp_ne (nx := 21) hO rfl rfl (fun c18 => ?_) (fun c18 => ?_)
        · replace H := H.1 c18
          refine s_aload_n (nx := 32) hO rfl rfl rfl ?_
          refine s_iload_n (nx := 33) hO rfl rfl rfl ?_
          refine s_callV [.int v1] (ci := 12) (F := TX12) (N := 116) (nx := 36) hO rfl kX12_readGuards_428 (by rw [hcl]; rfl) (hs_o12 kc139) (w_X12_readGuard hG H) rfl rfl (Nat.le_of_ble_eq_true rfl) (Nat.zero_le _) (Nat.zero_le _) rfl (k_Qv (fun s3 H => ?_))
          refine goV ((x1 + 1)) (fun x4 ex4 => ?_)
          replace H := H x4 ex4
          refine e_iinc (nx := 39) (l' := [(2, .int x4), (0, .ref (q_b G + 139)), (1, .int v1)]) ex4 hO rfl (by decide) rfl rfl rfl rfl ?_
          refine s_goto hO rfl ?_
          exact xEx.loc (x_sub1 (List.Mem.tail _ (List.Mem.head _)) (x_sub1 (List.Mem.tail _ (List.Mem.tail _ (List.Mem.head _))) (x_sub1 (List.Mem.head _) x_sub0))) H
        · replace H := H.2 c18
          refine s_aload_n (nx := 22) hO rfl rfl rfl ?_
          refine s_iconst (x := (nI 2)) (nx := 23) hO rfl (by decide) rfl ?_
          refine s_aload_n (nx := 24) hO rfl rfl rfl ?_
          refine s_getf (v := .int (sI s2 139 12)) (nx := 27) hO rfl rfl (hs_o12 kc139) rfl rfl ?_
          refine s_callV [.int (nI 2), .int (sI s2 139 12)] (ci := 12) (F := TX12) (N := 116) (nx := 30) hO rfl kX12_readGuards_303 (by rw [hcl]; rfl) (hs_o12 kc139) (w_X12_wrong hG H) rfl rfl (Nat.le_of_ble_eq_true rfl) (Nat.zero_le _) (Nat.zero_le _) rfl (k_Qv (fun s5 H => ?_))
          exact s_vret hO rfl rfl ⟨rfl, _, rfl, rfl, H⟩
  refine s_istore_n (nx := 2) (l' := [(2, .int 0), (0, .ref (q_b G + 139)), (1, .int v1)]) hO rfl (by decide) rfl rfl ?_
  exact xEx.loc (x_sub1 (List.Mem.tail _ (List.Mem.head _)) (x_sub1 (List.Mem.tail _ (List.Mem.tail _ (List.Mem.head _))) (x_sub1 (List.Mem.head _) x_sub0))) H
def W_X12_readCounter (s : yS) (Q : yS → Prop) : Prop :=
 W_X12_next s 
 (fun s1 => ∀ P40 : Int32 → Prop, (∀ (y2 : Int32), (W_X12_must s1 y2 
  (fun r3 s4 => ((¬ r3 = 0 → vp_in (sI s4 139 19) 6 ∧ ∀ s6 : yS, s6 = wJ s4 144 (ix (sI s4 139 19)) (sJ s4 139 13) → 
   W_X12_next s6 
   (fun s7 => ∀ P98 : Int32 → Prop, (∀ (y8 : Int32), (W_X12_must s7 y8 
    (fun r9 s10 => ((¬ r9 = 0 → vp_in (sI s10 139 19) 6 ∧ ∀ s12 : yS, s12 = wI s10 145 (ix (sI s10 139 19)) ((sJ s10 139 14)).toInt32 → 
     ∀ s13 : yS, s13 = wI s12 139 19 ((sI s12 139 19) + 1) → 
     W_X12_next s13 
     (fun s14 => ∀ P135 : Int32 → yS → Prop, (∀ (x15 : Int32) (s16 : yS), (∀ P318 : Prop, ((W_X12_expect s16 1 
       (fun s17 => Q s17)) → P318) → 
      ((¬ (sI s16 139 15) = 0 → P318)
      ∧ ((sI s16 139 15) = 0 → ((¬ (sI s16 139 11) = 0 → P318)
       ∧ ((sI s16 139 11) = 0 → ((¬ x15 = (nI 4) → W_X12_next s16 
         (fun s18 => W_X12_isWord s18 (y_nm y_w345 0) 
         (fun r19 => ∀ P194 : Int32 → Prop, (∀ (y20 : Int32), (W_X12_must s18 y20 
          (fun r21 s22 => ((r21 = 0 → P135 x15 s22)
          ∧ (¬ r21 = 0 → vp_in (sI s22 139 25) 24 ∧ ∀ s24 : yS, s24 = wI s22 146 (ix (sI s22 139 25)) ((sI s22 139 19) - 1) → 
           W_X12_isWord s24 (y_nm y_w345 0) 
           (fun r25 => vp_in (sI s24 139 25) 24 ∧ ∀ s27 : yS, s27 = wI s24 147 (ix (sI s24 139 25)) (vp_nar .boolean r25) → 
           W_X12_next s27 
           (fun s28 => W_X12_readCall s28 
           (fun r29 s30 => vp_in (sI s28 139 25) 24 ∧ ∀ s32 : yS, s32 = wI s30 148 (ix (sI s28 139 25)) r29 → 
           vp_in (sI s32 139 25) 24 ∧ ∀ s34 : yS, s34 = wI s32 149 (ix (sI s32 139 25)) (sI s32 139 41) → 
           vp_in (sI s34 139 25) 24 ∧ 
           W_X12_readGuards s34 (sI s34 148 (ix (sI s34 139 25))) 
           (fun s36 => vp_in (sI s36 139 25) 24 ∧ 
           vp_in (sI s36 139 25) 24 ∧ ∀ s39 : yS, s39 = wI s36 150 (ix (sI s36 139 25)) ((sI s36 139 41) - (sI s36 149 (ix (sI s36 139 25)))) → 
           ∀ s40 : yS, s40 = wI s39 139 25 ((sI s39 139 25) + 1) → 
           ∀ x41 : Int32, x41 = (x15 + 1) → 
           W_X12_expect s40 1 
           (fun s42 => P135 x41 s42))))))))) → P194 y20) → 
         ((¬ r19 = 0 → P194 1)
         ∧ (r19 = 0 → W_X12_isWord s18 (y_nm y_w347 0) 
          (fun r43 => ((r43 = 0 → P194 0)
          ∧ (¬ r43 = 0 → P194 1))))))))
        ∧ (x15 = (nI 4) → W_X12_wrong s16 (nI 2) (sI s16 139 12) 
         (fun s44 => Q s44)))))))) → P135 x15 s16) → 
     P135 0 s14))
    ∧ (r9 = 0 → Q s10)))) → P98 y8) → 
   ((¬ (sI s7 139 11) = (nI 3) → P98 0)
   ∧ ((sI s7 139 11) = (nI 3) → (((lg_cmp (sJ s7 139 14) 0) ≤ 0 → P98 0)
    ∧ (¬ (lg_cmp (sJ s7 139 14) 0) ≤ 0 → ((0 ≤ (lg_cmp (sJ s7 139 14) ((16))) → P98 0)
     ∧ (¬ 0 ≤ (lg_cmp (sJ s7 139 14) ((16))) → P98 1))))))))
  ∧ (r3 = 0 → Q s4)))) → P40 y2) → 
 ((¬ (sI s1 139 11) = (nI 2) → P40 0)
 ∧ ((sI s1 139 11) = (nI 2) → W_X12_isReserved s1 
  (fun r45 => ((¬ r45 = 0 → P40 0)
  ∧ (r45 = 0 → W_X12_isOld s1 144 6 (sI s1 139 19) 
   (fun r46 => ((¬ r46 = 0 → P40 0)
   ∧ (r46 = 0 → P40 1)))))))))
set_option maxRecDepth 100000 in
set_option maxHeartbeats 40000000 in
theorem w_X12_readCounter {G : xG} (hG : yG G) {z : Nat} {s : yS} {Q : yS → Prop} (H : W_X12_readCounter s Q) : xC G mX12_readCounter [.ref (q_b G + 139)] (hS G s) z 0 0 (yQv G z Q) := by
  have hW := hG.1
  have hcl := hG.2.1
  have hty := hG.2.2.1
  obtain ⟨q, v, hws⟩ := hG.2.2.2.2.2
  have hO : xO G mX12_readCounter tbX12_readCounter ptX12_readCounter := ⟨tkX12_readCounter, pkX12_readCounter hcl⟩
  unfold W_X12_readCounter at H
  refine xC.of hW (by decide) rfl (Nat.le_of_ble_eq_true rfl) ?_
  refine s_aload_n (nx := 1) hO rfl rfl rfl ?_
  refine s_callV [] (ci := 12) (F := TX12) (N := 116) (nx := 4) hO rfl kX12_readCounter_371 (by rw [hcl]; rfl) (hs_o12 kc139) (w_X12_next hG H) rfl rfl (Nat.le_of_ble_eq_true rfl) (Nat.zero_le _) (Nat.zero_le _) rfl (k_Qv (fun s1 H => ?_))
  refine s_aload_n (nx := 5) hO rfl rfl rfl ?_
  refine s_aload_n (nx := 6) hO rfl rfl rfl ?_
  refine s_getf (v := .int (sI s1 139 11)) (nx := 9) hO rfl rfl (hs_o12 kc139) rfl rfl ?_
  refine s_iconst (x := (nI 2)) (nx := 10) hO rfl (by decide) rfl ?_
  refine goK (H (fun (y2 : Int32) => xEx G mX12_readCounter 40 [(0, .ref (q_b G + 139))] [.int y2, .ref (q_b G + 139)] (hS G s1) z 0 0 (yQv G z Q)) (fun y2 H => ?_)) (fun H => ?_)
  · show xEx G mX12_readCounter 40 [(0, .ref (q_b G + 139))] [.int y2, .ref (q_b G + 139)] (hS G s1) z 0 0 (yQv G z Q)
    refine s_callV [.int y2] (ci := 12) (F := TX12) (N := 116) (nx := 43) hO rfl kX12_readCounter_367 (by rw [hcl]; rfl) (hs_o12 kc139) (w_X12_must hG H) rfl rfl (Nat.le_of_ble_eq_true rfl) (Nat.zero_le _) (Nat.zero_le _) rfl (k_Qi (fun r3 s4 H => ?_))
    refine s_if_ne (nx := 46) hO rfl rfl (fun c43 => ?_) (fun c43 => ?_)
    · replace H := H.1 c43
      refine s_aload_n (nx := 48) hO rfl rfl rfl ?_
      refine s_getf (v := .ref (q_b G + 144)) (nx := 51) hO rfl rfl (hs_o12 kc139) rfl rfl ?_
      refine s_aload_n (nx := 52) hO rfl rfl rfl ?_
      refine s_getf (v := .int (sI s4 139 19)) (nx := 55) hO rfl rfl (hs_o12 kc139) rfl rfl ?_
      refine s_aload_n (nx := 56) hO rfl rfl rfl ?_
      refine s_getf (v := .long (sJ s4 139 13)) (nx := 59) hO rfl rfl (hs_o12 kc139) rfl rfl ?_
      obtain ⟨b5, H⟩ := H
      refine goV (wJ s4 144 (ix (sI s4 139 19)) (sJ s4 139 13)) (fun s6 es6 => ?_)
      replace H := H s6 es6
      refine s_last (nx := 60) hO rfl (hs_J kc144) b5 rfl ?_
      refine xEx.at (up_J kc144 es6) ?_
      refine s_aload_n (nx := 61) hO rfl rfl rfl ?_
      refine s_callV [] (ci := 12) (F := TX12) (N := 116) (nx := 64) hO rfl kX12_readCounter_371 (by rw [hcl]; rfl) (hs_o12 kc139) (w_X12_next hG H) rfl rfl (Nat.le_of_ble_eq_true rfl) (Nat.zero_le _) (Nat.zero_le _) rfl (k_Qv (fun s7 H => ?_))
      refine s_aload_n (nx := 65) hO rfl rfl rfl ?_
      refine s_aload_n (nx := 66) hO rfl rfl rfl ?_
      refine s_getf (v := .int (sI s7 139 11)) (nx := 69) hO rfl rfl (hs_o12 kc139) rfl rfl ?_
      refine s_iconst (x := (nI 3)) (nx := 70) hO rfl (by decide) rfl ?_
      refine goK (H (fun (y8 : Int32) => xEx G mX12_readCounter 98 [(0, .ref (q_b G + 139))] [.int y8, .ref (q_b G + 139)] (hS G s7) z 0 0 (yQv G z Q)) (fun y8 H => ?_)) (fun H => ?_)
      · show xEx G mX12_readCounter 98 [(0, .ref (q_b G + 139))] [.int y8, .ref (q_b G + 139)] (hS G s7) z 0 0 (yQv G z Q)
        refine s_callV [.int y8] (ci := 12) (F := TX12) (N := 116) (nx := 101) hO rfl kX12_readCounter_367 (by rw [hcl]; rfl) (hs_o12 kc139) (w_X12_must hG H) rfl rfl (Nat.le_of_ble_eq_true rfl) (Nat.zero_le _) (Nat.zero_le _) rfl (k_Qi (fun r9 s10 H => ?_))
        refine s_if_ne (nx := 104) hO rfl rfl (fun c101 => ?_) (fun c101 => ?_)
        · replace H := H.1 c101
          refine s_aload_n (nx := 106) hO rfl rfl rfl ?_
          refine s_getf (v := .ref (q_b G + 145)) (nx := 109) hO rfl rfl (hs_o12 kc139) rfl rfl ?_
          refine s_aload_n (nx := 110) hO rfl rfl rfl ?_
          refine s_getf (v := .int (sI s10 139 19)) (nx := 113) hO rfl rfl (hs_o12 kc139) rfl rfl ?_
          refine s_aload_n (nx := 114) hO rfl rfl rfl ?_
          refine s_getf (v := .long (sJ s10 139 14)) (nx := 117) hO rfl rfl (hs_o12 kc139) rfl rfl ?_
          refine s_l2i (nx := 118) hO rfl rfl ?_
          obtain ⟨b11, H⟩ := H
          refine goV (wI s10 145 (ix (sI s10 139 19)) ((sJ s10 139 14)).toInt32) (fun s12 es12 => ?_)
          replace H := H s12 es12
          refine s_iast (nx := 119) hO rfl (hs_I kc145) b11 rfl ?_
          refine xEx.at (up_I kc145 es12) ?_
          refine s_aload_n (nx := 120) hO rfl rfl rfl ?_
          refine s_dup (nx := 121) hO rfl rfl rfl ?_
          refine s_getf (v := .int (sI s12 139 19)) (nx := 124) hO rfl rfl (hs_o12 kc139) rfl rfl ?_
          refine s_iconst (x := 1) (nx := 125) hO rfl (by decide) rfl ?_
          refine s_iadd (nx := 126) hO rfl rfl ?_
          refine goV (wI s12 139 19 ((sI s12 139 19) + 1)) (fun s13 es13 => ?_)
          replace H := H s13 es13
          refine s_putf (nx := 129) hO rfl rfl (hs_o12 kc139) (Nat.le_of_ble_eq_true rfl) (by rw [hty]; rfl) (by rw [hty]; rfl) pX12_19 rfl ?_
          refine xEx.at (up_oI12 kc139 es13) ?_
          refine s_aload_n (nx := 130) hO rfl rfl rfl ?_
          refine s_callV [] (ci := 12) (F := TX12) (N := 116) (nx := 133) hO rfl kX12_readCounter_371 (by rw [hcl]; rfl) (hs_o12 kc139) (w_X12_next hG H) rfl rfl (Nat.le_of_ble_eq_true rfl) (Nat.zero_le _) (Nat.zero_le _) rfl (k_Qv (fun s14 H => ?_))
          refine s_iconst (x := 0) (nx := 134) hO rfl (by decide) rfl ?_
          refine goK (H (fun (x15 : Int32) (s16 : yS) => xEx G mX12_readCounter 135 [(0, .ref (q_b G + 139)), (1, .int x15)] [] (hS G s16) z 0 0 (yQv G z Q)) (fun x15 s16 H => ?_)) (fun H => ?_)
          · show xEx G mX12_readCounter 135 [(0, .ref (q_b G + 139)), (1, .int x15)] [] (hS G s16) z 0 0 (yQv G z Q)
            refine s_aload_n (nx := 136) hO rfl rfl rfl ?_
            refine s_getf (v := .int (sI s16 139 15)) (nx := 139) hO rfl rfl (hs_o12 kc139) rfl rfl ?_
            refine goK (H (xEx G mX12_readCounter 318 [(0, .ref (q_b G + 139))] [] (hS G s16) z 0 0 (yQv G z Q)) (fun H => ?_)) (fun H => ?_)
            · show xEx G mX12_readCounter 318 [(0, .ref (q_b G + 139))] [] (hS G s16) z 0 0 (yQv G z Q)
              refine s_aload_n (nx := 319) hO rfl rfl rfl ?_
              refine s_iconst (x := 1) (nx := 320) hO rfl (by decide) rfl ?_
              refine s_callV [.int 1] (ci := 12) (F := TX12) (N := 116) (nx := 323) hO rfl kX12_readCounter_417 (by rw [hcl]; rfl) (hs_o12 kc139) (w_X12_expect hG H) rfl rfl (Nat.le_of_ble_eq_true rfl) (Nat.zero_le _) (Nat.zero_le _) rfl (k_Qv (fun s17 H => ?_))
              exact s_vret hO rfl rfl ⟨rfl, _, rfl, rfl, H⟩
            refine s_if_ne (nx := 142) hO rfl rfl (fun c139 => ?_) (fun c139 => ?_)
            · replace H := H.1 c139
              exact xEx.loc (x_sub1 (List.Mem.head _) x_sub0) H
            · replace H := H.2 c139
              refine s_aload_n (nx := 143) hO rfl rfl rfl ?_
              refine s_getf (v := .int (sI s16 139 11)) (nx := 146) hO rfl rfl (hs_o12 kc139) rfl rfl ?_
              refine s_if_ne (nx := 149) hO rfl rfl (fun c146 => ?_) (fun c146 => ?_)
              · replace H := H.1 c146
                exact xEx.loc (x_sub1 (List.Mem.head _) x_sub0) H
              · replace H := H.2 c146
                refine s_iload_n (nx := 150) hO rfl rfl rfl ?_
                refine s_iconst (x := (nI 4)) (nx := 151) hO rfl (by decide) rfl ?_
                refine s_icmp_ne (nx := 154) hO rfl rfl (fun c151 => ?_) (fun c151 => ?_)
                · replace H := H.1 c151
                  refine s_aload_n (nx := 165) hO rfl rfl rfl ?_
                  refine s_callV [] (ci := 12) (F := TX12) (N := 116) (nx := 168) hO rfl kX12_readCounter_371 (by rw [hcl]; rfl) (hs_o12 kc139) (w_X12_next hG H) rfl rfl (Nat.le_of_ble_eq_true rfl) (Nat.zero_le _) (Nat.zero_le _) rfl (k_Qv (fun s18 H => ?_))
                  refine s_aload_n (nx := 169) hO rfl rfl rfl ?_
                  refine s_aload_n (nx := 170) hO rfl rfl rfl ?_
                  refine s_ldcwS (nx := 173) hws.2.2.1 hO rfl rfl ?_
                  refine s_callV [.ref (q 345)] (ci := 12) (F := TX12) (N := 116) (nx := 176) hO rfl kX12_readCounter_341 (by rw [hcl]; rfl) (hs_o12 kc139) (w_X12_isWord hG hws.2.2.2.1 H) rfl rfl (Nat.le_of_ble_eq_true rfl) (Nat.zero_le _) (Nat.zero_le _) rfl (k_Pi (fun r19 H => ?_))
                  refine goK (H (fun (y20 : Int32) => xEx G mX12_readCounter 194 [(0, .ref (q_b G + 139)), (1, .int x15)] [.int y20, .ref (q_b G + 139)] (hS G s18) z 0 0 (yQv G z Q)) (fun y20 H => ?_)) (fun H => ?_)
                  · show xEx G mX12_readCounter 194 [(0, .ref (q_b G + 139)), (1, .int x15)] [.int y20, .ref (q_b G + 139)] (hS G s18) z 0 0 (yQv G z Q)
                    refine s_callV [.int y20] (ci := 12) (F := TX12) (N := 116) (nx := 197) hO rfl kX12_readCounter_367 (by rw [hcl]; rfl) (hs_o12 kc139) (w_X12_must hG H) rfl rfl (Nat.le_of_ble_eq_true rfl) (Nat.zero_le _) (Nat.zero_le _) rfl (k_Qi (fun r21 s22 H => ?_))
                    refine s_if_eq (nx := 200) hO rfl rfl (fun c197 => ?_) (fun c197 => ?_)
                    · replace H := H.1 c197
                      exact xEx.loc (x_sub1 (List.Mem.head _) (x_sub1 (List.Mem.tail _ (List.Mem.head _)) x_sub0)) H
                    · replace H := H.2 c197
                      refine s_aload_n (nx := 201) hO rfl rfl rfl ?_
                      refine s_getf (v := .ref (q_b G + 146)) (nx := 204) hO rfl rfl (hs_o12 kc139) rfl rfl ?_
                      refine s_aload_n (nx := 205) hO rfl rfl rfl ?_
                      refine s_getf (v := .int (sI s22 139 25)) (nx := 208) hO rfl rfl (hs_o12 kc139) rfl rfl ?_
                      refine s_aload_n (nx := 209) hO rfl rfl rfl ?_
                      refine s_getf (v := .int (sI s22 139 19)) (nx := 212) hO rfl rfl (hs_o12 kc139) rfl rfl ?_
                      refine s_iconst (x := 1) (nx := 213) hO rfl (by decide) rfl ?_
                      refine s_isub (nx := 214) hO rfl rfl ?_
                      obtain ⟨b23, H⟩ := H
                      refine goV (wI s22 146 (ix (sI s22 139 25)) ((sI s22 139 19) - 1)) (fun s24 es24 => ?_)
                      replace H := H s24 es24
                      refine s_iast (nx := 215) hO rfl (hs_I kc146) b23 rfl ?_
                      refine xEx.at (up_I kc146 es24) ?_
                      refine s_aload_n (nx := 216) hO rfl rfl rfl ?_
                      refine s_getf (v := .ref (q_b G + 147)) (nx := 219) hO rfl rfl (hs_o12 kc139) rfl rfl ?_
                      refine s_aload_n (nx := 220) hO rfl rfl rfl ?_
                      refine s_getf (v := .int (sI s24 139 25)) (nx := 223) hO rfl rfl (hs_o12 kc139) rfl rfl ?_
                      refine s_aload_n (nx := 224) hO rfl rfl rfl ?_
                      refine s_ldcwS (nx := 227) hws.2.2.1 hO rfl rfl ?_
                      refine s_callV [.ref (q 345)] (ci := 12) (F := TX12) (N := 116) (nx := 230) hO rfl kX12_readCounter_341 (by rw [hcl]; rfl) (hs_o12 kc139) (w_X12_isWord hG hws.2.2.2.1 H) rfl rfl (Nat.le_of_ble_eq_true rfl) (Nat.zero_le _) (Nat.zero_le _) rfl (k_Pi (fun r25 H => ?_))
                      obtain ⟨b26, H⟩ := H
                      refine goV (wI s24 147 (ix (sI s24 139 25)) (vp_nar .boolean r25)) (fun s27 es27 => ?_)
                      replace H := H s27 es27
                      refine s_zast (nx := 231) hO rfl (hs_Z kc147) b26 rfl ?_
                      refine xEx.at (up_Z kc147 es27) ?_
                      refine s_aload_n (nx := 232) hO rfl rfl rfl ?_
                      refine s_callV [] (ci := 12) (F := TX12) (N := 116) (nx := 235) hO rfl kX12_readCounter_371 (by rw [hcl]; rfl) (hs_o12 kc139) (w_X12_next hG H) rfl rfl (Nat.le_of_ble_eq_true rfl) (Nat.zero_le _) (Nat.zero_le _) rfl (k_Qv (fun s28 H => ?_))
                      refine s_aload_n (nx := 236) hO rfl rfl rfl ?_
                      refine s_getf (v := .ref (q_b G + 148)) (nx := 239) hO rfl rfl (hs_o12 kc139) rfl rfl ?_
                      refine s_aload_n (nx := 240) hO rfl rfl rfl ?_
                      refine s_getf (v := .int (sI s28 139 25)) (nx := 243) hO rfl rfl (hs_o12 kc139) rfl rfl ?_
                      refine s_aload_n (nx := 244) hO rfl rfl rfl ?_
                      refine s_callV [] (ci := 12) (F := TX12) (N := 116) (nx := 247) hO rfl kX12_readCounter_411 (by rw [hcl]; rfl) (hs_o12 kc139) (w_X12_readCall hG H) rfl rfl (Nat.le_of_ble_eq_true rfl) (Nat.zero_le _) (Nat.zero_le _) rfl (k_Qi (fun r29 s30 H => ?_))
                      obtain ⟨b31, H⟩ := H
                      refine goV (wI s30 148 (ix (sI s28 139 25)) r29) (fun s32 es32 => ?_)
                      replace H := H s32 es32
                      refine s_iast (nx := 248) hO rfl (hs_I kc148) b31 rfl ?_
                      refine xEx.at (up_I kc148 es32) ?_
                      refine s_aload_n (nx := 249) hO rfl rfl rfl ?_
                      refine s_getf (v := .ref (q_b G + 149)) (nx := 252) hO rfl rfl (hs_o12 kc139) rfl rfl ?_
                      refine s_aload_n (nx := 253) hO rfl rfl rfl ?_
                      refine s_getf (v := .int (sI s32 139 25)) (nx := 256) hO rfl rfl (hs_o12 kc139) rfl rfl ?_
                      refine s_aload_n (nx := 257) hO rfl rfl rfl ?_
                      refine s_getf (v := .int (sI s32 139 41)) (nx := 260) hO rfl rfl (hs_o12 kc139) rfl rfl ?_
                      obtain ⟨b33, H⟩ := H
                      refine goV (wI s32 149 (ix (sI s32 139 25)) (sI s32 139 41)) (fun s34 es34 => ?_)
                      replace H := H s34 es34
                      refine s_iast (nx := 261) hO rfl (hs_I kc149) b33 rfl ?_
                      refine xEx.at (up_I kc149 es34) ?_
                      refine s_aload_n (nx := 262) hO rfl rfl rfl ?_
                      refine s_aload_n (nx := 263) hO rfl rfl rfl ?_
                      refine s_getf (v := .ref (q_b G + 148)) (nx := 266) hO rfl rfl (hs_o12 kc139) rfl rfl ?_
                      refine s_aload_n (nx := 267) hO rfl rfl rfl ?_
                      refine s_getf (v := .int (sI s34 139 25)) (nx := 270) hO rfl rfl (hs_o12 kc139) rfl rfl ?_
                      obtain ⟨b35, H⟩ := H
                      refine s_iald (nx := 271) hO rfl (hs_I kc148) b35 rfl ?_
                      refine s_callV [.int (sI s34 148 (ix (sI s34 139 25)))] (ci := 12) (F := TX12) (N := 116) (nx := 274) hO rfl kX12_readCounter_414 (by rw [hcl]; rfl) (hs_o12 kc139) (w_X12_readGuards hG H) rfl rfl (Nat.le_of_ble_eq_true rfl) (Nat.zero_le _) (Nat.zero_le _) rfl (k_Qv (fun s36 H => ?_))
                      refine s_aload_n (nx := 275) hO rfl rfl rfl ?_
                      refine s_getf (v := .ref (q_b G + 150)) (nx := 278) hO rfl rfl (hs_o12 kc139) rfl rfl ?_
                      refine s_aload_n (nx := 279) hO rfl rfl rfl ?_
                      refine s_getf (v := .int (sI s36 139 25)) (nx := 282) hO rfl rfl (hs_o12 kc139) rfl rfl ?_
                      refine s_aload_n (nx := 283) hO rfl rfl rfl ?_
                      refine s_getf (v := .int (sI s36 139 41)) (nx := 286) hO rfl rfl (hs_o12 kc139) rfl rfl ?_
                      refine s_aload_n (nx := 287) hO rfl rfl rfl ?_
                      refine s_getf (v := .ref (q_b G + 149)) (nx := 290) hO rfl rfl (hs_o12 kc139) rfl rfl ?_
                      refine s_aload_n (nx := 291) hO rfl rfl rfl ?_
                      refine s_getf (v := .int (sI s36 139 25)) (nx := 294) hO rfl rfl (hs_o12 kc139) rfl rfl ?_
                      obtain ⟨b37, H⟩ := H
                      refine s_iald (nx := 295) hO rfl (hs_I kc149) b37 rfl ?_
                      refine s_isub (nx := 296) hO rfl rfl ?_
                      obtain ⟨b38, H⟩ := H
                      refine goV (wI s36 150 (ix (sI s36 139 25)) ((sI s36 139 41) - (sI s36 149 (ix (sI s36 139 25))))) (fun s39 es39 => ?_)
                      replace H := H s39 es39
                      refine s_iast (nx := 297) hO rfl (hs_I kc150) b38 rfl ?_
                      refine xEx.at (up_I kc150 es39) ?_
                      refine s_aload_n (nx := 298) hO rfl rfl rfl ?_
                      refine s_dup (nx := 299) hO rfl rfl rfl ?_
                      refine s_getf (v := .int (sI s39 139 25)) (nx := 302) hO rfl rfl (hs_o12 kc139) rfl rfl ?_
                      refine s_iconst (x := 1) (nx := 303) hO rfl (by decide) rfl ?_
                      refine s_iadd (nx := 304) hO rfl rfl ?_
                      refine goV (wI s39 139 25 ((sI s39 139 25) + 1)) (fun s40 es40 => ?_)
                      replace H := H s40 es40
                      refine s_putf (nx := 307) hO rfl rfl (hs_o12 kc139) (Nat.le_of_ble_eq_true rfl) (by rw [hty]; rfl) (by rw [hty]; rfl) pX12_25 rfl ?_
                      refine xEx.at (up_oI12 kc139 es40) ?_
                      refine goV ((x15 + 1)) (fun x41 ex41 => ?_)
                      replace H := H x41 ex41
                      refine e_iinc (nx := 310) (l' := [(1, .int x41), (0, .ref (q_b G + 139))]) ex41 hO rfl (by decide) rfl rfl rfl rfl ?_
                      refine s_aload_n (nx := 311) hO rfl rfl rfl ?_
                      refine s_iconst (x := 1) (nx := 312) hO rfl (by decide) rfl ?_
                      refine s_callV [.int 1] (ci := 12) (F := TX12) (N := 116) (nx := 315) hO rfl kX12_readCounter_417 (by rw [hcl]; rfl) (hs_o12 kc139) (w_X12_expect hG H) rfl rfl (Nat.le_of_ble_eq_true rfl) (Nat.zero_le _) (Nat.zero_le _) rfl (k_Qv (fun s42 H => ?_))
                      refine s_goto hO rfl ?_
                      exact xEx.loc (x_sub1 (List.Mem.tail _ (List.Mem.head _)) (x_sub1 (List.Mem.head _) x_sub0)) H
                  refine s_if_ne (nx := 179) hO rfl rfl (fun c176 => ?_) (fun c176 => ?_)
                  · replace H := H.1 c176
                    refine s_iconst (x := 1) (nx := 190) hO rfl (by decide) rfl ?_
                    refine s_goto hO rfl ?_
                    exact xEx.loc (x_sub1 (List.Mem.head _) (x_sub1 (List.Mem.tail _ (List.Mem.head _)) x_sub0)) H
                  · replace H := H.2 c176
                    refine s_aload_n (nx := 180) hO rfl rfl rfl ?_
                    refine s_ldcwS (nx := 183) hws.2.2.2.2.1 hO rfl rfl ?_
                    refine s_callV [.ref (q 347)] (ci := 12) (F := TX12) (N := 116) (nx := 186) hO rfl kX12_readCounter_341 (by rw [hcl]; rfl) (hs_o12 kc139) (w_X12_isWord hG hws.2.2.2.2.2.1 H) rfl rfl (Nat.le_of_ble_eq_true rfl) (Nat.zero_le _) (Nat.zero_le _) rfl (k_Pi (fun r43 H => ?_))
                    refine s_if_eq (nx := 189) hO rfl rfl (fun c186 => ?_) (fun c186 => ?_)
                    · replace H := H.1 c186
                      refine s_iconst (x := 0) (nx := 194) hO rfl (by decide) rfl ?_
                      exact xEx.loc (x_sub1 (List.Mem.head _) (x_sub1 (List.Mem.tail _ (List.Mem.head _)) x_sub0)) H
                    · replace H := H.2 c186
                      refine s_iconst (x := 1) (nx := 190) hO rfl (by decide) rfl ?_
                      refine s_goto hO rfl ?_
                      exact xEx.loc (x_sub1 (List.Mem.head _) (x_sub1 (List.Mem.tail _ (List.Mem.head _)) x_sub0)) H
                · replace H := H.2 c151
                  refine s_aload_n (nx := 155) hO rfl rfl rfl ?_
                  refine s_iconst (x := (nI 2)) (nx := 156) hO rfl (by decide) rfl ?_
                  refine s_aload_n (nx := 157) hO rfl rfl rfl ?_
                  refine s_getf (v := .int (sI s16 139 12)) (nx := 160) hO rfl rfl (hs_o12 kc139) rfl rfl ?_
                  refine s_callV [.int (nI 2), .int (sI s16 139 12)] (ci := 12) (F := TX12) (N := 116) (nx := 163) hO rfl kX12_readCounter_303 (by rw [hcl]; rfl) (hs_o12 kc139) (w_X12_wrong hG H) rfl rfl (Nat.le_of_ble_eq_true rfl) (Nat.zero_le _) (Nat.zero_le _) rfl (k_Qv (fun s44 H => ?_))
                  exact s_vret hO rfl rfl ⟨rfl, _, rfl, rfl, H⟩
          refine s_istore_n (nx := 135) (l' := [(1, .int 0), (0, .ref (q_b G + 139))]) hO rfl (by decide) rfl rfl ?_
          exact xEx.loc (x_sub1 (List.Mem.tail _ (List.Mem.head _)) (x_sub1 (List.Mem.head _) x_sub0)) H
        · replace H := H.2 c101
          exact s_vret hO rfl rfl ⟨rfl, _, rfl, rfl, H⟩
      refine s_icmp_ne (nx := 73) hO rfl rfl (fun c70 => ?_) (fun c70 => ?_)
      · replace H := H.1 c70
        refine s_iconst (x := 0) (nx := 98) hO rfl (by decide) rfl ?_
        exact xEx.loc (x_sub1 (List.Mem.head _) x_sub0) H
      · replace H := H.2 c70
        refine s_aload_n (nx := 74) hO rfl rfl rfl ?_
        refine s_getf (v := .long (sJ s7 139 14)) (nx := 77) hO rfl rfl (hs_o12 kc139) rfl rfl ?_
        refine s_lconst (x := 0) (nx := 78) hO rfl (by decide) rfl ?_
        refine s_lcmp (nx := 79) hO rfl rfl ?_
        refine s_if_le (nx := 82) hO rfl rfl (fun c79 => ?_) (fun c79 => ?_)
        · replace H := H.1 c79
          refine s_iconst (x := 0) (nx := 98) hO rfl (by decide) rfl ?_
          exact xEx.loc (x_sub1 (List.Mem.head _) x_sub0) H
        · replace H := H.2 c79
          refine s_aload_n (nx := 83) hO rfl rfl rfl ?_
          refine s_getf (v := .long (sJ s7 139 14)) (nx := 86) hO rfl rfl (hs_o12 kc139) rfl rfl ?_
          refine s_ldc2_w (x := ((16))) (nx := 89) hO rfl rfl rfl ?_
          refine s_lcmp (nx := 90) hO rfl rfl ?_
          refine s_if_ge (nx := 93) hO rfl rfl (fun c90 => ?_) (fun c90 => ?_)
          · replace H := H.1 c90
            refine s_iconst (x := 0) (nx := 98) hO rfl (by decide) rfl ?_
            exact xEx.loc (x_sub1 (List.Mem.head _) x_sub0) H
          · replace H := H.2 c90
            refine s_iconst (x := 1) (nx := 94) hO rfl (by decide) rfl ?_
            refine s_goto hO rfl ?_
            exact xEx.loc (x_sub1 (List.Mem.head _) x_sub0) H
    · replace H := H.2 c43
      exact s_vret hO rfl rfl ⟨rfl, _, rfl, rfl, H⟩
  refine s_icmp_ne (nx := 13) hO rfl rfl (fun c10 => ?_) (fun c10 => ?_)
  · replace H := H.1 c10
    refine s_iconst (x := 0) (nx := 40) hO rfl (by decide) rfl ?_
    exact xEx.loc (x_sub1 (List.Mem.head _) x_sub0) H
  · replace H := H.2 c10
    refine s_aload_n (nx := 14) hO rfl rfl rfl ?_
    refine s_callV [] (ci := 12) (F := TX12) (N := 116) (nx := 17) hO rfl kX12_readCounter_401 (by rw [hcl]; rfl) (hs_o12 kc139) (w_X12_isReserved hG H) rfl rfl (Nat.le_of_ble_eq_true rfl) (Nat.zero_le _) (Nat.zero_le _) rfl (k_Pi (fun r45 H => ?_))
    refine s_if_ne (nx := 20) hO rfl rfl (fun c17 => ?_) (fun c17 => ?_)
    · replace H := H.1 c17
      refine s_iconst (x := 0) (nx := 40) hO rfl (by decide) rfl ?_
      exact xEx.loc (x_sub1 (List.Mem.head _) x_sub0) H
    · replace H := H.2 c17
      refine s_aload_n (nx := 21) hO rfl rfl rfl ?_
      refine s_aload_n (nx := 22) hO rfl rfl rfl ?_
      refine s_getf (v := .ref (q_b G + 144)) (nx := 25) hO rfl rfl (hs_o12 kc139) rfl rfl ?_
      refine s_aload_n (nx := 26) hO rfl rfl rfl ?_
      refine s_getf (v := .int (sI s1 139 19)) (nx := 29) hO rfl rfl (hs_o12 kc139) rfl rfl ?_
      refine s_callV [.ref (q_b G + 144), .int (sI s1 139 19)] (ci := 12) (F := TX12) (N := 116) (nx := 32) hO rfl kX12_readCounter_405 (by rw [hcl]; rfl) (hs_o12 kc139) (w_X12_isOld hG kc144 H) rfl rfl (Nat.le_of_ble_eq_true rfl) (Nat.zero_le _) (Nat.zero_le _) rfl (k_Pi (fun r46 H => ?_))
      refine s_if_ne (nx := 35) hO rfl rfl (fun c32 => ?_) (fun c32 => ?_)
      · replace H := H.1 c32
        refine s_iconst (x := 0) (nx := 40) hO rfl (by decide) rfl ?_
        exact xEx.loc (x_sub1 (List.Mem.head _) x_sub0) H
      · replace H := H.2 c32
        refine s_iconst (x := 1) (nx := 36) hO rfl (by decide) rfl ?_
        refine s_goto hO rfl ?_
        exact xEx.loc (x_sub1 (List.Mem.head _) x_sub0) H
def W_X12_expectWord (s : yS) (w1 : Int64) (Q : yS → Prop) : Prop :=
 W_X12_isWord s w1 
 (fun r1 => W_X12_must s r1 
 (fun r2 s3 => ((r2 = 0 → Q s3)
 ∧ (¬ r2 = 0 → W_X12_next s3 
  (fun s4 => Q s4)))))
set_option maxRecDepth 100000 in
set_option maxHeartbeats 40000000 in
theorem w_X12_expectWord {G : xG} (hG : yG G) {z : Nat} {s : yS} {q1 j1 : Nat} {b1 : List Int32} {Q : yS → Prop} (ho1 : y_S G q1 j1 b1) (H : W_X12_expectWord s (y_nm b1 0) Q) : xC G mX12_expectWord [.ref (q_b G + 139), .ref q1] (hS G s) z 0 0 (yQv G z Q) := by
  have hW := hG.1
  have hcl := hG.2.1
  have hty := hG.2.2.1
  have hO : xO G mX12_expectWord tbX12_expectWord ptX12_expectWord := ⟨tkX12_expectWord, pkX12_expectWord hcl⟩
  unfold W_X12_expectWord at H
  refine xC.of hW (by decide) rfl (Nat.le_of_ble_eq_true rfl) ?_
  refine s_aload_n (nx := 1) hO rfl rfl rfl ?_
  refine s_aload_n (nx := 2) hO rfl rfl rfl ?_
  refine s_aload_n (nx := 3) hO rfl rfl rfl ?_
  refine s_callV [.ref q1] (ci := 12) (F := TX12) (N := 116) (nx := 6) hO rfl kX12_expectWord_341 (by rw [hcl]; rfl) (hs_o12 kc139) (w_X12_isWord hG ho1 H) rfl rfl (Nat.le_of_ble_eq_true rfl) (Nat.zero_le _) (Nat.zero_le _) rfl (k_Pi (fun r1 H => ?_))
  refine s_callV [.int r1] (ci := 12) (F := TX12) (N := 116) (nx := 9) hO rfl kX12_expectWord_367 (by rw [hcl]; rfl) (hs_o12 kc139) (w_X12_must hG H) rfl rfl (Nat.le_of_ble_eq_true rfl) (Nat.zero_le _) (Nat.zero_le _) rfl (k_Qi (fun r2 s3 H => ?_))
  refine s_if_eq (nx := 12) hO rfl rfl (fun c9 => ?_) (fun c9 => ?_)
  · replace H := H.1 c9
    exact s_vret hO rfl rfl ⟨rfl, _, rfl, rfl, H⟩
  · replace H := H.2 c9
    refine s_aload_n (nx := 13) hO rfl rfl rfl ?_
    refine s_callV [] (ci := 12) (F := TX12) (N := 116) (nx := 16) hO rfl kX12_expectWord_371 (by rw [hcl]; rfl) (hs_o12 kc139) (w_X12_next hG H) rfl rfl (Nat.le_of_ble_eq_true rfl) (Nat.zero_le _) (Nat.zero_le _) rfl (k_Qv (fun s4 H => ?_))
    exact s_vret hO rfl rfl ⟨rfl, _, rfl, rfl, H⟩
def W_X12_readNode (s : yS) (Q : yS → Prop) : Prop :=
 W_X12_next s 
 (fun s1 => ∀ P40 : Int32 → Prop, (∀ (y2 : Int32), (W_X12_must s1 y2 
  (fun r3 s4 => ((¬ r3 = 0 → vp_in (sI s4 139 27) 24 ∧ ∀ s6 : yS, s6 = wJ s4 151 (ix (sI s4 139 27)) (sJ s4 139 13) → 
   ∀ s7 : yS, s7 = wI s6 139 27 ((sI s6 139 27) + 1) → 
   W_X12_next s7 
   (fun s8 => ∀ P76 : Int32 → yS → Prop, (∀ (x9 : Int32) (s10 : yS), (∀ P257 : Prop, ((W_X12_expect s10 1 
     (fun s11 => Q s11)) → P257) → 
    ((¬ (sI s10 139 15) = 0 → P257)
    ∧ ((sI s10 139 15) = 0 → ((¬ (sI s10 139 11) = 0 → P257)
     ∧ ((sI s10 139 11) = 0 → ((¬ x9 = (nI 8) → W_X12_next s10 
       (fun s12 => W_X12_expectWord s12 (y_nm y_w351 0) 
       (fun s13 => W_X12_readCall s13 
       (fun r14 s15 => ∀ x16 : Int32, x16 = (sI s15 139 41) → 
       W_X12_readGuards s15 r14 
       (fun s17 => ∀ P153 : Int32 → Prop, (∀ (y18 : Int32), (W_X12_must s17 y18 
        (fun r19 s20 => ((r19 = 0 → P76 x9 s20)
        ∧ (¬ r19 = 0 → vp_in (sI s20 139 34) 192 ∧ ∀ s22 : yS, s22 = wI s20 152 (ix (sI s20 139 34)) ((sI s20 139 27) - 1) → 
         vp_in (sI s22 139 34) 192 ∧ ∀ s24 : yS, s24 = wI s22 153 (ix (sI s22 139 34)) r14 → 
         vp_in (sI s24 139 34) 192 ∧ ∀ s26 : yS, s26 = wI s24 154 (ix (sI s24 139 34)) x16 → 
         vp_in (sI s26 139 34) 192 ∧ ∀ s28 : yS, s28 = wI s26 155 (ix (sI s26 139 34)) ((sI s26 139 41) - x16) → 
         vp_in (sI s28 139 34) 192 ∧ ∀ s30 : yS, s30 = wJ s28 156 (ix (sI s28 139 34)) (sJ s28 139 13) → 
         W_X12_look s30 1 (sI s30 139 34) 0 
         (fun s31 => ∀ s32 : yS, s32 = wI s31 139 34 ((sI s31 139 34) + 1) → 
         ∀ x33 : Int32, x33 = (x9 + 1) → 
         W_X12_next s32 
         (fun s34 => W_X12_expect s34 1 
         (fun s35 => P76 x33 s35))))))) → P153 y18) → 
       ((¬ (sI s17 139 11) = (nI 2) → P153 0)
       ∧ ((sI s17 139 11) = (nI 2) → W_X12_isReserved s17 
        (fun r36 => ((¬ r36 = 0 → P153 0)
        ∧ (r36 = 0 → P153 1))))))))))
      ∧ (x9 = (nI 8) → W_X12_wrong s10 (nI 2) (sI s10 139 12) 
       (fun s37 => Q s37)))))))) → P76 x9 s10) → 
   P76 0 s8))
  ∧ (r3 = 0 → Q s4)))) → P40 y2) → 
 ((¬ (sI s1 139 11) = (nI 2) → P40 0)
 ∧ ((sI s1 139 11) = (nI 2) → W_X12_isReserved s1 
  (fun r38 => ((¬ r38 = 0 → P40 0)
  ∧ (r38 = 0 → W_X12_isOld s1 151 24 (sI s1 139 27) 
   (fun r39 => ((¬ r39 = 0 → P40 0)
   ∧ (r39 = 0 → P40 1)))))))))
set_option maxRecDepth 100000 in
set_option maxHeartbeats 40000000 in
theorem w_X12_readNode {G : xG} (hG : yG G) {z : Nat} {s : yS} {Q : yS → Prop} (H : W_X12_readNode s Q) : xC G mX12_readNode [.ref (q_b G + 139)] (hS G s) z 0 0 (yQv G z Q) := by
  have hW := hG.1
  have hcl := hG.2.1
  have hty := hG.2.2.1
  obtain ⟨q, v, hws⟩ := hG.2.2.2.2.2
  have hO : xO G mX12_readNode tbX12_readNode ptX12_readNode := ⟨tkX12_readNode, pkX12_readNode hcl⟩
  unfold W_X12_readNode at H
  refine xC.of hW (by decide) rfl (Nat.le_of_ble_eq_true rfl) ?_
  refine s_aload_n (nx := 1) hO rfl rfl rfl ?_
  refine s_callV [] (ci := 12) (F := TX12) (N := 116) (nx := 4) hO rfl kX12_readNode_371 (by rw [hcl]; rfl) (hs_o12 kc139) (w_X12_next hG H) rfl rfl (Nat.le_of_ble_eq_true rfl) (Nat.zero_le _) (Nat.zero_le _) rfl (k_Qv (fun s1 H => ?_))
  refine s_aload_n (nx := 5) hO rfl rfl rfl ?_
  refine s_aload_n (nx := 6) hO rfl rfl rfl ?_
  refine s_getf (v := .int (sI s1 139 11)) (nx := 9) hO rfl rfl (hs_o12 kc139) rfl rfl ?_
  refine s_iconst (x := (nI 2)) (nx := 10) hO rfl (by decide) rfl ?_
  refine goK (H (fun (y2 : Int32) => xEx G mX12_readNode 40 [(0, .ref (q_b G + 139))] [.int y2, .ref (q_b G + 139)] (hS G s1) z 0 0 (yQv G z Q)) (fun y2 H => ?_)) (fun H => ?_)
  · show xEx G mX12_readNode 40 [(0, .ref (q_b G + 139))] [.int y2, .ref (q_b G + 139)] (hS G s1) z 0 0 (yQv G z Q)
    refine s_callV [.int y2] (ci := 12) (F := TX12) (N := 116) (nx := 43) hO rfl kX12_readNode_367 (by rw [hcl]; rfl) (hs_o12 kc139) (w_X12_must hG H) rfl rfl (Nat.le_of_ble_eq_true rfl) (Nat.zero_le _) (Nat.zero_le _) rfl (k_Qi (fun r3 s4 H => ?_))
    refine s_if_ne (nx := 46) hO rfl rfl (fun c43 => ?_) (fun c43 => ?_)
    · replace H := H.1 c43
      refine s_aload_n (nx := 48) hO rfl rfl rfl ?_
      refine s_getf (v := .ref (q_b G + 151)) (nx := 51) hO rfl rfl (hs_o12 kc139) rfl rfl ?_
      refine s_aload_n (nx := 52) hO rfl rfl rfl ?_
      refine s_getf (v := .int (sI s4 139 27)) (nx := 55) hO rfl rfl (hs_o12 kc139) rfl rfl ?_
      refine s_aload_n (nx := 56) hO rfl rfl rfl ?_
      refine s_getf (v := .long (sJ s4 139 13)) (nx := 59) hO rfl rfl (hs_o12 kc139) rfl rfl ?_
      obtain ⟨b5, H⟩ := H
      refine goV (wJ s4 151 (ix (sI s4 139 27)) (sJ s4 139 13)) (fun s6 es6 => ?_)
      replace H := H s6 es6
      refine s_last (nx := 60) hO rfl (hs_J kc151) b5 rfl ?_
      refine xEx.at (up_J kc151 es6) ?_
      refine s_aload_n (nx := 61) hO rfl rfl rfl ?_
      refine s_dup (nx := 62) hO rfl rfl rfl ?_
      refine s_getf (v := .int (sI s6 139 27)) (nx := 65) hO rfl rfl (hs_o12 kc139) rfl rfl ?_
      refine s_iconst (x := 1) (nx := 66) hO rfl (by decide) rfl ?_
      refine s_iadd (nx := 67) hO rfl rfl ?_
      refine goV (wI s6 139 27 ((sI s6 139 27) + 1)) (fun s7 es7 => ?_)
      replace H := H s7 es7
      refine s_putf (nx := 70) hO rfl rfl (hs_o12 kc139) (Nat.le_of_ble_eq_true rfl) (by rw [hty]; rfl) (by rw [hty]; rfl) pX12_27 rfl ?_
      refine xEx.at (up_oI12 kc139 es7) ?_
      refine s_aload_n (nx := 71) hO rfl rfl rfl ?_
      refine s_callV [] (ci := 12) (F := TX12) (N := 116) (nx := 74) hO rfl kX12_readNode_371 (by rw [hcl]; rfl) (hs_o12 kc139) (w_X12_next hG H) rfl rfl (Nat.le_of_ble_eq_true rfl) (Nat.zero_le _) (Nat.zero_le _) rfl (k_Qv (fun s8 H => ?_))
      refine s_iconst (x := 0) (nx := 75) hO rfl (by decide) rfl ?_
      refine goK (H (fun (x9 : Int32) (s10 : yS) => xEx G mX12_readNode 76 [(0, .ref (q_b G + 139)), (1, .int x9)] [] (hS G s10) z 0 0 (yQv G z Q)) (fun x9 s10 H => ?_)) (fun H => ?_)
      · show xEx G mX12_readNode 76 [(0, .ref (q_b G + 139)), (1, .int x9)] [] (hS G s10) z 0 0 (yQv G z Q)
        refine s_aload_n (nx := 77) hO rfl rfl rfl ?_
        refine s_getf (v := .int (sI s10 139 15)) (nx := 80) hO rfl rfl (hs_o12 kc139) rfl rfl ?_
        refine goK (H (xEx G mX12_readNode 257 [(0, .ref (q_b G + 139))] [] (hS G s10) z 0 0 (yQv G z Q)) (fun H => ?_)) (fun H => ?_)
        · show xEx G mX12_readNode 257 [(0, .ref (q_b G + 139))] [] (hS G s10) z 0 0 (yQv G z Q)
          refine s_aload_n (nx := 258) hO rfl rfl rfl ?_
          refine s_iconst (x := 1) (nx := 259) hO rfl (by decide) rfl ?_
          refine s_callV [.int 1] (ci := 12) (F := TX12) (N := 116) (nx := 262) hO rfl kX12_readNode_417 (by rw [hcl]; rfl) (hs_o12 kc139) (w_X12_expect hG H) rfl rfl (Nat.le_of_ble_eq_true rfl) (Nat.zero_le _) (Nat.zero_le _) rfl (k_Qv (fun s11 H => ?_))
          exact s_vret hO rfl rfl ⟨rfl, _, rfl, rfl, H⟩
        refine s_if_ne (nx := 83) hO rfl rfl (fun c80 => ?_) (fun c80 => ?_)
        · replace H := H.1 c80
          exact xEx.loc (x_sub1 (List.Mem.head _) x_sub0) H
        · replace H := H.2 c80
          refine s_aload_n (nx := 84) hO rfl rfl rfl ?_
          refine s_getf (v := .int (sI s10 139 11)) (nx := 87) hO rfl rfl (hs_o12 kc139) rfl rfl ?_
          refine s_if_ne (nx := 90) hO rfl rfl (fun c87 => ?_) (fun c87 => ?_)
          · replace H := H.1 c87
            exact xEx.loc (x_sub1 (List.Mem.head _) x_sub0) H
          · replace H := H.2 c87
            refine s_iload_n (nx := 91) hO rfl rfl rfl ?_
            refine s_bipush (x := (nI 8)) (nx := 93) hO rfl (by decide) rfl ?_
            refine s_icmp_ne (nx := 96) hO rfl rfl (fun c93 => ?_) (fun c93 => ?_)
            · replace H := H.1 c93
              refine s_aload_n (nx := 107) hO rfl rfl rfl ?_
              refine s_callV [] (ci := 12) (F := TX12) (N := 116) (nx := 110) hO rfl kX12_readNode_371 (by rw [hcl]; rfl) (hs_o12 kc139) (w_X12_next hG H) rfl rfl (Nat.le_of_ble_eq_true rfl) (Nat.zero_le _) (Nat.zero_le _) rfl (k_Qv (fun s12 H => ?_))
              refine s_aload_n (nx := 111) hO rfl rfl rfl ?_
              refine s_ldcwS (nx := 114) hws.2.2.2.2.2.2.2.2.1 hO rfl rfl ?_
              refine s_callV [.ref (q 351)] (ci := 12) (F := TX12) (N := 116) (nx := 117) hO rfl kX12_readNode_420 (by rw [hcl]; rfl) (hs_o12 kc139) (w_X12_expectWord hG hws.2.2.2.2.2.2.2.2.2.1 H) rfl rfl (Nat.le_of_ble_eq_true rfl) (Nat.zero_le _) (Nat.zero_le _) rfl (k_Qv (fun s13 H => ?_))
              refine s_aload_n (nx := 118) hO rfl rfl rfl ?_
              refine s_callV [] (ci := 12) (F := TX12) (N := 116) (nx := 121) hO rfl kX12_readNode_411 (by rw [hcl]; rfl) (hs_o12 kc139) (w_X12_readCall hG H) rfl rfl (Nat.le_of_ble_eq_true rfl) (Nat.zero_le _) (Nat.zero_le _) rfl (k_Qi (fun r14 s15 H => ?_))
              refine s_istore_n (nx := 122) (l' := [(2, .int r14), (0, .ref (q_b G + 139)), (1, .int x9)]) hO rfl (by decide) rfl rfl ?_
              refine s_aload_n (nx := 123) hO rfl rfl rfl ?_
              refine s_getf (v := .int (sI s15 139 41)) (nx := 126) hO rfl rfl (hs_o12 kc139) rfl rfl ?_
              refine goV ((sI s15 139 41)) (fun x16 ex16 => ?_)
              replace H := H x16 ex16
              refine e_istore_n (nx := 127) (l' := [(3, .int x16), (2, .int r14), (0, .ref (q_b G + 139)), (1, .int x9)]) ex16 hO rfl (by decide) rfl rfl ?_
              refine s_aload_n (nx := 128) hO rfl rfl rfl ?_
              refine s_iload_n (nx := 129) hO rfl rfl rfl ?_
              refine s_callV [.int r14] (ci := 12) (F := TX12) (N := 116) (nx := 132) hO rfl kX12_readNode_414 (by rw [hcl]; rfl) (hs_o12 kc139) (w_X12_readGuards hG H) rfl rfl (Nat.le_of_ble_eq_true rfl) (Nat.zero_le _) (Nat.zero_le _) rfl (k_Qv (fun s17 H => ?_))
              refine s_aload_n (nx := 133) hO rfl rfl rfl ?_
              refine s_aload_n (nx := 134) hO rfl rfl rfl ?_
              refine s_getf (v := .int (sI s17 139 11)) (nx := 137) hO rfl rfl (hs_o12 kc139) rfl rfl ?_
              refine s_iconst (x := (nI 2)) (nx := 138) hO rfl (by decide) rfl ?_
              refine goK (H (fun (y18 : Int32) => xEx G mX12_readNode 153 [(0, .ref (q_b G + 139)), (1, .int x9), (2, .int r14), (3, .int x16)] [.int y18, .ref (q_b G + 139)] (hS G s17) z 0 0 (yQv G z Q)) (fun y18 H => ?_)) (fun H => ?_)
              · show xEx G mX12_readNode 153 [(0, .ref (q_b G + 139)), (1, .int x9), (2, .int r14), (3, .int x16)] [.int y18, .ref (q_b G + 139)] (hS G s17) z 0 0 (yQv G z Q)
                refine s_callV [.int y18] (ci := 12) (F := TX12) (N := 116) (nx := 156) hO rfl kX12_readNode_367 (by rw [hcl]; rfl) (hs_o12 kc139) (w_X12_must hG H) rfl rfl (Nat.le_of_ble_eq_true rfl) (Nat.zero_le _) (Nat.zero_le _) rfl (k_Qi (fun r19 s20 H => ?_))
                refine s_if_eq (nx := 159) hO rfl rfl (fun c156 => ?_) (fun c156 => ?_)
                · replace H := H.1 c156
                  refine s_goto hO rfl ?_
                  exact xEx.loc (x_sub1 (List.Mem.head _) (x_sub1 (List.Mem.tail _ (List.Mem.head _)) x_sub0)) H
                · replace H := H.2 c156
                  refine s_aload_n (nx := 160) hO rfl rfl rfl ?_
                  refine s_getf (v := .ref (q_b G + 152)) (nx := 163) hO rfl rfl (hs_o12 kc139) rfl rfl ?_
                  refine s_aload_n (nx := 164) hO rfl rfl rfl ?_
                  refine s_getf (v := .int (sI s20 139 34)) (nx := 167) hO rfl rfl (hs_o12 kc139) rfl rfl ?_
                  refine s_aload_n (nx := 168) hO rfl rfl rfl ?_
                  refine s_getf (v := .int (sI s20 139 27)) (nx := 171) hO rfl rfl (hs_o12 kc139) rfl rfl ?_
                  refine s_iconst (x := 1) (nx := 172) hO rfl (by decide) rfl ?_
                  refine s_isub (nx := 173) hO rfl rfl ?_
                  obtain ⟨b21, H⟩ := H
                  refine goV (wI s20 152 (ix (sI s20 139 34)) ((sI s20 139 27) - 1)) (fun s22 es22 => ?_)
                  replace H := H s22 es22
                  refine s_iast (nx := 174) hO rfl (hs_I kc152) b21 rfl ?_
                  refine xEx.at (up_I kc152 es22) ?_
                  refine s_aload_n (nx := 175) hO rfl rfl rfl ?_
                  refine s_getf (v := .ref (q_b G + 153)) (nx := 178) hO rfl rfl (hs_o12 kc139) rfl rfl ?_
                  refine s_aload_n (nx := 179) hO rfl rfl rfl ?_
                  refine s_getf (v := .int (sI s22 139 34)) (nx := 182) hO rfl rfl (hs_o12 kc139) rfl rfl ?_
                  refine s_iload_n (nx := 183) hO rfl rfl rfl ?_
                  obtain ⟨b23, H⟩ := H
                  refine goV (wI s22 153 (ix (sI s22 139 34)) r14) (fun s24 es24 => ?_)
                  replace H := H s24 es24
                  refine s_iast (nx := 184) hO rfl (hs_I kc153) b23 rfl ?_
                  refine xEx.at (up_I kc153 es24) ?_
                  refine s_aload_n (nx := 185) hO rfl rfl rfl ?_
                  refine s_getf (v := .ref (q_b G + 154)) (nx := 188) hO rfl rfl (hs_o12 kc139) rfl rfl ?_
                  refine s_aload_n (nx := 189) hO rfl rfl rfl ?_
                  refine s_getf (v := .int (sI s24 139 34)) (nx := 192) hO rfl rfl (hs_o12 kc139) rfl rfl ?_
                  refine s_iload_n (nx := 193) hO rfl rfl rfl ?_
                  obtain ⟨b25, H⟩ := H
                  refine goV (wI s24 154 (ix (sI s24 139 34)) x16) (fun s26 es26 => ?_)
                  replace H := H s26 es26
                  refine s_iast (nx := 194) hO rfl (hs_I kc154) b25 rfl ?_
                  refine xEx.at (up_I kc154 es26) ?_
                  refine s_aload_n (nx := 195) hO rfl rfl rfl ?_
                  refine s_getf (v := .ref (q_b G + 155)) (nx := 198) hO rfl rfl (hs_o12 kc139) rfl rfl ?_
                  refine s_aload_n (nx := 199) hO rfl rfl rfl ?_
                  refine s_getf (v := .int (sI s26 139 34)) (nx := 202) hO rfl rfl (hs_o12 kc139) rfl rfl ?_
                  refine s_aload_n (nx := 203) hO rfl rfl rfl ?_
                  refine s_getf (v := .int (sI s26 139 41)) (nx := 206) hO rfl rfl (hs_o12 kc139) rfl rfl ?_
                  refine s_iload_n (nx := 207) hO rfl rfl rfl ?_
                  refine s_isub (nx := 208) hO rfl rfl ?_
                  obtain ⟨b27, H⟩ := H
                  refine goV (wI s26 155 (ix (sI s26 139 34)) ((sI s26 139 41) - x16)) (fun s28 es28 => ?_)
                  replace H := H s28 es28
                  refine s_iast (nx := 209) hO rfl (hs_I kc155) b27 rfl ?_
                  refine xEx.at (up_I kc155 es28) ?_
                  refine s_aload_n (nx := 210) hO rfl rfl rfl ?_
                  refine s_getf (v := .ref (q_b G + 156)) (nx := 213) hO rfl rfl (hs_o12 kc139) rfl rfl ?_
                  refine s_aload_n (nx := 214) hO rfl rfl rfl ?_
                  refine s_getf (v := .int (sI s28 139 34)) (nx := 217) hO rfl rfl (hs_o12 kc139) rfl rfl ?_
                  refine s_aload_n (nx := 218) hO rfl rfl rfl ?_
                  refine s_getf (v := .long (sJ s28 139 13)) (nx := 221) hO rfl rfl (hs_o12 kc139) rfl rfl ?_
                  obtain ⟨b29, H⟩ := H
                  refine goV (wJ s28 156 (ix (sI s28 139 34)) (sJ s28 139 13)) (fun s30 es30 => ?_)
                  replace H := H s30 es30
                  refine s_last (nx := 222) hO rfl (hs_J kc156) b29 rfl ?_
                  refine xEx.at (up_J kc156 es30) ?_
                  refine s_aload_n (nx := 223) hO rfl rfl rfl ?_
                  refine s_iconst (x := 1) (nx := 224) hO rfl (by decide) rfl ?_
                  refine s_aload_n (nx := 225) hO rfl rfl rfl ?_
                  refine s_getf (v := .int (sI s30 139 34)) (nx := 228) hO rfl rfl (hs_o12 kc139) rfl rfl ?_
                  refine s_iconst (x := 0) (nx := 229) hO rfl (by decide) rfl ?_
                  refine s_callV [.int 1, .int (sI s30 139 34), .int 0] (ci := 12) (F := TX12) (N := 116) (nx := 232) hO rfl kX12_readNode_424 (by rw [hcl]; rfl) (hs_o12 kc139) (w_X12_look hG H) rfl rfl (Nat.le_of_ble_eq_true rfl) (Nat.zero_le _) (Nat.zero_le _) rfl (k_Qv (fun s31 H => ?_))
                  refine s_aload_n (nx := 233) hO rfl rfl rfl ?_
                  refine s_dup (nx := 234) hO rfl rfl rfl ?_
                  refine s_getf (v := .int (sI s31 139 34)) (nx := 237) hO rfl rfl (hs_o12 kc139) rfl rfl ?_
                  refine s_iconst (x := 1) (nx := 238) hO rfl (by decide) rfl ?_
                  refine s_iadd (nx := 239) hO rfl rfl ?_
                  refine goV (wI s31 139 34 ((sI s31 139 34) + 1)) (fun s32 es32 => ?_)
                  replace H := H s32 es32
                  refine s_putf (nx := 242) hO rfl rfl (hs_o12 kc139) (Nat.le_of_ble_eq_true rfl) (by rw [hty]; rfl) (by rw [hty]; rfl) pX12_34 rfl ?_
                  refine xEx.at (up_oI12 kc139 es32) ?_
                  refine goV ((x9 + 1)) (fun x33 ex33 => ?_)
                  replace H := H x33 ex33
                  refine e_iinc (nx := 245) (l' := [(1, .int x33), (0, .ref (q_b G + 139)), (2, .int r14), (3, .int x16)]) ex33 hO rfl (by decide) rfl rfl rfl rfl ?_
                  refine s_aload_n (nx := 246) hO rfl rfl rfl ?_
                  refine s_callV [] (ci := 12) (F := TX12) (N := 116) (nx := 249) hO rfl kX12_readNode_371 (by rw [hcl]; rfl) (hs_o12 kc139) (w_X12_next hG H) rfl rfl (Nat.le_of_ble_eq_true rfl) (Nat.zero_le _) (Nat.zero_le _) rfl (k_Qv (fun s34 H => ?_))
                  refine s_aload_n (nx := 250) hO rfl rfl rfl ?_
                  refine s_iconst (x := 1) (nx := 251) hO rfl (by decide) rfl ?_
                  refine s_callV [.int 1] (ci := 12) (F := TX12) (N := 116) (nx := 254) hO rfl kX12_readNode_417 (by rw [hcl]; rfl) (hs_o12 kc139) (w_X12_expect hG H) rfl rfl (Nat.le_of_ble_eq_true rfl) (Nat.zero_le _) (Nat.zero_le _) rfl (k_Qv (fun s35 H => ?_))
                  refine s_goto hO rfl ?_
                  exact xEx.loc (x_sub1 (List.Mem.tail _ (List.Mem.head _)) (x_sub1 (List.Mem.head _) x_sub0)) H
              refine s_icmp_ne (nx := 141) hO rfl rfl (fun c138 => ?_) (fun c138 => ?_)
              · replace H := H.1 c138
                refine s_iconst (x := 0) (nx := 153) hO rfl (by decide) rfl ?_
                exact xEx.loc (x_sub1 (List.Mem.tail _ (List.Mem.tail _ (List.Mem.head _))) (x_sub1 (List.Mem.tail _ (List.Mem.tail _ (List.Mem.tail _ (List.Mem.head _)))) (x_sub1 (List.Mem.tail _ (List.Mem.head _)) (x_sub1 (List.Mem.head _) x_sub0)))) H
              · replace H := H.2 c138
                refine s_aload_n (nx := 142) hO rfl rfl rfl ?_
                refine s_callV [] (ci := 12) (F := TX12) (N := 116) (nx := 145) hO rfl kX12_readNode_401 (by rw [hcl]; rfl) (hs_o12 kc139) (w_X12_isReserved hG H) rfl rfl (Nat.le_of_ble_eq_true rfl) (Nat.zero_le _) (Nat.zero_le _) rfl (k_Pi (fun r36 H => ?_))
                refine s_if_ne (nx := 148) hO rfl rfl (fun c145 => ?_) (fun c145 => ?_)
                · replace H := H.1 c145
                  refine s_iconst (x := 0) (nx := 153) hO rfl (by decide) rfl ?_
                  exact xEx.loc (x_sub1 (List.Mem.tail _ (List.Mem.tail _ (List.Mem.head _))) (x_sub1 (List.Mem.tail _ (List.Mem.tail _ (List.Mem.tail _ (List.Mem.head _)))) (x_sub1 (List.Mem.tail _ (List.Mem.head _)) (x_sub1 (List.Mem.head _) x_sub0)))) H
                · replace H := H.2 c145
                  refine s_iconst (x := 1) (nx := 149) hO rfl (by decide) rfl ?_
                  refine s_goto hO rfl ?_
                  exact xEx.loc (x_sub1 (List.Mem.tail _ (List.Mem.tail _ (List.Mem.head _))) (x_sub1 (List.Mem.tail _ (List.Mem.tail _ (List.Mem.tail _ (List.Mem.head _)))) (x_sub1 (List.Mem.tail _ (List.Mem.head _)) (x_sub1 (List.Mem.head _) x_sub0)))) H
            · replace H := H.2 c93
              refine s_aload_n (nx := 97) hO rfl rfl rfl ?_
              refine s_iconst (x := (nI 2)) (nx := 98) hO rfl (by decide) rfl ?_
              refine s_aload_n (nx := 99) hO rfl rfl rfl ?_
              refine s_getf (v := .int (sI s10 139 12)) (nx := 102) hO rfl rfl (hs_o12 kc139) rfl rfl ?_
              refine s_callV [.int (nI 2), .int (sI s10 139 12)] (ci := 12) (F := TX12) (N := 116) (nx := 105) hO rfl kX12_readNode_303 (by rw [hcl]; rfl) (hs_o12 kc139) (w_X12_wrong hG H) rfl rfl (Nat.le_of_ble_eq_true rfl) (Nat.zero_le _) (Nat.zero_le _) rfl (k_Qv (fun s37 H => ?_))
              exact s_vret hO rfl rfl ⟨rfl, _, rfl, rfl, H⟩
      refine s_istore_n (nx := 76) (l' := [(1, .int 0), (0, .ref (q_b G + 139))]) hO rfl (by decide) rfl rfl ?_
      exact xEx.loc (x_sub1 (List.Mem.tail _ (List.Mem.head _)) (x_sub1 (List.Mem.head _) x_sub0)) H
    · replace H := H.2 c43
      exact s_vret hO rfl rfl ⟨rfl, _, rfl, rfl, H⟩
  refine s_icmp_ne (nx := 13) hO rfl rfl (fun c10 => ?_) (fun c10 => ?_)
  · replace H := H.1 c10
    refine s_iconst (x := 0) (nx := 40) hO rfl (by decide) rfl ?_
    exact xEx.loc (x_sub1 (List.Mem.head _) x_sub0) H
  · replace H := H.2 c10
    refine s_aload_n (nx := 14) hO rfl rfl rfl ?_
    refine s_callV [] (ci := 12) (F := TX12) (N := 116) (nx := 17) hO rfl kX12_readNode_401 (by rw [hcl]; rfl) (hs_o12 kc139) (w_X12_isReserved hG H) rfl rfl (Nat.le_of_ble_eq_true rfl) (Nat.zero_le _) (Nat.zero_le _) rfl (k_Pi (fun r38 H => ?_))
    refine s_if_ne (nx := 20) hO rfl rfl (fun c17 => ?_) (fun c17 => ?_)
    · replace H := H.1 c17
      refine s_iconst (x := 0) (nx := 40) hO rfl (by decide) rfl ?_
      exact xEx.loc (x_sub1 (List.Mem.head _) x_sub0) H
    · replace H := H.2 c17
      refine s_aload_n (nx := 21) hO rfl rfl rfl ?_
      refine s_aload_n (nx := 22) hO rfl rfl rfl ?_
      refine s_getf (v := .ref (q_b G + 151)) (nx := 25) hO rfl rfl (hs_o12 kc139) rfl rfl ?_
      refine s_aload_n (nx := 26) hO rfl rfl rfl ?_
      refine s_getf (v := .int (sI s1 139 27)) (nx := 29) hO rfl rfl (hs_o12 kc139) rfl rfl ?_
      refine s_callV [.ref (q_b G + 151), .int (sI s1 139 27)] (ci := 12) (F := TX12) (N := 116) (nx := 32) hO rfl kX12_readNode_405 (by rw [hcl]; rfl) (hs_o12 kc139) (w_X12_isOld hG kc151 H) rfl rfl (Nat.le_of_ble_eq_true rfl) (Nat.zero_le _) (Nat.zero_le _) rfl (k_Pi (fun r39 H => ?_))
      refine s_if_ne (nx := 35) hO rfl rfl (fun c32 => ?_) (fun c32 => ?_)
      · replace H := H.1 c32
        refine s_iconst (x := 0) (nx := 40) hO rfl (by decide) rfl ?_
        exact xEx.loc (x_sub1 (List.Mem.head _) x_sub0) H
      · replace H := H.2 c32
        refine s_iconst (x := 1) (nx := 36) hO rfl (by decide) rfl ?_
        refine s_goto hO rfl ?_
        exact xEx.loc (x_sub1 (List.Mem.head _) x_sub0) H
def W_X12_resolve (s : yS) (Q : yS → Prop) : Prop :=
 ∀ P2 : Int32 → yS → Prop, (∀ (x1 : Int32) (s2 : yS), ((((sI s2 139 43) ≤ x1 → Q s2)
  ∧ (¬ (sI s2 139 43) ≤ x1 → ((¬ (sI s2 139 15) = 0 → Q s2)
   ∧ ((sI s2 139 15) = 0 → vp_in ((nI 4) * x1) 5000 ∧ 
    ∀ x4 : Int32, x4 = (sI s2 164 (ix ((nI 4) * x1))) → 
    vp_in (((nI 4) * x1) + 1) 5000 ∧ 
    ∀ x6 : Int32, x6 = (sI s2 164 (ix (((nI 4) * x1) + 1))) → 
    vp_in (((nI 4) * x1) + (nI 2)) 5000 ∧ 
    ∀ x8 : Int32, x8 = (sI s2 164 (ix (((nI 4) * x1) + (nI 2)))) → 
    ∀ P214 : yS → Prop, (∀ (s9 : yS), (∀ x10 : Int32, x10 = (x1 + 1) → 
     P2 x10 s9) → P214 s9) → 
    ((¬ x4 = (nI 2) → ∀ P97 : Int32 → Int32 → Prop, (∀ (x11 : Int32) (x12 : Int32), (∀ P114 : Int32 → Prop, (∀ (y13 : Int32), (((y13 ≤ x12 → ((0 ≤ x11 → ((¬ x4 = 0 → vp_in x6 192 ∧ ∀ s15 : yS, s15 = wI s2 157 (ix x6) x11 → 
          P214 s15)
         ∧ (x4 = 0 → vp_in x6 900 ∧ ∀ s17 : yS, s17 = wI s2 159 (ix x6) x11 → 
          P214 s17)))
        ∧ (¬ 0 ≤ x11 → vp_in (((nI 4) * x1) + (nI 3)) 5000 ∧ 
         W_X12_wrong s2 (nI 5) (sI s2 164 (ix (((nI 4) * x1) + (nI 3)))) 
         (fun s19 => P214 s19))))
       ∧ (¬ y13 ≤ x12 → ∀ P162 : Int32 → Prop, (∀ (x20 : Int32), (∀ x21 : Int32, x21 = (x12 + 1) → 
         P97 x20 x21) → P162 x20) → 
        ∀ P158 : Prop, ((P162 x12) → P158) → 
        ((¬ x4 = 0 → vp_in x12 24 ∧ 
         vp_in x6 192 ∧ 
         ((¬ (lg_cmp (sJ s2 151 (ix x12)) (sJ s2 156 (ix x6))) = 0 → P162 x11)
         ∧ ((lg_cmp (sJ s2 151 (ix x12)) (sJ s2 156 (ix x6))) = 0 → P158)))
        ∧ (x4 = 0 → vp_in x12 6 ∧ 
         vp_in x6 900 ∧ 
         ((¬ (lg_cmp (sJ s2 144 (ix x12)) (sJ s2 160 (ix x6))) = 0 → P162 x11)
         ∧ ((lg_cmp (sJ s2 144 (ix x12)) (sJ s2 160 (ix x6))) = 0 → P158))))))) → P114 y13) → 
      ((¬ x4 = 0 → P114 (sI s2 139 27))
      ∧ (x4 = 0 → P114 (sI s2 139 19)))) → P97 x11 x12) → 
     P97 (-1) 0)
    ∧ (x4 = (nI 2) → ((x8 < 0 → P214 s2)
     ∧ (¬ x8 < 0 → vp_in x6 900 ∧ 
      (((sI s2 159 (ix x6)) < (x8 - x8 / (nI 4) * (nI 4)) → P214 s2)
      ∧ (¬ (sI s2 159 (ix x6)) < (x8 - x8 / (nI 4) * (nI 4)) → vp_in (((nI 4) * x1) + (nI 3)) 5000 ∧ 
       W_X12_wrong s2 (nI 6) (sI s2 164 (ix (((nI 4) * x1) + (nI 3)))) 
       (fun s28 => P214 s28)))))))))))) → P2 x1 s2) → 
 P2 0 s
set_option maxRecDepth 100000 in
set_option maxHeartbeats 40000000 in
theorem w_X12_resolve {G : xG} (hG : yG G) {z : Nat} {s : yS} {Q : yS → Prop} (H : W_X12_resolve s Q) : xC G mX12_resolve [.ref (q_b G + 139)] (hS G s) z 0 0 (yQv G z Q) := by
  have hW := hG.1
  have hcl := hG.2.1
  have hty := hG.2.2.1
  have hO : xO G mX12_resolve tbX12_resolve ptX12_resolve := ⟨tkX12_resolve, pkX12_resolve hcl⟩
  unfold W_X12_resolve at H
  refine xC.of hW (by decide) rfl (Nat.le_of_ble_eq_true rfl) ?_
  refine s_iconst (x := 0) (nx := 1) hO rfl (by decide) rfl ?_
  refine goK (H (fun (x1 : Int32) (s2 : yS) => xEx G mX12_resolve 2 [(0, .ref (q_b G + 139)), (1, .int x1)] [] (hS G s2) z 0 0 (yQv G z Q)) (fun x1 s2 H => ?_)) (fun H => ?_)
  · show xEx G mX12_resolve 2 [(0, .ref (q_b G + 139)), (1, .int x1)] [] (hS G s2) z 0 0 (yQv G z Q)
    refine s_iload_n (nx := 3) hO rfl rfl rfl ?_
    refine s_aload_n (nx := 4) hO rfl rfl rfl ?_
    refine s_getf (v := .int (sI s2 139 43)) (nx := 7) hO rfl rfl (hs_o12 kc139) rfl rfl ?_
    refine s_icmp_ge (nx := 10) hO rfl rfl (fun c7 => ?_) (fun c7 => ?_)
    · replace H := H.1 c7
      exact s_vret hO rfl rfl ⟨rfl, _, rfl, rfl, H⟩
    · replace H := H.2 c7
      refine s_aload_n (nx := 11) hO rfl rfl rfl ?_
      refine s_getf (v := .int (sI s2 139 15)) (nx := 14) hO rfl rfl (hs_o12 kc139) rfl rfl ?_
      refine s_if_ne (nx := 17) hO rfl rfl (fun c14 => ?_) (fun c14 => ?_)
      · replace H := H.1 c14
        exact s_vret hO rfl rfl ⟨rfl, _, rfl, rfl, H⟩
      · replace H := H.2 c14
        refine s_aload_n (nx := 18) hO rfl rfl rfl ?_
        refine s_getf (v := .ref (q_b G + 164)) (nx := 21) hO rfl rfl (hs_o12 kc139) rfl rfl ?_
        refine s_iconst (x := (nI 4)) (nx := 22) hO rfl (by decide) rfl ?_
        refine s_iload_n (nx := 23) hO rfl rfl rfl ?_
        refine s_imul (nx := 24) hO rfl rfl ?_
        obtain ⟨b3, H⟩ := H
        refine s_iald (nx := 25) hO rfl (hs_I kc164) b3 rfl ?_
        refine goV ((sI s2 164 (ix ((nI 4) * x1)))) (fun x4 ex4 => ?_)
        replace H := H x4 ex4
        refine e_istore_n (nx := 26) (l' := [(2, .int x4), (0, .ref (q_b G + 139)), (1, .int x1)]) ex4 hO rfl (by decide) rfl rfl ?_
        refine s_aload_n (nx := 27) hO rfl rfl rfl ?_
        refine s_getf (v := .ref (q_b G + 164)) (nx := 30) hO rfl rfl (hs_o12 kc139) rfl rfl ?_
        refine s_iconst (x := (nI 4)) (nx := 31) hO rfl (by decide) rfl ?_
        refine s_iload_n (nx := 32) hO rfl rfl rfl ?_
        refine s_imul (nx := 33) hO rfl rfl ?_
        refine s_iconst (x := 1) (nx := 34) hO rfl (by decide) rfl ?_
        refine s_iadd (nx := 35) hO rfl rfl ?_
        obtain ⟨b5, H⟩ := H
        refine s_iald (nx := 36) hO rfl (hs_I kc164) b5 rfl ?_
        refine goV ((sI s2 164 (ix (((nI 4) * x1) + 1)))) (fun x6 ex6 => ?_)
        replace H := H x6 ex6
        refine e_istore_n (nx := 37) (l' := [(3, .int x6), (2, .int x4), (0, .ref (q_b G + 139)), (1, .int x1)]) ex6 hO rfl (by decide) rfl rfl ?_
        refine s_aload_n (nx := 38) hO rfl rfl rfl ?_
        refine s_getf (v := .ref (q_b G + 164)) (nx := 41) hO rfl rfl (hs_o12 kc139) rfl rfl ?_
        refine s_iconst (x := (nI 4)) (nx := 42) hO rfl (by decide) rfl ?_
        refine s_iload_n (nx := 43) hO rfl rfl rfl ?_
        refine s_imul (nx := 44) hO rfl rfl ?_
        refine s_iconst (x := (nI 2)) (nx := 45) hO rfl (by decide) rfl ?_
        refine s_iadd (nx := 46) hO rfl rfl ?_
        obtain ⟨b7, H⟩ := H
        refine s_iald (nx := 47) hO rfl (hs_I kc164) b7 rfl ?_
        refine goV ((sI s2 164 (ix (((nI 4) * x1) + (nI 2))))) (fun x8 ex8 => ?_)
        replace H := H x8 ex8
        refine e_istore (nx := 49) (l' := [(4, .int x8), (3, .int x6), (2, .int x4), (0, .ref (q_b G + 139)), (1, .int x1)]) ex8 hO rfl (by decide) rfl rfl ?_
        refine s_iload_n (nx := 50) hO rfl rfl rfl ?_
        refine s_iconst (x := (nI 2)) (nx := 51) hO rfl (by decide) rfl ?_
        refine goK (H (fun (s9 : yS) => xEx G mX12_resolve 214 [(0, .ref (q_b G + 139)), (1, .int x1)] [] (hS G s9) z 0 0 (yQv G z Q)) (fun s9 H => ?_)) (fun H => ?_)
        · show xEx G mX12_resolve 214 [(0, .ref (q_b G + 139)), (1, .int x1)] [] (hS G s9) z 0 0 (yQv G z Q)
          refine goV ((x1 + 1)) (fun x10 ex10 => ?_)
          replace H := H x10 ex10
          refine e_iinc (nx := 217) (l' := [(1, .int x10), (0, .ref (q_b G + 139))]) ex10 hO rfl (by decide) rfl rfl rfl rfl ?_
          refine s_goto hO rfl ?_
          exact xEx.loc (x_sub1 (List.Mem.tail _ (List.Mem.head _)) (x_sub1 (List.Mem.head _) x_sub0)) H
        refine s_icmp_ne (nx := 54) hO rfl rfl (fun c51 => ?_) (fun c51 => ?_)
        · replace H := H.1 c51
          refine s_iconst (x := (-1)) (nx := 92) hO rfl (by decide) rfl ?_
          refine s_istore (nx := 94) (l' := [(5, .int (-1)), (4, .int x8), (3, .int x6), (2, .int x4), (0, .ref (q_b G + 139)), (1, .int x1)]) hO rfl (by decide) rfl rfl ?_
          refine s_iconst (x := 0) (nx := 95) hO rfl (by decide) rfl ?_
          refine goK (H (fun (x11 : Int32) (x12 : Int32) => xEx G mX12_resolve 97 [(0, .ref (q_b G + 139)), (1, .int x1), (2, .int x4), (3, .int x6), (5, .int x11), (6, .int x12)] [] (hS G s2) z 0 0 (yQv G z Q)) (fun x11 x12 H => ?_)) (fun H => ?_)
          · show xEx G mX12_resolve 97 [(0, .ref (q_b G + 139)), (1, .int x1), (2, .int x4), (3, .int x6), (5, .int x11), (6, .int x12)] [] (hS G s2) z 0 0 (yQv G z Q)
            refine s_iload (nx := 99) hO rfl rfl rfl ?_
            refine s_iload_n (nx := 100) hO rfl rfl rfl ?_
            refine goK (H (fun (y13 : Int32) => xEx G mX12_resolve 114 [(0, .ref (q_b G + 139)), (1, .int x1), (2, .int x4), (3, .int x6), (5, .int x11), (6, .int x12)] [.int y13, .int x12] (hS G s2) z 0 0 (yQv G z Q)) (fun y13 H => ?_)) (fun H => ?_)
            · show xEx G mX12_resolve 114 [(0, .ref (q_b G + 139)), (1, .int x1), (2, .int x4), (3, .int x6), (5, .int x11), (6, .int x12)] [.int y13, .int x12] (hS G s2) z 0 0 (yQv G z Q)
              refine s_icmp_ge (nx := 117) hO rfl rfl (fun c114 => ?_) (fun c114 => ?_)
              · replace H := H.1 c114
                refine s_iload (nx := 170) hO rfl rfl rfl ?_
                refine s_if_ge (nx := 173) hO rfl rfl (fun c170 => ?_) (fun c170 => ?_)
                · replace H := H.1 c170
                  refine s_iload_n (nx := 192) hO rfl rfl rfl ?_
                  refine s_if_ne (nx := 195) hO rfl rfl (fun c192 => ?_) (fun c192 => ?_)
                  · replace H := H.1 c192
                    refine s_aload_n (nx := 207) hO rfl rfl rfl ?_
                    refine s_getf (v := .ref (q_b G + 157)) (nx := 210) hO rfl rfl (hs_o12 kc139) rfl rfl ?_
                    refine s_iload_n (nx := 211) hO rfl rfl rfl ?_
                    refine s_iload (nx := 213) hO rfl rfl rfl ?_
                    obtain ⟨b14, H⟩ := H
                    refine goV (wI s2 157 (ix x6) x11) (fun s15 es15 => ?_)
                    replace H := H s15 es15
                    refine s_iast (nx := 214) hO rfl (hs_I kc157) b14 rfl ?_
                    refine xEx.at (up_I kc157 es15) ?_
                    exact xEx.loc (x_sub1 (List.Mem.head _) (x_sub1 (List.Mem.tail _ (List.Mem.head _)) x_sub0)) H
                  · replace H := H.2 c192
                    refine s_aload_n (nx := 196) hO rfl rfl rfl ?_
                    refine s_getf (v := .ref (q_b G + 159)) (nx := 199) hO rfl rfl (hs_o12 kc139) rfl rfl ?_
                    refine s_iload_n (nx := 200) hO rfl rfl rfl ?_
                    refine s_iload (nx := 202) hO rfl rfl rfl ?_
                    obtain ⟨b16, H⟩ := H
                    refine goV (wI s2 159 (ix x6) x11) (fun s17 es17 => ?_)
                    replace H := H s17 es17
                    refine s_iast (nx := 203) hO rfl (hs_I kc159) b16 rfl ?_
                    refine xEx.at (up_I kc159 es17) ?_
                    refine s_goto hO rfl ?_
                    exact xEx.loc (x_sub1 (List.Mem.head _) (x_sub1 (List.Mem.tail _ (List.Mem.head _)) x_sub0)) H
                · replace H := H.2 c170
                  refine s_aload_n (nx := 174) hO rfl rfl rfl ?_
                  refine s_iconst (x := (nI 5)) (nx := 175) hO rfl (by decide) rfl ?_
                  refine s_aload_n (nx := 176) hO rfl rfl rfl ?_
                  refine s_getf (v := .ref (q_b G + 164)) (nx := 179) hO rfl rfl (hs_o12 kc139) rfl rfl ?_
                  refine s_iconst (x := (nI 4)) (nx := 180) hO rfl (by decide) rfl ?_
                  refine s_iload_n (nx := 181) hO rfl rfl rfl ?_
                  refine s_imul (nx := 182) hO rfl rfl ?_
                  refine s_iconst (x := (nI 3)) (nx := 183) hO rfl (by decide) rfl ?_
                  refine s_iadd (nx := 184) hO rfl rfl ?_
                  obtain ⟨b18, H⟩ := H
                  refine s_iald (nx := 185) hO rfl (hs_I kc164) b18 rfl ?_
                  refine s_callV [.int (nI 5), .int (sI s2 164 (ix (((nI 4) * x1) + (nI 3))))] (ci := 12) (F := TX12) (N := 116) (nx := 188) hO rfl kX12_resolve_303 (by rw [hcl]; rfl) (hs_o12 kc139) (w_X12_wrong hG H) rfl rfl (Nat.le_of_ble_eq_true rfl) (Nat.zero_le _) (Nat.zero_le _) rfl (k_Qv (fun s19 H => ?_))
                  refine s_goto hO rfl ?_
                  exact xEx.loc (x_sub1 (List.Mem.head _) (x_sub1 (List.Mem.tail _ (List.Mem.head _)) x_sub0)) H
              · replace H := H.2 c114
                refine s_iload_n (nx := 118) hO rfl rfl rfl ?_
                refine goK (H (fun (x20 : Int32) => xEx G mX12_resolve 162 [(0, .ref (q_b G + 139)), (1, .int x1), (2, .int x4), (3, .int x6), (5, .int x20), (6, .int x12)] [] (hS G s2) z 0 0 (yQv G z Q)) (fun x20 H => ?_)) (fun H => ?_)
                · show xEx G mX12_resolve 162 [(0, .ref (q_b G + 139)), (1, .int x1), (2, .int x4), (3, .int x6), (5, .int x20), (6, .int x12)] [] (hS G s2) z 0 0 (yQv G z Q)
                  refine goV ((x12 + 1)) (fun x21 ex21 => ?_)
                  replace H := H x21 ex21
                  refine e_iinc (nx := 165) (l' := [(6, .int x21), (0, .ref (q_b G + 139)), (1, .int x1), (2, .int x4), (3, .int x6), (5, .int x20)]) ex21 hO rfl (by decide) rfl rfl rfl rfl ?_
                  refine s_goto hO rfl ?_
                  exact xEx.loc (x_sub1 (List.Mem.tail _ (List.Mem.head _)) (x_sub1 (List.Mem.tail _ (List.Mem.tail _ (List.Mem.head _))) (x_sub1 (List.Mem.tail _ (List.Mem.tail _ (List.Mem.tail _ (List.Mem.head _)))) (x_sub1 (List.Mem.tail _ (List.Mem.tail _ (List.Mem.tail _ (List.Mem.tail _ (List.Mem.head _))))) (x_sub1 (List.Mem.tail _ (List.Mem.tail _ (List.Mem.tail _ (List.Mem.tail _ (List.Mem.tail _ (List.Mem.head _)))))) (x_sub1 (List.Mem.head _) x_sub0)))))) H
                refine goK (H (xEx G mX12_resolve 158 [(0, .ref (q_b G + 139)), (1, .int x1), (2, .int x4), (3, .int x6), (6, .int x12)] [] (hS G s2) z 0 0 (yQv G z Q)) (fun H => ?_)) (fun H => ?_)
                · show xEx G mX12_resolve 158 [(0, .ref (q_b G + 139)), (1, .int x1), (2, .int x4), (3, .int x6), (6, .int x12)] [] (hS G s2) z 0 0 (yQv G z Q)
                  refine s_iload (nx := 160) hO rfl rfl rfl ?_
                  refine s_istore (nx := 162) (l' := [(5, .int x12), (0, .ref (q_b G + 139)), (1, .int x1), (2, .int x4), (3, .int x6), (6, .int x12)]) hO rfl (by decide) rfl rfl ?_
                  exact xEx.loc (x_sub1 (List.Mem.tail _ (List.Mem.head _)) (x_sub1 (List.Mem.tail _ (List.Mem.tail _ (List.Mem.head _))) (x_sub1 (List.Mem.tail _ (List.Mem.tail _ (List.Mem.tail _ (List.Mem.head _)))) (x_sub1 (List.Mem.tail _ (List.Mem.tail _ (List.Mem.tail _ (List.Mem.tail _ (List.Mem.head _))))) (x_sub1 (List.Mem.head _) (x_sub1 (List.Mem.tail _ (List.Mem.tail _ (List.Mem.tail _ (List.Mem.tail _ (List.Mem.tail _ (List.Mem.head _)))))) x_sub0)))))) H
                refine s_if_ne (nx := 121) hO rfl rfl (fun c118 => ?_) (fun c118 => ?_)
                · replace H := H.1 c118
                  refine s_aload_n (nx := 142) hO rfl rfl rfl ?_
                  refine s_getf (v := .ref (q_b G + 151)) (nx := 145) hO rfl rfl (hs_o12 kc139) rfl rfl ?_
                  refine s_iload (nx := 147) hO rfl rfl rfl ?_
                  obtain ⟨b22, H⟩ := H
                  refine s_lald (nx := 148) hO rfl (hs_J kc151) b22 rfl ?_
                  refine s_aload_n (nx := 149) hO rfl rfl rfl ?_
                  refine s_getf (v := .ref (q_b G + 156)) (nx := 152) hO rfl rfl (hs_o12 kc139) rfl rfl ?_
                  refine s_iload_n (nx := 153) hO rfl rfl rfl ?_
                  obtain ⟨b23, H⟩ := H
                  refine s_lald (nx := 154) hO rfl (hs_J kc156) b23 rfl ?_
                  refine s_lcmp (nx := 155) hO rfl rfl ?_
                  refine s_if_ne (nx := 158) hO rfl rfl (fun c155 => ?_) (fun c155 => ?_)
                  · replace H := H.1 c155
                    exact xEx.loc (x_sub1 (List.Mem.head _) (x_sub1 (List.Mem.tail _ (List.Mem.head _)) (x_sub1 (List.Mem.tail _ (List.Mem.tail _ (List.Mem.head _))) (x_sub1 (List.Mem.tail _ (List.Mem.tail _ (List.Mem.tail _ (List.Mem.head _)))) (x_sub1 (List.Mem.tail _ (List.Mem.tail _ (List.Mem.tail _ (List.Mem.tail _ (List.Mem.head _))))) (x_sub1 (List.Mem.tail _ (List.Mem.tail _ (List.Mem.tail _ (List.Mem.tail _ (List.Mem.tail _ (List.Mem.head _)))))) x_sub0)))))) H
                  · replace H := H.2 c155
                    exact xEx.loc (x_sub1 (List.Mem.head _) (x_sub1 (List.Mem.tail _ (List.Mem.head _)) (x_sub1 (List.Mem.tail _ (List.Mem.tail _ (List.Mem.head _))) (x_sub1 (List.Mem.tail _ (List.Mem.tail _ (List.Mem.tail _ (List.Mem.head _)))) (x_sub1 (List.Mem.tail _ (List.Mem.tail _ (List.Mem.tail _ (List.Mem.tail _ (List.Mem.tail _ (List.Mem.head _)))))) x_sub0))))) H
                · replace H := H.2 c118
                  refine s_aload_n (nx := 122) hO rfl rfl rfl ?_
                  refine s_getf (v := .ref (q_b G + 144)) (nx := 125) hO rfl rfl (hs_o12 kc139) rfl rfl ?_
                  refine s_iload (nx := 127) hO rfl rfl rfl ?_
                  obtain ⟨b24, H⟩ := H
                  refine s_lald (nx := 128) hO rfl (hs_J kc144) b24 rfl ?_
                  refine s_aload_n (nx := 129) hO rfl rfl rfl ?_
                  refine s_getf (v := .ref (q_b G + 160)) (nx := 132) hO rfl rfl (hs_o12 kc139) rfl rfl ?_
                  refine s_iload_n (nx := 133) hO rfl rfl rfl ?_
                  obtain ⟨b25, H⟩ := H
                  refine s_lald (nx := 134) hO rfl (hs_J kc160) b25 rfl ?_
                  refine s_lcmp (nx := 135) hO rfl rfl ?_
                  refine s_if_ne (nx := 138) hO rfl rfl (fun c135 => ?_) (fun c135 => ?_)
                  · replace H := H.1 c135
                    exact xEx.loc (x_sub1 (List.Mem.head _) (x_sub1 (List.Mem.tail _ (List.Mem.head _)) (x_sub1 (List.Mem.tail _ (List.Mem.tail _ (List.Mem.head _))) (x_sub1 (List.Mem.tail _ (List.Mem.tail _ (List.Mem.tail _ (List.Mem.head _)))) (x_sub1 (List.Mem.tail _ (List.Mem.tail _ (List.Mem.tail _ (List.Mem.tail _ (List.Mem.head _))))) (x_sub1 (List.Mem.tail _ (List.Mem.tail _ (List.Mem.tail _ (List.Mem.tail _ (List.Mem.tail _ (List.Mem.head _)))))) x_sub0)))))) H
                  · replace H := H.2 c135
                    refine s_goto hO rfl ?_
                    exact xEx.loc (x_sub1 (List.Mem.head _) (x_sub1 (List.Mem.tail _ (List.Mem.head _)) (x_sub1 (List.Mem.tail _ (List.Mem.tail _ (List.Mem.head _))) (x_sub1 (List.Mem.tail _ (List.Mem.tail _ (List.Mem.tail _ (List.Mem.head _)))) (x_sub1 (List.Mem.tail _ (List.Mem.tail _ (List.Mem.tail _ (List.Mem.tail _ (List.Mem.tail _ (List.Mem.head _)))))) x_sub0))))) H
            refine s_if_ne (nx := 103) hO rfl rfl (fun c100 => ?_) (fun c100 => ?_)
            · replace H := H.1 c100
              refine s_aload_n (nx := 111) hO rfl rfl rfl ?_
              refine s_getf (v := .int (sI s2 139 27)) (nx := 114) hO rfl rfl (hs_o12 kc139) rfl rfl ?_
              exact xEx.loc (x_sub1 (List.Mem.head _) (x_sub1 (List.Mem.tail _ (List.Mem.head _)) (x_sub1 (List.Mem.tail _ (List.Mem.tail _ (List.Mem.head _))) (x_sub1 (List.Mem.tail _ (List.Mem.tail _ (List.Mem.tail _ (List.Mem.head _)))) (x_sub1 (List.Mem.tail _ (List.Mem.tail _ (List.Mem.tail _ (List.Mem.tail _ (List.Mem.head _))))) (x_sub1 (List.Mem.tail _ (List.Mem.tail _ (List.Mem.tail _ (List.Mem.tail _ (List.Mem.tail _ (List.Mem.head _)))))) x_sub0)))))) H
            · replace H := H.2 c100
              refine s_aload_n (nx := 104) hO rfl rfl rfl ?_
              refine s_getf (v := .int (sI s2 139 19)) (nx := 107) hO rfl rfl (hs_o12 kc139) rfl rfl ?_
              refine s_goto hO rfl ?_
              exact xEx.loc (x_sub1 (List.Mem.head _) (x_sub1 (List.Mem.tail _ (List.Mem.head _)) (x_sub1 (List.Mem.tail _ (List.Mem.tail _ (List.Mem.head _))) (x_sub1 (List.Mem.tail _ (List.Mem.tail _ (List.Mem.tail _ (List.Mem.head _)))) (x_sub1 (List.Mem.tail _ (List.Mem.tail _ (List.Mem.tail _ (List.Mem.tail _ (List.Mem.head _))))) (x_sub1 (List.Mem.tail _ (List.Mem.tail _ (List.Mem.tail _ (List.Mem.tail _ (List.Mem.tail _ (List.Mem.head _)))))) x_sub0)))))) H
          refine s_istore (nx := 97) (l' := [(6, .int 0), (5, .int (-1)), (4, .int x8), (3, .int x6), (2, .int x4), (0, .ref (q_b G + 139)), (1, .int x1)]) hO rfl (by decide) rfl rfl ?_
          exact xEx.loc (x_sub1 (List.Mem.tail _ (List.Mem.tail _ (List.Mem.tail _ (List.Mem.tail _ (List.Mem.tail _ (List.Mem.head _)))))) (x_sub1 (List.Mem.tail _ (List.Mem.tail _ (List.Mem.tail _ (List.Mem.tail _ (List.Mem.tail _ (List.Mem.tail _ (List.Mem.head _))))))) (x_sub1 (List.Mem.tail _ (List.Mem.tail _ (List.Mem.tail _ (List.Mem.tail _ (List.Mem.head _))))) (x_sub1 (List.Mem.tail _ (List.Mem.tail _ (List.Mem.tail _ (List.Mem.head _)))) (x_sub1 (List.Mem.tail _ (List.Mem.head _)) (x_sub1 (List.Mem.head _) x_sub0)))))) H
        · replace H := H.2 c51
          refine s_iload (nx := 56) hO rfl rfl rfl ?_
          refine s_if_lt (nx := 59) hO rfl rfl (fun c56 => ?_) (fun c56 => ?_)
          · replace H := H.1 c56
            exact xEx.loc (x_sub1 (List.Mem.tail _ (List.Mem.tail _ (List.Mem.tail _ (List.Mem.head _)))) (x_sub1 (List.Mem.tail _ (List.Mem.tail _ (List.Mem.tail _ (List.Mem.tail _ (List.Mem.head _))))) x_sub0)) H
          · replace H := H.2 c56
            refine s_aload_n (nx := 60) hO rfl rfl rfl ?_
            refine s_getf (v := .ref (q_b G + 159)) (nx := 63) hO rfl rfl (hs_o12 kc139) rfl rfl ?_
            refine s_iload_n (nx := 64) hO rfl rfl rfl ?_
            obtain ⟨b26, H⟩ := H
            refine s_iald (nx := 65) hO rfl (hs_I kc159) b26 rfl ?_
            refine s_iload (nx := 67) hO rfl rfl rfl ?_
            refine s_iconst (x := (nI 4)) (nx := 68) hO rfl (by decide) rfl ?_
            refine s_irem (nx := 69) hO rfl (by decide) rfl ?_
            refine s_icmp_lt (nx := 72) hO rfl rfl (fun c69 => ?_) (fun c69 => ?_)
            · replace H := H.1 c69
              exact xEx.loc (x_sub1 (List.Mem.tail _ (List.Mem.tail _ (List.Mem.tail _ (List.Mem.head _)))) (x_sub1 (List.Mem.tail _ (List.Mem.tail _ (List.Mem.tail _ (List.Mem.tail _ (List.Mem.head _))))) x_sub0)) H
            · replace H := H.2 c69
              refine s_aload_n (nx := 73) hO rfl rfl rfl ?_
              refine s_bipush (x := (nI 6)) (nx := 75) hO rfl (by decide) rfl ?_
              refine s_aload_n (nx := 76) hO rfl rfl rfl ?_
              refine s_getf (v := .ref (q_b G + 164)) (nx := 79) hO rfl rfl (hs_o12 kc139) rfl rfl ?_
              refine s_iconst (x := (nI 4)) (nx := 80) hO rfl (by decide) rfl ?_
              refine s_iload_n (nx := 81) hO rfl rfl rfl ?_
              refine s_imul (nx := 82) hO rfl rfl ?_
              refine s_iconst (x := (nI 3)) (nx := 83) hO rfl (by decide) rfl ?_
              refine s_iadd (nx := 84) hO rfl rfl ?_
              obtain ⟨b27, H⟩ := H
              refine s_iald (nx := 85) hO rfl (hs_I kc164) b27 rfl ?_
              refine s_callV [.int (nI 6), .int (sI s2 164 (ix (((nI 4) * x1) + (nI 3))))] (ci := 12) (F := TX12) (N := 116) (nx := 88) hO rfl kX12_resolve_303 (by rw [hcl]; rfl) (hs_o12 kc139) (w_X12_wrong hG H) rfl rfl (Nat.le_of_ble_eq_true rfl) (Nat.zero_le _) (Nat.zero_le _) rfl (k_Qv (fun s28 H => ?_))
              refine s_goto hO rfl ?_
              exact xEx.loc (x_sub1 (List.Mem.tail _ (List.Mem.tail _ (List.Mem.tail _ (List.Mem.head _)))) (x_sub1 (List.Mem.tail _ (List.Mem.tail _ (List.Mem.tail _ (List.Mem.tail _ (List.Mem.head _))))) x_sub0)) H
  refine s_istore_n (nx := 2) (l' := [(1, .int 0), (0, .ref (q_b G + 139))]) hO rfl (by decide) rfl rfl ?_
  exact xEx.loc (x_sub1 (List.Mem.tail _ (List.Mem.head _)) (x_sub1 (List.Mem.head _) x_sub0)) H
def W_X12_readPolicy (s : yS) (Q : yS → Prop) : Prop :=
 ∀ s1 : yS, s1 = wI s 139 10 0 → 
 ∀ s2 : yS, s2 = wI s1 139 15 0 → 
 ∀ s3 : yS, s3 = wI s2 139 16 (-1) → 
 ∀ s4 : yS, s4 = wI s3 139 19 0 → 
 ∀ s5 : yS, s5 = wI s4 139 25 0 → 
 ∀ s6 : yS, s6 = wI s5 139 27 0 → 
 ∀ s7 : yS, s7 = wI s6 139 34 0 → 
 ∀ s8 : yS, s8 = wI s7 139 41 0 → 
 ∀ s9 : yS, s9 = wI s8 139 43 0 → 
 ∀ P49 : yS → Prop, (∀ (s10 : yS), (∀ P142 : Prop, ((∀ P156 : Int32 → Prop, (∀ (y11 : Int32), (W_X12_must s10 y11 
    (fun r12 s13 => ∀ P176 : yS → Prop, (∀ (s14 : yS), (W_X12_resolve s14 
     (fun s15 => Q s15)) → P176 s14) → 
    ((¬ (sI s13 139 27) = 0 → P176 s13)
    ∧ ((sI s13 139 27) = 0 → W_X12_wrong s13 (nI 4) (sI s13 139 9) 
     (fun s16 => P176 s16))))) → P156 y11) → 
   ((¬ (sI s10 139 11) = (nI 4) → P156 0)
   ∧ ((sI s10 139 11) = (nI 4) → P156 1))) → P142) → 
  ((¬ (sI s10 139 15) = 0 → P142)
  ∧ ((sI s10 139 15) = 0 → ((¬ (sI s10 139 11) = 0 → P142)
   ∧ ((sI s10 139 11) = 0 → ∀ x17 : Int32, x17 = (sI s10 139 12) → 
    ((¬ (sI s10 139 27) = (nI 24) → W_X12_next s10 
     (fun s18 => W_X12_isWord s18 (y_nm y_w339 0) 
     (fun r19 => ∀ P121 : Prop, ((W_X12_isWord s18 (y_nm y_w349 0) 
      (fun r20 => W_X12_must s18 r20 
      (fun r21 s22 => ((r21 = 0 → P49 s22)
      ∧ (¬ r21 = 0 → W_X12_readNode s22 
       (fun s23 => P49 s23)))))) → P121) → 
     ((r19 = 0 → P121)
     ∧ (¬ r19 = 0 → ((¬ (sI s18 139 27) = 0 → P121)
      ∧ ((sI s18 139 27) = 0 → (((nI 6) ≤ (sI s18 139 19) → P121)
       ∧ (¬ (nI 6) ≤ (sI s18 139 19) → W_X12_readCounter s18 
        (fun s24 => P49 s24))))))))))
    ∧ ((sI s10 139 27) = (nI 24) → W_X12_wrong s10 (nI 2) x17 
     (fun s25 => Q s25)))))))) → P49 s10) → 
 W_X12_next s9 
 (fun s26 => P49 s26)
set_option maxRecDepth 100000 in
set_option maxHeartbeats 40000000 in
theorem w_X12_readPolicy {G : xG} (hG : yG G) {z : Nat} {s : yS} {Q : yS → Prop} (H : W_X12_readPolicy s Q) : xC G mX12_readPolicy [.ref (q_b G + 139)] (hS G s) z 0 0 (yQv G z Q) := by
  have hW := hG.1
  have hcl := hG.2.1
  have hty := hG.2.2.1
  obtain ⟨q, v, hws⟩ := hG.2.2.2.2.2
  have hO : xO G mX12_readPolicy tbX12_readPolicy ptX12_readPolicy := ⟨tkX12_readPolicy, pkX12_readPolicy hcl⟩
  unfold W_X12_readPolicy at H
  refine xC.of hW (by decide) rfl (Nat.le_of_ble_eq_true rfl) ?_
  refine s_aload_n (nx := 1) hO rfl rfl rfl ?_
  refine s_iconst (x := 0) (nx := 2) hO rfl (by decide) rfl ?_
  refine goV (wI s 139 10 0) (fun s1 es1 => ?_)
  replace H := H s1 es1
  refine s_putf (nx := 5) hO rfl rfl (hs_o12 kc139) (Nat.le_of_ble_eq_true rfl) (by rw [hty]; rfl) (by rw [hty]; rfl) pX12_10 rfl ?_
  refine xEx.at (up_oI12 kc139 es1) ?_
  refine s_aload_n (nx := 6) hO rfl rfl rfl ?_
  refine s_iconst (x := 0) (nx := 7) hO rfl (by decide) rfl ?_
  refine goV (wI s1 139 15 0) (fun s2 es2 => ?_)
  replace H := H s2 es2
  refine s_putf (nx := 10) hO rfl rfl (hs_o12 kc139) (Nat.le_of_ble_eq_true rfl) (by rw [hty]; rfl) (by rw [hty]; rfl) pX12_15 rfl ?_
  refine xEx.at (up_oI12 kc139 es2) ?_
  refine s_aload_n (nx := 11) hO rfl rfl rfl ?_
  refine s_iconst (x := (-1)) (nx := 12) hO rfl (by decide) rfl ?_
  refine goV (wI s2 139 16 (-1)) (fun s3 es3 => ?_)
  replace H := H s3 es3
  refine s_putf (nx := 15) hO rfl rfl (hs_o12 kc139) (Nat.le_of_ble_eq_true rfl) (by rw [hty]; rfl) (by rw [hty]; rfl) pX12_16 rfl ?_
  refine xEx.at (up_oI12 kc139 es3) ?_
  refine s_aload_n (nx := 16) hO rfl rfl rfl ?_
  refine s_iconst (x := 0) (nx := 17) hO rfl (by decide) rfl ?_
  refine goV (wI s3 139 19 0) (fun s4 es4 => ?_)
  replace H := H s4 es4
  refine s_putf (nx := 20) hO rfl rfl (hs_o12 kc139) (Nat.le_of_ble_eq_true rfl) (by rw [hty]; rfl) (by rw [hty]; rfl) pX12_19 rfl ?_
  refine xEx.at (up_oI12 kc139 es4) ?_
  refine s_aload_n (nx := 21) hO rfl rfl rfl ?_
  refine s_iconst (x := 0) (nx := 22) hO rfl (by decide) rfl ?_
  refine goV (wI s4 139 25 0) (fun s5 es5 => ?_)
  replace H := H s5 es5
  refine s_putf (nx := 25) hO rfl rfl (hs_o12 kc139) (Nat.le_of_ble_eq_true rfl) (by rw [hty]; rfl) (by rw [hty]; rfl) pX12_25 rfl ?_
  refine xEx.at (up_oI12 kc139 es5) ?_
  refine s_aload_n (nx := 26) hO rfl rfl rfl ?_
  refine s_iconst (x := 0) (nx := 27) hO rfl (by decide) rfl ?_
  refine goV (wI s5 139 27 0) (fun s6 es6 => ?_)
  replace H := H s6 es6
  refine s_putf (nx := 30) hO rfl rfl (hs_o12 kc139) (Nat.le_of_ble_eq_true rfl) (by rw [hty]; rfl) (by rw [hty]; rfl) pX12_27 rfl ?_
  refine xEx.at (up_oI12 kc139 es6) ?_
  refine s_aload_n (nx := 31) hO rfl rfl rfl ?_
  refine s_iconst (x := 0) (nx := 32) hO rfl (by decide) rfl ?_
  refine goV (wI s6 139 34 0) (fun s7 es7 => ?_)
  replace H := H s7 es7
  refine s_putf (nx := 35) hO rfl rfl (hs_o12 kc139) (Nat.le_of_ble_eq_true rfl) (by rw [hty]; rfl) (by rw [hty]; rfl) pX12_34 rfl ?_
  refine xEx.at (up_oI12 kc139 es7) ?_
  refine s_aload_n (nx := 36) hO rfl rfl rfl ?_
  refine s_iconst (x := 0) (nx := 37) hO rfl (by decide) rfl ?_
  refine goV (wI s7 139 41 0) (fun s8 es8 => ?_)
  replace H := H s8 es8
  refine s_putf (nx := 40) hO rfl rfl (hs_o12 kc139) (Nat.le_of_ble_eq_true rfl) (by rw [hty]; rfl) (by rw [hty]; rfl) pX12_41 rfl ?_
  refine xEx.at (up_oI12 kc139 es8) ?_
  refine s_aload_n (nx := 41) hO rfl rfl rfl ?_
  refine s_iconst (x := 0) (nx := 42) hO rfl (by decide) rfl ?_
  refine goV (wI s8 139 43 0) (fun s9 es9 => ?_)
  replace H := H s9 es9
  refine s_putf (nx := 45) hO rfl rfl (hs_o12 kc139) (Nat.le_of_ble_eq_true rfl) (by rw [hty]; rfl) (by rw [hty]; rfl) pX12_43 rfl ?_
  refine xEx.at (up_oI12 kc139 es9) ?_
  refine s_aload_n (nx := 46) hO rfl rfl rfl ?_
  refine goK (H (fun (s10 : yS) => xEx G mX12_readPolicy 49 [(0, .ref (q_b G + 139))] [] (hS G s10) z 0 0 (yQv G z Q)) (fun s10 H => ?_)) (fun H => ?_)
  · show xEx G mX12_readPolicy 49 [(0, .ref (q_b G + 139))] [] (hS G s10) z 0 0 (yQv G z Q)
    refine s_aload_n (nx := 50) hO rfl rfl rfl ?_
    refine s_getf (v := .int (sI s10 139 15)) (nx := 53) hO rfl rfl (hs_o12 kc139) rfl rfl ?_
    refine goK (H (xEx G mX12_readPolicy 142 [(0, .ref (q_b G + 139))] [] (hS G s10) z 0 0 (yQv G z Q)) (fun H => ?_)) (fun H => ?_)
    · show xEx G mX12_readPolicy 142 [(0, .ref (q_b G + 139))] [] (hS G s10) z 0 0 (yQv G z Q)
      refine s_aload_n (nx := 143) hO rfl rfl rfl ?_
      refine s_aload_n (nx := 144) hO rfl rfl rfl ?_
      refine s_getf (v := .int (sI s10 139 11)) (nx := 147) hO rfl rfl (hs_o12 kc139) rfl rfl ?_
      refine s_iconst (x := (nI 4)) (nx := 148) hO rfl (by decide) rfl ?_
      refine goK (H (fun (y11 : Int32) => xEx G mX12_readPolicy 156 [(0, .ref (q_b G + 139))] [.int y11, .ref (q_b G + 139)] (hS G s10) z 0 0 (yQv G z Q)) (fun y11 H => ?_)) (fun H => ?_)
      · show xEx G mX12_readPolicy 156 [(0, .ref (q_b G + 139))] [.int y11, .ref (q_b G + 139)] (hS G s10) z 0 0 (yQv G z Q)
        refine s_callV [.int y11] (ci := 12) (F := TX12) (N := 116) (nx := 159) hO rfl kX12_readPolicy_367 (by rw [hcl]; rfl) (hs_o12 kc139) (w_X12_must hG H) rfl rfl (Nat.le_of_ble_eq_true rfl) (Nat.zero_le _) (Nat.zero_le _) rfl (k_Qi (fun r12 s13 H => ?_))
        refine s_istore_n (nx := 160) (l' := [(1, .int r12), (0, .ref (q_b G + 139))]) hO rfl (by decide) rfl rfl ?_
        refine s_aload_n (nx := 161) hO rfl rfl rfl ?_
        refine s_getf (v := .int (sI s13 139 27)) (nx := 164) hO rfl rfl (hs_o12 kc139) rfl rfl ?_
        refine goK (H (fun (s14 : yS) => xEx G mX12_readPolicy 176 [(0, .ref (q_b G + 139))] [] (hS G s14) z 0 0 (yQv G z Q)) (fun s14 H => ?_)) (fun H => ?_)
        · show xEx G mX12_readPolicy 176 [(0, .ref (q_b G + 139))] [] (hS G s14) z 0 0 (yQv G z Q)
          refine s_aload_n (nx := 177) hO rfl rfl rfl ?_
          refine s_callV [] (ci := 12) (F := TX12) (N := 116) (nx := 180) hO rfl kX12_readPolicy_398 (by rw [hcl]; rfl) (hs_o12 kc139) (w_X12_resolve hG H) rfl rfl (Nat.le_of_ble_eq_true rfl) (Nat.zero_le _) (Nat.zero_le _) rfl (k_Qv (fun s15 H => ?_))
          exact s_vret hO rfl rfl ⟨rfl, _, rfl, rfl, H⟩
        refine s_if_ne (nx := 167) hO rfl rfl (fun c164 => ?_) (fun c164 => ?_)
        · replace H := H.1 c164
          exact xEx.loc (x_sub1 (List.Mem.tail _ (List.Mem.head _)) x_sub0) H
        · replace H := H.2 c164
          refine s_aload_n (nx := 168) hO rfl rfl rfl ?_
          refine s_iconst (x := (nI 4)) (nx := 169) hO rfl (by decide) rfl ?_
          refine s_aload_n (nx := 170) hO rfl rfl rfl ?_
          refine s_getf (v := .int (sI s13 139 9)) (nx := 173) hO rfl rfl (hs_o12 kc139) rfl rfl ?_
          refine s_callV [.int (nI 4), .int (sI s13 139 9)] (ci := 12) (F := TX12) (N := 116) (nx := 176) hO rfl kX12_readPolicy_303 (by rw [hcl]; rfl) (hs_o12 kc139) (w_X12_wrong hG H) rfl rfl (Nat.le_of_ble_eq_true rfl) (Nat.zero_le _) (Nat.zero_le _) rfl (k_Qv (fun s16 H => ?_))
          exact xEx.loc (x_sub1 (List.Mem.tail _ (List.Mem.head _)) x_sub0) H
      refine s_icmp_ne (nx := 151) hO rfl rfl (fun c148 => ?_) (fun c148 => ?_)
      · replace H := H.1 c148
        refine s_iconst (x := 0) (nx := 156) hO rfl (by decide) rfl ?_
        exact xEx.loc (x_sub1 (List.Mem.head _) x_sub0) H
      · replace H := H.2 c148
        refine s_iconst (x := 1) (nx := 152) hO rfl (by decide) rfl ?_
        refine s_goto hO rfl ?_
        exact xEx.loc (x_sub1 (List.Mem.head _) x_sub0) H
    refine s_if_ne (nx := 56) hO rfl rfl (fun c53 => ?_) (fun c53 => ?_)
    · replace H := H.1 c53
      exact xEx.loc (x_sub1 (List.Mem.head _) x_sub0) H
    · replace H := H.2 c53
      refine s_aload_n (nx := 57) hO rfl rfl rfl ?_
      refine s_getf (v := .int (sI s10 139 11)) (nx := 60) hO rfl rfl (hs_o12 kc139) rfl rfl ?_
      refine s_if_ne (nx := 63) hO rfl rfl (fun c60 => ?_) (fun c60 => ?_)
      · replace H := H.1 c60
        exact xEx.loc (x_sub1 (List.Mem.head _) x_sub0) H
      · replace H := H.2 c60
        refine s_aload_n (nx := 64) hO rfl rfl rfl ?_
        refine s_getf (v := .int (sI s10 139 12)) (nx := 67) hO rfl rfl (hs_o12 kc139) rfl rfl ?_
        refine goV ((sI s10 139 12)) (fun x17 ex17 => ?_)
        replace H := H x17 ex17
        refine e_istore_n (nx := 68) (l' := [(1, .int x17), (0, .ref (q_b G + 139))]) ex17 hO rfl (by decide) rfl rfl ?_
        refine s_aload_n (nx := 69) hO rfl rfl rfl ?_
        refine s_getf (v := .int (sI s10 139 27)) (nx := 72) hO rfl rfl (hs_o12 kc139) rfl rfl ?_
        refine s_bipush (x := (nI 24)) (nx := 74) hO rfl (by decide) rfl ?_
        refine s_icmp_ne (nx := 77) hO rfl rfl (fun c74 => ?_) (fun c74 => ?_)
        · replace H := H.1 c74
          refine s_aload_n (nx := 85) hO rfl rfl rfl ?_
          refine s_callV [] (ci := 12) (F := TX12) (N := 116) (nx := 88) hO rfl kX12_readPolicy_371 (by rw [hcl]; rfl) (hs_o12 kc139) (w_X12_next hG H) rfl rfl (Nat.le_of_ble_eq_true rfl) (Nat.zero_le _) (Nat.zero_le _) rfl (k_Qv (fun s18 H => ?_))
          refine s_aload_n (nx := 89) hO rfl rfl rfl ?_
          refine s_ldcwS (nx := 92) hws.1 hO rfl rfl ?_
          refine s_callV [.ref (q 339)] (ci := 12) (F := TX12) (N := 116) (nx := 95) hO rfl kX12_readPolicy_341 (by rw [hcl]; rfl) (hs_o12 kc139) (w_X12_isWord hG hws.2.1 H) rfl rfl (Nat.le_of_ble_eq_true rfl) (Nat.zero_le _) (Nat.zero_le _) rfl (k_Pi (fun r19 H => ?_))
          refine goK (H (xEx G mX12_readPolicy 121 [(0, .ref (q_b G + 139))] [] (hS G s18) z 0 0 (yQv G z Q)) (fun H => ?_)) (fun H => ?_)
          · show xEx G mX12_readPolicy 121 [(0, .ref (q_b G + 139))] [] (hS G s18) z 0 0 (yQv G z Q)
            refine s_aload_n (nx := 122) hO rfl rfl rfl ?_
            refine s_aload_n (nx := 123) hO rfl rfl rfl ?_
            refine s_ldcwS (nx := 126) hws.2.2.2.2.2.2.1 hO rfl rfl ?_
            refine s_callV [.ref (q 349)] (ci := 12) (F := TX12) (N := 116) (nx := 129) hO rfl kX12_readPolicy_341 (by rw [hcl]; rfl) (hs_o12 kc139) (w_X12_isWord hG hws.2.2.2.2.2.2.2.1 H) rfl rfl (Nat.le_of_ble_eq_true rfl) (Nat.zero_le _) (Nat.zero_le _) rfl (k_Pi (fun r20 H => ?_))
            refine s_callV [.int r20] (ci := 12) (F := TX12) (N := 116) (nx := 132) hO rfl kX12_readPolicy_367 (by rw [hcl]; rfl) (hs_o12 kc139) (w_X12_must hG H) rfl rfl (Nat.le_of_ble_eq_true rfl) (Nat.zero_le _) (Nat.zero_le _) rfl (k_Qi (fun r21 s22 H => ?_))
            refine s_if_eq (nx := 135) hO rfl rfl (fun c132 => ?_) (fun c132 => ?_)
            · replace H := H.1 c132
              refine s_goto hO rfl ?_
              exact xEx.loc (x_sub1 (List.Mem.head _) x_sub0) H
            · replace H := H.2 c132
              refine s_aload_n (nx := 136) hO rfl rfl rfl ?_
              refine s_callV [] (ci := 12) (F := TX12) (N := 116) (nx := 139) hO rfl kX12_readPolicy_395 (by rw [hcl]; rfl) (hs_o12 kc139) (w_X12_readNode hG H) rfl rfl (Nat.le_of_ble_eq_true rfl) (Nat.zero_le _) (Nat.zero_le _) rfl (k_Qv (fun s23 H => ?_))
              refine s_goto hO rfl ?_
              exact xEx.loc (x_sub1 (List.Mem.head _) x_sub0) H
          refine s_if_eq (nx := 98) hO rfl rfl (fun c95 => ?_) (fun c95 => ?_)
          · replace H := H.1 c95
            exact xEx.loc (x_sub1 (List.Mem.tail _ (List.Mem.head _)) x_sub0) H
          · replace H := H.2 c95
            refine s_aload_n (nx := 99) hO rfl rfl rfl ?_
            refine s_getf (v := .int (sI s18 139 27)) (nx := 102) hO rfl rfl (hs_o12 kc139) rfl rfl ?_
            refine s_if_ne (nx := 105) hO rfl rfl (fun c102 => ?_) (fun c102 => ?_)
            · replace H := H.1 c102
              exact xEx.loc (x_sub1 (List.Mem.tail _ (List.Mem.head _)) x_sub0) H
            · replace H := H.2 c102
              refine s_aload_n (nx := 106) hO rfl rfl rfl ?_
              refine s_getf (v := .int (sI s18 139 19)) (nx := 109) hO rfl rfl (hs_o12 kc139) rfl rfl ?_
              refine s_bipush (x := (nI 6)) (nx := 111) hO rfl (by decide) rfl ?_
              refine s_icmp_ge (nx := 114) hO rfl rfl (fun c111 => ?_) (fun c111 => ?_)
              · replace H := H.1 c111
                exact xEx.loc (x_sub1 (List.Mem.tail _ (List.Mem.head _)) x_sub0) H
              · replace H := H.2 c111
                refine s_aload_n (nx := 115) hO rfl rfl rfl ?_
                refine s_callV [] (ci := 12) (F := TX12) (N := 116) (nx := 118) hO rfl kX12_readPolicy_392 (by rw [hcl]; rfl) (hs_o12 kc139) (w_X12_readCounter hG H) rfl rfl (Nat.le_of_ble_eq_true rfl) (Nat.zero_le _) (Nat.zero_le _) rfl (k_Qv (fun s24 H => ?_))
                refine s_goto hO rfl ?_
                refine s_goto hO rfl ?_
                exact xEx.loc (x_sub1 (List.Mem.tail _ (List.Mem.head _)) x_sub0) H
        · replace H := H.2 c74
          refine s_aload_n (nx := 78) hO rfl rfl rfl ?_
          refine s_iconst (x := (nI 2)) (nx := 79) hO rfl (by decide) rfl ?_
          refine s_iload_n (nx := 80) hO rfl rfl rfl ?_
          refine s_callV [.int (nI 2), .int x17] (ci := 12) (F := TX12) (N := 116) (nx := 83) hO rfl kX12_readPolicy_303 (by rw [hcl]; rfl) (hs_o12 kc139) (w_X12_wrong hG H) rfl rfl (Nat.le_of_ble_eq_true rfl) (Nat.zero_le _) (Nat.zero_le _) rfl (k_Qv (fun s25 H => ?_))
          exact s_vret hO rfl rfl ⟨rfl, _, rfl, rfl, H⟩
  refine s_callV [] (ci := 12) (F := TX12) (N := 116) (nx := 49) hO rfl kX12_readPolicy_371 (by rw [hcl]; rfl) (hs_o12 kc139) (w_X12_next hG H) rfl rfl (Nat.le_of_ble_eq_true rfl) (Nat.zero_le _) (Nat.zero_le _) rfl (k_Qv (fun s26 H => ?_))
  exact xEx.loc (x_sub1 (List.Mem.head _) x_sub0) H
def W_X12_cut (s : yS) (v1 : Int32) (v2 : Int64) (v3 : Int32) (v4 : Int32) (Q : yS → Prop) : Prop :=
 (((lg_cmp v2 (v3).toInt64) ≤ 0 → Q s)
 ∧ (¬ (lg_cmp v2 (v3).toInt64) ≤ 0 → (((lg_cmp v2 (v4).toInt64) ≤ 0 → vp_in v1 9 ∧ 
   ∀ x2 : Int32, x2 = (sI s 169 (ix v1)) → 
   ∀ P28 : Int32 → Prop, (∀ (x3 : Int32), (∀ P60 : Prop, ((∀ P87 : Prop, ((∀ P91 : Int32 → yS → Prop, (∀ (x4 : Int32) (s5 : yS), (((x4 ≤ x3 → vp_in (((nI 2000) * v1) + x3) 18000 ∧ ∀ s7 : yS, s7 = wI s5 168 (ix (((nI 2000) * v1) + x3)) (v2).toInt32 → 
        vp_in v1 9 ∧ 
        vp_in v1 9 ∧ ∀ s10 : yS, s10 = wI s7 169 (ix v1) ((sI s7 169 (ix v1)) + 1) → 
        Q s10)
       ∧ (¬ x4 ≤ x3 → vp_in ((((nI 2000) * v1) + x4) - 1) 18000 ∧ 
        vp_in (((nI 2000) * v1) + x4) 18000 ∧ ∀ s13 : yS, s13 = wI s5 168 (ix (((nI 2000) * v1) + x4)) (sI s5 168 (ix ((((nI 2000) * v1) + x4) - 1))) → 
        ∀ x14 : Int32, x14 = (x4 + (-1)) → 
        P91 x14 s13))) → P91 x4 s5) → 
      P91 x2 s) → P87) → 
     ((x2 ≤ x3 → P87)
     ∧ (¬ x2 ≤ x3 → vp_in (((nI 2000) * v1) + x3) 18000 ∧ 
      ((¬ (lg_cmp ((sI s 168 (ix (((nI 2000) * v1) + x3)))).toInt64 v2) = 0 → P87)
      ∧ ((lg_cmp ((sI s 168 (ix (((nI 2000) * v1) + x3)))).toInt64 v2) = 0 → Q s))))) → P60) → 
    ((x2 ≤ x3 → P60)
    ∧ (¬ x2 ≤ x3 → vp_in (((nI 2000) * v1) + x3) 18000 ∧ 
     ((0 ≤ (lg_cmp ((sI s 168 (ix (((nI 2000) * v1) + x3)))).toInt64 v2) → P60)
     ∧ (¬ 0 ≤ (lg_cmp ((sI s 168 (ix (((nI 2000) * v1) + x3)))).toInt64 v2) → ∀ x17 : Int32, x17 = (x3 + 1) → 
      P28 x17))))) → P28 x3) → 
   P28 0)
  ∧ (¬ (lg_cmp v2 (v4).toInt64) ≤ 0 → Q s))))
set_option maxRecDepth 100000 in
set_option maxHeartbeats 40000000 in
theorem w_X12_cut {G : xG} (hG : yG G) {z : Nat} {s : yS} {v1 : Int32} {v2 : Int64} {v3 : Int32} {v4 : Int32} {Q : yS → Prop} (H : W_X12_cut s v1 v2 v3 v4 Q) : xC G mX12_cut [.ref (q_b G + 139), .int v1, .long v2, .int v3, .int v4] (hS G s) z 0 0 (yQv G z Q) := by
  have hW := hG.1
  have hcl := hG.2.1
  have hty := hG.2.2.1
  have hO : xO G mX12_cut tbX12_cut ptX12_cut := ⟨tkX12_cut, pkX12_cut hcl⟩
  unfold W_X12_cut at H
  refine xC.of hW (by decide) rfl (Nat.le_of_ble_eq_true rfl) ?_
  refine s_lload_n (nx := 1) hO rfl rfl rfl ?_
  refine s_iload (nx := 3) hO rfl rfl rfl ?_
  refine s_i2l (nx := 4) hO rfl rfl ?_
  refine s_lcmp (nx := 5) hO rfl rfl ?_
  refine s_if_le (nx := 8) hO rfl rfl (fun c5 => ?_) (fun c5 => ?_)
  · replace H := H.1 c5
    exact s_vret hO rfl rfl ⟨rfl, _, rfl, rfl, H⟩
  · replace H := H.2 c5
    refine s_lload_n (nx := 9) hO rfl rfl rfl ?_
    refine s_iload (nx := 11) hO rfl rfl rfl ?_
    refine s_i2l (nx := 12) hO rfl rfl ?_
    refine s_lcmp (nx := 13) hO rfl rfl ?_
    refine s_if_le (nx := 16) hO rfl rfl (fun c13 => ?_) (fun c13 => ?_)
    · replace H := H.1 c13
      refine s_aload_n (nx := 18) hO rfl rfl rfl ?_
      refine s_getf (v := .ref (q_b G + 169)) (nx := 21) hO rfl rfl (hs_o12 kc139) rfl rfl ?_
      refine s_iload_n (nx := 22) hO rfl rfl rfl ?_
      obtain ⟨b1, H⟩ := H
      refine s_iald (nx := 23) hO rfl (hs_I kc169) b1 rfl ?_
      refine goV ((sI s 169 (ix v1))) (fun x2 ex2 => ?_)
      replace H := H x2 ex2
      refine e_istore (nx := 25) (l' := [(6, .int x2), (0, .ref (q_b G + 139)), (1, .int v1), (2, .long v2), (4, .int v3), (5, .int v4)]) ex2 hO rfl (by decide) rfl rfl ?_
      refine s_iconst (x := 0) (nx := 26) hO rfl (by decide) rfl ?_
      refine goK (H (fun (x3 : Int32) => xEx G mX12_cut 28 [(0, .ref (q_b G + 139)), (1, .int v1), (2, .long v2), (6, .int x2), (7, .int x3)] [] (hS G s) z 0 0 (yQv G z Q)) (fun x3 H => ?_)) (fun H => ?_)
      · show xEx G mX12_cut 28 [(0, .ref (q_b G + 139)), (1, .int v1), (2, .long v2), (6, .int x2), (7, .int x3)] [] (hS G s) z 0 0 (yQv G z Q)
        refine s_iload (nx := 30) hO rfl rfl rfl ?_
        refine s_iload (nx := 32) hO rfl rfl rfl ?_
        refine goK (H (xEx G mX12_cut 60 [(0, .ref (q_b G + 139)), (1, .int v1), (2, .long v2), (6, .int x2), (7, .int x3)] [] (hS G s) z 0 0 (yQv G z Q)) (fun H => ?_)) (fun H => ?_)
        · show xEx G mX12_cut 60 [(0, .ref (q_b G + 139)), (1, .int v1), (2, .long v2), (6, .int x2), (7, .int x3)] [] (hS G s) z 0 0 (yQv G z Q)
          refine s_iload (nx := 62) hO rfl rfl rfl ?_
          refine s_iload (nx := 64) hO rfl rfl rfl ?_
          refine goK (H (xEx G mX12_cut 87 [(0, .ref (q_b G + 139)), (1, .int v1), (2, .long v2), (6, .int x2), (7, .int x3)] [] (hS G s) z 0 0 (yQv G z Q)) (fun H => ?_)) (fun H => ?_)
          · show xEx G mX12_cut 87 [(0, .ref (q_b G + 139)), (1, .int v1), (2, .long v2), (6, .int x2), (7, .int x3)] [] (hS G s) z 0 0 (yQv G z Q)
            refine s_iload (nx := 89) hO rfl rfl rfl ?_
            refine goK (H (fun (x4 : Int32) (s5 : yS) => xEx G mX12_cut 91 [(0, .ref (q_b G + 139)), (1, .int v1), (2, .long v2), (7, .int x3), (8, .int x4)] [] (hS G s5) z 0 0 (yQv G z Q)) (fun x4 s5 H => ?_)) (fun H => ?_)
            · show xEx G mX12_cut 91 [(0, .ref (q_b G + 139)), (1, .int v1), (2, .long v2), (7, .int x3), (8, .int x4)] [] (hS G s5) z 0 0 (yQv G z Q)
              refine s_iload (nx := 93) hO rfl rfl rfl ?_
              refine s_iload (nx := 95) hO rfl rfl rfl ?_
              refine s_icmp_le (nx := 98) hO rfl rfl (fun c95 => ?_) (fun c95 => ?_)
              · replace H := H.1 c95
                refine s_aload_n (nx := 133) hO rfl rfl rfl ?_
                refine s_getf (v := .ref (q_b G + 168)) (nx := 136) hO rfl rfl (hs_o12 kc139) rfl rfl ?_
                refine s_sipush (x := (nI 2000)) (nx := 139) hO rfl (by decide) rfl ?_
                refine s_iload_n (nx := 140) hO rfl rfl rfl ?_
                refine s_imul (nx := 141) hO rfl rfl ?_
                refine s_iload (nx := 143) hO rfl rfl rfl ?_
                refine s_iadd (nx := 144) hO rfl rfl ?_
                refine s_lload_n (nx := 145) hO rfl rfl rfl ?_
                refine s_l2i (nx := 146) hO rfl rfl ?_
                obtain ⟨b6, H⟩ := H
                refine goV (wI s5 168 (ix (((nI 2000) * v1) + x3)) (v2).toInt32) (fun s7 es7 => ?_)
                replace H := H s7 es7
                refine s_iast (nx := 147) hO rfl (hs_I kc168) b6 rfl ?_
                refine xEx.at (up_I kc168 es7) ?_
                refine s_aload_n (nx := 148) hO rfl rfl rfl ?_
                refine s_getf (v := .ref (q_b G + 169)) (nx := 151) hO rfl rfl (hs_o12 kc139) rfl rfl ?_
                refine s_iload_n (nx := 152) hO rfl rfl rfl ?_
                refine s_dup2 (nx := 153) hO rfl rfl rfl rfl ?_
                obtain ⟨b8, H⟩ := H
                refine s_iald (nx := 154) hO rfl (hs_I kc169) b8 rfl ?_
                refine s_iconst (x := 1) (nx := 155) hO rfl (by decide) rfl ?_
                refine s_iadd (nx := 156) hO rfl rfl ?_
                obtain ⟨b9, H⟩ := H
                refine goV (wI s7 169 (ix v1) ((sI s7 169 (ix v1)) + 1)) (fun s10 es10 => ?_)
                replace H := H s10 es10
                refine s_iast (nx := 157) hO rfl (hs_I kc169) b9 rfl ?_
                refine xEx.at (up_I kc169 es10) ?_
                exact s_vret hO rfl rfl ⟨rfl, _, rfl, rfl, H⟩
              · replace H := H.2 c95
                refine s_aload_n (nx := 99) hO rfl rfl rfl ?_
                refine s_getf (v := .ref (q_b G + 168)) (nx := 102) hO rfl rfl (hs_o12 kc139) rfl rfl ?_
                refine s_sipush (x := (nI 2000)) (nx := 105) hO rfl (by decide) rfl ?_
                refine s_iload_n (nx := 106) hO rfl rfl rfl ?_
                refine s_imul (nx := 107) hO rfl rfl ?_
                refine s_iload (nx := 109) hO rfl rfl rfl ?_
                refine s_iadd (nx := 110) hO rfl rfl ?_
                refine s_aload_n (nx := 111) hO rfl rfl rfl ?_
                refine s_getf (v := .ref (q_b G + 168)) (nx := 114) hO rfl rfl (hs_o12 kc139) rfl rfl ?_
                refine s_sipush (x := (nI 2000)) (nx := 117) hO rfl (by decide) rfl ?_
                refine s_iload_n (nx := 118) hO rfl rfl rfl ?_
                refine s_imul (nx := 119) hO rfl rfl ?_
                refine s_iload (nx := 121) hO rfl rfl rfl ?_
                refine s_iadd (nx := 122) hO rfl rfl ?_
                refine s_iconst (x := 1) (nx := 123) hO rfl (by decide) rfl ?_
                refine s_isub (nx := 124) hO rfl rfl ?_
                obtain ⟨b11, H⟩ := H
                refine s_iald (nx := 125) hO rfl (hs_I kc168) b11 rfl ?_
                obtain ⟨b12, H⟩ := H
                refine goV (wI s5 168 (ix (((nI 2000) * v1) + x4)) (sI s5 168 (ix ((((nI 2000) * v1) + x4) - 1)))) (fun s13 es13 => ?_)
                replace H := H s13 es13
                refine s_iast (nx := 126) hO rfl (hs_I kc168) b12 rfl ?_
                refine xEx.at (up_I kc168 es13) ?_
                refine goV ((x4 + (-1))) (fun x14 ex14 => ?_)
                replace H := H x14 ex14
                refine e_iinc (nx := 129) (l' := [(8, .int x14), (0, .ref (q_b G + 139)), (1, .int v1), (2, .long v2), (7, .int x3)]) ex14 hO rfl (by decide) rfl rfl rfl rfl ?_
                refine s_goto hO rfl ?_
                exact xEx.loc (x_sub1 (List.Mem.tail _ (List.Mem.head _)) (x_sub1 (List.Mem.tail _ (List.Mem.tail _ (List.Mem.head _))) (x_sub1 (List.Mem.tail _ (List.Mem.tail _ (List.Mem.tail _ (List.Mem.head _)))) (x_sub1 (List.Mem.tail _ (List.Mem.tail _ (List.Mem.tail _ (List.Mem.tail _ (List.Mem.head _))))) (x_sub1 (List.Mem.head _) x_sub0))))) H
            refine s_istore (nx := 91) (l' := [(8, .int x2), (0, .ref (q_b G + 139)), (1, .int v1), (2, .long v2), (6, .int x2), (7, .int x3)]) hO rfl (by decide) rfl rfl ?_
            exact xEx.loc (x_sub1 (List.Mem.tail _ (List.Mem.head _)) (x_sub1 (List.Mem.tail _ (List.Mem.tail _ (List.Mem.head _))) (x_sub1 (List.Mem.tail _ (List.Mem.tail _ (List.Mem.tail _ (List.Mem.head _)))) (x_sub1 (List.Mem.tail _ (List.Mem.tail _ (List.Mem.tail _ (List.Mem.tail _ (List.Mem.tail _ (List.Mem.head _)))))) (x_sub1 (List.Mem.head _) x_sub0))))) H
          refine s_icmp_ge (nx := 67) hO rfl rfl (fun c64 => ?_) (fun c64 => ?_)
          · replace H := H.1 c64
            exact xEx.loc (x_sub1 (List.Mem.head _) (x_sub1 (List.Mem.tail _ (List.Mem.head _)) (x_sub1 (List.Mem.tail _ (List.Mem.tail _ (List.Mem.head _))) (x_sub1 (List.Mem.tail _ (List.Mem.tail _ (List.Mem.tail _ (List.Mem.head _)))) (x_sub1 (List.Mem.tail _ (List.Mem.tail _ (List.Mem.tail _ (List.Mem.tail _ (List.Mem.head _))))) x_sub0))))) H
          · replace H := H.2 c64
            refine s_aload_n (nx := 68) hO rfl rfl rfl ?_
            refine s_getf (v := .ref (q_b G + 168)) (nx := 71) hO rfl rfl (hs_o12 kc139) rfl rfl ?_
            refine s_sipush (x := (nI 2000)) (nx := 74) hO rfl (by decide) rfl ?_
            refine s_iload_n (nx := 75) hO rfl rfl rfl ?_
            refine s_imul (nx := 76) hO rfl rfl ?_
            refine s_iload (nx := 78) hO rfl rfl rfl ?_
            refine s_iadd (nx := 79) hO rfl rfl ?_
            obtain ⟨b15, H⟩ := H
            refine s_iald (nx := 80) hO rfl (hs_I kc168) b15 rfl ?_
            refine s_i2l (nx := 81) hO rfl rfl ?_
            refine s_lload_n (nx := 82) hO rfl rfl rfl ?_
            refine s_lcmp (nx := 83) hO rfl rfl ?_
            refine s_if_ne (nx := 86) hO rfl rfl (fun c83 => ?_) (fun c83 => ?_)
            · replace H := H.1 c83
              exact xEx.loc (x_sub1 (List.Mem.head _) (x_sub1 (List.Mem.tail _ (List.Mem.head _)) (x_sub1 (List.Mem.tail _ (List.Mem.tail _ (List.Mem.head _))) (x_sub1 (List.Mem.tail _ (List.Mem.tail _ (List.Mem.tail _ (List.Mem.head _)))) (x_sub1 (List.Mem.tail _ (List.Mem.tail _ (List.Mem.tail _ (List.Mem.tail _ (List.Mem.head _))))) x_sub0))))) H
            · replace H := H.2 c83
              exact s_vret hO rfl rfl ⟨rfl, _, rfl, rfl, H⟩
        refine s_icmp_ge (nx := 35) hO rfl rfl (fun c32 => ?_) (fun c32 => ?_)
        · replace H := H.1 c32
          exact xEx.loc (x_sub1 (List.Mem.head _) (x_sub1 (List.Mem.tail _ (List.Mem.head _)) (x_sub1 (List.Mem.tail _ (List.Mem.tail _ (List.Mem.head _))) (x_sub1 (List.Mem.tail _ (List.Mem.tail _ (List.Mem.tail _ (List.Mem.head _)))) (x_sub1 (List.Mem.tail _ (List.Mem.tail _ (List.Mem.tail _ (List.Mem.tail _ (List.Mem.head _))))) x_sub0))))) H
        · replace H := H.2 c32
          refine s_aload_n (nx := 36) hO rfl rfl rfl ?_
          refine s_getf (v := .ref (q_b G + 168)) (nx := 39) hO rfl rfl (hs_o12 kc139) rfl rfl ?_
          refine s_sipush (x := (nI 2000)) (nx := 42) hO rfl (by decide) rfl ?_
          refine s_iload_n (nx := 43) hO rfl rfl rfl ?_
          refine s_imul (nx := 44) hO rfl rfl ?_
          refine s_iload (nx := 46) hO rfl rfl rfl ?_
          refine s_iadd (nx := 47) hO rfl rfl ?_
          obtain ⟨b16, H⟩ := H
          refine s_iald (nx := 48) hO rfl (hs_I kc168) b16 rfl ?_
          refine s_i2l (nx := 49) hO rfl rfl ?_
          refine s_lload_n (nx := 50) hO rfl rfl rfl ?_
          refine s_lcmp (nx := 51) hO rfl rfl ?_
          refine s_if_ge (nx := 54) hO rfl rfl (fun c51 => ?_) (fun c51 => ?_)
          · replace H := H.1 c51
            exact xEx.loc (x_sub1 (List.Mem.head _) (x_sub1 (List.Mem.tail _ (List.Mem.head _)) (x_sub1 (List.Mem.tail _ (List.Mem.tail _ (List.Mem.head _))) (x_sub1 (List.Mem.tail _ (List.Mem.tail _ (List.Mem.tail _ (List.Mem.head _)))) (x_sub1 (List.Mem.tail _ (List.Mem.tail _ (List.Mem.tail _ (List.Mem.tail _ (List.Mem.head _))))) x_sub0))))) H
          · replace H := H.2 c51
            refine goV ((x3 + 1)) (fun x17 ex17 => ?_)
            replace H := H x17 ex17
            refine e_iinc (nx := 57) (l' := [(7, .int x17), (0, .ref (q_b G + 139)), (1, .int v1), (2, .long v2), (6, .int x2)]) ex17 hO rfl (by decide) rfl rfl rfl rfl ?_
            refine s_goto hO rfl ?_
            exact xEx.loc (x_sub1 (List.Mem.tail _ (List.Mem.head _)) (x_sub1 (List.Mem.tail _ (List.Mem.tail _ (List.Mem.head _))) (x_sub1 (List.Mem.tail _ (List.Mem.tail _ (List.Mem.tail _ (List.Mem.head _)))) (x_sub1 (List.Mem.tail _ (List.Mem.tail _ (List.Mem.tail _ (List.Mem.tail _ (List.Mem.head _))))) (x_sub1 (List.Mem.head _) x_sub0))))) H
      refine s_istore (nx := 28) (l' := [(7, .int 0), (6, .int x2), (0, .ref (q_b G + 139)), (1, .int v1), (2, .long v2), (4, .int v3), (5, .int v4)]) hO rfl (by decide) rfl rfl ?_
      exact xEx.loc (x_sub1 (List.Mem.tail _ (List.Mem.tail _ (List.Mem.head _))) (x_sub1 (List.Mem.tail _ (List.Mem.tail _ (List.Mem.tail _ (List.Mem.head _)))) (x_sub1 (List.Mem.tail _ (List.Mem.tail _ (List.Mem.tail _ (List.Mem.tail _ (List.Mem.head _))))) (x_sub1 (List.Mem.tail _ (List.Mem.head _)) (x_sub1 (List.Mem.head _) x_sub0))))) H
    · replace H := H.2 c13
      exact s_vret hO rfl rfl ⟨rfl, _, rfl, rfl, H⟩
def W_X12_divide (s : yS) (v1 : Int32) (Q : yS → Prop) : Prop :=
 ∀ P2 : Int32 → yS → Prop, (∀ (x1 : Int32) (s2 : yS), ((((nI 9) ≤ x1 → ∀ P45 : Int32 → yS → Prop, (∀ (x3 : Int32) (s4 : yS), ((((sI s4 139 34) ≤ x3 → Q s4)
    ∧ (¬ (sI s4 139 34) ≤ x3 → vp_in x3 192 ∧ 
     ∀ P60 : Int32 → yS → Prop, (∀ (x6 : Int32) (s7 : yS), (vp_in x3 192 ∧ 
      vp_in x3 192 ∧ 
      ((((sI s7 154 (ix x3)) + (sI s7 155 (ix x3))) ≤ x6 → ∀ x10 : Int32, x10 = (x3 + 1) → 
       P45 x10 s7)
      ∧ (¬ ((sI s7 154 (ix x3)) + (sI s7 155 (ix x3))) ≤ x6 → vp_in x3 192 ∧ 
       ∀ P101 : Int32 → Prop, (∀ (y12 : Int32), (∀ P258 : yS → Prop, (∀ (s13 : yS), (∀ x14 : Int32, x14 = (x6 + 1) → 
         P60 x14 s13) → P258 s13) → 
        ((y12 = 0 → P258 s7)
        ∧ (¬ y12 = 0 → vp_in x6 900 ∧ 
         ∀ P129 : Prop, ((vp_in x6 900 ∧ 
          ∀ P155 : Int32 → Prop, (∀ (y17 : Int32), (vp_in x6 900 ∧ 
           ∀ P173 : Int32 → Prop, (∀ (y19 : Int32), (vp_in x6 900 ∧ 
            ∀ P201 : Int32 → Prop, (∀ (y21 : Int32), (vp_in x6 900 ∧ 
             ∀ P230 : yS → Prop, (∀ (s23 : yS), (vp_in x6 900 ∧ 
              (((sI s23 161 (ix x6)) ≤ 0 → P258 s23)
              ∧ (¬ (sI s23 161 (ix x6)) ≤ 0 → vp_in x6 900 ∧ 
               W_X12_cut s23 y17 (((sI s23 162 (ix x6))).toInt64 + 1) y19 y21 
               (fun s26 => P258 s26)))) → P230 s23) → 
             (((nI 2) ≤ (sI s7 161 (ix x6)) → P230 s7)
             ∧ (¬ (nI 2) ≤ (sI s7 161 (ix x6)) → vp_in x6 900 ∧ 
              W_X12_cut s7 y17 ((sI s7 162 (ix x6))).toInt64 y19 y21 
              (fun s28 => P230 s28)))) → P201 y21) → 
            (((sI s7 158 (ix x6)) = 0 → P201 ((2147483647)))
            ∧ (¬ (sI s7 158 (ix x6)) = 0 → vp_in x6 900 ∧ 
             vp_in (sI s7 159 (ix x6)) 6 ∧ 
             P201 (sI s7 145 (ix (sI s7 159 (ix x6))))))) → P173 y19) → 
           (((sI s7 158 (ix x6)) = 0 → P173 ((-2147483648)))
           ∧ (¬ (sI s7 158 (ix x6)) = 0 → P173 0))) → P155 y17) → 
          (((sI s7 158 (ix x6)) = 0 → vp_in x6 900 ∧ 
           P155 (sI s7 159 (ix x6)))
          ∧ (¬ (sI s7 158 (ix x6)) = 0 → vp_in x6 900 ∧ 
           P155 ((nI 3) + (sI s7 159 (ix x6)))))) → P129) → 
         ((¬ (sI s7 158 (ix x6)) = 0 → P129)
         ∧ ((sI s7 158 (ix x6)) = 0 → vp_in x6 900 ∧ 
          (((v1 - v1 / (nI 4) * (nI 4)) ≤ (sI s7 159 (ix x6)) → P258 s7)
          ∧ (¬ (v1 - v1 / (nI 4) * (nI 4)) ≤ (sI s7 159 (ix x6)) → P129))))))) → P101 y12) → 
       (((sI s7 153 (ix x3)) < 0 → P101 1)
       ∧ (¬ (sI s7 153 (ix x3)) < 0 → vp_in x3 192 ∧ 
        ((¬ (sI s7 153 (ix x3)) = v1 → P101 0)
        ∧ ((sI s7 153 (ix x3)) = v1 → P101 1))))))) → P60 x6 s7) → 
     ∀ x35 : Int32, x35 = (sI s4 154 (ix x3)) → 
     P60 x35 s4))) → P45 x3 s4) → 
   P45 0 s2)
  ∧ (¬ (nI 9) ≤ x1 → vp_in x1 9 ∧ ∀ s37 : yS, s37 = wI s2 169 (ix x1) 1 → 
   ∀ P36 : Int32 → Prop, (∀ (y38 : Int32), (vp_in ((nI 2000) * x1) 18000 ∧ ∀ s40 : yS, s40 = wI s37 168 (ix ((nI 2000) * x1)) y38 → 
    ∀ x41 : Int32, x41 = (x1 + 1) → 
    P2 x41 s40) → P36 y38) → 
   (((nI 3) ≤ x1 → P36 0)
   ∧ (¬ (nI 3) ≤ x1 → P36 ((-2147483648))))))) → P2 x1 s2) → 
 P2 0 s
set_option maxRecDepth 100000 in
set_option maxHeartbeats 40000000 in
theorem w_X12_divide {G : xG} (hG : yG G) {z : Nat} {s : yS} {v1 : Int32} {Q : yS → Prop} (H : W_X12_divide s v1 Q) : xC G mX12_divide [.ref (q_b G + 139), .int v1] (hS G s) z 0 0 (yQv G z Q) := by
  have hW := hG.1
  have hcl := hG.2.1
  have hty := hG.2.2.1
  have hO : xO G mX12_divide tbX12_divide ptX12_divide := ⟨tkX12_divide, pkX12_divide hcl⟩
  unfold W_X12_divide at H
  refine xC.of hW (by decide) rfl (Nat.le_of_ble_eq_true rfl) ?_
  refine s_iconst (x := 0) (nx := 1) hO rfl (by decide) rfl ?_
  refine goK (H (fun (x1 : Int32) (s2 : yS) => xEx G mX12_divide 2 [(0, .ref (q_b G + 139)), (1, .int v1), (2, .int x1)] [] (hS G s2) z 0 0 (yQv G z Q)) (fun x1 s2 H => ?_)) (fun H => ?_)
  · show xEx G mX12_divide 2 [(0, .ref (q_b G + 139)), (1, .int v1), (2, .int x1)] [] (hS G s2) z 0 0 (yQv G z Q)
    refine s_iload_n (nx := 3) hO rfl rfl rfl ?_
    refine s_bipush (x := (nI 9)) (nx := 5) hO rfl (by decide) rfl ?_
    refine s_icmp_ge (nx := 8) hO rfl rfl (fun c5 => ?_) (fun c5 => ?_)
    · replace H := H.1 c5
      refine s_iconst (x := 0) (nx := 44) hO rfl (by decide) rfl ?_
      refine goK (H (fun (x3 : Int32) (s4 : yS) => xEx G mX12_divide 45 [(0, .ref (q_b G + 139)), (1, .int v1), (2, .int x3)] [] (hS G s4) z 0 0 (yQv G z Q)) (fun x3 s4 H => ?_)) (fun H => ?_)
      · show xEx G mX12_divide 45 [(0, .ref (q_b G + 139)), (1, .int v1), (2, .int x3)] [] (hS G s4) z 0 0 (yQv G z Q)
        refine s_iload_n (nx := 46) hO rfl rfl rfl ?_
        refine s_aload_n (nx := 47) hO rfl rfl rfl ?_
        refine s_getf (v := .int (sI s4 139 34)) (nx := 50) hO rfl rfl (hs_o12 kc139) rfl rfl ?_
        refine s_icmp_ge (nx := 53) hO rfl rfl (fun c50 => ?_) (fun c50 => ?_)
        · replace H := H.1 c50
          exact s_vret hO rfl rfl ⟨rfl, _, rfl, rfl, H⟩
        · replace H := H.2 c50
          refine s_aload_n (nx := 54) hO rfl rfl rfl ?_
          refine s_getf (v := .ref (q_b G + 154)) (nx := 57) hO rfl rfl (hs_o12 kc139) rfl rfl ?_
          refine s_iload_n (nx := 58) hO rfl rfl rfl ?_
          obtain ⟨b5, H⟩ := H
          refine s_iald (nx := 59) hO rfl (hs_I kc154) b5 rfl ?_
          refine goK (H (fun (x6 : Int32) (s7 : yS) => xEx G mX12_divide 60 [(0, .ref (q_b G + 139)), (1, .int v1), (2, .int x3), (3, .int x6)] [] (hS G s7) z 0 0 (yQv G z Q)) (fun x6 s7 H => ?_)) (fun H => ?_)
          · show xEx G mX12_divide 60 [(0, .ref (q_b G + 139)), (1, .int v1), (2, .int x3), (3, .int x6)] [] (hS G s7) z 0 0 (yQv G z Q)
            refine s_iload_n (nx := 61) hO rfl rfl rfl ?_
            refine s_aload_n (nx := 62) hO rfl rfl rfl ?_
            refine s_getf (v := .ref (q_b G + 154)) (nx := 65) hO rfl rfl (hs_o12 kc139) rfl rfl ?_
            refine s_iload_n (nx := 66) hO rfl rfl rfl ?_
            obtain ⟨b8, H⟩ := H
            refine s_iald (nx := 67) hO rfl (hs_I kc154) b8 rfl ?_
            refine s_aload_n (nx := 68) hO rfl rfl rfl ?_
            refine s_getf (v := .ref (q_b G + 155)) (nx := 71) hO rfl rfl (hs_o12 kc139) rfl rfl ?_
            refine s_iload_n (nx := 72) hO rfl rfl rfl ?_
            obtain ⟨b9, H⟩ := H
            refine s_iald (nx := 73) hO rfl (hs_I kc155) b9 rfl ?_
            refine s_iadd (nx := 74) hO rfl rfl ?_
            refine s_icmp_ge (nx := 77) hO rfl rfl (fun c74 => ?_) (fun c74 => ?_)
            · replace H := H.1 c74
              refine goV ((x3 + 1)) (fun x10 ex10 => ?_)
              replace H := H x10 ex10
              refine e_iinc (nx := 267) (l' := [(2, .int x10), (0, .ref (q_b G + 139)), (1, .int v1), (3, .int x6)]) ex10 hO rfl (by decide) rfl rfl rfl rfl ?_
              refine s_goto hO rfl ?_
              exact xEx.loc (x_sub1 (List.Mem.tail _ (List.Mem.head _)) (x_sub1 (List.Mem.tail _ (List.Mem.tail _ (List.Mem.head _))) (x_sub1 (List.Mem.head _) x_sub0))) H
            · replace H := H.2 c74
              refine s_aload_n (nx := 78) hO rfl rfl rfl ?_
              refine s_getf (v := .ref (q_b G + 153)) (nx := 81) hO rfl rfl (hs_o12 kc139) rfl rfl ?_
              refine s_iload_n (nx := 82) hO rfl rfl rfl ?_
              obtain ⟨b11, H⟩ := H
              refine s_iald (nx := 83) hO rfl (hs_I kc153) b11 rfl ?_
              refine goK (H (fun (y12 : Int32) => xEx G mX12_divide 101 [(0, .ref (q_b G + 139)), (1, .int v1), (2, .int x3), (3, .int x6)] [.int y12] (hS G s7) z 0 0 (yQv G z Q)) (fun y12 H => ?_)) (fun H => ?_)
              · show xEx G mX12_divide 101 [(0, .ref (q_b G + 139)), (1, .int v1), (2, .int x3), (3, .int x6)] [.int y12] (hS G s7) z 0 0 (yQv G z Q)
                refine s_istore (nx := 103) (l' := [(4, .int y12), (0, .ref (q_b G + 139)), (1, .int v1), (2, .int x3), (3, .int x6)]) hO rfl (by decide) rfl rfl ?_
                refine s_iload (nx := 105) hO rfl rfl rfl ?_
                refine goK (H (fun (s13 : yS) => xEx G mX12_divide 258 [(0, .ref (q_b G + 139)), (1, .int v1), (2, .int x3), (3, .int x6)] [] (hS G s13) z 0 0 (yQv G z Q)) (fun s13 H => ?_)) (fun H => ?_)
                · show xEx G mX12_divide 258 [(0, .ref (q_b G + 139)), (1, .int v1), (2, .int x3), (3, .int x6)] [] (hS G s13) z 0 0 (yQv G z Q)
                  refine goV ((x6 + 1)) (fun x14 ex14 => ?_)
                  replace H := H x14 ex14
                  refine e_iinc (nx := 261) (l' := [(3, .int x14), (0, .ref (q_b G + 139)), (1, .int v1), (2, .int x3)]) ex14 hO rfl (by decide) rfl rfl rfl rfl ?_
                  refine s_goto hO rfl ?_
                  exact xEx.loc (x_sub1 (List.Mem.tail _ (List.Mem.head _)) (x_sub1 (List.Mem.tail _ (List.Mem.tail _ (List.Mem.head _))) (x_sub1 (List.Mem.tail _ (List.Mem.tail _ (List.Mem.tail _ (List.Mem.head _)))) (x_sub1 (List.Mem.head _) x_sub0)))) H
                refine s_if_eq (nx := 108) hO rfl rfl (fun c105 => ?_) (fun c105 => ?_)
                · replace H := H.1 c105
                  exact xEx.loc (x_sub1 (List.Mem.tail _ (List.Mem.head _)) (x_sub1 (List.Mem.tail _ (List.Mem.tail _ (List.Mem.head _))) (x_sub1 (List.Mem.tail _ (List.Mem.tail _ (List.Mem.tail _ (List.Mem.head _)))) (x_sub1 (List.Mem.tail _ (List.Mem.tail _ (List.Mem.tail _ (List.Mem.tail _ (List.Mem.head _))))) x_sub0)))) H
                · replace H := H.2 c105
                  refine s_aload_n (nx := 109) hO rfl rfl rfl ?_
                  refine s_getf (v := .ref (q_b G + 158)) (nx := 112) hO rfl rfl (hs_o12 kc139) rfl rfl ?_
                  refine s_iload_n (nx := 113) hO rfl rfl rfl ?_
                  obtain ⟨b15, H⟩ := H
                  refine s_zald (nx := 114) hO rfl (hs_Z kc158) b15 rfl ?_
                  refine goK (H (xEx G mX12_divide 129 [(0, .ref (q_b G + 139)), (1, .int v1), (2, .int x3), (3, .int x6)] [] (hS G s7) z 0 0 (yQv G z Q)) (fun H => ?_)) (fun H => ?_)
                  · show xEx G mX12_divide 129 [(0, .ref (q_b G + 139)), (1, .int v1), (2, .int x3), (3, .int x6)] [] (hS G s7) z 0 0 (yQv G z Q)
                    refine s_aload_n (nx := 130) hO rfl rfl rfl ?_
                    refine s_getf (v := .ref (q_b G + 158)) (nx := 133) hO rfl rfl (hs_o12 kc139) rfl rfl ?_
                    refine s_iload_n (nx := 134) hO rfl rfl rfl ?_
                    obtain ⟨b16, H⟩ := H
                    refine s_zald (nx := 135) hO rfl (hs_Z kc158) b16 rfl ?_
                    refine goK (H (fun (y17 : Int32) => xEx G mX12_divide 155 [(0, .ref (q_b G + 139)), (1, .int v1), (2, .int x3), (3, .int x6)] [.int y17] (hS G s7) z 0 0 (yQv G z Q)) (fun y17 H => ?_)) (fun H => ?_)
                    · show xEx G mX12_divide 155 [(0, .ref (q_b G + 139)), (1, .int v1), (2, .int x3), (3, .int x6)] [.int y17] (hS G s7) z 0 0 (yQv G z Q)
                      refine s_istore (nx := 157) (l' := [(5, .int y17), (0, .ref (q_b G + 139)), (1, .int v1), (2, .int x3), (3, .int x6)]) hO rfl (by decide) rfl rfl ?_
                      refine s_aload_n (nx := 158) hO rfl rfl rfl ?_
                      refine s_getf (v := .ref (q_b G + 158)) (nx := 161) hO rfl rfl (hs_o12 kc139) rfl rfl ?_
                      refine s_iload_n (nx := 162) hO rfl rfl rfl ?_
                      obtain ⟨b18, H⟩ := H
                      refine s_zald (nx := 163) hO rfl (hs_Z kc158) b18 rfl ?_
                      refine goK (H (fun (y19 : Int32) => xEx G mX12_divide 173 [(0, .ref (q_b G + 139)), (1, .int v1), (2, .int x3), (3, .int x6), (5, .int y17)] [.int y19] (hS G s7) z 0 0 (yQv G z Q)) (fun y19 H => ?_)) (fun H => ?_)
                      · show xEx G mX12_divide 173 [(0, .ref (q_b G + 139)), (1, .int v1), (2, .int x3), (3, .int x6), (5, .int y17)] [.int y19] (hS G s7) z 0 0 (yQv G z Q)
                        refine s_istore (nx := 175) (l' := [(6, .int y19), (0, .ref (q_b G + 139)), (1, .int v1), (2, .int x3), (3, .int x6), (5, .int y17)]) hO rfl (by decide) rfl rfl ?_
                        refine s_aload_n (nx := 176) hO rfl rfl rfl ?_
                        refine s_getf (v := .ref (q_b G + 158)) (nx := 179) hO rfl rfl (hs_o12 kc139) rfl rfl ?_
                        refine s_iload_n (nx := 180) hO rfl rfl rfl ?_
                        obtain ⟨b20, H⟩ := H
                        refine s_zald (nx := 181) hO rfl (hs_Z kc158) b20 rfl ?_
                        refine goK (H (fun (y21 : Int32) => xEx G mX12_divide 201 [(0, .ref (q_b G + 139)), (1, .int v1), (2, .int x3), (3, .int x6), (5, .int y17), (6, .int y19)] [.int y21] (hS G s7) z 0 0 (yQv G z Q)) (fun y21 H => ?_)) (fun H => ?_)
                        · show xEx G mX12_divide 201 [(0, .ref (q_b G + 139)), (1, .int v1), (2, .int x3), (3, .int x6), (5, .int y17), (6, .int y19)] [.int y21] (hS G s7) z 0 0 (yQv G z Q)
                          refine s_istore (nx := 203) (l' := [(7, .int y21), (0, .ref (q_b G + 139)), (1, .int v1), (2, .int x3), (3, .int x6), (5, .int y17), (6, .int y19)]) hO rfl (by decide) rfl rfl ?_
                          refine s_aload_n (nx := 204) hO rfl rfl rfl ?_
                          refine s_getf (v := .ref (q_b G + 161)) (nx := 207) hO rfl rfl (hs_o12 kc139) rfl rfl ?_
                          refine s_iload_n (nx := 208) hO rfl rfl rfl ?_
                          obtain ⟨b22, H⟩ := H
                          refine s_iald (nx := 209) hO rfl (hs_I kc161) b22 rfl ?_
                          refine s_iconst (x := (nI 2)) (nx := 210) hO rfl (by decide) rfl ?_
                          refine goK (H (fun (s23 : yS) => xEx G mX12_divide 230 [(0, .ref (q_b G + 139)), (1, .int v1), (2, .int x3), (3, .int x6), (5, .int y17), (6, .int y19), (7, .int y21)] [] (hS G s23) z 0 0 (yQv G z Q)) (fun s23 H => ?_)) (fun H => ?_)
                          · show xEx G mX12_divide 230 [(0, .ref (q_b G + 139)), (1, .int v1), (2, .int x3), (3, .int x6), (5, .int y17), (6, .int y19), (7, .int y21)] [] (hS G s23) z 0 0 (yQv G z Q)
                            refine s_aload_n (nx := 231) hO rfl rfl rfl ?_
                            refine s_getf (v := .ref (q_b G + 161)) (nx := 234) hO rfl rfl (hs_o12 kc139) rfl rfl ?_
                            refine s_iload_n (nx := 235) hO rfl rfl rfl ?_
                            obtain ⟨b24, H⟩ := H
                            refine s_iald (nx := 236) hO rfl (hs_I kc161) b24 rfl ?_
                            refine s_if_le (nx := 239) hO rfl rfl (fun c236 => ?_) (fun c236 => ?_)
                            · replace H := H.1 c236
                              exact xEx.loc (x_sub1 (List.Mem.head _) (x_sub1 (List.Mem.tail _ (List.Mem.head _)) (x_sub1 (List.Mem.tail _ (List.Mem.tail _ (List.Mem.head _))) (x_sub1 (List.Mem.tail _ (List.Mem.tail _ (List.Mem.tail _ (List.Mem.head _)))) x_sub0)))) H
                            · replace H := H.2 c236
                              refine s_aload_n (nx := 240) hO rfl rfl rfl ?_
                              refine s_iload (nx := 242) hO rfl rfl rfl ?_
                              refine s_aload_n (nx := 243) hO rfl rfl rfl ?_
                              refine s_getf (v := .ref (q_b G + 162)) (nx := 246) hO rfl rfl (hs_o12 kc139) rfl rfl ?_
                              refine s_iload_n (nx := 247) hO rfl rfl rfl ?_
                              obtain ⟨b25, H⟩ := H
                              refine s_iald (nx := 248) hO rfl (hs_I kc162) b25 rfl ?_
                              refine s_i2l (nx := 249) hO rfl rfl ?_
                              refine s_lconst (x := 1) (nx := 250) hO rfl (by decide) rfl ?_
                              refine s_ladd (nx := 251) hO rfl rfl ?_
                              refine s_iload (nx := 253) hO rfl rfl rfl ?_
                              refine s_iload (nx := 255) hO rfl rfl rfl ?_
                              refine s_callV [.int y17, .long (((sI s23 162 (ix x6))).toInt64 + 1), .int y19, .int y21] (ci := 12) (F := TX12) (N := 116) (nx := 258) hO rfl kX12_divide_455 (by rw [hcl]; rfl) (hs_o12 kc139) (w_X12_cut hG H) rfl rfl (Nat.le_of_ble_eq_true rfl) (Nat.zero_le _) (Nat.zero_le _) rfl (k_Qv (fun s26 H => ?_))
                              exact xEx.loc (x_sub1 (List.Mem.head _) (x_sub1 (List.Mem.tail _ (List.Mem.head _)) (x_sub1 (List.Mem.tail _ (List.Mem.tail _ (List.Mem.head _))) (x_sub1 (List.Mem.tail _ (List.Mem.tail _ (List.Mem.tail _ (List.Mem.head _)))) x_sub0)))) H
                          refine s_icmp_ge (nx := 213) hO rfl rfl (fun c210 => ?_) (fun c210 => ?_)
                          · replace H := H.1 c210
                            exact xEx.loc (x_sub1 (List.Mem.tail _ (List.Mem.head _)) (x_sub1 (List.Mem.tail _ (List.Mem.tail _ (List.Mem.head _))) (x_sub1 (List.Mem.tail _ (List.Mem.tail _ (List.Mem.tail _ (List.Mem.head _)))) (x_sub1 (List.Mem.tail _ (List.Mem.tail _ (List.Mem.tail _ (List.Mem.tail _ (List.Mem.head _))))) (x_sub1 (List.Mem.tail _ (List.Mem.tail _ (List.Mem.tail _ (List.Mem.tail _ (List.Mem.tail _ (List.Mem.head _)))))) (x_sub1 (List.Mem.tail _ (List.Mem.tail _ (List.Mem.tail _ (List.Mem.tail _ (List.Mem.tail _ (List.Mem.tail _ (List.Mem.head _))))))) (x_sub1 (List.Mem.head _) x_sub0))))))) H
                          · replace H := H.2 c210
                            refine s_aload_n (nx := 214) hO rfl rfl rfl ?_
                            refine s_iload (nx := 216) hO rfl rfl rfl ?_
                            refine s_aload_n (nx := 217) hO rfl rfl rfl ?_
                            refine s_getf (v := .ref (q_b G + 162)) (nx := 220) hO rfl rfl (hs_o12 kc139) rfl rfl ?_
                            refine s_iload_n (nx := 221) hO rfl rfl rfl ?_
                            obtain ⟨b27, H⟩ := H
                            refine s_iald (nx := 222) hO rfl (hs_I kc162) b27 rfl ?_
                            refine s_i2l (nx := 223) hO rfl rfl ?_
                            refine s_iload (nx := 225) hO rfl rfl rfl ?_
                            refine s_iload (nx := 227) hO rfl rfl rfl ?_
                            refine s_callV [.int y17, .long ((sI s7 162 (ix x6))).toInt64, .int y19, .int y21] (ci := 12) (F := TX12) (N := 116) (nx := 230) hO rfl kX12_divide_455 (by rw [hcl]; rfl) (hs_o12 kc139) (w_X12_cut hG H) rfl rfl (Nat.le_of_ble_eq_true rfl) (Nat.zero_le _) (Nat.zero_le _) rfl (k_Qv (fun s28 H => ?_))
                            exact xEx.loc (x_sub1 (List.Mem.tail _ (List.Mem.head _)) (x_sub1 (List.Mem.tail _ (List.Mem.tail _ (List.Mem.head _))) (x_sub1 (List.Mem.tail _ (List.Mem.tail _ (List.Mem.tail _ (List.Mem.head _)))) (x_sub1 (List.Mem.tail _ (List.Mem.tail _ (List.Mem.tail _ (List.Mem.tail _ (List.Mem.head _))))) (x_sub1 (List.Mem.tail _ (List.Mem.tail _ (List.Mem.tail _ (List.Mem.tail _ (List.Mem.tail _ (List.Mem.head _)))))) (x_sub1 (List.Mem.tail _ (List.Mem.tail _ (List.Mem.tail _ (List.Mem.tail _ (List.Mem.tail _ (List.Mem.tail _ (List.Mem.head _))))))) (x_sub1 (List.Mem.head _) x_sub0))))))) H
                        refine s_if_eq (nx := 184) hO rfl rfl (fun c181 => ?_) (fun c181 => ?_)
                        · replace H := H.1 c181
                          refine s_ldc_w (x := ((2147483647))) (nx := 201) hO rfl rfl rfl ?_
                          exact xEx.loc (x_sub1 (List.Mem.tail _ (List.Mem.head _)) (x_sub1 (List.Mem.tail _ (List.Mem.tail _ (List.Mem.head _))) (x_sub1 (List.Mem.tail _ (List.Mem.tail _ (List.Mem.tail _ (List.Mem.head _)))) (x_sub1 (List.Mem.tail _ (List.Mem.tail _ (List.Mem.tail _ (List.Mem.tail _ (List.Mem.head _))))) (x_sub1 (List.Mem.tail _ (List.Mem.tail _ (List.Mem.tail _ (List.Mem.tail _ (List.Mem.tail _ (List.Mem.head _)))))) (x_sub1 (List.Mem.head _) x_sub0)))))) H
                        · replace H := H.2 c181
                          refine s_aload_n (nx := 185) hO rfl rfl rfl ?_
                          refine s_getf (v := .ref (q_b G + 145)) (nx := 188) hO rfl rfl (hs_o12 kc139) rfl rfl ?_
                          refine s_aload_n (nx := 189) hO rfl rfl rfl ?_
                          refine s_getf (v := .ref (q_b G + 159)) (nx := 192) hO rfl rfl (hs_o12 kc139) rfl rfl ?_
                          refine s_iload_n (nx := 193) hO rfl rfl rfl ?_
                          obtain ⟨b29, H⟩ := H
                          refine s_iald (nx := 194) hO rfl (hs_I kc159) b29 rfl ?_
                          obtain ⟨b30, H⟩ := H
                          refine s_iald (nx := 195) hO rfl (hs_I kc145) b30 rfl ?_
                          refine s_goto hO rfl ?_
                          exact xEx.loc (x_sub1 (List.Mem.tail _ (List.Mem.head _)) (x_sub1 (List.Mem.tail _ (List.Mem.tail _ (List.Mem.head _))) (x_sub1 (List.Mem.tail _ (List.Mem.tail _ (List.Mem.tail _ (List.Mem.head _)))) (x_sub1 (List.Mem.tail _ (List.Mem.tail _ (List.Mem.tail _ (List.Mem.tail _ (List.Mem.head _))))) (x_sub1 (List.Mem.tail _ (List.Mem.tail _ (List.Mem.tail _ (List.Mem.tail _ (List.Mem.tail _ (List.Mem.head _)))))) (x_sub1 (List.Mem.head _) x_sub0)))))) H
                      refine s_if_eq (nx := 166) hO rfl rfl (fun c163 => ?_) (fun c163 => ?_)
                      · replace H := H.1 c163
                        refine s_ldc_w (x := ((-2147483648))) (nx := 173) hO rfl rfl rfl ?_
                        exact xEx.loc (x_sub1 (List.Mem.tail _ (List.Mem.head _)) (x_sub1 (List.Mem.tail _ (List.Mem.tail _ (List.Mem.head _))) (x_sub1 (List.Mem.tail _ (List.Mem.tail _ (List.Mem.tail _ (List.Mem.head _)))) (x_sub1 (List.Mem.tail _ (List.Mem.tail _ (List.Mem.tail _ (List.Mem.tail _ (List.Mem.head _))))) (x_sub1 (List.Mem.head _) x_sub0))))) H
                      · replace H := H.2 c163
                        refine s_iconst (x := 0) (nx := 167) hO rfl (by decide) rfl ?_
                        refine s_goto hO rfl ?_
                        exact xEx.loc (x_sub1 (List.Mem.tail _ (List.Mem.head _)) (x_sub1 (List.Mem.tail _ (List.Mem.tail _ (List.Mem.head _))) (x_sub1 (List.Mem.tail _ (List.Mem.tail _ (List.Mem.tail _ (List.Mem.head _)))) (x_sub1 (List.Mem.tail _ (List.Mem.tail _ (List.Mem.tail _ (List.Mem.tail _ (List.Mem.head _))))) (x_sub1 (List.Mem.head _) x_sub0))))) H
                    refine s_if_eq (nx := 138) hO rfl rfl (fun c135 => ?_) (fun c135 => ?_)
                    · replace H := H.1 c135
                      refine s_aload_n (nx := 150) hO rfl rfl rfl ?_
                      refine s_getf (v := .ref (q_b G + 159)) (nx := 153) hO rfl rfl (hs_o12 kc139) rfl rfl ?_
                      refine s_iload_n (nx := 154) hO rfl rfl rfl ?_
                      obtain ⟨b31, H⟩ := H
                      refine s_iald (nx := 155) hO rfl (hs_I kc159) b31 rfl ?_
                      exact xEx.loc (x_sub1 (List.Mem.head _) (x_sub1 (List.Mem.tail _ (List.Mem.head _)) (x_sub1 (List.Mem.tail _ (List.Mem.tail _ (List.Mem.head _))) (x_sub1 (List.Mem.tail _ (List.Mem.tail _ (List.Mem.tail _ (List.Mem.head _)))) x_sub0)))) H
                    · replace H := H.2 c135
                      refine s_iconst (x := (nI 3)) (nx := 139) hO rfl (by decide) rfl ?_
                      refine s_aload_n (nx := 140) hO rfl rfl rfl ?_
                      refine s_getf (v := .ref (q_b G + 159)) (nx := 143) hO rfl rfl (hs_o12 kc139) rfl rfl ?_
                      refine s_iload_n (nx := 144) hO rfl rfl rfl ?_
                      obtain ⟨b32, H⟩ := H
                      refine s_iald (nx := 145) hO rfl (hs_I kc159) b32 rfl ?_
                      refine s_iadd (nx := 146) hO rfl rfl ?_
                      refine s_goto hO rfl ?_
                      exact xEx.loc (x_sub1 (List.Mem.head _) (x_sub1 (List.Mem.tail _ (List.Mem.head _)) (x_sub1 (List.Mem.tail _ (List.Mem.tail _ (List.Mem.head _))) (x_sub1 (List.Mem.tail _ (List.Mem.tail _ (List.Mem.tail _ (List.Mem.head _)))) x_sub0)))) H
                  refine s_if_ne (nx := 117) hO rfl rfl (fun c114 => ?_) (fun c114 => ?_)
                  · replace H := H.1 c114
                    exact xEx.loc (x_sub1 (List.Mem.tail _ (List.Mem.head _)) (x_sub1 (List.Mem.tail _ (List.Mem.tail _ (List.Mem.head _))) (x_sub1 (List.Mem.tail _ (List.Mem.tail _ (List.Mem.tail _ (List.Mem.head _)))) (x_sub1 (List.Mem.tail _ (List.Mem.tail _ (List.Mem.tail _ (List.Mem.tail _ (List.Mem.head _))))) x_sub0)))) H
                  · replace H := H.2 c114
                    refine s_aload_n (nx := 118) hO rfl rfl rfl ?_
                    refine s_getf (v := .ref (q_b G + 159)) (nx := 121) hO rfl rfl (hs_o12 kc139) rfl rfl ?_
                    refine s_iload_n (nx := 122) hO rfl rfl rfl ?_
                    obtain ⟨b33, H⟩ := H
                    refine s_iald (nx := 123) hO rfl (hs_I kc159) b33 rfl ?_
                    refine s_iload_n (nx := 124) hO rfl rfl rfl ?_
                    refine s_iconst (x := (nI 4)) (nx := 125) hO rfl (by decide) rfl ?_
                    refine s_irem (nx := 126) hO rfl (by decide) rfl ?_
                    refine s_icmp_ge (nx := 129) hO rfl rfl (fun c126 => ?_) (fun c126 => ?_)
                    · replace H := H.1 c126
                      exact xEx.loc (x_sub1 (List.Mem.tail _ (List.Mem.head _)) (x_sub1 (List.Mem.tail _ (List.Mem.tail _ (List.Mem.head _))) (x_sub1 (List.Mem.tail _ (List.Mem.tail _ (List.Mem.tail _ (List.Mem.head _)))) (x_sub1 (List.Mem.tail _ (List.Mem.tail _ (List.Mem.tail _ (List.Mem.tail _ (List.Mem.head _))))) x_sub0)))) H
                    · replace H := H.2 c126
                      exact xEx.loc (x_sub1 (List.Mem.tail _ (List.Mem.head _)) (x_sub1 (List.Mem.tail _ (List.Mem.tail _ (List.Mem.head _))) (x_sub1 (List.Mem.tail _ (List.Mem.tail _ (List.Mem.tail _ (List.Mem.head _)))) (x_sub1 (List.Mem.tail _ (List.Mem.tail _ (List.Mem.tail _ (List.Mem.tail _ (List.Mem.head _))))) x_sub0)))) H
              refine s_if_lt (nx := 86) hO rfl rfl (fun c83 => ?_) (fun c83 => ?_)
              · replace H := H.1 c83
                refine s_iconst (x := 1) (nx := 97) hO rfl (by decide) rfl ?_
                refine s_goto hO rfl ?_
                exact xEx.loc (x_sub1 (List.Mem.head _) (x_sub1 (List.Mem.tail _ (List.Mem.head _)) (x_sub1 (List.Mem.tail _ (List.Mem.tail _ (List.Mem.head _))) (x_sub1 (List.Mem.tail _ (List.Mem.tail _ (List.Mem.tail _ (List.Mem.head _)))) x_sub0)))) H
              · replace H := H.2 c83
                refine s_aload_n (nx := 87) hO rfl rfl rfl ?_
                refine s_getf (v := .ref (q_b G + 153)) (nx := 90) hO rfl rfl (hs_o12 kc139) rfl rfl ?_
                refine s_iload_n (nx := 91) hO rfl rfl rfl ?_
                obtain ⟨b34, H⟩ := H
                refine s_iald (nx := 92) hO rfl (hs_I kc153) b34 rfl ?_
                refine s_iload_n (nx := 93) hO rfl rfl rfl ?_
                refine s_icmp_ne (nx := 96) hO rfl rfl (fun c93 => ?_) (fun c93 => ?_)
                · replace H := H.1 c93
                  refine s_iconst (x := 0) (nx := 101) hO rfl (by decide) rfl ?_
                  exact xEx.loc (x_sub1 (List.Mem.head _) (x_sub1 (List.Mem.tail _ (List.Mem.head _)) (x_sub1 (List.Mem.tail _ (List.Mem.tail _ (List.Mem.head _))) (x_sub1 (List.Mem.tail _ (List.Mem.tail _ (List.Mem.tail _ (List.Mem.head _)))) x_sub0)))) H
                · replace H := H.2 c93
                  refine s_iconst (x := 1) (nx := 97) hO rfl (by decide) rfl ?_
                  refine s_goto hO rfl ?_
                  exact xEx.loc (x_sub1 (List.Mem.head _) (x_sub1 (List.Mem.tail _ (List.Mem.head _)) (x_sub1 (List.Mem.tail _ (List.Mem.tail _ (List.Mem.head _))) (x_sub1 (List.Mem.tail _ (List.Mem.tail _ (List.Mem.tail _ (List.Mem.head _)))) x_sub0)))) H
          refine goV ((sI s4 154 (ix x3))) (fun x35 ex35 => ?_)
          replace H := H x35 ex35
          refine e_istore_n (nx := 60) (l' := [(3, .int x35), (0, .ref (q_b G + 139)), (1, .int v1), (2, .int x3)]) ex35 hO rfl (by decide) rfl rfl ?_
          exact xEx.loc (x_sub1 (List.Mem.tail _ (List.Mem.head _)) (x_sub1 (List.Mem.tail _ (List.Mem.tail _ (List.Mem.head _))) (x_sub1 (List.Mem.tail _ (List.Mem.tail _ (List.Mem.tail _ (List.Mem.head _)))) (x_sub1 (List.Mem.head _) x_sub0)))) H
      refine s_istore_n (nx := 45) (l' := [(2, .int 0), (0, .ref (q_b G + 139)), (1, .int v1)]) hO rfl (by decide) rfl rfl ?_
      exact xEx.loc (x_sub1 (List.Mem.tail _ (List.Mem.head _)) (x_sub1 (List.Mem.tail _ (List.Mem.tail _ (List.Mem.head _))) (x_sub1 (List.Mem.head _) x_sub0))) H
    · replace H := H.2 c5
      refine s_aload_n (nx := 9) hO rfl rfl rfl ?_
      refine s_getf (v := .ref (q_b G + 169)) (nx := 12) hO rfl rfl (hs_o12 kc139) rfl rfl ?_
      refine s_iload_n (nx := 13) hO rfl rfl rfl ?_
      refine s_iconst (x := 1) (nx := 14) hO rfl (by decide) rfl ?_
      obtain ⟨b36, H⟩ := H
      refine goV (wI s2 169 (ix x1) 1) (fun s37 es37 => ?_)
      replace H := H s37 es37
      refine s_iast (nx := 15) hO rfl (hs_I kc169) b36 rfl ?_
      refine xEx.at (up_I kc169 es37) ?_
      refine s_aload_n (nx := 16) hO rfl rfl rfl ?_
      refine s_getf (v := .ref (q_b G + 168)) (nx := 19) hO rfl rfl (hs_o12 kc139) rfl rfl ?_
      refine s_sipush (x := (nI 2000)) (nx := 22) hO rfl (by decide) rfl ?_
      refine s_iload_n (nx := 23) hO rfl rfl rfl ?_
      refine s_imul (nx := 24) hO rfl rfl ?_
      refine s_iload_n (nx := 25) hO rfl rfl rfl ?_
      refine s_iconst (x := (nI 3)) (nx := 26) hO rfl (by decide) rfl ?_
      refine goK (H (fun (y38 : Int32) => xEx G mX12_divide 36 [(0, .ref (q_b G + 139)), (1, .int v1), (2, .int x1)] [.int y38, .int ((nI 2000) * x1), .ref (q_b G + 168)] (hS G s37) z 0 0 (yQv G z Q)) (fun y38 H => ?_)) (fun H => ?_)
      · show xEx G mX12_divide 36 [(0, .ref (q_b G + 139)), (1, .int v1), (2, .int x1)] [.int y38, .int ((nI 2000) * x1), .ref (q_b G + 168)] (hS G s37) z 0 0 (yQv G z Q)
        obtain ⟨b39, H⟩ := H
        refine goV (wI s37 168 (ix ((nI 2000) * x1)) y38) (fun s40 es40 => ?_)
        replace H := H s40 es40
        refine s_iast (nx := 37) hO rfl (hs_I kc168) b39 rfl ?_
        refine xEx.at (up_I kc168 es40) ?_
        refine goV ((x1 + 1)) (fun x41 ex41 => ?_)
        replace H := H x41 ex41
        refine e_iinc (nx := 40) (l' := [(2, .int x41), (0, .ref (q_b G + 139)), (1, .int v1)]) ex41 hO rfl (by decide) rfl rfl rfl rfl ?_
        refine s_goto hO rfl ?_
        exact xEx.loc (x_sub1 (List.Mem.tail _ (List.Mem.head _)) (x_sub1 (List.Mem.tail _ (List.Mem.tail _ (List.Mem.head _))) (x_sub1 (List.Mem.head _) x_sub0))) H
      refine s_icmp_ge (nx := 29) hO rfl rfl (fun c26 => ?_) (fun c26 => ?_)
      · replace H := H.1 c26
        refine s_iconst (x := 0) (nx := 36) hO rfl (by decide) rfl ?_
        exact xEx.loc (x_sub1 (List.Mem.head _) (x_sub1 (List.Mem.tail _ (List.Mem.head _)) (x_sub1 (List.Mem.tail _ (List.Mem.tail _ (List.Mem.head _))) x_sub0))) H
      · replace H := H.2 c26
        refine s_ldc_w (x := ((-2147483648))) (nx := 32) hO rfl rfl rfl ?_
        refine s_goto hO rfl ?_
        exact xEx.loc (x_sub1 (List.Mem.head _) (x_sub1 (List.Mem.tail _ (List.Mem.head _)) (x_sub1 (List.Mem.tail _ (List.Mem.tail _ (List.Mem.head _))) x_sub0))) H
  refine s_istore_n (nx := 2) (l' := [(2, .int 0), (0, .ref (q_b G + 139)), (1, .int v1)]) hO rfl (by decide) rfl rfl ?_
  exact xEx.loc (x_sub1 (List.Mem.tail _ (List.Mem.head _)) (x_sub1 (List.Mem.tail _ (List.Mem.tail _ (List.Mem.head _))) (x_sub1 (List.Mem.head _) x_sub0))) H
def W_X12_greatest (s : yS) (v1 : Int32) (v2 : Int32) (Q : Int32 → Prop) : Prop :=
 vp_in v1 9 ∧ 
 (((sI s 169 (ix v1)) ≤ (v2 + 1) → (((nI 3) ≤ v1 → (((sI s 139 19) ≤ (v1 - (nI 3)) → Q 0)
   ∧ (¬ (sI s 139 19) ≤ (v1 - (nI 3)) → vp_in (v1 - (nI 3)) 6 ∧ 
    Q (sI s 145 (ix (v1 - (nI 3)))))))
  ∧ (¬ (nI 3) ≤ v1 → Q ((2147483647)))))
 ∧ (¬ (sI s 169 (ix v1)) ≤ (v2 + 1) → vp_in ((((nI 2000) * v1) + v2) + 1) 18000 ∧ 
  Q ((sI s 168 (ix ((((nI 2000) * v1) + v2) + 1))) - 1)))
set_option maxRecDepth 100000 in
set_option maxHeartbeats 40000000 in
theorem w_X12_greatest {G : xG} (hG : yG G) {z : Nat} {s : yS} {v1 : Int32} {v2 : Int32} {Q : Int32 → Prop} (H : W_X12_greatest s v1 v2 Q) : xC G mX12_greatest [.ref (q_b G + 139), .int v1, .int v2] (hS G s) z 0 0 (yPi G z s Q) := by
  have hW := hG.1
  have hcl := hG.2.1
  have hty := hG.2.2.1
  have hO : xO G mX12_greatest tbX12_greatest ptX12_greatest := ⟨tkX12_greatest, pkX12_greatest hcl⟩
  unfold W_X12_greatest at H
  refine xC.of hW (by decide) rfl (Nat.le_of_ble_eq_true rfl) ?_
  refine s_iload_n (nx := 1) hO rfl rfl rfl ?_
  refine s_iconst (x := 1) (nx := 2) hO rfl (by decide) rfl ?_
  refine s_iadd (nx := 3) hO rfl rfl ?_
  refine s_aload_n (nx := 4) hO rfl rfl rfl ?_
  refine s_getf (v := .ref (q_b G + 169)) (nx := 7) hO rfl rfl (hs_o12 kc139) rfl rfl ?_
  refine s_iload_n (nx := 8) hO rfl rfl rfl ?_
  obtain ⟨b1, H⟩ := H
  refine s_iald (nx := 9) hO rfl (hs_I kc169) b1 rfl ?_
  refine s_icmp_ge (nx := 12) hO rfl rfl (fun c9 => ?_) (fun c9 => ?_)
  · replace H := H.1 c9
    refine s_iload_n (nx := 32) hO rfl rfl rfl ?_
    refine s_iconst (x := (nI 3)) (nx := 33) hO rfl (by decide) rfl ?_
    refine s_icmp_ge (nx := 36) hO rfl rfl (fun c33 => ?_) (fun c33 => ?_)
    · replace H := H.1 c33
      refine s_iload_n (nx := 43) hO rfl rfl rfl ?_
      refine s_iconst (x := (nI 3)) (nx := 44) hO rfl (by decide) rfl ?_
      refine s_isub (nx := 45) hO rfl rfl ?_
      refine s_aload_n (nx := 46) hO rfl rfl rfl ?_
      refine s_getf (v := .int (sI s 139 19)) (nx := 49) hO rfl rfl (hs_o12 kc139) rfl rfl ?_
      refine s_icmp_ge (nx := 52) hO rfl rfl (fun c49 => ?_) (fun c49 => ?_)
      · replace H := H.1 c49
        refine s_iconst (x := 0) (nx := 64) hO rfl (by decide) rfl ?_
        exact s_iret hO rfl rfl rfl ⟨rfl, _, rfl, rfl, H⟩
      · replace H := H.2 c49
        refine s_aload_n (nx := 53) hO rfl rfl rfl ?_
        refine s_getf (v := .ref (q_b G + 145)) (nx := 56) hO rfl rfl (hs_o12 kc139) rfl rfl ?_
        refine s_iload_n (nx := 57) hO rfl rfl rfl ?_
        refine s_iconst (x := (nI 3)) (nx := 58) hO rfl (by decide) rfl ?_
        refine s_isub (nx := 59) hO rfl rfl ?_
        obtain ⟨b2, H⟩ := H
        refine s_iald (nx := 60) hO rfl (hs_I kc145) b2 rfl ?_
        refine s_goto hO rfl ?_
        exact s_iret hO rfl rfl rfl ⟨rfl, _, rfl, rfl, H⟩
    · replace H := H.2 c33
      refine s_ldc_w (x := ((2147483647))) (nx := 39) hO rfl rfl rfl ?_
      refine s_goto hO rfl ?_
      exact s_iret hO rfl rfl rfl ⟨rfl, _, rfl, rfl, H⟩
  · replace H := H.2 c9
    refine s_aload_n (nx := 13) hO rfl rfl rfl ?_
    refine s_getf (v := .ref (q_b G + 168)) (nx := 16) hO rfl rfl (hs_o12 kc139) rfl rfl ?_
    refine s_sipush (x := (nI 2000)) (nx := 19) hO rfl (by decide) rfl ?_
    refine s_iload_n (nx := 20) hO rfl rfl rfl ?_
    refine s_imul (nx := 21) hO rfl rfl ?_
    refine s_iload_n (nx := 22) hO rfl rfl rfl ?_
    refine s_iadd (nx := 23) hO rfl rfl ?_
    refine s_iconst (x := 1) (nx := 24) hO rfl (by decide) rfl ?_
    refine s_iadd (nx := 25) hO rfl rfl ?_
    obtain ⟨b3, H⟩ := H
    refine s_iald (nx := 26) hO rfl (hs_I kc168) b3 rfl ?_
    refine s_iconst (x := 1) (nx := 27) hO rfl (by decide) rfl ?_
    refine s_isub (nx := 28) hO rfl rfl ?_
    refine s_goto hO rfl ?_
    exact s_iret hO rfl rfl rfl ⟨rfl, _, rfl, rfl, H⟩
def W_X12_makeLetters (s : yS) (Q : yS → Prop) : Prop :=
 ∀ s1 : yS, s1 = wI s 139 47 0 → 
 ∀ P7 : Int32 → yS → Prop, (∀ (x2 : Int32) (s3 : yS), ((((nI 16) ≤ x2 → Q s3)
  ∧ (¬ (nI 16) ≤ x2 → ((¬ (sI s3 139 15) = 0 → Q s3)
   ∧ ((sI s3 139 15) = 0 → W_X12_divide s3 x2 
    (fun s4 => ∀ P30 : Int64 → Int32 → Prop, (∀ (x5 : Int64) (x6 : Int32), ((((nI 9) ≤ x6 → (((lg_cmp (((sI s4 139 47)).toInt64 + x5) ((512))) ≤ 0 → ∀ P94 : Int32 → yS → Prop, (∀ (x7 : Int32) (s8 : yS), (((0 ≤ (lg_cmp (x7).toInt64 x5) → ∀ x9 : Int32, x9 = (x2 + 1) → 
         P7 x9 s8)
        ∧ (¬ 0 ≤ (lg_cmp (x7).toInt64 x5) → vp_in (sI s8 139 47) 512 ∧ ∀ s11 : yS, s11 = wI s8 165 (ix (sI s8 139 47)) x2 → 
         ∀ P120 : Int32 → Int32 → yS → Prop, (∀ (x12 : Int32) (x13 : Int32) (s14 : yS), (((x13 < 0 → ∀ s15 : yS, s15 = wI s14 139 47 ((sI s14 139 47) + 1) → 
           ∀ x16 : Int32, x16 = (x7 + 1) → 
           P94 x16 s15)
          ∧ (¬ x13 < 0 → vp_in x13 9 ∧ 
           (¬ (sI s14 169 (ix x13)) = 0) ∧ 
           ∀ x19 : Int32, x19 = (x12 - x12 / (sI s14 169 (ix x13)) * (sI s14 169 (ix x13))) → 
           vp_in x13 9 ∧ 
           (¬ (sI s14 169 (ix x13)) = 0) ∧ 
           ∀ x22 : Int32, x22 = (x12 / (sI s14 169 (ix x13))) → 
           ∀ P187 : Int32 → Prop, (∀ (y23 : Int32), (∀ P226 : Int32 → Prop, (∀ (y24 : Int32), (vp_in (((nI 9) * (sI s14 139 47)) + x13) 4608 ∧ ∀ s26 : yS, s26 = wI s14 166 (ix (((nI 9) * (sI s14 139 47)) + x13)) y24 → 
             ∀ P258 : Int32 → Prop, (∀ (y27 : Int32), (vp_in (((nI 9) * (sI s26 139 47)) + x13) 4608 ∧ ∀ s29 : yS, s29 = wI s26 167 (ix (((nI 9) * (sI s26 139 47)) + x13)) y27 → 
              ∀ x30 : Int32, x30 = (x13 + (-1)) → 
              P120 x22 x30 s29) → P258 y27) → 
             ((y23 = 0 → P258 0)
             ∧ (¬ y23 = 0 → W_X12_greatest s26 x13 x19 
              (fun r31 => P258 r31)))) → P226 y24) → 
            ((y23 = 0 → P226 0)
            ∧ (¬ y23 = 0 → vp_in (((nI 2000) * x13) + x19) 18000 ∧ 
             P226 (sI s14 168 (ix (((nI 2000) * x13) + x19)))))) → P187 y23) → 
           (((nI 3) ≤ x13 → (((sI s14 139 19) ≤ (x13 - (nI 3)) → P187 0)
            ∧ (¬ (sI s14 139 19) ≤ (x13 - (nI 3)) → P187 1)))
           ∧ (¬ (nI 3) ≤ x13 → (((x2 - x2 / (nI 4) * (nI 4)) ≤ x13 → P187 0)
            ∧ (¬ (x2 - x2 / (nI 4) * (nI 4)) ≤ x13 → P187 1))))))) → P120 x12 x13 s14) → 
         P120 x7 (nI 8) s11))) → P94 x7 s8) → 
       P94 0 s4)
      ∧ (¬ (lg_cmp (((sI s4 139 47)).toInt64 + x5) ((512))) ≤ 0 → W_X12_wrong s4 (nI 7) (sI s4 139 9) 
       (fun s33 => Q s33))))
     ∧ (¬ (nI 9) ≤ x6 → ∀ P59 : Int64 → Prop, (∀ (y34 : Int64), (∀ x35 : Int32, x35 = (x6 + 1) → 
       P30 y34 x35) → P59 y34) → 
      (((lg_cmp x5 ((512))) ≤ 0 → vp_in x6 9 ∧ 
       P59 (x5 * ((sI s4 169 (ix x6))).toInt64))
      ∧ (¬ (lg_cmp x5 ((512))) ≤ 0 → P59 x5))))) → P30 x5 x6) → 
    P30 1 0)))))) → P7 x2 s3) → 
 P7 0 s1
set_option maxRecDepth 100000 in
set_option maxHeartbeats 40000000 in
theorem w_X12_makeLetters {G : xG} (hG : yG G) {z : Nat} {s : yS} {Q : yS → Prop} (H : W_X12_makeLetters s Q) : xC G mX12_makeLetters [.ref (q_b G + 139)] (hS G s) z 0 0 (yQv G z Q) := by
  have hW := hG.1
  have hcl := hG.2.1
  have hty := hG.2.2.1
  have hO : xO G mX12_makeLetters tbX12_makeLetters ptX12_makeLetters := ⟨tkX12_makeLetters, pkX12_makeLetters hcl⟩
  unfold W_X12_makeLetters at H
  refine xC.of hW (by decide) rfl (Nat.le_of_ble_eq_true rfl) ?_
  refine s_aload_n (nx := 1) hO rfl rfl rfl ?_
  refine s_iconst (x := 0) (nx := 2) hO rfl (by decide) rfl ?_
  refine goV (wI s 139 47 0) (fun s1 es1 => ?_)
  replace H := H s1 es1
  refine s_putf (nx := 5) hO rfl rfl (hs_o12 kc139) (Nat.le_of_ble_eq_true rfl) (by rw [hty]; rfl) (by rw [hty]; rfl) pX12_47 rfl ?_
  refine xEx.at (up_oI12 kc139 es1) ?_
  refine s_iconst (x := 0) (nx := 6) hO rfl (by decide) rfl ?_
  refine goK (H (fun (x2 : Int32) (s3 : yS) => xEx G mX12_makeLetters 7 [(0, .ref (q_b G + 139)), (1, .int x2)] [] (hS G s3) z 0 0 (yQv G z Q)) (fun x2 s3 H => ?_)) (fun H => ?_)
  · show xEx G mX12_makeLetters 7 [(0, .ref (q_b G + 139)), (1, .int x2)] [] (hS G s3) z 0 0 (yQv G z Q)
    refine s_iload_n (nx := 8) hO rfl rfl rfl ?_
    refine s_bipush (x := (nI 16)) (nx := 10) hO rfl (by decide) rfl ?_
    refine s_icmp_ge (nx := 13) hO rfl rfl (fun c10 => ?_) (fun c10 => ?_)
    · replace H := H.1 c10
      exact s_vret hO rfl rfl ⟨rfl, _, rfl, rfl, H⟩
    · replace H := H.2 c10
      refine s_aload_n (nx := 14) hO rfl rfl rfl ?_
      refine s_getf (v := .int (sI s3 139 15)) (nx := 17) hO rfl rfl (hs_o12 kc139) rfl rfl ?_
      refine s_if_ne (nx := 20) hO rfl rfl (fun c17 => ?_) (fun c17 => ?_)
      · replace H := H.1 c17
        exact s_vret hO rfl rfl ⟨rfl, _, rfl, rfl, H⟩
      · replace H := H.2 c17
        refine s_aload_n (nx := 21) hO rfl rfl rfl ?_
        refine s_iload_n (nx := 22) hO rfl rfl rfl ?_
        refine s_callV [.int x2] (ci := 12) (F := TX12) (N := 116) (nx := 25) hO rfl kX12_makeLetters_462 (by rw [hcl]; rfl) (hs_o12 kc139) (w_X12_divide hG H) rfl rfl (Nat.le_of_ble_eq_true rfl) (Nat.zero_le _) (Nat.zero_le _) rfl (k_Qv (fun s4 H => ?_))
        refine s_lconst (x := 1) (nx := 26) hO rfl (by decide) rfl ?_
        refine s_lstore_n (nx := 27) (l' := [(2, .long 1), (0, .ref (q_b G + 139)), (1, .int x2)]) hO rfl (by decide) rfl rfl ?_
        refine s_iconst (x := 0) (nx := 28) hO rfl (by decide) rfl ?_
        refine goK (H (fun (x5 : Int64) (x6 : Int32) => xEx G mX12_makeLetters 30 [(0, .ref (q_b G + 139)), (1, .int x2), (2, .long x5), (4, .int x6)] [] (hS G s4) z 0 0 (yQv G z Q)) (fun x5 x6 H => ?_)) (fun H => ?_)
        · show xEx G mX12_makeLetters 30 [(0, .ref (q_b G + 139)), (1, .int x2), (2, .long x5), (4, .int x6)] [] (hS G s4) z 0 0 (yQv G z Q)
          refine s_iload (nx := 32) hO rfl rfl rfl ?_
          refine s_bipush (x := (nI 9)) (nx := 34) hO rfl (by decide) rfl ?_
          refine s_icmp_ge (nx := 37) hO rfl rfl (fun c34 => ?_) (fun c34 => ?_)
          · replace H := H.1 c34
            refine s_aload_n (nx := 67) hO rfl rfl rfl ?_
            refine s_getf (v := .int (sI s4 139 47)) (nx := 70) hO rfl rfl (hs_o12 kc139) rfl rfl ?_
            refine s_i2l (nx := 71) hO rfl rfl ?_
            refine s_lload_n (nx := 72) hO rfl rfl rfl ?_
            refine s_ladd (nx := 73) hO rfl rfl ?_
            refine s_ldc2_w (x := ((512))) (nx := 76) hO rfl rfl rfl ?_
            refine s_lcmp (nx := 77) hO rfl rfl ?_
            refine s_if_le (nx := 80) hO rfl rfl (fun c77 => ?_) (fun c77 => ?_)
            · replace H := H.1 c77
              refine s_iconst (x := 0) (nx := 92) hO rfl (by decide) rfl ?_
              refine goK (H (fun (x7 : Int32) (s8 : yS) => xEx G mX12_makeLetters 94 [(0, .ref (q_b G + 139)), (1, .int x2), (2, .long x5), (4, .int x7)] [] (hS G s8) z 0 0 (yQv G z Q)) (fun x7 s8 H => ?_)) (fun H => ?_)
              · show xEx G mX12_makeLetters 94 [(0, .ref (q_b G + 139)), (1, .int x2), (2, .long x5), (4, .int x7)] [] (hS G s8) z 0 0 (yQv G z Q)
                refine s_iload (nx := 96) hO rfl rfl rfl ?_
                refine s_i2l (nx := 97) hO rfl rfl ?_
                refine s_lload_n (nx := 98) hO rfl rfl rfl ?_
                refine s_lcmp (nx := 99) hO rfl rfl ?_
                refine s_if_ge (nx := 102) hO rfl rfl (fun c99 => ?_) (fun c99 => ?_)
                · replace H := H.1 c99
                  refine goV ((x2 + 1)) (fun x9 ex9 => ?_)
                  replace H := H x9 ex9
                  refine e_iinc (nx := 284) (l' := [(1, .int x9), (0, .ref (q_b G + 139)), (2, .long x5), (4, .int x7)]) ex9 hO rfl (by decide) rfl rfl rfl rfl ?_
                  refine s_goto hO rfl ?_
                  exact xEx.loc (x_sub1 (List.Mem.tail _ (List.Mem.head _)) (x_sub1 (List.Mem.head _) x_sub0)) H
                · replace H := H.2 c99
                  refine s_iload (nx := 104) hO rfl rfl rfl ?_
                  refine s_istore (nx := 106) (l' := [(5, .int x7), (0, .ref (q_b G + 139)), (1, .int x2), (2, .long x5), (4, .int x7)]) hO rfl (by decide) rfl rfl ?_
                  refine s_aload_n (nx := 107) hO rfl rfl rfl ?_
                  refine s_getf (v := .ref (q_b G + 165)) (nx := 110) hO rfl rfl (hs_o12 kc139) rfl rfl ?_
                  refine s_aload_n (nx := 111) hO rfl rfl rfl ?_
                  refine s_getf (v := .int (sI s8 139 47)) (nx := 114) hO rfl rfl (hs_o12 kc139) rfl rfl ?_
                  refine s_iload_n (nx := 115) hO rfl rfl rfl ?_
                  obtain ⟨b10, H⟩ := H
                  refine goV (wI s8 165 (ix (sI s8 139 47)) x2) (fun s11 es11 => ?_)
                  replace H := H s11 es11
                  refine s_iast (nx := 116) hO rfl (hs_I kc165) b10 rfl ?_
                  refine xEx.at (up_I kc165 es11) ?_
                  refine s_bipush (x := (nI 8)) (nx := 118) hO rfl (by decide) rfl ?_
                  refine goK (H (fun (x12 : Int32) (x13 : Int32) (s14 : yS) => xEx G mX12_makeLetters 120 [(0, .ref (q_b G + 139)), (1, .int x2), (2, .long x5), (4, .int x7), (5, .int x12), (6, .int x13)] [] (hS G s14) z 0 0 (yQv G z Q)) (fun x12 x13 s14 H => ?_)) (fun H => ?_)
                  · show xEx G mX12_makeLetters 120 [(0, .ref (q_b G + 139)), (1, .int x2), (2, .long x5), (4, .int x7), (5, .int x12), (6, .int x13)] [] (hS G s14) z 0 0 (yQv G z Q)
                    refine s_iload (nx := 122) hO rfl rfl rfl ?_
                    refine s_if_lt (nx := 125) hO rfl rfl (fun c122 => ?_) (fun c122 => ?_)
                    · replace H := H.1 c122
                      refine s_aload_n (nx := 266) hO rfl rfl rfl ?_
                      refine s_dup (nx := 267) hO rfl rfl rfl ?_
                      refine s_getf (v := .int (sI s14 139 47)) (nx := 270) hO rfl rfl (hs_o12 kc139) rfl rfl ?_
                      refine s_iconst (x := 1) (nx := 271) hO rfl (by decide) rfl ?_
                      refine s_iadd (nx := 272) hO rfl rfl ?_
                      refine goV (wI s14 139 47 ((sI s14 139 47) + 1)) (fun s15 es15 => ?_)
                      replace H := H s15 es15
                      refine s_putf (nx := 275) hO rfl rfl (hs_o12 kc139) (Nat.le_of_ble_eq_true rfl) (by rw [hty]; rfl) (by rw [hty]; rfl) pX12_47 rfl ?_
                      refine xEx.at (up_oI12 kc139 es15) ?_
                      refine goV ((x7 + 1)) (fun x16 ex16 => ?_)
                      replace H := H x16 ex16
                      refine e_iinc (nx := 278) (l' := [(4, .int x16), (0, .ref (q_b G + 139)), (1, .int x2), (2, .long x5), (5, .int x12), (6, .int x13)]) ex16 hO rfl (by decide) rfl rfl rfl rfl ?_
                      refine s_goto hO rfl ?_
                      exact xEx.loc (x_sub1 (List.Mem.tail _ (List.Mem.head _)) (x_sub1 (List.Mem.tail _ (List.Mem.tail _ (List.Mem.head _))) (x_sub1 (List.Mem.tail _ (List.Mem.tail _ (List.Mem.tail _ (List.Mem.head _)))) (x_sub1 (List.Mem.head _) x_sub0)))) H
                    · replace H := H.2 c122
                      refine s_iload (nx := 127) hO rfl rfl rfl ?_
                      refine s_aload_n (nx := 128) hO rfl rfl rfl ?_
                      refine s_getf (v := .ref (q_b G + 169)) (nx := 131) hO rfl rfl (hs_o12 kc139) rfl rfl ?_
                      refine s_iload (nx := 133) hO rfl rfl rfl ?_
                      obtain ⟨b17, H⟩ := H
                      refine s_iald (nx := 134) hO rfl (hs_I kc169) b17 rfl ?_
                      obtain ⟨b18, H⟩ := H
                      refine s_irem (nx := 135) hO rfl b18 rfl ?_
                      refine goV ((x12 - x12 / (sI s14 169 (ix x13)) * (sI s14 169 (ix x13)))) (fun x19 ex19 => ?_)
                      replace H := H x19 ex19
                      refine e_istore (nx := 137) (l' := [(7, .int x19), (0, .ref (q_b G + 139)), (1, .int x2), (2, .long x5), (4, .int x7), (5, .int x12), (6, .int x13)]) ex19 hO rfl (by decide) rfl rfl ?_
                      refine s_iload (nx := 139) hO rfl rfl rfl ?_
                      refine s_aload_n (nx := 140) hO rfl rfl rfl ?_
                      refine s_getf (v := .ref (q_b G + 169)) (nx := 143) hO rfl rfl (hs_o12 kc139) rfl rfl ?_
                      refine s_iload (nx := 145) hO rfl rfl rfl ?_
                      obtain ⟨b20, H⟩ := H
                      refine s_iald (nx := 146) hO rfl (hs_I kc169) b20 rfl ?_
                      obtain ⟨b21, H⟩ := H
                      refine s_idiv (nx := 147) hO rfl b21 rfl ?_
                      refine goV ((x12 / (sI s14 169 (ix x13)))) (fun x22 ex22 => ?_)
                      replace H := H x22 ex22
                      refine e_istore (nx := 149) (l' := [(5, .int x22), (7, .int x19), (0, .ref (q_b G + 139)), (1, .int x2), (2, .long x5), (4, .int x7), (6, .int x13)]) ex22 hO rfl (by decide) rfl rfl ?_
                      refine s_iload (nx := 151) hO rfl rfl rfl ?_
                      refine s_iconst (x := (nI 3)) (nx := 152) hO rfl (by decide) rfl ?_
                      refine goK (H (fun (y23 : Int32) => xEx G mX12_makeLetters 187 [(0, .ref (q_b G + 139)), (1, .int x2), (2, .long x5), (4, .int x7), (5, .int x22), (6, .int x13), (7, .int x19)] [.int y23] (hS G s14) z 0 0 (yQv G z Q)) (fun y23 H => ?_)) (fun H => ?_)
                      · show xEx G mX12_makeLetters 187 [(0, .ref (q_b G + 139)), (1, .int x2), (2, .long x5), (4, .int x7), (5, .int x22), (6, .int x13), (7, .int x19)] [.int y23] (hS G s14) z 0 0 (yQv G z Q)
                        refine s_istore (nx := 189) (l' := [(8, .int y23), (0, .ref (q_b G + 139)), (1, .int x2), (2, .long x5), (4, .int x7), (5, .int x22), (6, .int x13), (7, .int x19)]) hO rfl (by decide) rfl rfl ?_
                        refine s_aload_n (nx := 190) hO rfl rfl rfl ?_
                        refine s_getf (v := .ref (q_b G + 166)) (nx := 193) hO rfl rfl (hs_o12 kc139) rfl rfl ?_
                        refine s_bipush (x := (nI 9)) (nx := 195) hO rfl (by decide) rfl ?_
                        refine s_aload_n (nx := 196) hO rfl rfl rfl ?_
                        refine s_getf (v := .int (sI s14 139 47)) (nx := 199) hO rfl rfl (hs_o12 kc139) rfl rfl ?_
                        refine s_imul (nx := 200) hO rfl rfl ?_
                        refine s_iload (nx := 202) hO rfl rfl rfl ?_
                        refine s_iadd (nx := 203) hO rfl rfl ?_
                        refine s_iload (nx := 205) hO rfl rfl rfl ?_
                        refine goK (H (fun (y24 : Int32) => xEx G mX12_makeLetters 226 [(0, .ref (q_b G + 139)), (1, .int x2), (2, .long x5), (4, .int x7), (5, .int x22), (6, .int x13), (7, .int x19), (8, .int y23)] [.int y24, .int (((nI 9) * (sI s14 139 47)) + x13), .ref (q_b G + 166)] (hS G s14) z 0 0 (yQv G z Q)) (fun y24 H => ?_)) (fun H => ?_)
                        · show xEx G mX12_makeLetters 226 [(0, .ref (q_b G + 139)), (1, .int x2), (2, .long x5), (4, .int x7), (5, .int x22), (6, .int x13), (7, .int x19), (8, .int y23)] [.int y24, .int (((nI 9) * (sI s14 139 47)) + x13), .ref (q_b G + 166)] (hS G s14) z 0 0 (yQv G z Q)
                          obtain ⟨b25, H⟩ := H
                          refine goV (wI s14 166 (ix (((nI 9) * (sI s14 139 47)) + x13)) y24) (fun s26 es26 => ?_)
                          replace H := H s26 es26
                          refine s_iast (nx := 227) hO rfl (hs_I kc166) b25 rfl ?_
                          refine xEx.at (up_I kc166 es26) ?_
                          refine s_aload_n (nx := 228) hO rfl rfl rfl ?_
                          refine s_getf (v := .ref (q_b G + 167)) (nx := 231) hO rfl rfl (hs_o12 kc139) rfl rfl ?_
                          refine s_bipush (x := (nI 9)) (nx := 233) hO rfl (by decide) rfl ?_
                          refine s_aload_n (nx := 234) hO rfl rfl rfl ?_
                          refine s_getf (v := .int (sI s26 139 47)) (nx := 237) hO rfl rfl (hs_o12 kc139) rfl rfl ?_
                          refine s_imul (nx := 238) hO rfl rfl ?_
                          refine s_iload (nx := 240) hO rfl rfl rfl ?_
                          refine s_iadd (nx := 241) hO rfl rfl ?_
                          refine s_iload (nx := 243) hO rfl rfl rfl ?_
                          refine goK (H (fun (y27 : Int32) => xEx G mX12_makeLetters 258 [(0, .ref (q_b G + 139)), (1, .int x2), (2, .long x5), (4, .int x7), (5, .int x22), (6, .int x13)] [.int y27, .int (((nI 9) * (sI s26 139 47)) + x13), .ref (q_b G + 167)] (hS G s26) z 0 0 (yQv G z Q)) (fun y27 H => ?_)) (fun H => ?_)
                          · show xEx G mX12_makeLetters 258 [(0, .ref (q_b G + 139)), (1, .int x2), (2, .long x5), (4, .int x7), (5, .int x22), (6, .int x13)] [.int y27, .int (((nI 9) * (sI s26 139 47)) + x13), .ref (q_b G + 167)] (hS G s26) z 0 0 (yQv G z Q)
                            obtain ⟨b28, H⟩ := H
                            refine goV (wI s26 167 (ix (((nI 9) * (sI s26 139 47)) + x13)) y27) (fun s29 es29 => ?_)
                            replace H := H s29 es29
                            refine s_iast (nx := 259) hO rfl (hs_I kc167) b28 rfl ?_
                            refine xEx.at (up_I kc167 es29) ?_
                            refine goV ((x13 + (-1))) (fun x30 ex30 => ?_)
                            replace H := H x30 ex30
                            refine e_iinc (nx := 262) (l' := [(6, .int x30), (0, .ref (q_b G + 139)), (1, .int x2), (2, .long x5), (4, .int x7), (5, .int x22)]) ex30 hO rfl (by decide) rfl rfl rfl rfl ?_
                            refine s_goto hO rfl ?_
                            exact xEx.loc (x_sub1 (List.Mem.tail _ (List.Mem.head _)) (x_sub1 (List.Mem.tail _ (List.Mem.tail _ (List.Mem.head _))) (x_sub1 (List.Mem.tail _ (List.Mem.tail _ (List.Mem.tail _ (List.Mem.head _)))) (x_sub1 (List.Mem.tail _ (List.Mem.tail _ (List.Mem.tail _ (List.Mem.tail _ (List.Mem.head _))))) (x_sub1 (List.Mem.tail _ (List.Mem.tail _ (List.Mem.tail _ (List.Mem.tail _ (List.Mem.tail _ (List.Mem.head _)))))) (x_sub1 (List.Mem.head _) x_sub0)))))) H
                          refine s_if_eq (nx := 246) hO rfl rfl (fun c243 => ?_) (fun c243 => ?_)
                          · replace H := H.1 c243
                            refine s_iconst (x := 0) (nx := 258) hO rfl (by decide) rfl ?_
                            exact xEx.loc (x_sub1 (List.Mem.head _) (x_sub1 (List.Mem.tail _ (List.Mem.head _)) (x_sub1 (List.Mem.tail _ (List.Mem.tail _ (List.Mem.head _))) (x_sub1 (List.Mem.tail _ (List.Mem.tail _ (List.Mem.tail _ (List.Mem.head _)))) (x_sub1 (List.Mem.tail _ (List.Mem.tail _ (List.Mem.tail _ (List.Mem.tail _ (List.Mem.head _))))) (x_sub1 (List.Mem.tail _ (List.Mem.tail _ (List.Mem.tail _ (List.Mem.tail _ (List.Mem.tail _ (List.Mem.head _)))))) x_sub0)))))) H
                          · replace H := H.2 c243
                            refine s_aload_n (nx := 247) hO rfl rfl rfl ?_
                            refine s_iload (nx := 249) hO rfl rfl rfl ?_
                            refine s_iload (nx := 251) hO rfl rfl rfl ?_
                            refine s_callV [.int x13, .int x19] (ci := 12) (F := TX12) (N := 116) (nx := 254) hO rfl kX12_makeLetters_467 (by rw [hcl]; rfl) (hs_o12 kc139) (w_X12_greatest hG H) rfl rfl (Nat.le_of_ble_eq_true rfl) (Nat.zero_le _) (Nat.zero_le _) rfl (k_Pi (fun r31 H => ?_))
                            refine s_goto hO rfl ?_
                            exact xEx.loc (x_sub1 (List.Mem.head _) (x_sub1 (List.Mem.tail _ (List.Mem.head _)) (x_sub1 (List.Mem.tail _ (List.Mem.tail _ (List.Mem.head _))) (x_sub1 (List.Mem.tail _ (List.Mem.tail _ (List.Mem.tail _ (List.Mem.head _)))) (x_sub1 (List.Mem.tail _ (List.Mem.tail _ (List.Mem.tail _ (List.Mem.tail _ (List.Mem.head _))))) (x_sub1 (List.Mem.tail _ (List.Mem.tail _ (List.Mem.tail _ (List.Mem.tail _ (List.Mem.tail _ (List.Mem.head _)))))) x_sub0)))))) H
                        refine s_if_eq (nx := 208) hO rfl rfl (fun c205 => ?_) (fun c205 => ?_)
                        · replace H := H.1 c205
                          refine s_iconst (x := 0) (nx := 226) hO rfl (by decide) rfl ?_
                          exact xEx.loc (x_sub1 (List.Mem.tail _ (List.Mem.head _)) (x_sub1 (List.Mem.tail _ (List.Mem.tail _ (List.Mem.head _))) (x_sub1 (List.Mem.tail _ (List.Mem.tail _ (List.Mem.tail _ (List.Mem.head _)))) (x_sub1 (List.Mem.tail _ (List.Mem.tail _ (List.Mem.tail _ (List.Mem.tail _ (List.Mem.head _))))) (x_sub1 (List.Mem.tail _ (List.Mem.tail _ (List.Mem.tail _ (List.Mem.tail _ (List.Mem.tail _ (List.Mem.head _)))))) (x_sub1 (List.Mem.tail _ (List.Mem.tail _ (List.Mem.tail _ (List.Mem.tail _ (List.Mem.tail _ (List.Mem.tail _ (List.Mem.head _))))))) (x_sub1 (List.Mem.tail _ (List.Mem.tail _ (List.Mem.tail _ (List.Mem.tail _ (List.Mem.tail _ (List.Mem.tail _ (List.Mem.tail _ (List.Mem.head _)))))))) (x_sub1 (List.Mem.head _) x_sub0)))))))) H
                        · replace H := H.2 c205
                          refine s_aload_n (nx := 209) hO rfl rfl rfl ?_
                          refine s_getf (v := .ref (q_b G + 168)) (nx := 212) hO rfl rfl (hs_o12 kc139) rfl rfl ?_
                          refine s_sipush (x := (nI 2000)) (nx := 215) hO rfl (by decide) rfl ?_
                          refine s_iload (nx := 217) hO rfl rfl rfl ?_
                          refine s_imul (nx := 218) hO rfl rfl ?_
                          refine s_iload (nx := 220) hO rfl rfl rfl ?_
                          refine s_iadd (nx := 221) hO rfl rfl ?_
                          obtain ⟨b32, H⟩ := H
                          refine s_iald (nx := 222) hO rfl (hs_I kc168) b32 rfl ?_
                          refine s_goto hO rfl ?_
                          exact xEx.loc (x_sub1 (List.Mem.tail _ (List.Mem.head _)) (x_sub1 (List.Mem.tail _ (List.Mem.tail _ (List.Mem.head _))) (x_sub1 (List.Mem.tail _ (List.Mem.tail _ (List.Mem.tail _ (List.Mem.head _)))) (x_sub1 (List.Mem.tail _ (List.Mem.tail _ (List.Mem.tail _ (List.Mem.tail _ (List.Mem.head _))))) (x_sub1 (List.Mem.tail _ (List.Mem.tail _ (List.Mem.tail _ (List.Mem.tail _ (List.Mem.tail _ (List.Mem.head _)))))) (x_sub1 (List.Mem.tail _ (List.Mem.tail _ (List.Mem.tail _ (List.Mem.tail _ (List.Mem.tail _ (List.Mem.tail _ (List.Mem.head _))))))) (x_sub1 (List.Mem.tail _ (List.Mem.tail _ (List.Mem.tail _ (List.Mem.tail _ (List.Mem.tail _ (List.Mem.tail _ (List.Mem.tail _ (List.Mem.head _)))))))) (x_sub1 (List.Mem.head _) x_sub0)))))))) H
                      refine s_icmp_ge (nx := 155) hO rfl rfl (fun c152 => ?_) (fun c152 => ?_)
                      · replace H := H.1 c152
                        refine s_iload (nx := 173) hO rfl rfl rfl ?_
                        refine s_iconst (x := (nI 3)) (nx := 174) hO rfl (by decide) rfl ?_
                        refine s_isub (nx := 175) hO rfl rfl ?_
                        refine s_aload_n (nx := 176) hO rfl rfl rfl ?_
                        refine s_getf (v := .int (sI s14 139 19)) (nx := 179) hO rfl rfl (hs_o12 kc139) rfl rfl ?_
                        refine s_icmp_ge (nx := 182) hO rfl rfl (fun c179 => ?_) (fun c179 => ?_)
                        · replace H := H.1 c179
                          refine s_iconst (x := 0) (nx := 187) hO rfl (by decide) rfl ?_
                          exact xEx.loc (x_sub1 (List.Mem.tail _ (List.Mem.tail _ (List.Mem.head _))) (x_sub1 (List.Mem.tail _ (List.Mem.tail _ (List.Mem.tail _ (List.Mem.head _)))) (x_sub1 (List.Mem.tail _ (List.Mem.tail _ (List.Mem.tail _ (List.Mem.tail _ (List.Mem.head _))))) (x_sub1 (List.Mem.tail _ (List.Mem.tail _ (List.Mem.tail _ (List.Mem.tail _ (List.Mem.tail _ (List.Mem.head _)))))) (x_sub1 (List.Mem.head _) (x_sub1 (List.Mem.tail _ (List.Mem.tail _ (List.Mem.tail _ (List.Mem.tail _ (List.Mem.tail _ (List.Mem.tail _ (List.Mem.head _))))))) (x_sub1 (List.Mem.tail _ (List.Mem.head _)) x_sub0))))))) H
                        · replace H := H.2 c179
                          refine s_iconst (x := 1) (nx := 183) hO rfl (by decide) rfl ?_
                          refine s_goto hO rfl ?_
                          exact xEx.loc (x_sub1 (List.Mem.tail _ (List.Mem.tail _ (List.Mem.head _))) (x_sub1 (List.Mem.tail _ (List.Mem.tail _ (List.Mem.tail _ (List.Mem.head _)))) (x_sub1 (List.Mem.tail _ (List.Mem.tail _ (List.Mem.tail _ (List.Mem.tail _ (List.Mem.head _))))) (x_sub1 (List.Mem.tail _ (List.Mem.tail _ (List.Mem.tail _ (List.Mem.tail _ (List.Mem.tail _ (List.Mem.head _)))))) (x_sub1 (List.Mem.head _) (x_sub1 (List.Mem.tail _ (List.Mem.tail _ (List.Mem.tail _ (List.Mem.tail _ (List.Mem.tail _ (List.Mem.tail _ (List.Mem.head _))))))) (x_sub1 (List.Mem.tail _ (List.Mem.head _)) x_sub0))))))) H
                      · replace H := H.2 c152
                        refine s_iload (nx := 157) hO rfl rfl rfl ?_
                        refine s_iload_n (nx := 158) hO rfl rfl rfl ?_
                        refine s_iconst (x := (nI 4)) (nx := 159) hO rfl (by decide) rfl ?_
                        refine s_irem (nx := 160) hO rfl (by decide) rfl ?_
                        refine s_icmp_ge (nx := 163) hO rfl rfl (fun c160 => ?_) (fun c160 => ?_)
                        · replace H := H.1 c160
                          refine s_iconst (x := 0) (nx := 168) hO rfl (by decide) rfl ?_
                          refine s_goto hO rfl ?_
                          exact xEx.loc (x_sub1 (List.Mem.tail _ (List.Mem.tail _ (List.Mem.head _))) (x_sub1 (List.Mem.tail _ (List.Mem.tail _ (List.Mem.tail _ (List.Mem.head _)))) (x_sub1 (List.Mem.tail _ (List.Mem.tail _ (List.Mem.tail _ (List.Mem.tail _ (List.Mem.head _))))) (x_sub1 (List.Mem.tail _ (List.Mem.tail _ (List.Mem.tail _ (List.Mem.tail _ (List.Mem.tail _ (List.Mem.head _)))))) (x_sub1 (List.Mem.head _) (x_sub1 (List.Mem.tail _ (List.Mem.tail _ (List.Mem.tail _ (List.Mem.tail _ (List.Mem.tail _ (List.Mem.tail _ (List.Mem.head _))))))) (x_sub1 (List.Mem.tail _ (List.Mem.head _)) x_sub0))))))) H
                        · replace H := H.2 c160
                          refine s_iconst (x := 1) (nx := 164) hO rfl (by decide) rfl ?_
                          refine s_goto hO rfl ?_
                          exact xEx.loc (x_sub1 (List.Mem.tail _ (List.Mem.tail _ (List.Mem.head _))) (x_sub1 (List.Mem.tail _ (List.Mem.tail _ (List.Mem.tail _ (List.Mem.head _)))) (x_sub1 (List.Mem.tail _ (List.Mem.tail _ (List.Mem.tail _ (List.Mem.tail _ (List.Mem.head _))))) (x_sub1 (List.Mem.tail _ (List.Mem.tail _ (List.Mem.tail _ (List.Mem.tail _ (List.Mem.tail _ (List.Mem.head _)))))) (x_sub1 (List.Mem.head _) (x_sub1 (List.Mem.tail _ (List.Mem.tail _ (List.Mem.tail _ (List.Mem.tail _ (List.Mem.tail _ (List.Mem.tail _ (List.Mem.head _))))))) (x_sub1 (List.Mem.tail _ (List.Mem.head _)) x_sub0))))))) H
                  refine s_istore (nx := 120) (l' := [(6, .int (nI 8)), (5, .int x7), (0, .ref (q_b G + 139)), (1, .int x2), (2, .long x5), (4, .int x7)]) hO rfl (by decide) rfl rfl ?_
                  exact xEx.loc (x_sub1 (List.Mem.tail _ (List.Mem.tail _ (List.Mem.head _))) (x_sub1 (List.Mem.tail _ (List.Mem.tail _ (List.Mem.tail _ (List.Mem.head _)))) (x_sub1 (List.Mem.tail _ (List.Mem.tail _ (List.Mem.tail _ (List.Mem.tail _ (List.Mem.head _))))) (x_sub1 (List.Mem.tail _ (List.Mem.tail _ (List.Mem.tail _ (List.Mem.tail _ (List.Mem.tail _ (List.Mem.head _)))))) (x_sub1 (List.Mem.tail _ (List.Mem.head _)) (x_sub1 (List.Mem.head _) x_sub0)))))) H
              refine s_istore (nx := 94) (l' := [(4, .int 0), (0, .ref (q_b G + 139)), (1, .int x2), (2, .long x5)]) hO rfl (by decide) rfl rfl ?_
              exact xEx.loc (x_sub1 (List.Mem.tail _ (List.Mem.head _)) (x_sub1 (List.Mem.tail _ (List.Mem.tail _ (List.Mem.head _))) (x_sub1 (List.Mem.tail _ (List.Mem.tail _ (List.Mem.tail _ (List.Mem.head _)))) (x_sub1 (List.Mem.head _) x_sub0)))) H
            · replace H := H.2 c77
              refine s_aload_n (nx := 81) hO rfl rfl rfl ?_
              refine s_bipush (x := (nI 7)) (nx := 83) hO rfl (by decide) rfl ?_
              refine s_aload_n (nx := 84) hO rfl rfl rfl ?_
              refine s_getf (v := .int (sI s4 139 9)) (nx := 87) hO rfl rfl (hs_o12 kc139) rfl rfl ?_
              refine s_callV [.int (nI 7), .int (sI s4 139 9)] (ci := 12) (F := TX12) (N := 116) (nx := 90) hO rfl kX12_makeLetters_303 (by rw [hcl]; rfl) (hs_o12 kc139) (w_X12_wrong hG H) rfl rfl (Nat.le_of_ble_eq_true rfl) (Nat.zero_le _) (Nat.zero_le _) rfl (k_Qv (fun s33 H => ?_))
              exact s_vret hO rfl rfl ⟨rfl, _, rfl, rfl, H⟩
          · replace H := H.2 c34
            refine s_lload_n (nx := 38) hO rfl rfl rfl ?_
            refine s_ldc2_w (x := ((512))) (nx := 41) hO rfl rfl rfl ?_
            refine s_lcmp (nx := 42) hO rfl rfl ?_
            refine goK (H (fun (y34 : Int64) => xEx G mX12_makeLetters 59 [(0, .ref (q_b G + 139)), (1, .int x2), (4, .int x6)] [.long y34] (hS G s4) z 0 0 (yQv G z Q)) (fun y34 H => ?_)) (fun H => ?_)
            · show xEx G mX12_makeLetters 59 [(0, .ref (q_b G + 139)), (1, .int x2), (4, .int x6)] [.long y34] (hS G s4) z 0 0 (yQv G z Q)
              refine s_lstore_n (nx := 60) (l' := [(2, .long y34), (0, .ref (q_b G + 139)), (1, .int x2), (4, .int x6)]) hO rfl (by decide) rfl rfl ?_
              refine goV ((x6 + 1)) (fun x35 ex35 => ?_)
              replace H := H x35 ex35
              refine e_iinc (nx := 63) (l' := [(4, .int x35), (2, .long y34), (0, .ref (q_b G + 139)), (1, .int x2)]) ex35 hO rfl (by decide) rfl rfl rfl rfl ?_
              refine s_goto hO rfl ?_
              exact xEx.loc (x_sub1 (List.Mem.tail _ (List.Mem.tail _ (List.Mem.head _))) (x_sub1 (List.Mem.tail _ (List.Mem.tail _ (List.Mem.tail _ (List.Mem.head _)))) (x_sub1 (List.Mem.tail _ (List.Mem.head _)) (x_sub1 (List.Mem.head _) x_sub0)))) H
            refine s_if_le (nx := 45) hO rfl rfl (fun c42 => ?_) (fun c42 => ?_)
            · replace H := H.1 c42
              refine s_lload_n (nx := 50) hO rfl rfl rfl ?_
              refine s_aload_n (nx := 51) hO rfl rfl rfl ?_
              refine s_getf (v := .ref (q_b G + 169)) (nx := 54) hO rfl rfl (hs_o12 kc139) rfl rfl ?_
              refine s_iload (nx := 56) hO rfl rfl rfl ?_
              obtain ⟨b36, H⟩ := H
              refine s_iald (nx := 57) hO rfl (hs_I kc169) b36 rfl ?_
              refine s_i2l (nx := 58) hO rfl rfl ?_
              refine s_lmul (nx := 59) hO rfl rfl ?_
              exact xEx.loc (x_sub1 (List.Mem.head _) (x_sub1 (List.Mem.tail _ (List.Mem.head _)) (x_sub1 (List.Mem.tail _ (List.Mem.tail _ (List.Mem.tail _ (List.Mem.head _)))) x_sub0))) H
            · replace H := H.2 c42
              refine s_lload_n (nx := 46) hO rfl rfl rfl ?_
              refine s_goto hO rfl ?_
              exact xEx.loc (x_sub1 (List.Mem.head _) (x_sub1 (List.Mem.tail _ (List.Mem.head _)) (x_sub1 (List.Mem.tail _ (List.Mem.tail _ (List.Mem.tail _ (List.Mem.head _)))) x_sub0))) H
        refine s_istore (nx := 30) (l' := [(4, .int 0), (2, .long 1), (0, .ref (q_b G + 139)), (1, .int x2)]) hO rfl (by decide) rfl rfl ?_
        exact xEx.loc (x_sub1 (List.Mem.tail _ (List.Mem.tail _ (List.Mem.head _))) (x_sub1 (List.Mem.tail _ (List.Mem.tail _ (List.Mem.tail _ (List.Mem.head _)))) (x_sub1 (List.Mem.tail _ (List.Mem.head _)) (x_sub1 (List.Mem.head _) x_sub0)))) H
  refine s_istore_n (nx := 7) (l' := [(1, .int 0), (0, .ref (q_b G + 139))]) hO rfl (by decide) rfl rfl ?_
  exact xEx.loc (x_sub1 (List.Mem.tail _ (List.Mem.head _)) (x_sub1 (List.Mem.head _) x_sub0)) H

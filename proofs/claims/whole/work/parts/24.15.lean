def W_X12_callOut (s : yS) (v1 : Int32) (Q : yS → Prop) : Prop :=
 ∀ P38 : Int32 → Prop, (∀ (y1 : Int32), (∀ P125 : yS → Prop, (∀ (s2 : yS), (∀ s3 : yS, s3 = wI s2 139 93 ((sI s2 139 93) + 1) → 
   ∀ P137 : Int32 → yS → Prop, (∀ (x4 : Int32) (s5 : yS), ((((v1 - v1 / (nI 4) * (nI 4)) ≤ x4 → W_X12_push s5 y1 
     (fun s6 => W_X12_goOn s6 
     (fun s7 => Q s7)))
    ∧ (¬ (v1 - v1 / (nI 4) * (nI 4)) ≤ x4 → W_X12_pop s5 
     (fun r8 s9 => ∀ x10 : Int32, x10 = (x4 + 1) → 
     P137 x10 s9)))) → P137 x4 s5) → 
   P137 0 s3) → P125 s2) → 
  (((nI 256) ≤ (sI s 139 93) → P125 s)
  ∧ (¬ (nI 256) ≤ (sI s 139 93) → vp_in ((nI 5) * (sI s 139 93)) 1280 ∧ ∀ s12 : yS, s12 = wI s 207 (ix ((nI 5) * (sI s 139 93))) v1 → 
   ∀ P63 : Int32 → yS → Prop, (∀ (x13 : Int32) (s14 : yS), ((((nI 3) ≤ x13 → vp_in (((nI 5) * (sI s14 139 93)) + (nI 4)) 1280 ∧ ∀ s16 : yS, s16 = wI s14 207 (ix (((nI 5) * (sI s14 139 93)) + (nI 4))) y1 → 
     P125 s16)
    ∧ (¬ (nI 3) ≤ x13 → ∀ P104 : Int32 → Prop, (∀ (y17 : Int32), (vp_in ((((nI 5) * (sI s14 139 93)) + 1) + x13) 1280 ∧ ∀ s19 : yS, s19 = wI s14 207 (ix ((((nI 5) * (sI s14 139 93)) + 1) + x13)) y17 → 
      ∀ x20 : Int32, x20 = (x13 + 1) → 
      P63 x20 s19) → P104 y17) → 
     (((v1 - v1 / (nI 4) * (nI 4)) ≤ x13 → P104 0)
     ∧ (¬ (v1 - v1 / (nI 4) * (nI 4)) ≤ x13 → W_X12_under s14 (((v1 - v1 / (nI 4) * (nI 4)) - 1) - x13) 
      (fun r21 => P104 r21)))))) → P63 x13 s14) → 
   P63 0 s12))) → P38 y1) → 
 (((sI s 139 88) ≤ (sI s 139 93) → P38 0)
 ∧ (¬ (sI s 139 88) ≤ (sI s 139 93) → (((nI 256) ≤ (sI s 139 93) → vp_in 0 256 ∧ 
   P38 (sI s 204 (ix 0)))
  ∧ (¬ (nI 256) ≤ (sI s 139 93) → vp_in (sI s 139 93) 256 ∧ 
   P38 (sI s 204 (ix (sI s 139 93)))))))
set_option maxRecDepth 100000 in
set_option maxHeartbeats 40000000 in
theorem w_X12_callOut {G : xG} (hG : yG G) {z : Nat} {s : yS} {v1 : Int32} {Q : yS → Prop} (H : W_X12_callOut s v1 Q) : xC G mX12_callOut [.ref (q_b G + 139), .int v1] (hS G s) z 0 0 (yQv G z Q) := by
  have hW := hG.1
  have hcl := hG.2.1
  have hty := hG.2.2.1
  have hO : xO G mX12_callOut tbX12_callOut ptX12_callOut := ⟨tkX12_callOut, pkX12_callOut hcl⟩
  unfold W_X12_callOut at H
  refine xC.of hW (by decide) rfl (Nat.le_of_ble_eq_true rfl) ?_
  refine s_aload_n (nx := 1) hO rfl rfl rfl ?_
  refine s_getf (v := .int (sI s 139 93)) (nx := 4) hO rfl rfl (hs_o12 kc139) rfl rfl ?_
  refine s_aload_n (nx := 5) hO rfl rfl rfl ?_
  refine s_getf (v := .int (sI s 139 88)) (nx := 8) hO rfl rfl (hs_o12 kc139) rfl rfl ?_
  refine goK (H (fun (y1 : Int32) => xEx G mX12_callOut 38 [(0, .ref (q_b G + 139)), (1, .int v1)] [.int y1] (hS G s) z 0 0 (yQv G z Q)) (fun y1 H => ?_)) (fun H => ?_)
  · show xEx G mX12_callOut 38 [(0, .ref (q_b G + 139)), (1, .int v1)] [.int y1] (hS G s) z 0 0 (yQv G z Q)
    refine s_istore_n (nx := 39) (l' := [(2, .int y1), (0, .ref (q_b G + 139)), (1, .int v1)]) hO rfl (by decide) rfl rfl ?_
    refine s_aload_n (nx := 40) hO rfl rfl rfl ?_
    refine s_getf (v := .int (sI s 139 93)) (nx := 43) hO rfl rfl (hs_o12 kc139) rfl rfl ?_
    refine s_sipush (x := (nI 256)) (nx := 46) hO rfl (by decide) rfl ?_
    refine goK (H (fun (s2 : yS) => xEx G mX12_callOut 125 [(0, .ref (q_b G + 139)), (1, .int v1), (2, .int y1)] [] (hS G s2) z 0 0 (yQv G z Q)) (fun s2 H => ?_)) (fun H => ?_)
    · show xEx G mX12_callOut 125 [(0, .ref (q_b G + 139)), (1, .int v1), (2, .int y1)] [] (hS G s2) z 0 0 (yQv G z Q)
      refine s_aload_n (nx := 126) hO rfl rfl rfl ?_
      refine s_dup (nx := 127) hO rfl rfl rfl ?_
      refine s_getf (v := .int (sI s2 139 93)) (nx := 130) hO rfl rfl (hs_o12 kc139) rfl rfl ?_
      refine s_iconst (x := 1) (nx := 131) hO rfl (by decide) rfl ?_
      refine s_iadd (nx := 132) hO rfl rfl ?_
      refine goV (wI s2 139 93 ((sI s2 139 93) + 1)) (fun s3 es3 => ?_)
      replace H := H s3 es3
      refine s_putf (nx := 135) hO rfl rfl (hs_o12 kc139) (Nat.le_of_ble_eq_true rfl) (by rw [hty]; rfl) (by rw [hty]; rfl) pX12_93 rfl ?_
      refine xEx.at (up_oI12 kc139 es3) ?_
      refine s_iconst (x := 0) (nx := 136) hO rfl (by decide) rfl ?_
      refine goK (H (fun (x4 : Int32) (s5 : yS) => xEx G mX12_callOut 137 [(0, .ref (q_b G + 139)), (1, .int v1), (2, .int y1), (3, .int x4)] [] (hS G s5) z 0 0 (yQv G z Q)) (fun x4 s5 H => ?_)) (fun H => ?_)
      · show xEx G mX12_callOut 137 [(0, .ref (q_b G + 139)), (1, .int v1), (2, .int y1), (3, .int x4)] [] (hS G s5) z 0 0 (yQv G z Q)
        refine s_iload_n (nx := 138) hO rfl rfl rfl ?_
        refine s_iload_n (nx := 139) hO rfl rfl rfl ?_
        refine s_iconst (x := (nI 4)) (nx := 140) hO rfl (by decide) rfl ?_
        refine s_irem (nx := 141) hO rfl (by decide) rfl ?_
        refine s_icmp_ge (nx := 144) hO rfl rfl (fun c141 => ?_) (fun c141 => ?_)
        · replace H := H.1 c141
          refine s_aload_n (nx := 157) hO rfl rfl rfl ?_
          refine s_iload_n (nx := 158) hO rfl rfl rfl ?_
          refine s_callV [.int y1] (ci := 12) (F := TX12) (N := 116) (nx := 161) hO rfl kX12_callOut_628 (by rw [hcl]; rfl) (hs_o12 kc139) (w_X12_push hG H) rfl rfl (Nat.le_of_ble_eq_true rfl) (Nat.zero_le _) (Nat.zero_le _) rfl (k_Qv (fun s6 H => ?_))
          refine s_aload_n (nx := 162) hO rfl rfl rfl ?_
          refine s_callV [] (ci := 12) (F := TX12) (N := 116) (nx := 165) hO rfl kX12_callOut_646 (by rw [hcl]; rfl) (hs_o12 kc139) (w_X12_goOn hG H) rfl rfl (Nat.le_of_ble_eq_true rfl) (Nat.zero_le _) (Nat.zero_le _) rfl (k_Qv (fun s7 H => ?_))
          exact s_vret hO rfl rfl ⟨rfl, _, rfl, rfl, H⟩
        · replace H := H.2 c141
          refine s_aload_n (nx := 145) hO rfl rfl rfl ?_
          refine s_callV [] (ci := 12) (F := TX12) (N := 116) (nx := 148) hO rfl kX12_callOut_634 (by rw [hcl]; rfl) (hs_o12 kc139) (w_X12_pop hG H) rfl rfl (Nat.le_of_ble_eq_true rfl) (Nat.zero_le _) (Nat.zero_le _) rfl (k_Qi (fun r8 s9 H => ?_))
          refine s_istore (nx := 150) (l' := [(4, .int r8), (0, .ref (q_b G + 139)), (1, .int v1), (2, .int y1), (3, .int x4)]) hO rfl (by decide) rfl rfl ?_
          refine goV ((x4 + 1)) (fun x10 ex10 => ?_)
          replace H := H x10 ex10
          refine e_iinc (nx := 153) (l' := [(3, .int x10), (4, .int r8), (0, .ref (q_b G + 139)), (1, .int v1), (2, .int y1)]) ex10 hO rfl (by decide) rfl rfl rfl rfl ?_
          refine s_goto hO rfl ?_
          exact xEx.loc (x_sub1 (List.Mem.tail _ (List.Mem.tail _ (List.Mem.head _))) (x_sub1 (List.Mem.tail _ (List.Mem.tail _ (List.Mem.tail _ (List.Mem.head _)))) (x_sub1 (List.Mem.tail _ (List.Mem.tail _ (List.Mem.tail _ (List.Mem.tail _ (List.Mem.head _))))) (x_sub1 (List.Mem.head _) x_sub0)))) H
      refine s_istore_n (nx := 137) (l' := [(3, .int 0), (0, .ref (q_b G + 139)), (1, .int v1), (2, .int y1)]) hO rfl (by decide) rfl rfl ?_
      exact xEx.loc (x_sub1 (List.Mem.tail _ (List.Mem.head _)) (x_sub1 (List.Mem.tail _ (List.Mem.tail _ (List.Mem.head _))) (x_sub1 (List.Mem.tail _ (List.Mem.tail _ (List.Mem.tail _ (List.Mem.head _)))) (x_sub1 (List.Mem.head _) x_sub0)))) H
    refine s_icmp_ge (nx := 49) hO rfl rfl (fun c46 => ?_) (fun c46 => ?_)
    · replace H := H.1 c46
      exact xEx.loc (x_sub1 (List.Mem.tail _ (List.Mem.head _)) (x_sub1 (List.Mem.tail _ (List.Mem.tail _ (List.Mem.head _))) (x_sub1 (List.Mem.head _) x_sub0))) H
    · replace H := H.2 c46
      refine s_aload_n (nx := 50) hO rfl rfl rfl ?_
      refine s_getf (v := .ref (q_b G + 207)) (nx := 53) hO rfl rfl (hs_o12 kc139) rfl rfl ?_
      refine s_iconst (x := (nI 5)) (nx := 54) hO rfl (by decide) rfl ?_
      refine s_aload_n (nx := 55) hO rfl rfl rfl ?_
      refine s_getf (v := .int (sI s 139 93)) (nx := 58) hO rfl rfl (hs_o12 kc139) rfl rfl ?_
      refine s_imul (nx := 59) hO rfl rfl ?_
      refine s_iload_n (nx := 60) hO rfl rfl rfl ?_
      obtain ⟨b11, H⟩ := H
      refine goV (wI s 207 (ix ((nI 5) * (sI s 139 93))) v1) (fun s12 es12 => ?_)
      replace H := H s12 es12
      refine s_iast (nx := 61) hO rfl (hs_I kc207) b11 rfl ?_
      refine xEx.at (up_I kc207 es12) ?_
      refine s_iconst (x := 0) (nx := 62) hO rfl (by decide) rfl ?_
      refine goK (H (fun (x13 : Int32) (s14 : yS) => xEx G mX12_callOut 63 [(0, .ref (q_b G + 139)), (1, .int v1), (2, .int y1), (3, .int x13)] [] (hS G s14) z 0 0 (yQv G z Q)) (fun x13 s14 H => ?_)) (fun H => ?_)
      · show xEx G mX12_callOut 63 [(0, .ref (q_b G + 139)), (1, .int v1), (2, .int y1), (3, .int x13)] [] (hS G s14) z 0 0 (yQv G z Q)
        refine s_iload_n (nx := 64) hO rfl rfl rfl ?_
        refine s_iconst (x := (nI 3)) (nx := 65) hO rfl (by decide) rfl ?_
        refine s_icmp_ge (nx := 68) hO rfl rfl (fun c65 => ?_) (fun c65 => ?_)
        · replace H := H.1 c65
          refine s_aload_n (nx := 112) hO rfl rfl rfl ?_
          refine s_getf (v := .ref (q_b G + 207)) (nx := 115) hO rfl rfl (hs_o12 kc139) rfl rfl ?_
          refine s_iconst (x := (nI 5)) (nx := 116) hO rfl (by decide) rfl ?_
          refine s_aload_n (nx := 117) hO rfl rfl rfl ?_
          refine s_getf (v := .int (sI s14 139 93)) (nx := 120) hO rfl rfl (hs_o12 kc139) rfl rfl ?_
          refine s_imul (nx := 121) hO rfl rfl ?_
          refine s_iconst (x := (nI 4)) (nx := 122) hO rfl (by decide) rfl ?_
          refine s_iadd (nx := 123) hO rfl rfl ?_
          refine s_iload_n (nx := 124) hO rfl rfl rfl ?_
          obtain ⟨b15, H⟩ := H
          refine goV (wI s14 207 (ix (((nI 5) * (sI s14 139 93)) + (nI 4))) y1) (fun s16 es16 => ?_)
          replace H := H s16 es16
          refine s_iast (nx := 125) hO rfl (hs_I kc207) b15 rfl ?_
          refine xEx.at (up_I kc207 es16) ?_
          exact xEx.loc (x_sub1 (List.Mem.head _) (x_sub1 (List.Mem.tail _ (List.Mem.head _)) (x_sub1 (List.Mem.tail _ (List.Mem.tail _ (List.Mem.head _))) x_sub0))) H
        · replace H := H.2 c65
          refine s_aload_n (nx := 69) hO rfl rfl rfl ?_
          refine s_getf (v := .ref (q_b G + 207)) (nx := 72) hO rfl rfl (hs_o12 kc139) rfl rfl ?_
          refine s_iconst (x := (nI 5)) (nx := 73) hO rfl (by decide) rfl ?_
          refine s_aload_n (nx := 74) hO rfl rfl rfl ?_
          refine s_getf (v := .int (sI s14 139 93)) (nx := 77) hO rfl rfl (hs_o12 kc139) rfl rfl ?_
          refine s_imul (nx := 78) hO rfl rfl ?_
          refine s_iconst (x := 1) (nx := 79) hO rfl (by decide) rfl ?_
          refine s_iadd (nx := 80) hO rfl rfl ?_
          refine s_iload_n (nx := 81) hO rfl rfl rfl ?_
          refine s_iadd (nx := 82) hO rfl rfl ?_
          refine s_iload_n (nx := 83) hO rfl rfl rfl ?_
          refine s_iload_n (nx := 84) hO rfl rfl rfl ?_
          refine s_iconst (x := (nI 4)) (nx := 85) hO rfl (by decide) rfl ?_
          refine s_irem (nx := 86) hO rfl (by decide) rfl ?_
          refine goK (H (fun (y17 : Int32) => xEx G mX12_callOut 104 [(0, .ref (q_b G + 139)), (1, .int v1), (2, .int y1), (3, .int x13)] [.int y17, .int ((((nI 5) * (sI s14 139 93)) + 1) + x13), .ref (q_b G + 207)] (hS G s14) z 0 0 (yQv G z Q)) (fun y17 H => ?_)) (fun H => ?_)
          · show xEx G mX12_callOut 104 [(0, .ref (q_b G + 139)), (1, .int v1), (2, .int y1), (3, .int x13)] [.int y17, .int ((((nI 5) * (sI s14 139 93)) + 1) + x13), .ref (q_b G + 207)] (hS G s14) z 0 0 (yQv G z Q)
            obtain ⟨b18, H⟩ := H
            refine goV (wI s14 207 (ix ((((nI 5) * (sI s14 139 93)) + 1) + x13)) y17) (fun s19 es19 => ?_)
            replace H := H s19 es19
            refine s_iast (nx := 105) hO rfl (hs_I kc207) b18 rfl ?_
            refine xEx.at (up_I kc207 es19) ?_
            refine goV ((x13 + 1)) (fun x20 ex20 => ?_)
            replace H := H x20 ex20
            refine e_iinc (nx := 108) (l' := [(3, .int x20), (0, .ref (q_b G + 139)), (1, .int v1), (2, .int y1)]) ex20 hO rfl (by decide) rfl rfl rfl rfl ?_
            refine s_goto hO rfl ?_
            exact xEx.loc (x_sub1 (List.Mem.tail _ (List.Mem.head _)) (x_sub1 (List.Mem.tail _ (List.Mem.tail _ (List.Mem.head _))) (x_sub1 (List.Mem.tail _ (List.Mem.tail _ (List.Mem.tail _ (List.Mem.head _)))) (x_sub1 (List.Mem.head _) x_sub0)))) H
          refine s_icmp_ge (nx := 89) hO rfl rfl (fun c86 => ?_) (fun c86 => ?_)
          · replace H := H.1 c86
            refine s_iconst (x := 0) (nx := 104) hO rfl (by decide) rfl ?_
            exact xEx.loc (x_sub1 (List.Mem.head _) (x_sub1 (List.Mem.tail _ (List.Mem.head _)) (x_sub1 (List.Mem.tail _ (List.Mem.tail _ (List.Mem.head _))) (x_sub1 (List.Mem.tail _ (List.Mem.tail _ (List.Mem.tail _ (List.Mem.head _)))) x_sub0)))) H
          · replace H := H.2 c86
            refine s_aload_n (nx := 90) hO rfl rfl rfl ?_
            refine s_iload_n (nx := 91) hO rfl rfl rfl ?_
            refine s_iconst (x := (nI 4)) (nx := 92) hO rfl (by decide) rfl ?_
            refine s_irem (nx := 93) hO rfl (by decide) rfl ?_
            refine s_iconst (x := 1) (nx := 94) hO rfl (by decide) rfl ?_
            refine s_isub (nx := 95) hO rfl rfl ?_
            refine s_iload_n (nx := 96) hO rfl rfl rfl ?_
            refine s_isub (nx := 97) hO rfl rfl ?_
            refine s_callV [.int (((v1 - v1 / (nI 4) * (nI 4)) - 1) - x13)] (ci := 12) (F := TX12) (N := 116) (nx := 100) hO rfl kX12_callOut_655 (by rw [hcl]; rfl) (hs_o12 kc139) (w_X12_under hG H) rfl rfl (Nat.le_of_ble_eq_true rfl) (Nat.zero_le _) (Nat.zero_le _) rfl (k_Pi (fun r21 H => ?_))
            refine s_goto hO rfl ?_
            exact xEx.loc (x_sub1 (List.Mem.head _) (x_sub1 (List.Mem.tail _ (List.Mem.head _)) (x_sub1 (List.Mem.tail _ (List.Mem.tail _ (List.Mem.head _))) (x_sub1 (List.Mem.tail _ (List.Mem.tail _ (List.Mem.tail _ (List.Mem.head _)))) x_sub0)))) H
      refine s_istore_n (nx := 63) (l' := [(3, .int 0), (2, .int y1), (0, .ref (q_b G + 139)), (1, .int v1)]) hO rfl (by decide) rfl rfl ?_
      exact xEx.loc (x_sub1 (List.Mem.tail _ (List.Mem.tail _ (List.Mem.head _))) (x_sub1 (List.Mem.tail _ (List.Mem.tail _ (List.Mem.tail _ (List.Mem.head _)))) (x_sub1 (List.Mem.tail _ (List.Mem.head _)) (x_sub1 (List.Mem.head _) x_sub0)))) H
  refine s_icmp_ge (nx := 11) hO rfl rfl (fun c8 => ?_) (fun c8 => ?_)
  · replace H := H.1 c8
    refine s_iconst (x := 0) (nx := 38) hO rfl (by decide) rfl ?_
    exact xEx.loc (x_sub1 (List.Mem.head _) (x_sub1 (List.Mem.tail _ (List.Mem.head _)) x_sub0)) H
  · replace H := H.2 c8
    refine s_aload_n (nx := 12) hO rfl rfl rfl ?_
    refine s_getf (v := .ref (q_b G + 204)) (nx := 15) hO rfl rfl (hs_o12 kc139) rfl rfl ?_
    refine s_aload_n (nx := 16) hO rfl rfl rfl ?_
    refine s_getf (v := .int (sI s 139 93)) (nx := 19) hO rfl rfl (hs_o12 kc139) rfl rfl ?_
    refine s_sipush (x := (nI 256)) (nx := 22) hO rfl (by decide) rfl ?_
    refine s_icmp_ge (nx := 25) hO rfl rfl (fun c22 => ?_) (fun c22 => ?_)
    · replace H := H.1 c22
      refine s_iconst (x := 0) (nx := 33) hO rfl (by decide) rfl ?_
      obtain ⟨b22, H⟩ := H
      refine s_iald (nx := 34) hO rfl (hs_I kc204) b22 rfl ?_
      refine s_goto hO rfl ?_
      exact xEx.loc (x_sub1 (List.Mem.head _) (x_sub1 (List.Mem.tail _ (List.Mem.head _)) x_sub0)) H
    · replace H := H.2 c22
      refine s_aload_n (nx := 26) hO rfl rfl rfl ?_
      refine s_getf (v := .int (sI s 139 93)) (nx := 29) hO rfl rfl (hs_o12 kc139) rfl rfl ?_
      refine s_goto hO rfl ?_
      obtain ⟨b23, H⟩ := H
      refine s_iald (nx := 34) hO rfl (hs_I kc204) b23 rfl ?_
      refine s_goto hO rfl ?_
      exact xEx.loc (x_sub1 (List.Mem.head _) (x_sub1 (List.Mem.tail _ (List.Mem.head _)) x_sub0)) H
def W_X12_comeBack (s : yS) (Q : yS → Prop) : Prop :=
 vp_in ((sI s 139 111) - 1) 40 ∧ 
 vp_in (((nI 12) * (sI s 139 112)) + (sI s 211 (ix ((sI s 139 111) - 1)))) 36 ∧ 
 ∀ x3 : Int32, x3 = (sI s 182 (ix (((nI 12) * (sI s 139 112)) + (sI s 211 (ix ((sI s 139 111) - 1)))))) → 
 ∀ P37 : Int32 → yS → Prop, (∀ (y4 : Int32) (s5 : yS), (((¬ (sI s5 139 111) = 1 → ∀ s6 : yS, s6 = wI s5 139 111 ((sI s5 139 111) - 1) → 
   ∀ P72 : yS → Prop, (∀ (s7 : yS), (W_X12_goOn s7 
    (fun s8 => Q s8)) → P72 s7) → 
   ((x3 ≤ 0 → P72 s6)
   ∧ (¬ x3 ≤ 0 → W_X12_push s6 y4 
    (fun s9 => P72 s9))))
  ∧ ((sI s5 139 111) = 1 → W_X12_end s5 0 y4 
   (fun s10 => Q s10)))) → P37 y4 s5) → 
 ((x3 ≤ 0 → P37 0 s)
 ∧ (¬ x3 ≤ 0 → W_X12_pop s 
  (fun r11 s12 => P37 r11 s12)))
set_option maxRecDepth 100000 in
set_option maxHeartbeats 40000000 in
theorem w_X12_comeBack {G : xG} (hG : yG G) {z : Nat} {s : yS} {Q : yS → Prop} (H : W_X12_comeBack s Q) : xC G mX12_comeBack [.ref (q_b G + 139)] (hS G s) z 0 0 (yQv G z Q) := by
  have hW := hG.1
  have hcl := hG.2.1
  have hty := hG.2.2.1
  have hO : xO G mX12_comeBack tbX12_comeBack ptX12_comeBack := ⟨tkX12_comeBack, pkX12_comeBack hcl⟩
  unfold W_X12_comeBack at H
  refine xC.of hW (by decide) rfl (Nat.le_of_ble_eq_true rfl) ?_
  refine s_aload_n (nx := 1) hO rfl rfl rfl ?_
  refine s_getf (v := .ref (q_b G + 182)) (nx := 4) hO rfl rfl (hs_o12 kc139) rfl rfl ?_
  refine s_bipush (x := (nI 12)) (nx := 6) hO rfl (by decide) rfl ?_
  refine s_aload_n (nx := 7) hO rfl rfl rfl ?_
  refine s_getf (v := .int (sI s 139 112)) (nx := 10) hO rfl rfl (hs_o12 kc139) rfl rfl ?_
  refine s_imul (nx := 11) hO rfl rfl ?_
  refine s_aload_n (nx := 12) hO rfl rfl rfl ?_
  refine s_getf (v := .ref (q_b G + 211)) (nx := 15) hO rfl rfl (hs_o12 kc139) rfl rfl ?_
  refine s_aload_n (nx := 16) hO rfl rfl rfl ?_
  refine s_getf (v := .int (sI s 139 111)) (nx := 19) hO rfl rfl (hs_o12 kc139) rfl rfl ?_
  refine s_iconst (x := 1) (nx := 20) hO rfl (by decide) rfl ?_
  refine s_isub (nx := 21) hO rfl rfl ?_
  obtain ⟨b1, H⟩ := H
  refine s_iald (nx := 22) hO rfl (hs_I kc211) b1 rfl ?_
  refine s_iadd (nx := 23) hO rfl rfl ?_
  obtain ⟨b2, H⟩ := H
  refine s_iald (nx := 24) hO rfl (hs_I kc182) b2 rfl ?_
  refine goV ((sI s 182 (ix (((nI 12) * (sI s 139 112)) + (sI s 211 (ix ((sI s 139 111) - 1))))))) (fun x3 ex3 => ?_)
  replace H := H x3 ex3
  refine e_istore_n (nx := 25) (l' := [(1, .int x3), (0, .ref (q_b G + 139))]) ex3 hO rfl (by decide) rfl rfl ?_
  refine s_iload_n (nx := 26) hO rfl rfl rfl ?_
  refine goK (H (fun (y4 : Int32) (s5 : yS) => xEx G mX12_comeBack 37 [(0, .ref (q_b G + 139)), (1, .int x3)] [.int y4] (hS G s5) z 0 0 (yQv G z Q)) (fun y4 s5 H => ?_)) (fun H => ?_)
  · show xEx G mX12_comeBack 37 [(0, .ref (q_b G + 139)), (1, .int x3)] [.int y4] (hS G s5) z 0 0 (yQv G z Q)
    refine s_istore_n (nx := 38) (l' := [(2, .int y4), (0, .ref (q_b G + 139)), (1, .int x3)]) hO rfl (by decide) rfl rfl ?_
    refine s_aload_n (nx := 39) hO rfl rfl rfl ?_
    refine s_getf (v := .int (sI s5 139 111)) (nx := 42) hO rfl rfl (hs_o12 kc139) rfl rfl ?_
    refine s_iconst (x := 1) (nx := 43) hO rfl (by decide) rfl ?_
    refine s_icmp_ne (nx := 46) hO rfl rfl (fun c43 => ?_) (fun c43 => ?_)
    · replace H := H.1 c43
      refine s_aload_n (nx := 54) hO rfl rfl rfl ?_
      refine s_dup (nx := 55) hO rfl rfl rfl ?_
      refine s_getf (v := .int (sI s5 139 111)) (nx := 58) hO rfl rfl (hs_o12 kc139) rfl rfl ?_
      refine s_iconst (x := 1) (nx := 59) hO rfl (by decide) rfl ?_
      refine s_isub (nx := 60) hO rfl rfl ?_
      refine goV (wI s5 139 111 ((sI s5 139 111) - 1)) (fun s6 es6 => ?_)
      replace H := H s6 es6
      refine s_putf (nx := 63) hO rfl rfl (hs_o12 kc139) (Nat.le_of_ble_eq_true rfl) (by rw [hty]; rfl) (by rw [hty]; rfl) pX12_111 rfl ?_
      refine xEx.at (up_oI12 kc139 es6) ?_
      refine s_iload_n (nx := 64) hO rfl rfl rfl ?_
      refine goK (H (fun (s7 : yS) => xEx G mX12_comeBack 72 [(0, .ref (q_b G + 139))] [] (hS G s7) z 0 0 (yQv G z Q)) (fun s7 H => ?_)) (fun H => ?_)
      · show xEx G mX12_comeBack 72 [(0, .ref (q_b G + 139))] [] (hS G s7) z 0 0 (yQv G z Q)
        refine s_aload_n (nx := 73) hO rfl rfl rfl ?_
        refine s_callV [] (ci := 12) (F := TX12) (N := 116) (nx := 76) hO rfl kX12_comeBack_646 (by rw [hcl]; rfl) (hs_o12 kc139) (w_X12_goOn hG H) rfl rfl (Nat.le_of_ble_eq_true rfl) (Nat.zero_le _) (Nat.zero_le _) rfl (k_Qv (fun s8 H => ?_))
        exact s_vret hO rfl rfl ⟨rfl, _, rfl, rfl, H⟩
      refine s_if_le (nx := 67) hO rfl rfl (fun c64 => ?_) (fun c64 => ?_)
      · replace H := H.1 c64
        exact xEx.loc (x_sub1 (List.Mem.tail _ (List.Mem.head _)) x_sub0) H
      · replace H := H.2 c64
        refine s_aload_n (nx := 68) hO rfl rfl rfl ?_
        refine s_iload_n (nx := 69) hO rfl rfl rfl ?_
        refine s_callV [.int y4] (ci := 12) (F := TX12) (N := 116) (nx := 72) hO rfl kX12_comeBack_628 (by rw [hcl]; rfl) (hs_o12 kc139) (w_X12_push hG H) rfl rfl (Nat.le_of_ble_eq_true rfl) (Nat.zero_le _) (Nat.zero_le _) rfl (k_Qv (fun s9 H => ?_))
        exact xEx.loc (x_sub1 (List.Mem.tail _ (List.Mem.head _)) x_sub0) H
    · replace H := H.2 c43
      refine s_aload_n (nx := 47) hO rfl rfl rfl ?_
      refine s_iconst (x := 0) (nx := 48) hO rfl (by decide) rfl ?_
      refine s_iload_n (nx := 49) hO rfl rfl rfl ?_
      refine s_callV [.int 0, .int y4] (ci := 12) (F := TX12) (N := 116) (nx := 52) hO rfl kX12_comeBack_631 (by rw [hcl]; rfl) (hs_o12 kc139) (w_X12_end hG H) rfl rfl (Nat.le_of_ble_eq_true rfl) (Nat.zero_le _) (Nat.zero_le _) rfl (k_Qv (fun s10 H => ?_))
      exact s_vret hO rfl rfl ⟨rfl, _, rfl, rfl, H⟩
  refine s_if_le (nx := 29) hO rfl rfl (fun c26 => ?_) (fun c26 => ?_)
  · replace H := H.1 c26
    refine s_iconst (x := 0) (nx := 37) hO rfl (by decide) rfl ?_
    exact xEx.loc (x_sub1 (List.Mem.tail _ (List.Mem.head _)) (x_sub1 (List.Mem.head _) x_sub0)) H
  · replace H := H.2 c26
    refine s_aload_n (nx := 30) hO rfl rfl rfl ?_
    refine s_callV [] (ci := 12) (F := TX12) (N := 116) (nx := 33) hO rfl kX12_comeBack_634 (by rw [hcl]; rfl) (hs_o12 kc139) (w_X12_pop hG H) rfl rfl (Nat.le_of_ble_eq_true rfl) (Nat.zero_le _) (Nat.zero_le _) rfl (k_Qi (fun r11 s12 H => ?_))
    refine s_goto hO rfl ?_
    exact xEx.loc (x_sub1 (List.Mem.tail _ (List.Mem.head _)) (x_sub1 (List.Mem.head _) x_sub0)) H
def W_X12_guard (s : yS) (v1 : Int32) (Q : yS → Prop) : Prop :=
 ∀ x1 : Int32, x1 = (v1 - v1 / (nI 4) * (nI 4)) → 
 ∀ P20 : Int32 → Prop, (∀ (y2 : Int32), (∀ P36 : Int32 → Prop, (∀ (y3 : Int32), (∀ P52 : Int32 → Prop, (∀ (y4 : Int32), (W_X12_setCall s y2 y3 y4 205 6 
    (fun s5 => W_X12_step s5 (sI s5 139 97) v1 
    (fun r6 => ((¬ r6 = 0 → ∀ s7 : yS, s7 = wI s5 139 97 r6 → 
     W_X12_count s7 205 6 v1 
     (fun s8 => ∀ s9 : yS, s9 = wI s8 139 94 ((sI s8 139 94) + 1) → 
     W_X12_goOn s9 
     (fun s10 => Q s10)))
    ∧ (r6 = 0 → W_X12_end s5 (nI 2) 0 
     (fun s11 => Q s11)))))) → P52 y4) → 
   ((x1 ≤ (nI 2) → P52 0)
   ∧ (¬ x1 ≤ (nI 2) → W_X12_under s (x1 - (nI 3)) 
    (fun r12 => P52 r12)))) → P36 y3) → 
  ((x1 ≤ 1 → P36 0)
  ∧ (¬ x1 ≤ 1 → W_X12_under s (x1 - (nI 2)) 
   (fun r13 => P36 r13)))) → P20 y2) → 
 ((x1 ≤ 0 → P20 0)
 ∧ (¬ x1 ≤ 0 → W_X12_under s (x1 - 1) 
  (fun r14 => P20 r14)))
set_option maxRecDepth 100000 in
set_option maxHeartbeats 40000000 in
theorem w_X12_guard {G : xG} (hG : yG G) {z : Nat} {s : yS} {v1 : Int32} {Q : yS → Prop} (H : W_X12_guard s v1 Q) : xC G mX12_guard [.ref (q_b G + 139), .int v1] (hS G s) z 0 0 (yQv G z Q) := by
  have hW := hG.1
  have hcl := hG.2.1
  have hty := hG.2.2.1
  have hO : xO G mX12_guard tbX12_guard ptX12_guard := ⟨tkX12_guard, pkX12_guard hcl⟩
  unfold W_X12_guard at H
  refine xC.of hW (by decide) rfl (Nat.le_of_ble_eq_true rfl) ?_
  refine s_iload_n (nx := 1) hO rfl rfl rfl ?_
  refine s_iconst (x := (nI 4)) (nx := 2) hO rfl (by decide) rfl ?_
  refine s_irem (nx := 3) hO rfl (by decide) rfl ?_
  refine goV ((v1 - v1 / (nI 4) * (nI 4))) (fun x1 ex1 => ?_)
  replace H := H x1 ex1
  refine e_istore_n (nx := 4) (l' := [(2, .int x1), (0, .ref (q_b G + 139)), (1, .int v1)]) ex1 hO rfl (by decide) rfl rfl ?_
  refine s_aload_n (nx := 5) hO rfl rfl rfl ?_
  refine s_iload_n (nx := 6) hO rfl rfl rfl ?_
  refine goK (H (fun (y2 : Int32) => xEx G mX12_guard 20 [(0, .ref (q_b G + 139)), (1, .int v1), (2, .int x1)] [.int y2, .ref (q_b G + 139)] (hS G s) z 0 0 (yQv G z Q)) (fun y2 H => ?_)) (fun H => ?_)
  · show xEx G mX12_guard 20 [(0, .ref (q_b G + 139)), (1, .int v1), (2, .int x1)] [.int y2, .ref (q_b G + 139)] (hS G s) z 0 0 (yQv G z Q)
    refine s_iload_n (nx := 21) hO rfl rfl rfl ?_
    refine s_iconst (x := 1) (nx := 22) hO rfl (by decide) rfl ?_
    refine goK (H (fun (y3 : Int32) => xEx G mX12_guard 36 [(0, .ref (q_b G + 139)), (1, .int v1), (2, .int x1)] [.int y3, .int y2, .ref (q_b G + 139)] (hS G s) z 0 0 (yQv G z Q)) (fun y3 H => ?_)) (fun H => ?_)
    · show xEx G mX12_guard 36 [(0, .ref (q_b G + 139)), (1, .int v1), (2, .int x1)] [.int y3, .int y2, .ref (q_b G + 139)] (hS G s) z 0 0 (yQv G z Q)
      refine s_iload_n (nx := 37) hO rfl rfl rfl ?_
      refine s_iconst (x := (nI 2)) (nx := 38) hO rfl (by decide) rfl ?_
      refine goK (H (fun (y4 : Int32) => xEx G mX12_guard 52 [(0, .ref (q_b G + 139)), (1, .int v1)] [.int y4, .int y3, .int y2, .ref (q_b G + 139)] (hS G s) z 0 0 (yQv G z Q)) (fun y4 H => ?_)) (fun H => ?_)
      · show xEx G mX12_guard 52 [(0, .ref (q_b G + 139)), (1, .int v1)] [.int y4, .int y3, .int y2, .ref (q_b G + 139)] (hS G s) z 0 0 (yQv G z Q)
        refine s_aload_n (nx := 53) hO rfl rfl rfl ?_
        refine s_getf (v := .ref (q_b G + 205)) (nx := 56) hO rfl rfl (hs_o12 kc139) rfl rfl ?_
        refine s_callV [.int y2, .int y3, .int y4, .ref (q_b G + 205)] (ci := 12) (F := TX12) (N := 116) (nx := 59) hO rfl kX12_guard_516 (by rw [hcl]; rfl) (hs_o12 kc139) (w_X12_setCall hG kc205 H) rfl rfl (Nat.le_of_ble_eq_true rfl) (Nat.zero_le _) (Nat.zero_le _) rfl (k_Qv (fun s5 H => ?_))
        refine s_aload_n (nx := 60) hO rfl rfl rfl ?_
        refine s_aload_n (nx := 61) hO rfl rfl rfl ?_
        refine s_getf (v := .int (sI s5 139 97)) (nx := 64) hO rfl rfl (hs_o12 kc139) rfl rfl ?_
        refine s_iload_n (nx := 65) hO rfl rfl rfl ?_
        refine s_callV [.int (sI s5 139 97), .int v1] (ci := 12) (F := TX12) (N := 116) (nx := 68) hO rfl kX12_guard_481 (by rw [hcl]; rfl) (hs_o12 kc139) (w_X12_step hG H) rfl rfl (Nat.le_of_ble_eq_true rfl) (Nat.zero_le _) (Nat.zero_le _) rfl (k_Pi (fun r6 H => ?_))
        refine s_istore_n (nx := 69) (l' := [(3, .int r6), (0, .ref (q_b G + 139)), (1, .int v1)]) hO rfl (by decide) rfl rfl ?_
        refine s_iload_n (nx := 70) hO rfl rfl rfl ?_
        refine s_if_ne (nx := 73) hO rfl rfl (fun c70 => ?_) (fun c70 => ?_)
        · replace H := H.1 c70
          refine s_aload_n (nx := 81) hO rfl rfl rfl ?_
          refine s_iload_n (nx := 82) hO rfl rfl rfl ?_
          refine goV (wI s5 139 97 r6) (fun s7 es7 => ?_)
          replace H := H s7 es7
          refine s_putf (nx := 85) hO rfl rfl (hs_o12 kc139) (Nat.le_of_ble_eq_true rfl) (by rw [hty]; rfl) (by rw [hty]; rfl) pX12_97 rfl ?_
          refine xEx.at (up_oI12 kc139 es7) ?_
          refine s_aload_n (nx := 86) hO rfl rfl rfl ?_
          refine s_aload_n (nx := 87) hO rfl rfl rfl ?_
          refine s_getf (v := .ref (q_b G + 205)) (nx := 90) hO rfl rfl (hs_o12 kc139) rfl rfl ?_
          refine s_iload_n (nx := 91) hO rfl rfl rfl ?_
          refine s_callV [.ref (q_b G + 205), .int v1] (ci := 12) (F := TX12) (N := 116) (nx := 94) hO rfl kX12_guard_520 (by rw [hcl]; rfl) (hs_o12 kc139) (w_X12_count hG kc205 H) rfl rfl (Nat.le_of_ble_eq_true rfl) (Nat.zero_le _) (Nat.zero_le _) rfl (k_Qv (fun s8 H => ?_))
          refine s_aload_n (nx := 95) hO rfl rfl rfl ?_
          refine s_dup (nx := 96) hO rfl rfl rfl ?_
          refine s_getf (v := .int (sI s8 139 94)) (nx := 99) hO rfl rfl (hs_o12 kc139) rfl rfl ?_
          refine s_iconst (x := 1) (nx := 100) hO rfl (by decide) rfl ?_
          refine s_iadd (nx := 101) hO rfl rfl ?_
          refine goV (wI s8 139 94 ((sI s8 139 94) + 1)) (fun s9 es9 => ?_)
          replace H := H s9 es9
          refine s_putf (nx := 104) hO rfl rfl (hs_o12 kc139) (Nat.le_of_ble_eq_true rfl) (by rw [hty]; rfl) (by rw [hty]; rfl) pX12_94 rfl ?_
          refine xEx.at (up_oI12 kc139 es9) ?_
          refine s_aload_n (nx := 105) hO rfl rfl rfl ?_
          refine s_callV [] (ci := 12) (F := TX12) (N := 116) (nx := 108) hO rfl kX12_guard_646 (by rw [hcl]; rfl) (hs_o12 kc139) (w_X12_goOn hG H) rfl rfl (Nat.le_of_ble_eq_true rfl) (Nat.zero_le _) (Nat.zero_le _) rfl (k_Qv (fun s10 H => ?_))
          exact s_vret hO rfl rfl ⟨rfl, _, rfl, rfl, H⟩
        · replace H := H.2 c70
          refine s_aload_n (nx := 74) hO rfl rfl rfl ?_
          refine s_iconst (x := (nI 2)) (nx := 75) hO rfl (by decide) rfl ?_
          refine s_iconst (x := 0) (nx := 76) hO rfl (by decide) rfl ?_
          refine s_callV [.int (nI 2), .int 0] (ci := 12) (F := TX12) (N := 116) (nx := 79) hO rfl kX12_guard_631 (by rw [hcl]; rfl) (hs_o12 kc139) (w_X12_end hG H) rfl rfl (Nat.le_of_ble_eq_true rfl) (Nat.zero_le _) (Nat.zero_le _) rfl (k_Qv (fun s11 H => ?_))
          exact s_vret hO rfl rfl ⟨rfl, _, rfl, rfl, H⟩
      refine s_icmp_le (nx := 41) hO rfl rfl (fun c38 => ?_) (fun c38 => ?_)
      · replace H := H.1 c38
        refine s_iconst (x := 0) (nx := 52) hO rfl (by decide) rfl ?_
        exact xEx.loc (x_sub1 (List.Mem.head _) (x_sub1 (List.Mem.tail _ (List.Mem.head _)) x_sub0)) H
      · replace H := H.2 c38
        refine s_aload_n (nx := 42) hO rfl rfl rfl ?_
        refine s_iload_n (nx := 43) hO rfl rfl rfl ?_
        refine s_iconst (x := (nI 3)) (nx := 44) hO rfl (by decide) rfl ?_
        refine s_isub (nx := 45) hO rfl rfl ?_
        refine s_callV [.int (x1 - (nI 3))] (ci := 12) (F := TX12) (N := 116) (nx := 48) hO rfl kX12_guard_655 (by rw [hcl]; rfl) (hs_o12 kc139) (w_X12_under hG H) rfl rfl (Nat.le_of_ble_eq_true rfl) (Nat.zero_le _) (Nat.zero_le _) rfl (k_Pi (fun r12 H => ?_))
        refine s_goto hO rfl ?_
        exact xEx.loc (x_sub1 (List.Mem.head _) (x_sub1 (List.Mem.tail _ (List.Mem.head _)) x_sub0)) H
    refine s_icmp_le (nx := 25) hO rfl rfl (fun c22 => ?_) (fun c22 => ?_)
    · replace H := H.1 c22
      refine s_iconst (x := 0) (nx := 36) hO rfl (by decide) rfl ?_
      exact xEx.loc (x_sub1 (List.Mem.head _) (x_sub1 (List.Mem.tail _ (List.Mem.head _)) (x_sub1 (List.Mem.tail _ (List.Mem.tail _ (List.Mem.head _))) x_sub0))) H
    · replace H := H.2 c22
      refine s_aload_n (nx := 26) hO rfl rfl rfl ?_
      refine s_iload_n (nx := 27) hO rfl rfl rfl ?_
      refine s_iconst (x := (nI 2)) (nx := 28) hO rfl (by decide) rfl ?_
      refine s_isub (nx := 29) hO rfl rfl ?_
      refine s_callV [.int (x1 - (nI 2))] (ci := 12) (F := TX12) (N := 116) (nx := 32) hO rfl kX12_guard_655 (by rw [hcl]; rfl) (hs_o12 kc139) (w_X12_under hG H) rfl rfl (Nat.le_of_ble_eq_true rfl) (Nat.zero_le _) (Nat.zero_le _) rfl (k_Pi (fun r13 H => ?_))
      refine s_goto hO rfl ?_
      exact xEx.loc (x_sub1 (List.Mem.head _) (x_sub1 (List.Mem.tail _ (List.Mem.head _)) (x_sub1 (List.Mem.tail _ (List.Mem.tail _ (List.Mem.head _))) x_sub0))) H
  refine s_if_le (nx := 9) hO rfl rfl (fun c6 => ?_) (fun c6 => ?_)
  · replace H := H.1 c6
    refine s_iconst (x := 0) (nx := 20) hO rfl (by decide) rfl ?_
    exact xEx.loc (x_sub1 (List.Mem.tail _ (List.Mem.head _)) (x_sub1 (List.Mem.tail _ (List.Mem.tail _ (List.Mem.head _))) (x_sub1 (List.Mem.head _) x_sub0))) H
  · replace H := H.2 c6
    refine s_aload_n (nx := 10) hO rfl rfl rfl ?_
    refine s_iload_n (nx := 11) hO rfl rfl rfl ?_
    refine s_iconst (x := 1) (nx := 12) hO rfl (by decide) rfl ?_
    refine s_isub (nx := 13) hO rfl rfl ?_
    refine s_callV [.int (x1 - 1)] (ci := 12) (F := TX12) (N := 116) (nx := 16) hO rfl kX12_guard_655 (by rw [hcl]; rfl) (hs_o12 kc139) (w_X12_under hG H) rfl rfl (Nat.le_of_ble_eq_true rfl) (Nat.zero_le _) (Nat.zero_le _) rfl (k_Pi (fun r14 H => ?_))
    refine s_goto hO rfl ?_
    exact xEx.loc (x_sub1 (List.Mem.tail _ (List.Mem.head _)) (x_sub1 (List.Mem.tail _ (List.Mem.tail _ (List.Mem.head _))) (x_sub1 (List.Mem.head _) x_sub0))) H
def W_X12_move (s : yS) (v1 : Int32) (v2 : Int32) (Q : yS → Prop) : Prop :=
 ((¬ v1 = 0 → ((¬ v1 = 1 → ((¬ v1 = (nI 2) → ((¬ v1 = (nI 3) → ((¬ v1 = (nI 4) → ((¬ v1 = (nI 5) → W_X12_pop s 
       (fun r1 s2 => vp_in r1 20100 ∧ 
       W_X12_push s2 (sI s2 210 (ix r1)) 
       (fun s4 => Q s4)))
      ∧ (v1 = (nI 5) → W_X12_pop s 
       (fun r5 s6 => vp_in (((nI 12) * ((sI s 139 111) - 1)) + v2) 480 ∧ ∀ s8 : yS, s8 = wI s6 214 (ix (((nI 12) * ((sI s 139 111) - 1)) + v2)) r5 → 
       Q s8))))
     ∧ (v1 = (nI 4) → vp_in (((nI 12) * ((sI s 139 111) - 1)) + v2) 480 ∧ 
      W_X12_push s (sI s 214 (ix (((nI 12) * ((sI s 139 111) - 1)) + v2))) 
      (fun s10 => Q s10))))
    ∧ (v1 = (nI 3) → W_X12_pop s 
     (fun r11 s12 => W_X12_pop s12 
     (fun r13 s14 => W_X12_push s14 r11 
     (fun s15 => W_X12_push s15 r13 
     (fun s16 => Q s16)))))))
   ∧ (v1 = (nI 2) → W_X12_under s 0 
    (fun r17 => W_X12_push s r17 
    (fun s18 => Q s18)))))
  ∧ (v1 = 1 → W_X12_pop s 
   (fun r19 s20 => Q s20))))
 ∧ (v1 = 0 → W_X12_push s v2 
  (fun s21 => Q s21)))
set_option maxRecDepth 100000 in
set_option maxHeartbeats 40000000 in
theorem w_X12_move {G : xG} (hG : yG G) {z : Nat} {s : yS} {v1 : Int32} {v2 : Int32} {Q : yS → Prop} (H : W_X12_move s v1 v2 Q) : xC G mX12_move [.ref (q_b G + 139), .int v1, .int v2] (hS G s) z 0 0 (yQv G z Q) := by
  have hW := hG.1
  have hcl := hG.2.1
  have hty := hG.2.2.1
  have hO : xO G mX12_move tbX12_move ptX12_move := ⟨tkX12_move, pkX12_move hcl⟩
  unfold W_X12_move at H
  refine xC.of hW (by decide) rfl (Nat.le_of_ble_eq_true rfl) ?_
  refine s_iload_n (nx := 1) hO rfl rfl rfl ?_
  refine s_if_ne (nx := 4) hO rfl rfl (fun c1 => ?_) (fun c1 => ?_)
  · replace H := H.1 c1
    refine s_iload_n (nx := 13) hO rfl rfl rfl ?_
    refine s_iconst (x := 1) (nx := 14) hO rfl (by decide) rfl ?_
    refine s_icmp_ne (nx := 17) hO rfl rfl (fun c14 => ?_) (fun c14 => ?_)
    · replace H := H.1 c14
      refine s_iload_n (nx := 26) hO rfl rfl rfl ?_
      refine s_iconst (x := (nI 2)) (nx := 27) hO rfl (by decide) rfl ?_
      refine s_icmp_ne (nx := 30) hO rfl rfl (fun c27 => ?_) (fun c27 => ?_)
      · replace H := H.1 c27
        refine s_iload_n (nx := 43) hO rfl rfl rfl ?_
        refine s_iconst (x := (nI 3)) (nx := 44) hO rfl (by decide) rfl ?_
        refine s_icmp_ne (nx := 47) hO rfl rfl (fun c44 => ?_) (fun c44 => ?_)
        · replace H := H.1 c44
          refine s_iload_n (nx := 73) hO rfl rfl rfl ?_
          refine s_iconst (x := (nI 4)) (nx := 74) hO rfl (by decide) rfl ?_
          refine s_icmp_ne (nx := 77) hO rfl rfl (fun c74 => ?_) (fun c74 => ?_)
          · replace H := H.1 c74
            refine s_iload_n (nx := 101) hO rfl rfl rfl ?_
            refine s_iconst (x := (nI 5)) (nx := 102) hO rfl (by decide) rfl ?_
            refine s_icmp_ne (nx := 105) hO rfl rfl (fun c102 => ?_) (fun c102 => ?_)
            · replace H := H.1 c102
              refine s_aload_n (nx := 129) hO rfl rfl rfl ?_
              refine s_aload_n (nx := 130) hO rfl rfl rfl ?_
              refine s_getf (v := .ref (q_b G + 210)) (nx := 133) hO rfl rfl (hs_o12 kc139) rfl rfl ?_
              refine s_aload_n (nx := 134) hO rfl rfl rfl ?_
              refine s_callV [] (ci := 12) (F := TX12) (N := 116) (nx := 137) hO rfl kX12_move_634 (by rw [hcl]; rfl) (hs_o12 kc139) (w_X12_pop hG H) rfl rfl (Nat.le_of_ble_eq_true rfl) (Nat.zero_le _) (Nat.zero_le _) rfl (k_Qi (fun r1 s2 H => ?_))
              obtain ⟨b3, H⟩ := H
              refine s_iald (nx := 138) hO rfl (hs_I kc210) b3 rfl ?_
              refine s_callV [.int (sI s2 210 (ix r1))] (ci := 12) (F := TX12) (N := 116) (nx := 141) hO rfl kX12_move_628 (by rw [hcl]; rfl) (hs_o12 kc139) (w_X12_push hG H) rfl rfl (Nat.le_of_ble_eq_true rfl) (Nat.zero_le _) (Nat.zero_le _) rfl (k_Qv (fun s4 H => ?_))
              exact s_vret hO rfl rfl ⟨rfl, _, rfl, rfl, H⟩
            · replace H := H.2 c102
              refine s_aload_n (nx := 106) hO rfl rfl rfl ?_
              refine s_getf (v := .ref (q_b G + 214)) (nx := 109) hO rfl rfl (hs_o12 kc139) rfl rfl ?_
              refine s_bipush (x := (nI 12)) (nx := 111) hO rfl (by decide) rfl ?_
              refine s_aload_n (nx := 112) hO rfl rfl rfl ?_
              refine s_getf (v := .int (sI s 139 111)) (nx := 115) hO rfl rfl (hs_o12 kc139) rfl rfl ?_
              refine s_iconst (x := 1) (nx := 116) hO rfl (by decide) rfl ?_
              refine s_isub (nx := 117) hO rfl rfl ?_
              refine s_imul (nx := 118) hO rfl rfl ?_
              refine s_iload_n (nx := 119) hO rfl rfl rfl ?_
              refine s_iadd (nx := 120) hO rfl rfl ?_
              refine s_aload_n (nx := 121) hO rfl rfl rfl ?_
              refine s_callV [] (ci := 12) (F := TX12) (N := 116) (nx := 124) hO rfl kX12_move_634 (by rw [hcl]; rfl) (hs_o12 kc139) (w_X12_pop hG H) rfl rfl (Nat.le_of_ble_eq_true rfl) (Nat.zero_le _) (Nat.zero_le _) rfl (k_Qi (fun r5 s6 H => ?_))
              obtain ⟨b7, H⟩ := H
              refine goV (wI s6 214 (ix (((nI 12) * ((sI s 139 111) - 1)) + v2)) r5) (fun s8 es8 => ?_)
              replace H := H s8 es8
              refine s_iast (nx := 125) hO rfl (hs_I kc214) b7 rfl ?_
              refine xEx.at (up_I kc214 es8) ?_
              refine s_goto hO rfl ?_
              exact s_vret hO rfl rfl ⟨rfl, _, rfl, rfl, H⟩
          · replace H := H.2 c74
            refine s_aload_n (nx := 78) hO rfl rfl rfl ?_
            refine s_aload_n (nx := 79) hO rfl rfl rfl ?_
            refine s_getf (v := .ref (q_b G + 214)) (nx := 82) hO rfl rfl (hs_o12 kc139) rfl rfl ?_
            refine s_bipush (x := (nI 12)) (nx := 84) hO rfl (by decide) rfl ?_
            refine s_aload_n (nx := 85) hO rfl rfl rfl ?_
            refine s_getf (v := .int (sI s 139 111)) (nx := 88) hO rfl rfl (hs_o12 kc139) rfl rfl ?_
            refine s_iconst (x := 1) (nx := 89) hO rfl (by decide) rfl ?_
            refine s_isub (nx := 90) hO rfl rfl ?_
            refine s_imul (nx := 91) hO rfl rfl ?_
            refine s_iload_n (nx := 92) hO rfl rfl rfl ?_
            refine s_iadd (nx := 93) hO rfl rfl ?_
            obtain ⟨b9, H⟩ := H
            refine s_iald (nx := 94) hO rfl (hs_I kc214) b9 rfl ?_
            refine s_callV [.int (sI s 214 (ix (((nI 12) * ((sI s 139 111) - 1)) + v2)))] (ci := 12) (F := TX12) (N := 116) (nx := 97) hO rfl kX12_move_628 (by rw [hcl]; rfl) (hs_o12 kc139) (w_X12_push hG H) rfl rfl (Nat.le_of_ble_eq_true rfl) (Nat.zero_le _) (Nat.zero_le _) rfl (k_Qv (fun s10 H => ?_))
            refine s_goto hO rfl ?_
            exact s_vret hO rfl rfl ⟨rfl, _, rfl, rfl, H⟩
        · replace H := H.2 c44
          refine s_aload_n (nx := 48) hO rfl rfl rfl ?_
          refine s_callV [] (ci := 12) (F := TX12) (N := 116) (nx := 51) hO rfl kX12_move_634 (by rw [hcl]; rfl) (hs_o12 kc139) (w_X12_pop hG H) rfl rfl (Nat.le_of_ble_eq_true rfl) (Nat.zero_le _) (Nat.zero_le _) rfl (k_Qi (fun r11 s12 H => ?_))
          refine s_istore_n (nx := 52) (l' := [(3, .int r11), (0, .ref (q_b G + 139)), (1, .int v1), (2, .int v2)]) hO rfl (by decide) rfl rfl ?_
          refine s_aload_n (nx := 53) hO rfl rfl rfl ?_
          refine s_callV [] (ci := 12) (F := TX12) (N := 116) (nx := 56) hO rfl kX12_move_634 (by rw [hcl]; rfl) (hs_o12 kc139) (w_X12_pop hG H) rfl rfl (Nat.le_of_ble_eq_true rfl) (Nat.zero_le _) (Nat.zero_le _) rfl (k_Qi (fun r13 s14 H => ?_))
          refine s_istore (nx := 58) (l' := [(4, .int r13), (3, .int r11), (0, .ref (q_b G + 139)), (1, .int v1), (2, .int v2)]) hO rfl (by decide) rfl rfl ?_
          refine s_aload_n (nx := 59) hO rfl rfl rfl ?_
          refine s_iload_n (nx := 60) hO rfl rfl rfl ?_
          refine s_callV [.int r11] (ci := 12) (F := TX12) (N := 116) (nx := 63) hO rfl kX12_move_628 (by rw [hcl]; rfl) (hs_o12 kc139) (w_X12_push hG H) rfl rfl (Nat.le_of_ble_eq_true rfl) (Nat.zero_le _) (Nat.zero_le _) rfl (k_Qv (fun s15 H => ?_))
          refine s_aload_n (nx := 64) hO rfl rfl rfl ?_
          refine s_iload (nx := 66) hO rfl rfl rfl ?_
          refine s_callV [.int r13] (ci := 12) (F := TX12) (N := 116) (nx := 69) hO rfl kX12_move_628 (by rw [hcl]; rfl) (hs_o12 kc139) (w_X12_push hG H) rfl rfl (Nat.le_of_ble_eq_true rfl) (Nat.zero_le _) (Nat.zero_le _) rfl (k_Qv (fun s16 H => ?_))
          refine s_goto hO rfl ?_
          exact s_vret hO rfl rfl ⟨rfl, _, rfl, rfl, H⟩
      · replace H := H.2 c27
        refine s_aload_n (nx := 31) hO rfl rfl rfl ?_
        refine s_aload_n (nx := 32) hO rfl rfl rfl ?_
        refine s_iconst (x := 0) (nx := 33) hO rfl (by decide) rfl ?_
        refine s_callV [.int 0] (ci := 12) (F := TX12) (N := 116) (nx := 36) hO rfl kX12_move_655 (by rw [hcl]; rfl) (hs_o12 kc139) (w_X12_under hG H) rfl rfl (Nat.le_of_ble_eq_true rfl) (Nat.zero_le _) (Nat.zero_le _) rfl (k_Pi (fun r17 H => ?_))
        refine s_callV [.int r17] (ci := 12) (F := TX12) (N := 116) (nx := 39) hO rfl kX12_move_628 (by rw [hcl]; rfl) (hs_o12 kc139) (w_X12_push hG H) rfl rfl (Nat.le_of_ble_eq_true rfl) (Nat.zero_le _) (Nat.zero_le _) rfl (k_Qv (fun s18 H => ?_))
        refine s_goto hO rfl ?_
        exact s_vret hO rfl rfl ⟨rfl, _, rfl, rfl, H⟩
    · replace H := H.2 c14
      refine s_aload_n (nx := 18) hO rfl rfl rfl ?_
      refine s_callV [] (ci := 12) (F := TX12) (N := 116) (nx := 21) hO rfl kX12_move_634 (by rw [hcl]; rfl) (hs_o12 kc139) (w_X12_pop hG H) rfl rfl (Nat.le_of_ble_eq_true rfl) (Nat.zero_le _) (Nat.zero_le _) rfl (k_Qi (fun r19 s20 H => ?_))
      refine s_istore_n (nx := 22) (l' := [(3, .int r19), (0, .ref (q_b G + 139)), (1, .int v1), (2, .int v2)]) hO rfl (by decide) rfl rfl ?_
      refine s_goto hO rfl ?_
      exact s_vret hO rfl rfl ⟨rfl, _, rfl, rfl, H⟩
  · replace H := H.2 c1
    refine s_aload_n (nx := 5) hO rfl rfl rfl ?_
    refine s_iload_n (nx := 6) hO rfl rfl rfl ?_
    refine s_callV [.int v2] (ci := 12) (F := TX12) (N := 116) (nx := 9) hO rfl kX12_move_628 (by rw [hcl]; rfl) (hs_o12 kc139) (w_X12_push hG H) rfl rfl (Nat.le_of_ble_eq_true rfl) (Nat.zero_le _) (Nat.zero_le _) rfl (k_Qv (fun s21 H => ?_))
    refine s_goto hO rfl ?_
    exact s_vret hO rfl rfl ⟨rfl, _, rfl, rfl, H⟩
def W_X12_perform (s : yS) (v1 : Int32) (v2 : Int32) (Q : yS → Prop) : Prop :=
 ∀ P64 : Prop, ((∀ P149 : Prop, ((((¬ v1 = (nI 21) → ∀ P174 : Prop, ((∀ P186 : Int32 → Prop, (∀ (y1 : Int32), (W_X12_reach s y1 
      (fun s2 => Q s2)) → P186 y1) → 
     ((¬ v1 = (nI 23) → P186 0)
     ∧ (v1 = (nI 23) → P186 1))) → P174) → 
    ((v1 = (nI 22) → P174)
    ∧ (¬ v1 = (nI 22) → ((¬ v1 = (nI 23) → ((¬ v1 = (nI 25) → ((¬ v1 = (nI 26) → ((¬ v1 = (nI 27) → ((¬ v1 = (nI 28) → W_X12_move s v1 v2 
          (fun s3 => W_X12_goOn s3 
          (fun s4 => Q s4)))
         ∧ (v1 = (nI 28) → W_X12_pop s 
          (fun r5 s6 => W_X12_raise s6 r5 
          (fun s7 => Q s7)))))
        ∧ (v1 = (nI 27) → W_X12_comeBack s 
         (fun s8 => Q s8))))
       ∧ (v1 = (nI 26) → W_X12_callOut s v2 
        (fun s9 => Q s9))))
      ∧ (v1 = (nI 25) → W_X12_callIn s v2 
       (fun s10 => Q s10))))
     ∧ (v1 = (nI 23) → P174)))))
   ∧ (v1 = (nI 21) → W_X12_newRow s 
    (fun s11 => Q s11)))) → P149) → 
  ((v1 ≤ (nI 17) → P149)
  ∧ (¬ v1 ≤ (nI 17) → (((nI 21) ≤ v1 → P149)
   ∧ (¬ (nI 21) ≤ v1 → ∀ P113 : Int32 → yS → Prop, (∀ (y12 : Int32) (s13 : yS), (((y12 = 0 → vp_in ((sI s13 139 111) - 1) 40 ∧ 
      vp_in ((sI s13 139 111) - 1) 40 ∧ ∀ s16 : yS, s16 = wI s13 212 (ix ((sI s13 139 111) - 1)) ((sI s13 212 (ix ((sI s13 139 111) - 1))) + 1) → 
      Q s16)
     ∧ (¬ y12 = 0 → vp_in ((sI s13 139 111) - 1) 40 ∧ ∀ s18 : yS, s18 = wI s13 212 (ix ((sI s13 139 111) - 1)) v2 → 
      Q s18))) → P113 y12 s13) → 
    ((v1 = (nI 18) → P113 1 s)
    ∧ (¬ v1 = (nI 18) → W_X12_pop s 
     (fun r19 s20 => ∀ P94 : Int32 → Prop, (∀ (y21 : Int32), (∀ P105 : Int32 → Prop, (∀ (y22 : Int32), (((¬ y21 = y22 → P113 0 s20)
       ∧ (y21 = y22 → P113 1 s20))) → P105 y22) → 
      ((¬ v1 = (nI 19) → P105 0)
      ∧ (v1 = (nI 19) → P105 1))) → P94 y21) → 
     ((r19 = 0 → P94 0)
     ∧ (¬ r19 = 0 → P94 1)))))))))) → P64) → 
 ((v1 ≤ (nI 5) → P64)
 ∧ (¬ v1 ≤ (nI 5) → (((nI 18) ≤ v1 → P64)
  ∧ (¬ (nI 18) ≤ v1 → W_X12_pop s 
   (fun r23 s24 => W_X12_pop s24 
   (fun r25 s26 => ∀ P46 : Prop, ((W_X12_worked s26 v1 r25 r23 
    (fun r27 => W_X12_push s26 r27 
    (fun s28 => W_X12_goOn s28 
    (fun s29 => Q s29)))) → P46) → 
   ∀ P34 : Prop, ((((¬ r23 = 0 → P46)
    ∧ (r23 = 0 → W_X12_raise s26 1 
     (fun s30 => Q s30)))) → P34) → 
   ((v1 = (nI 9) → P34)
   ∧ (¬ v1 = (nI 9) → ((¬ v1 = (nI 10) → P46)
    ∧ (v1 = (nI 10) → P34))))))))))
set_option maxRecDepth 100000 in
set_option maxHeartbeats 40000000 in
theorem w_X12_perform {G : xG} (hG : yG G) {z : Nat} {s : yS} {v1 : Int32} {v2 : Int32} {Q : yS → Prop} (H : W_X12_perform s v1 v2 Q) : xC G mX12_perform [.ref (q_b G + 139), .int v1, .int v2] (hS G s) z 0 0 (yQv G z Q) := by
  have hW := hG.1
  have hcl := hG.2.1
  have hty := hG.2.2.1
  have hO : xO G mX12_perform tbX12_perform ptX12_perform := ⟨tkX12_perform, pkX12_perform hcl⟩
  unfold W_X12_perform at H
  refine xC.of hW (by decide) rfl (Nat.le_of_ble_eq_true rfl) ?_
  refine s_iload_n (nx := 1) hO rfl rfl rfl ?_
  refine s_iconst (x := (nI 5)) (nx := 2) hO rfl (by decide) rfl ?_
  refine goK (H (xEx G mX12_perform 64 [(0, .ref (q_b G + 139)), (1, .int v1), (2, .int v2)] [] (hS G s) z 0 0 (yQv G z Q)) (fun H => ?_)) (fun H => ?_)
  · show xEx G mX12_perform 64 [(0, .ref (q_b G + 139)), (1, .int v1), (2, .int v2)] [] (hS G s) z 0 0 (yQv G z Q)
    refine s_iload_n (nx := 65) hO rfl rfl rfl ?_
    refine s_bipush (x := (nI 17)) (nx := 67) hO rfl (by decide) rfl ?_
    refine goK (H (xEx G mX12_perform 149 [(0, .ref (q_b G + 139)), (1, .int v1), (2, .int v2)] [] (hS G s) z 0 0 (yQv G z Q)) (fun H => ?_)) (fun H => ?_)
    · show xEx G mX12_perform 149 [(0, .ref (q_b G + 139)), (1, .int v1), (2, .int v2)] [] (hS G s) z 0 0 (yQv G z Q)
      refine s_iload_n (nx := 150) hO rfl rfl rfl ?_
      refine s_bipush (x := (nI 21)) (nx := 152) hO rfl (by decide) rfl ?_
      refine s_icmp_ne (nx := 155) hO rfl rfl (fun c152 => ?_) (fun c152 => ?_)
      · replace H := H.1 c152
        refine s_iload_n (nx := 163) hO rfl rfl rfl ?_
        refine s_bipush (x := (nI 22)) (nx := 165) hO rfl (by decide) rfl ?_
        refine goK (H (xEx G mX12_perform 174 [(0, .ref (q_b G + 139)), (1, .int v1)] [] (hS G s) z 0 0 (yQv G z Q)) (fun H => ?_)) (fun H => ?_)
        · show xEx G mX12_perform 174 [(0, .ref (q_b G + 139)), (1, .int v1)] [] (hS G s) z 0 0 (yQv G z Q)
          refine s_aload_n (nx := 175) hO rfl rfl rfl ?_
          refine s_iload_n (nx := 176) hO rfl rfl rfl ?_
          refine s_bipush (x := (nI 23)) (nx := 178) hO rfl (by decide) rfl ?_
          refine goK (H (fun (y1 : Int32) => xEx G mX12_perform 186 [] [.int y1, .ref (q_b G + 139)] (hS G s) z 0 0 (yQv G z Q)) (fun y1 H => ?_)) (fun H => ?_)
          · show xEx G mX12_perform 186 [] [.int y1, .ref (q_b G + 139)] (hS G s) z 0 0 (yQv G z Q)
            refine s_callV [.int y1] (ci := 12) (F := TX12) (N := 116) (nx := 189) hO rfl kX12_perform_670 (by rw [hcl]; rfl) (hs_o12 kc139) (w_X12_reach hG H) rfl rfl (Nat.le_of_ble_eq_true rfl) (Nat.zero_le _) (Nat.zero_le _) rfl (k_Qv (fun s2 H => ?_))
            refine s_goto hO rfl ?_
            exact s_vret hO rfl rfl ⟨rfl, _, rfl, rfl, H⟩
          refine s_icmp_ne (nx := 181) hO rfl rfl (fun c178 => ?_) (fun c178 => ?_)
          · replace H := H.1 c178
            refine s_iconst (x := 0) (nx := 186) hO rfl (by decide) rfl ?_
            exact xEx.loc x_sub0 H
          · replace H := H.2 c178
            refine s_iconst (x := 1) (nx := 182) hO rfl (by decide) rfl ?_
            refine s_goto hO rfl ?_
            exact xEx.loc x_sub0 H
        refine s_icmp_eq (nx := 168) hO rfl rfl (fun c165 => ?_) (fun c165 => ?_)
        · replace H := H.1 c165
          exact xEx.loc (x_sub1 (List.Mem.head _) (x_sub1 (List.Mem.tail _ (List.Mem.head _)) x_sub0)) H
        · replace H := H.2 c165
          refine s_iload_n (nx := 169) hO rfl rfl rfl ?_
          refine s_bipush (x := (nI 23)) (nx := 171) hO rfl (by decide) rfl ?_
          refine s_icmp_ne (nx := 174) hO rfl rfl (fun c171 => ?_) (fun c171 => ?_)
          · replace H := H.1 c171
            refine s_iload_n (nx := 193) hO rfl rfl rfl ?_
            refine s_bipush (x := (nI 25)) (nx := 195) hO rfl (by decide) rfl ?_
            refine s_icmp_ne (nx := 198) hO rfl rfl (fun c195 => ?_) (fun c195 => ?_)
            · replace H := H.1 c195
              refine s_iload_n (nx := 207) hO rfl rfl rfl ?_
              refine s_bipush (x := (nI 26)) (nx := 209) hO rfl (by decide) rfl ?_
              refine s_icmp_ne (nx := 212) hO rfl rfl (fun c209 => ?_) (fun c209 => ?_)
              · replace H := H.1 c209
                refine s_iload_n (nx := 221) hO rfl rfl rfl ?_
                refine s_bipush (x := (nI 27)) (nx := 223) hO rfl (by decide) rfl ?_
                refine s_icmp_ne (nx := 226) hO rfl rfl (fun c223 => ?_) (fun c223 => ?_)
                · replace H := H.1 c223
                  refine s_iload_n (nx := 234) hO rfl rfl rfl ?_
                  refine s_bipush (x := (nI 28)) (nx := 236) hO rfl (by decide) rfl ?_
                  refine s_icmp_ne (nx := 239) hO rfl rfl (fun c236 => ?_) (fun c236 => ?_)
                  · replace H := H.1 c236
                    refine s_aload_n (nx := 251) hO rfl rfl rfl ?_
                    refine s_iload_n (nx := 252) hO rfl rfl rfl ?_
                    refine s_iload_n (nx := 253) hO rfl rfl rfl ?_
                    refine s_callV [.int v1, .int v2] (ci := 12) (F := TX12) (N := 116) (nx := 256) hO rfl kX12_perform_683 (by rw [hcl]; rfl) (hs_o12 kc139) (w_X12_move hG H) rfl rfl (Nat.le_of_ble_eq_true rfl) (Nat.zero_le _) (Nat.zero_le _) rfl (k_Qv (fun s3 H => ?_))
                    refine s_aload_n (nx := 257) hO rfl rfl rfl ?_
                    refine s_callV [] (ci := 12) (F := TX12) (N := 116) (nx := 260) hO rfl kX12_perform_646 (by rw [hcl]; rfl) (hs_o12 kc139) (w_X12_goOn hG H) rfl rfl (Nat.le_of_ble_eq_true rfl) (Nat.zero_le _) (Nat.zero_le _) rfl (k_Qv (fun s4 H => ?_))
                    exact s_vret hO rfl rfl ⟨rfl, _, rfl, rfl, H⟩
                  · replace H := H.2 c236
                    refine s_aload_n (nx := 240) hO rfl rfl rfl ?_
                    refine s_aload_n (nx := 241) hO rfl rfl rfl ?_
                    refine s_callV [] (ci := 12) (F := TX12) (N := 116) (nx := 244) hO rfl kX12_perform_634 (by rw [hcl]; rfl) (hs_o12 kc139) (w_X12_pop hG H) rfl rfl (Nat.le_of_ble_eq_true rfl) (Nat.zero_le _) (Nat.zero_le _) rfl (k_Qi (fun r5 s6 H => ?_))
                    refine s_callV [.int r5] (ci := 12) (F := TX12) (N := 116) (nx := 247) hO rfl kX12_perform_640 (by rw [hcl]; rfl) (hs_o12 kc139) (w_X12_raise hG H) rfl rfl (Nat.le_of_ble_eq_true rfl) (Nat.zero_le _) (Nat.zero_le _) rfl (k_Qv (fun s7 H => ?_))
                    refine s_goto hO rfl ?_
                    exact s_vret hO rfl rfl ⟨rfl, _, rfl, rfl, H⟩
                · replace H := H.2 c223
                  refine s_aload_n (nx := 227) hO rfl rfl rfl ?_
                  refine s_callV [] (ci := 12) (F := TX12) (N := 116) (nx := 230) hO rfl kX12_perform_680 (by rw [hcl]; rfl) (hs_o12 kc139) (w_X12_comeBack hG H) rfl rfl (Nat.le_of_ble_eq_true rfl) (Nat.zero_le _) (Nat.zero_le _) rfl (k_Qv (fun s8 H => ?_))
                  refine s_goto hO rfl ?_
                  exact s_vret hO rfl rfl ⟨rfl, _, rfl, rfl, H⟩
              · replace H := H.2 c209
                refine s_aload_n (nx := 213) hO rfl rfl rfl ?_
                refine s_iload_n (nx := 214) hO rfl rfl rfl ?_
                refine s_callV [.int v2] (ci := 12) (F := TX12) (N := 116) (nx := 217) hO rfl kX12_perform_677 (by rw [hcl]; rfl) (hs_o12 kc139) (w_X12_callOut hG H) rfl rfl (Nat.le_of_ble_eq_true rfl) (Nat.zero_le _) (Nat.zero_le _) rfl (k_Qv (fun s9 H => ?_))
                refine s_goto hO rfl ?_
                exact s_vret hO rfl rfl ⟨rfl, _, rfl, rfl, H⟩
            · replace H := H.2 c195
              refine s_aload_n (nx := 199) hO rfl rfl rfl ?_
              refine s_iload_n (nx := 200) hO rfl rfl rfl ?_
              refine s_callV [.int v2] (ci := 12) (F := TX12) (N := 116) (nx := 203) hO rfl kX12_perform_674 (by rw [hcl]; rfl) (hs_o12 kc139) (w_X12_callIn hG H) rfl rfl (Nat.le_of_ble_eq_true rfl) (Nat.zero_le _) (Nat.zero_le _) rfl (k_Qv (fun s10 H => ?_))
              refine s_goto hO rfl ?_
              exact s_vret hO rfl rfl ⟨rfl, _, rfl, rfl, H⟩
          · replace H := H.2 c171
            exact xEx.loc (x_sub1 (List.Mem.head _) (x_sub1 (List.Mem.tail _ (List.Mem.head _)) x_sub0)) H
      · replace H := H.2 c152
        refine s_aload_n (nx := 156) hO rfl rfl rfl ?_
        refine s_callV [] (ci := 12) (F := TX12) (N := 116) (nx := 159) hO rfl kX12_perform_667 (by rw [hcl]; rfl) (hs_o12 kc139) (w_X12_newRow hG H) rfl rfl (Nat.le_of_ble_eq_true rfl) (Nat.zero_le _) (Nat.zero_le _) rfl (k_Qv (fun s11 H => ?_))
        refine s_goto hO rfl ?_
        exact s_vret hO rfl rfl ⟨rfl, _, rfl, rfl, H⟩
    refine s_icmp_le (nx := 70) hO rfl rfl (fun c67 => ?_) (fun c67 => ?_)
    · replace H := H.1 c67
      exact xEx.loc (x_sub1 (List.Mem.head _) (x_sub1 (List.Mem.tail _ (List.Mem.head _)) (x_sub1 (List.Mem.tail _ (List.Mem.tail _ (List.Mem.head _))) x_sub0))) H
    · replace H := H.2 c67
      refine s_iload_n (nx := 71) hO rfl rfl rfl ?_
      refine s_bipush (x := (nI 21)) (nx := 73) hO rfl (by decide) rfl ?_
      refine s_icmp_ge (nx := 76) hO rfl rfl (fun c73 => ?_) (fun c73 => ?_)
      · replace H := H.1 c73
        exact xEx.loc (x_sub1 (List.Mem.head _) (x_sub1 (List.Mem.tail _ (List.Mem.head _)) (x_sub1 (List.Mem.tail _ (List.Mem.tail _ (List.Mem.head _))) x_sub0))) H
      · replace H := H.2 c73
        refine s_iload_n (nx := 77) hO rfl rfl rfl ?_
        refine s_bipush (x := (nI 18)) (nx := 79) hO rfl (by decide) rfl ?_
        refine goK (H (fun (y12 : Int32) (s13 : yS) => xEx G mX12_perform 113 [(0, .ref (q_b G + 139)), (2, .int v2)] [.int y12] (hS G s13) z 0 0 (yQv G z Q)) (fun y12 s13 H => ?_)) (fun H => ?_)
        · show xEx G mX12_perform 113 [(0, .ref (q_b G + 139)), (2, .int v2)] [.int y12] (hS G s13) z 0 0 (yQv G z Q)
          refine s_istore_n (nx := 114) (l' := [(3, .int y12), (0, .ref (q_b G + 139)), (2, .int v2)]) hO rfl (by decide) rfl rfl ?_
          refine s_aload_n (nx := 115) hO rfl rfl rfl ?_
          refine s_getf (v := .ref (q_b G + 212)) (nx := 118) hO rfl rfl (hs_o12 kc139) rfl rfl ?_
          refine s_aload_n (nx := 119) hO rfl rfl rfl ?_
          refine s_getf (v := .int (sI s13 139 111)) (nx := 122) hO rfl rfl (hs_o12 kc139) rfl rfl ?_
          refine s_iconst (x := 1) (nx := 123) hO rfl (by decide) rfl ?_
          refine s_isub (nx := 124) hO rfl rfl ?_
          refine s_iload_n (nx := 125) hO rfl rfl rfl ?_
          refine s_if_eq (nx := 128) hO rfl rfl (fun c125 => ?_) (fun c125 => ?_)
          · replace H := H.1 c125
            refine s_aload_n (nx := 133) hO rfl rfl rfl ?_
            refine s_getf (v := .ref (q_b G + 212)) (nx := 136) hO rfl rfl (hs_o12 kc139) rfl rfl ?_
            refine s_aload_n (nx := 137) hO rfl rfl rfl ?_
            refine s_getf (v := .int (sI s13 139 111)) (nx := 140) hO rfl rfl (hs_o12 kc139) rfl rfl ?_
            refine s_iconst (x := 1) (nx := 141) hO rfl (by decide) rfl ?_
            refine s_isub (nx := 142) hO rfl rfl ?_
            obtain ⟨b14, H⟩ := H
            refine s_iald (nx := 143) hO rfl (hs_I kc212) b14 rfl ?_
            refine s_iconst (x := 1) (nx := 144) hO rfl (by decide) rfl ?_
            refine s_iadd (nx := 145) hO rfl rfl ?_
            obtain ⟨b15, H⟩ := H
            refine goV (wI s13 212 (ix ((sI s13 139 111) - 1)) ((sI s13 212 (ix ((sI s13 139 111) - 1))) + 1)) (fun s16 es16 => ?_)
            replace H := H s16 es16
            refine s_iast (nx := 146) hO rfl (hs_I kc212) b15 rfl ?_
            refine xEx.at (up_I kc212 es16) ?_
            refine s_goto hO rfl ?_
            exact s_vret hO rfl rfl ⟨rfl, _, rfl, rfl, H⟩
          · replace H := H.2 c125
            refine s_iload_n (nx := 129) hO rfl rfl rfl ?_
            refine s_goto hO rfl ?_
            obtain ⟨b17, H⟩ := H
            refine goV (wI s13 212 (ix ((sI s13 139 111) - 1)) v2) (fun s18 es18 => ?_)
            replace H := H s18 es18
            refine s_iast (nx := 146) hO rfl (hs_I kc212) b17 rfl ?_
            refine xEx.at (up_I kc212 es18) ?_
            refine s_goto hO rfl ?_
            exact s_vret hO rfl rfl ⟨rfl, _, rfl, rfl, H⟩
        refine s_icmp_eq (nx := 82) hO rfl rfl (fun c79 => ?_) (fun c79 => ?_)
        · replace H := H.1 c79
          refine s_iconst (x := 1) (nx := 109) hO rfl (by decide) rfl ?_
          refine s_goto hO rfl ?_
          exact xEx.loc (x_sub1 (List.Mem.head _) (x_sub1 (List.Mem.tail _ (List.Mem.tail _ (List.Mem.head _))) x_sub0)) H
        · replace H := H.2 c79
          refine s_aload_n (nx := 83) hO rfl rfl rfl ?_
          refine s_callV [] (ci := 12) (F := TX12) (N := 116) (nx := 86) hO rfl kX12_perform_634 (by rw [hcl]; rfl) (hs_o12 kc139) (w_X12_pop hG H) rfl rfl (Nat.le_of_ble_eq_true rfl) (Nat.zero_le _) (Nat.zero_le _) rfl (k_Qi (fun r19 s20 H => ?_))
          refine goK (H (fun (y21 : Int32) => xEx G mX12_perform 94 [(0, .ref (q_b G + 139)), (1, .int v1), (2, .int v2)] [.int y21] (hS G s20) z 0 0 (yQv G z Q)) (fun y21 H => ?_)) (fun H => ?_)
          · show xEx G mX12_perform 94 [(0, .ref (q_b G + 139)), (1, .int v1), (2, .int v2)] [.int y21] (hS G s20) z 0 0 (yQv G z Q)
            refine s_iload_n (nx := 95) hO rfl rfl rfl ?_
            refine s_bipush (x := (nI 19)) (nx := 97) hO rfl (by decide) rfl ?_
            refine goK (H (fun (y22 : Int32) => xEx G mX12_perform 105 [(0, .ref (q_b G + 139)), (2, .int v2)] [.int y22, .int y21] (hS G s20) z 0 0 (yQv G z Q)) (fun y22 H => ?_)) (fun H => ?_)
            · show xEx G mX12_perform 105 [(0, .ref (q_b G + 139)), (2, .int v2)] [.int y22, .int y21] (hS G s20) z 0 0 (yQv G z Q)
              refine s_icmp_ne (nx := 108) hO rfl rfl (fun c105 => ?_) (fun c105 => ?_)
              · replace H := H.1 c105
                refine s_iconst (x := 0) (nx := 113) hO rfl (by decide) rfl ?_
                exact xEx.loc (x_sub1 (List.Mem.head _) (x_sub1 (List.Mem.tail _ (List.Mem.head _)) x_sub0)) H
              · replace H := H.2 c105
                refine s_iconst (x := 1) (nx := 109) hO rfl (by decide) rfl ?_
                refine s_goto hO rfl ?_
                exact xEx.loc (x_sub1 (List.Mem.head _) (x_sub1 (List.Mem.tail _ (List.Mem.head _)) x_sub0)) H
            refine s_icmp_ne (nx := 100) hO rfl rfl (fun c97 => ?_) (fun c97 => ?_)
            · replace H := H.1 c97
              refine s_iconst (x := 0) (nx := 105) hO rfl (by decide) rfl ?_
              exact xEx.loc (x_sub1 (List.Mem.head _) (x_sub1 (List.Mem.tail _ (List.Mem.tail _ (List.Mem.head _))) x_sub0)) H
            · replace H := H.2 c97
              refine s_iconst (x := 1) (nx := 101) hO rfl (by decide) rfl ?_
              refine s_goto hO rfl ?_
              exact xEx.loc (x_sub1 (List.Mem.head _) (x_sub1 (List.Mem.tail _ (List.Mem.tail _ (List.Mem.head _))) x_sub0)) H
          refine s_if_eq (nx := 89) hO rfl rfl (fun c86 => ?_) (fun c86 => ?_)
          · replace H := H.1 c86
            refine s_iconst (x := 0) (nx := 94) hO rfl (by decide) rfl ?_
            exact xEx.loc (x_sub1 (List.Mem.head _) (x_sub1 (List.Mem.tail _ (List.Mem.head _)) (x_sub1 (List.Mem.tail _ (List.Mem.tail _ (List.Mem.head _))) x_sub0))) H
          · replace H := H.2 c86
            refine s_iconst (x := 1) (nx := 90) hO rfl (by decide) rfl ?_
            refine s_goto hO rfl ?_
            exact xEx.loc (x_sub1 (List.Mem.head _) (x_sub1 (List.Mem.tail _ (List.Mem.head _)) (x_sub1 (List.Mem.tail _ (List.Mem.tail _ (List.Mem.head _))) x_sub0))) H
  refine s_icmp_le (nx := 5) hO rfl rfl (fun c2 => ?_) (fun c2 => ?_)
  · replace H := H.1 c2
    exact xEx.loc (x_sub1 (List.Mem.head _) (x_sub1 (List.Mem.tail _ (List.Mem.head _)) (x_sub1 (List.Mem.tail _ (List.Mem.tail _ (List.Mem.head _))) x_sub0))) H
  · replace H := H.2 c2
    refine s_iload_n (nx := 6) hO rfl rfl rfl ?_
    refine s_bipush (x := (nI 18)) (nx := 8) hO rfl (by decide) rfl ?_
    refine s_icmp_ge (nx := 11) hO rfl rfl (fun c8 => ?_) (fun c8 => ?_)
    · replace H := H.1 c8
      exact xEx.loc (x_sub1 (List.Mem.head _) (x_sub1 (List.Mem.tail _ (List.Mem.head _)) (x_sub1 (List.Mem.tail _ (List.Mem.tail _ (List.Mem.head _))) x_sub0))) H
    · replace H := H.2 c8
      refine s_aload_n (nx := 12) hO rfl rfl rfl ?_
      refine s_callV [] (ci := 12) (F := TX12) (N := 116) (nx := 15) hO rfl kX12_perform_634 (by rw [hcl]; rfl) (hs_o12 kc139) (w_X12_pop hG H) rfl rfl (Nat.le_of_ble_eq_true rfl) (Nat.zero_le _) (Nat.zero_le _) rfl (k_Qi (fun r23 s24 H => ?_))
      refine s_istore_n (nx := 16) (l' := [(3, .int r23), (0, .ref (q_b G + 139)), (1, .int v1), (2, .int v2)]) hO rfl (by decide) rfl rfl ?_
      refine s_aload_n (nx := 17) hO rfl rfl rfl ?_
      refine s_callV [] (ci := 12) (F := TX12) (N := 116) (nx := 20) hO rfl kX12_perform_634 (by rw [hcl]; rfl) (hs_o12 kc139) (w_X12_pop hG H) rfl rfl (Nat.le_of_ble_eq_true rfl) (Nat.zero_le _) (Nat.zero_le _) rfl (k_Qi (fun r25 s26 H => ?_))
      refine s_istore (nx := 22) (l' := [(4, .int r25), (3, .int r23), (0, .ref (q_b G + 139)), (1, .int v1), (2, .int v2)]) hO rfl (by decide) rfl rfl ?_
      refine s_iload_n (nx := 23) hO rfl rfl rfl ?_
      refine s_bipush (x := (nI 9)) (nx := 25) hO rfl (by decide) rfl ?_
      refine goK (H (xEx G mX12_perform 46 [(0, .ref (q_b G + 139)), (1, .int v1), (3, .int r23), (4, .int r25)] [] (hS G s26) z 0 0 (yQv G z Q)) (fun H => ?_)) (fun H => ?_)
      · show xEx G mX12_perform 46 [(0, .ref (q_b G + 139)), (1, .int v1), (3, .int r23), (4, .int r25)] [] (hS G s26) z 0 0 (yQv G z Q)
        refine s_aload_n (nx := 47) hO rfl rfl rfl ?_
        refine s_iload_n (nx := 48) hO rfl rfl rfl ?_
        refine s_iload (nx := 50) hO rfl rfl rfl ?_
        refine s_iload_n (nx := 51) hO rfl rfl rfl ?_
        refine s_callS [.int v1, .int r25, .int r23] (nx := 54) hO rfl kX12_perform_664 (w_X12_worked hG H) rfl rfl (Nat.le_of_ble_eq_true rfl) (Nat.zero_le _) (Nat.zero_le _) rfl (k_Pi (fun r27 H => ?_))
        refine s_callV [.int r27] (ci := 12) (F := TX12) (N := 116) (nx := 57) hO rfl kX12_perform_628 (by rw [hcl]; rfl) (hs_o12 kc139) (w_X12_push hG H) rfl rfl (Nat.le_of_ble_eq_true rfl) (Nat.zero_le _) (Nat.zero_le _) rfl (k_Qv (fun s28 H => ?_))
        refine s_aload_n (nx := 58) hO rfl rfl rfl ?_
        refine s_callV [] (ci := 12) (F := TX12) (N := 116) (nx := 61) hO rfl kX12_perform_646 (by rw [hcl]; rfl) (hs_o12 kc139) (w_X12_goOn hG H) rfl rfl (Nat.le_of_ble_eq_true rfl) (Nat.zero_le _) (Nat.zero_le _) rfl (k_Qv (fun s29 H => ?_))
        refine s_goto hO rfl ?_
        exact s_vret hO rfl rfl ⟨rfl, _, rfl, rfl, H⟩
      refine goK (H (xEx G mX12_perform 34 [(0, .ref (q_b G + 139)), (1, .int v1), (3, .int r23), (4, .int r25)] [] (hS G s26) z 0 0 (yQv G z Q)) (fun H => ?_)) (fun H => ?_)
      · show xEx G mX12_perform 34 [(0, .ref (q_b G + 139)), (1, .int v1), (3, .int r23), (4, .int r25)] [] (hS G s26) z 0 0 (yQv G z Q)
        refine s_iload_n (nx := 35) hO rfl rfl rfl ?_
        refine s_if_ne (nx := 38) hO rfl rfl (fun c35 => ?_) (fun c35 => ?_)
        · replace H := H.1 c35
          exact xEx.loc (x_sub1 (List.Mem.head _) (x_sub1 (List.Mem.tail _ (List.Mem.head _)) (x_sub1 (List.Mem.tail _ (List.Mem.tail _ (List.Mem.head _))) (x_sub1 (List.Mem.tail _ (List.Mem.tail _ (List.Mem.tail _ (List.Mem.head _)))) x_sub0)))) H
        · replace H := H.2 c35
          refine s_aload_n (nx := 39) hO rfl rfl rfl ?_
          refine s_iconst (x := 1) (nx := 40) hO rfl (by decide) rfl ?_
          refine s_callV [.int 1] (ci := 12) (F := TX12) (N := 116) (nx := 43) hO rfl kX12_perform_640 (by rw [hcl]; rfl) (hs_o12 kc139) (w_X12_raise hG H) rfl rfl (Nat.le_of_ble_eq_true rfl) (Nat.zero_le _) (Nat.zero_le _) rfl (k_Qv (fun s30 H => ?_))
          refine s_goto hO rfl ?_
          refine s_goto hO rfl ?_
          exact s_vret hO rfl rfl ⟨rfl, _, rfl, rfl, H⟩
      refine s_icmp_eq (nx := 28) hO rfl rfl (fun c25 => ?_) (fun c25 => ?_)
      · replace H := H.1 c25
        exact xEx.loc (x_sub1 (List.Mem.tail _ (List.Mem.tail _ (List.Mem.head _))) (x_sub1 (List.Mem.tail _ (List.Mem.tail _ (List.Mem.tail _ (List.Mem.head _)))) (x_sub1 (List.Mem.tail _ (List.Mem.head _)) (x_sub1 (List.Mem.head _) x_sub0)))) H
      · replace H := H.2 c25
        refine s_iload_n (nx := 29) hO rfl rfl rfl ?_
        refine s_bipush (x := (nI 10)) (nx := 31) hO rfl (by decide) rfl ?_
        refine s_icmp_ne (nx := 34) hO rfl rfl (fun c31 => ?_) (fun c31 => ?_)
        · replace H := H.1 c31
          exact xEx.loc (x_sub1 (List.Mem.tail _ (List.Mem.tail _ (List.Mem.head _))) (x_sub1 (List.Mem.tail _ (List.Mem.tail _ (List.Mem.tail _ (List.Mem.head _)))) (x_sub1 (List.Mem.tail _ (List.Mem.head _)) (x_sub1 (List.Mem.head _) x_sub0)))) H
        · replace H := H.2 c31
          exact xEx.loc (x_sub1 (List.Mem.tail _ (List.Mem.tail _ (List.Mem.head _))) (x_sub1 (List.Mem.tail _ (List.Mem.tail _ (List.Mem.tail _ (List.Mem.head _)))) (x_sub1 (List.Mem.tail _ (List.Mem.head _)) (x_sub1 (List.Mem.head _) x_sub0)))) H
def W_X12_runIt (s : yS) (v1 : Int32) (v2 : Int32) (Q : Int32 → yS → Prop) : Prop :=
 ∀ s1 : yS, s1 = wI s 139 0 0 → 
 ∀ P18 : Int32 → Prop, (∀ (y2 : Int32), (vp_in y2 3 ∧ 
  (((sI s1 177 (ix y2)) = 0 → Q (-1) s1)
  ∧ (¬ (sI s1 177 (ix y2)) = 0 → ((v2 < 0 → Q (-1) s1)
   ∧ (¬ v2 < 0 → ((v2 ≤ (nI 20000) → ∀ P45 : Int32 → Prop, (∀ (y4 : Int32), (∀ s5 : yS, s5 = wI s1 139 112 y4 → 
      ∀ s6 : yS, s6 = wI s5 139 89 1 → 
      ∀ s7 : yS, s7 = wI s6 139 90 (nI 3) → 
      ∀ s8 : yS, s8 = wI s7 139 91 0 → 
      ∀ s9 : yS, s9 = wI s8 139 92 0 → 
      ∀ s10 : yS, s10 = wI s9 139 93 0 → 
      ∀ s11 : yS, s11 = wI s10 139 94 0 → 
      ∀ s12 : yS, s12 = wI s11 139 95 0 → 
      ∀ s13 : yS, s13 = wI s12 139 105 0 → 
      vp_in 0 20100 ∧ ∀ s15 : yS, s15 = wI s13 210 (ix 0) 0 → 
      ∀ s16 : yS, s16 = wI s15 139 97 1 → 
      ∀ P102 : Int32 → yS → Prop, (∀ (x17 : Int32) (s18 : yS), ((((nI 6) ≤ x17 → ∀ s19 : yS, s19 = wI s18 139 111 0 → 
        W_X12_enter s19 0 
        (fun s20 => ∀ P136 : yS → Prop, (∀ (s21 : yS), ((((sI s21 139 111) ≤ 0 → ∀ s22 : yS, s22 = wI s21 139 111 0 → 
          Q (sI s22 139 90) s22)
         ∧ (¬ (sI s21 139 111) ≤ 0 → ((v2 ≤ (sI s21 139 92) → ∀ s23 : yS, s23 = wI s21 139 111 0 → 
           Q (sI s23 139 90) s23)
          ∧ (¬ v2 ≤ (sI s21 139 92) → W_X12_here s21 
           (fun r24 => vp_in r24 14400 ∧ 
           ∀ x26 : Int32, x26 = (sI s21 186 (ix r24)) → 
           W_X12_here s21 
           (fun r27 => vp_in r27 14400 ∧ 
           ∀ x29 : Int32, x29 = (sI s21 187 (ix r27)) → 
           ∀ P204 : yS → Prop, (∀ (s30 : yS), (∀ P227 : Int32 → Prop, (∀ (y31 : Int32), (∀ s32 : yS, s32 = wI s30 139 96 y31 → 
             P136 s32) → P227 y31) → 
            (((sI s30 139 111) ≤ (sI s30 139 96) → P227 (sI s30 139 96))
            ∧ (¬ (sI s30 139 111) ≤ (sI s30 139 96) → P227 (sI s30 139 111)))) → P204 s30) → 
           ((¬ x26 = (nI 29) → ∀ s33 : yS, s33 = wI s21 139 92 ((sI s21 139 92) + 1) → 
            W_X12_perform s33 x26 x29 
            (fun s34 => P204 s34))
           ∧ (x26 = (nI 29) → W_X12_guard s21 x29 
            (fun s35 => P204 s35)))))))))) → P136 s21) → 
        ∀ s36 : yS, s36 = wI s20 139 96 1 → 
        P136 s36))
       ∧ (¬ (nI 6) ≤ x17 → vp_in x17 6 ∧ ∀ s38 : yS, s38 = wI s18 205 (ix x17) 0 → 
        ∀ x39 : Int32, x39 = (x17 + 1) → 
        P102 x39 s38))) → P102 x17 s18) → 
      P102 0 s16) → P45 y4) → 
     ((v1 = 0 → P45 0)
     ∧ (¬ v1 = 0 → P45 1)))
    ∧ (¬ v2 ≤ (nI 20000) → Q (-1) s1))))))) → P18 y2) → 
 ((v1 = 0 → P18 0)
 ∧ (¬ v1 = 0 → P18 1))
set_option maxRecDepth 100000 in
set_option maxHeartbeats 40000000 in
theorem w_X12_runIt {G : xG} (hG : yG G) {z : Nat} {s : yS} {v1 : Int32} {v2 : Int32} {Q : Int32 → yS → Prop} (H : W_X12_runIt s v1 v2 Q) : xC G mX12_runIt [.ref (q_b G + 139), .int v1, .int v2] (hS G s) z 0 0 (yQi G z Q) := by
  have hW := hG.1
  have hcl := hG.2.1
  have hty := hG.2.2.1
  have hO : xO G mX12_runIt tbX12_runIt ptX12_runIt := ⟨tkX12_runIt, pkX12_runIt hcl⟩
  unfold W_X12_runIt at H
  refine xC.of hW (by decide) rfl (Nat.le_of_ble_eq_true rfl) ?_
  refine s_aload_n (nx := 1) hO rfl rfl rfl ?_
  refine s_iconst (x := 0) (nx := 2) hO rfl (by decide) rfl ?_
  refine goV (wI s 139 0 0) (fun s1 es1 => ?_)
  replace H := H s1 es1
  refine s_putf (nx := 5) hO rfl rfl (hs_o12 kc139) (Nat.le_of_ble_eq_true rfl) (by rw [hty]; rfl) (by rw [hty]; rfl) pX12_0 rfl ?_
  refine xEx.at (up_oI12 kc139 es1) ?_
  refine s_aload_n (nx := 6) hO rfl rfl rfl ?_
  refine s_getf (v := .ref (q_b G + 177)) (nx := 9) hO rfl rfl (hs_o12 kc139) rfl rfl ?_
  refine s_iload_n (nx := 10) hO rfl rfl rfl ?_
  refine goK (H (fun (y2 : Int32) => xEx G mX12_runIt 18 [(0, .ref (q_b G + 139)), (1, .int v1), (2, .int v2)] [.int y2, .ref (q_b G + 177)] (hS G s1) z 0 0 (yQi G z Q)) (fun y2 H => ?_)) (fun H => ?_)
  · show xEx G mX12_runIt 18 [(0, .ref (q_b G + 139)), (1, .int v1), (2, .int v2)] [.int y2, .ref (q_b G + 177)] (hS G s1) z 0 0 (yQi G z Q)
    obtain ⟨b3, H⟩ := H
    refine s_zald (nx := 19) hO rfl (hs_Z kc177) b3 rfl ?_
    refine s_if_eq (nx := 22) hO rfl rfl (fun c19 => ?_) (fun c19 => ?_)
    · replace H := H.1 c19
      refine s_iconst (x := (-1)) (nx := 34) hO rfl (by decide) rfl ?_
      exact s_iret hO rfl rfl rfl ⟨rfl, _, _, rfl, rfl, H⟩
    · replace H := H.2 c19
      refine s_iload_n (nx := 23) hO rfl rfl rfl ?_
      refine s_if_lt (nx := 26) hO rfl rfl (fun c23 => ?_) (fun c23 => ?_)
      · replace H := H.1 c23
        refine s_iconst (x := (-1)) (nx := 34) hO rfl (by decide) rfl ?_
        exact s_iret hO rfl rfl rfl ⟨rfl, _, _, rfl, rfl, H⟩
      · replace H := H.2 c23
        refine s_iload_n (nx := 27) hO rfl rfl rfl ?_
        refine s_sipush (x := (nI 20000)) (nx := 30) hO rfl (by decide) rfl ?_
        refine s_icmp_le (nx := 33) hO rfl rfl (fun c30 => ?_) (fun c30 => ?_)
        · replace H := H.1 c30
          refine s_aload_n (nx := 36) hO rfl rfl rfl ?_
          refine s_iload_n (nx := 37) hO rfl rfl rfl ?_
          refine goK (H (fun (y4 : Int32) => xEx G mX12_runIt 45 [(0, .ref (q_b G + 139)), (2, .int v2)] [.int y4, .ref (q_b G + 139)] (hS G s1) z 0 0 (yQi G z Q)) (fun y4 H => ?_)) (fun H => ?_)
          · show xEx G mX12_runIt 45 [(0, .ref (q_b G + 139)), (2, .int v2)] [.int y4, .ref (q_b G + 139)] (hS G s1) z 0 0 (yQi G z Q)
            refine goV (wI s1 139 112 y4) (fun s5 es5 => ?_)
            replace H := H s5 es5
            refine s_putf (nx := 48) hO rfl rfl (hs_o12 kc139) (Nat.le_of_ble_eq_true rfl) (by rw [hty]; rfl) (by rw [hty]; rfl) pX12_112 rfl ?_
            refine xEx.at (up_oI12 kc139 es5) ?_
            refine s_aload_n (nx := 49) hO rfl rfl rfl ?_
            refine s_iconst (x := 1) (nx := 50) hO rfl (by decide) rfl ?_
            refine goV (wI s5 139 89 1) (fun s6 es6 => ?_)
            replace H := H s6 es6
            refine s_putf (nx := 53) hO rfl rfl (hs_o12 kc139) (Nat.le_of_ble_eq_true rfl) (by rw [hty]; rfl) (by rw [hty]; rfl) pX12_89 rfl ?_
            refine xEx.at (up_oI12 kc139 es6) ?_
            refine s_aload_n (nx := 54) hO rfl rfl rfl ?_
            refine s_iconst (x := (nI 3)) (nx := 55) hO rfl (by decide) rfl ?_
            refine goV (wI s6 139 90 (nI 3)) (fun s7 es7 => ?_)
            replace H := H s7 es7
            refine s_putf (nx := 58) hO rfl rfl (hs_o12 kc139) (Nat.le_of_ble_eq_true rfl) (by rw [hty]; rfl) (by rw [hty]; rfl) pX12_90 rfl ?_
            refine xEx.at (up_oI12 kc139 es7) ?_
            refine s_aload_n (nx := 59) hO rfl rfl rfl ?_
            refine s_iconst (x := 0) (nx := 60) hO rfl (by decide) rfl ?_
            refine goV (wI s7 139 91 0) (fun s8 es8 => ?_)
            replace H := H s8 es8
            refine s_putf (nx := 63) hO rfl rfl (hs_o12 kc139) (Nat.le_of_ble_eq_true rfl) (by rw [hty]; rfl) (by rw [hty]; rfl) pX12_91 rfl ?_
            refine xEx.at (up_oI12 kc139 es8) ?_
            refine s_aload_n (nx := 64) hO rfl rfl rfl ?_
            refine s_iconst (x := 0) (nx := 65) hO rfl (by decide) rfl ?_
            refine goV (wI s8 139 92 0) (fun s9 es9 => ?_)
            replace H := H s9 es9
            refine s_putf (nx := 68) hO rfl rfl (hs_o12 kc139) (Nat.le_of_ble_eq_true rfl) (by rw [hty]; rfl) (by rw [hty]; rfl) pX12_92 rfl ?_
            refine xEx.at (up_oI12 kc139 es9) ?_
            refine s_aload_n (nx := 69) hO rfl rfl rfl ?_
            refine s_iconst (x := 0) (nx := 70) hO rfl (by decide) rfl ?_
            refine goV (wI s9 139 93 0) (fun s10 es10 => ?_)
            replace H := H s10 es10
            refine s_putf (nx := 73) hO rfl rfl (hs_o12 kc139) (Nat.le_of_ble_eq_true rfl) (by rw [hty]; rfl) (by rw [hty]; rfl) pX12_93 rfl ?_
            refine xEx.at (up_oI12 kc139 es10) ?_
            refine s_aload_n (nx := 74) hO rfl rfl rfl ?_
            refine s_iconst (x := 0) (nx := 75) hO rfl (by decide) rfl ?_
            refine goV (wI s10 139 94 0) (fun s11 es11 => ?_)
            replace H := H s11 es11
            refine s_putf (nx := 78) hO rfl rfl (hs_o12 kc139) (Nat.le_of_ble_eq_true rfl) (by rw [hty]; rfl) (by rw [hty]; rfl) pX12_94 rfl ?_
            refine xEx.at (up_oI12 kc139 es11) ?_
            refine s_aload_n (nx := 79) hO rfl rfl rfl ?_
            refine s_iconst (x := 0) (nx := 80) hO rfl (by decide) rfl ?_
            refine goV (wI s11 139 95 0) (fun s12 es12 => ?_)
            replace H := H s12 es12
            refine s_putf (nx := 83) hO rfl rfl (hs_o12 kc139) (Nat.le_of_ble_eq_true rfl) (by rw [hty]; rfl) (by rw [hty]; rfl) pX12_95 rfl ?_
            refine xEx.at (up_oI12 kc139 es12) ?_
            refine s_aload_n (nx := 84) hO rfl rfl rfl ?_
            refine s_iconst (x := 0) (nx := 85) hO rfl (by decide) rfl ?_
            refine goV (wI s12 139 105 0) (fun s13 es13 => ?_)
            replace H := H s13 es13
            refine s_putf (nx := 88) hO rfl rfl (hs_o12 kc139) (Nat.le_of_ble_eq_true rfl) (by rw [hty]; rfl) (by rw [hty]; rfl) pX12_105 rfl ?_
            refine xEx.at (up_oI12 kc139 es13) ?_
            refine s_aload_n (nx := 89) hO rfl rfl rfl ?_
            refine s_getf (v := .ref (q_b G + 210)) (nx := 92) hO rfl rfl (hs_o12 kc139) rfl rfl ?_
            refine s_iconst (x := 0) (nx := 93) hO rfl (by decide) rfl ?_
            refine s_iconst (x := 0) (nx := 94) hO rfl (by decide) rfl ?_
            obtain ⟨b14, H⟩ := H
            refine goV (wI s13 210 (ix 0) 0) (fun s15 es15 => ?_)
            replace H := H s15 es15
            refine s_iast (nx := 95) hO rfl (hs_I kc210) b14 rfl ?_
            refine xEx.at (up_I kc210 es15) ?_
            refine s_aload_n (nx := 96) hO rfl rfl rfl ?_
            refine s_iconst (x := 1) (nx := 97) hO rfl (by decide) rfl ?_
            refine goV (wI s15 139 97 1) (fun s16 es16 => ?_)
            replace H := H s16 es16
            refine s_putf (nx := 100) hO rfl rfl (hs_o12 kc139) (Nat.le_of_ble_eq_true rfl) (by rw [hty]; rfl) (by rw [hty]; rfl) pX12_97 rfl ?_
            refine xEx.at (up_oI12 kc139 es16) ?_
            refine s_iconst (x := 0) (nx := 101) hO rfl (by decide) rfl ?_
            refine goK (H (fun (x17 : Int32) (s18 : yS) => xEx G mX12_runIt 102 [(0, .ref (q_b G + 139)), (2, .int v2), (3, .int x17)] [] (hS G s18) z 0 0 (yQi G z Q)) (fun x17 s18 H => ?_)) (fun H => ?_)
            · show xEx G mX12_runIt 102 [(0, .ref (q_b G + 139)), (2, .int v2), (3, .int x17)] [] (hS G s18) z 0 0 (yQi G z Q)
              refine s_iload_n (nx := 103) hO rfl rfl rfl ?_
              refine s_bipush (x := (nI 6)) (nx := 105) hO rfl (by decide) rfl ?_
              refine s_icmp_ge (nx := 108) hO rfl rfl (fun c105 => ?_) (fun c105 => ?_)
              · replace H := H.1 c105
                refine s_aload_n (nx := 122) hO rfl rfl rfl ?_
                refine s_iconst (x := 0) (nx := 123) hO rfl (by decide) rfl ?_
                refine goV (wI s18 139 111 0) (fun s19 es19 => ?_)
                replace H := H s19 es19
                refine s_putf (nx := 126) hO rfl rfl (hs_o12 kc139) (Nat.le_of_ble_eq_true rfl) (by rw [hty]; rfl) (by rw [hty]; rfl) pX12_111 rfl ?_
                refine xEx.at (up_oI12 kc139 es19) ?_
                refine s_aload_n (nx := 127) hO rfl rfl rfl ?_
                refine s_iconst (x := 0) (nx := 128) hO rfl (by decide) rfl ?_
                refine s_callV [.int 0] (ci := 12) (F := TX12) (N := 116) (nx := 131) hO rfl kX12_runIt_649 (by rw [hcl]; rfl) (hs_o12 kc139) (w_X12_enter hG H) rfl rfl (Nat.le_of_ble_eq_true rfl) (Nat.zero_le _) (Nat.zero_le _) rfl (k_Qv (fun s20 H => ?_))
                refine s_aload_n (nx := 132) hO rfl rfl rfl ?_
                refine s_iconst (x := 1) (nx := 133) hO rfl (by decide) rfl ?_
                refine goK (H (fun (s21 : yS) => xEx G mX12_runIt 136 [(0, .ref (q_b G + 139)), (2, .int v2)] [] (hS G s21) z 0 0 (yQi G z Q)) (fun s21 H => ?_)) (fun H => ?_)
                · show xEx G mX12_runIt 136 [(0, .ref (q_b G + 139)), (2, .int v2)] [] (hS G s21) z 0 0 (yQi G z Q)
                  refine s_aload_n (nx := 137) hO rfl rfl rfl ?_
                  refine s_getf (v := .int (sI s21 139 111)) (nx := 140) hO rfl rfl (hs_o12 kc139) rfl rfl ?_
                  refine s_if_le (nx := 143) hO rfl rfl (fun c140 => ?_) (fun c140 => ?_)
                  · replace H := H.1 c140
                    refine s_aload_n (nx := 234) hO rfl rfl rfl ?_
                    refine s_iconst (x := 0) (nx := 235) hO rfl (by decide) rfl ?_
                    refine goV (wI s21 139 111 0) (fun s22 es22 => ?_)
                    replace H := H s22 es22
                    refine s_putf (nx := 238) hO rfl rfl (hs_o12 kc139) (Nat.le_of_ble_eq_true rfl) (by rw [hty]; rfl) (by rw [hty]; rfl) pX12_111 rfl ?_
                    refine xEx.at (up_oI12 kc139 es22) ?_
                    refine s_aload_n (nx := 239) hO rfl rfl rfl ?_
                    refine s_getf (v := .int (sI s22 139 90)) (nx := 242) hO rfl rfl (hs_o12 kc139) rfl rfl ?_
                    exact s_iret hO rfl rfl rfl ⟨rfl, _, _, rfl, rfl, H⟩
                  · replace H := H.2 c140
                    refine s_aload_n (nx := 144) hO rfl rfl rfl ?_
                    refine s_getf (v := .int (sI s21 139 92)) (nx := 147) hO rfl rfl (hs_o12 kc139) rfl rfl ?_
                    refine s_iload_n (nx := 148) hO rfl rfl rfl ?_
                    refine s_icmp_ge (nx := 151) hO rfl rfl (fun c148 => ?_) (fun c148 => ?_)
                    · replace H := H.1 c148
                      refine s_aload_n (nx := 234) hO rfl rfl rfl ?_
                      refine s_iconst (x := 0) (nx := 235) hO rfl (by decide) rfl ?_
                      refine goV (wI s21 139 111 0) (fun s23 es23 => ?_)
                      replace H := H s23 es23
                      refine s_putf (nx := 238) hO rfl rfl (hs_o12 kc139) (Nat.le_of_ble_eq_true rfl) (by rw [hty]; rfl) (by rw [hty]; rfl) pX12_111 rfl ?_
                      refine xEx.at (up_oI12 kc139 es23) ?_
                      refine s_aload_n (nx := 239) hO rfl rfl rfl ?_
                      refine s_getf (v := .int (sI s23 139 90)) (nx := 242) hO rfl rfl (hs_o12 kc139) rfl rfl ?_
                      exact s_iret hO rfl rfl rfl ⟨rfl, _, _, rfl, rfl, H⟩
                    · replace H := H.2 c148
                      refine s_aload_n (nx := 152) hO rfl rfl rfl ?_
                      refine s_getf (v := .ref (q_b G + 186)) (nx := 155) hO rfl rfl (hs_o12 kc139) rfl rfl ?_
                      refine s_aload_n (nx := 156) hO rfl rfl rfl ?_
                      refine s_callV [] (ci := 12) (F := TX12) (N := 116) (nx := 159) hO rfl kX12_runIt_692 (by rw [hcl]; rfl) (hs_o12 kc139) (w_X12_here hG H) rfl rfl (Nat.le_of_ble_eq_true rfl) (Nat.zero_le _) (Nat.zero_le _) rfl (k_Pi (fun r24 H => ?_))
                      obtain ⟨b25, H⟩ := H
                      refine s_iald (nx := 160) hO rfl (hs_I kc186) b25 rfl ?_
                      refine goV ((sI s21 186 (ix r24))) (fun x26 ex26 => ?_)
                      replace H := H x26 ex26
                      refine e_istore_n (nx := 161) (l' := [(3, .int x26), (0, .ref (q_b G + 139)), (2, .int v2)]) ex26 hO rfl (by decide) rfl rfl ?_
                      refine s_aload_n (nx := 162) hO rfl rfl rfl ?_
                      refine s_getf (v := .ref (q_b G + 187)) (nx := 165) hO rfl rfl (hs_o12 kc139) rfl rfl ?_
                      refine s_aload_n (nx := 166) hO rfl rfl rfl ?_
                      refine s_callV [] (ci := 12) (F := TX12) (N := 116) (nx := 169) hO rfl kX12_runIt_692 (by rw [hcl]; rfl) (hs_o12 kc139) (w_X12_here hG H) rfl rfl (Nat.le_of_ble_eq_true rfl) (Nat.zero_le _) (Nat.zero_le _) rfl (k_Pi (fun r27 H => ?_))
                      obtain ⟨b28, H⟩ := H
                      refine s_iald (nx := 170) hO rfl (hs_I kc187) b28 rfl ?_
                      refine goV ((sI s21 187 (ix r27))) (fun x29 ex29 => ?_)
                      replace H := H x29 ex29
                      refine e_istore (nx := 172) (l' := [(4, .int x29), (3, .int x26), (0, .ref (q_b G + 139)), (2, .int v2)]) ex29 hO rfl (by decide) rfl rfl ?_
                      refine s_iload_n (nx := 173) hO rfl rfl rfl ?_
                      refine s_bipush (x := (nI 29)) (nx := 175) hO rfl (by decide) rfl ?_
                      refine goK (H (fun (s30 : yS) => xEx G mX12_runIt 204 [(0, .ref (q_b G + 139)), (2, .int v2)] [] (hS G s30) z 0 0 (yQi G z Q)) (fun s30 H => ?_)) (fun H => ?_)
                      · show xEx G mX12_runIt 204 [(0, .ref (q_b G + 139)), (2, .int v2)] [] (hS G s30) z 0 0 (yQi G z Q)
                        refine s_aload_n (nx := 205) hO rfl rfl rfl ?_
                        refine s_aload_n (nx := 206) hO rfl rfl rfl ?_
                        refine s_getf (v := .int (sI s30 139 111)) (nx := 209) hO rfl rfl (hs_o12 kc139) rfl rfl ?_
                        refine s_aload_n (nx := 210) hO rfl rfl rfl ?_
                        refine s_getf (v := .int (sI s30 139 96)) (nx := 213) hO rfl rfl (hs_o12 kc139) rfl rfl ?_
                        refine goK (H (fun (y31 : Int32) => xEx G mX12_runIt 227 [(0, .ref (q_b G + 139)), (2, .int v2)] [.int y31, .ref (q_b G + 139)] (hS G s30) z 0 0 (yQi G z Q)) (fun y31 H => ?_)) (fun H => ?_)
                        · show xEx G mX12_runIt 227 [(0, .ref (q_b G + 139)), (2, .int v2)] [.int y31, .ref (q_b G + 139)] (hS G s30) z 0 0 (yQi G z Q)
                          refine goV (wI s30 139 96 y31) (fun s32 es32 => ?_)
                          replace H := H s32 es32
                          refine s_putf (nx := 230) hO rfl rfl (hs_o12 kc139) (Nat.le_of_ble_eq_true rfl) (by rw [hty]; rfl) (by rw [hty]; rfl) pX12_96 rfl ?_
                          refine xEx.at (up_oI12 kc139 es32) ?_
                          refine s_goto hO rfl ?_
                          exact xEx.loc (x_sub1 (List.Mem.head _) (x_sub1 (List.Mem.tail _ (List.Mem.head _)) x_sub0)) H
                        refine s_icmp_le (nx := 216) hO rfl rfl (fun c213 => ?_) (fun c213 => ?_)
                        · replace H := H.1 c213
                          refine s_aload_n (nx := 224) hO rfl rfl rfl ?_
                          refine s_getf (v := .int (sI s30 139 96)) (nx := 227) hO rfl rfl (hs_o12 kc139) rfl rfl ?_
                          exact xEx.loc (x_sub1 (List.Mem.head _) (x_sub1 (List.Mem.tail _ (List.Mem.head _)) x_sub0)) H
                        · replace H := H.2 c213
                          refine s_aload_n (nx := 217) hO rfl rfl rfl ?_
                          refine s_getf (v := .int (sI s30 139 111)) (nx := 220) hO rfl rfl (hs_o12 kc139) rfl rfl ?_
                          refine s_goto hO rfl ?_
                          exact xEx.loc (x_sub1 (List.Mem.head _) (x_sub1 (List.Mem.tail _ (List.Mem.head _)) x_sub0)) H
                      refine s_icmp_ne (nx := 178) hO rfl rfl (fun c175 => ?_) (fun c175 => ?_)
                      · replace H := H.1 c175
                        refine s_aload_n (nx := 188) hO rfl rfl rfl ?_
                        refine s_dup (nx := 189) hO rfl rfl rfl ?_
                        refine s_getf (v := .int (sI s21 139 92)) (nx := 192) hO rfl rfl (hs_o12 kc139) rfl rfl ?_
                        refine s_iconst (x := 1) (nx := 193) hO rfl (by decide) rfl ?_
                        refine s_iadd (nx := 194) hO rfl rfl ?_
                        refine goV (wI s21 139 92 ((sI s21 139 92) + 1)) (fun s33 es33 => ?_)
                        replace H := H s33 es33
                        refine s_putf (nx := 197) hO rfl rfl (hs_o12 kc139) (Nat.le_of_ble_eq_true rfl) (by rw [hty]; rfl) (by rw [hty]; rfl) pX12_92 rfl ?_
                        refine xEx.at (up_oI12 kc139 es33) ?_
                        refine s_aload_n (nx := 198) hO rfl rfl rfl ?_
                        refine s_iload_n (nx := 199) hO rfl rfl rfl ?_
                        refine s_iload (nx := 201) hO rfl rfl rfl ?_
                        refine s_callV [.int x26, .int x29] (ci := 12) (F := TX12) (N := 116) (nx := 204) hO rfl kX12_runIt_698 (by rw [hcl]; rfl) (hs_o12 kc139) (w_X12_perform hG H) rfl rfl (Nat.le_of_ble_eq_true rfl) (Nat.zero_le _) (Nat.zero_le _) rfl (k_Qv (fun s34 H => ?_))
                        exact xEx.loc (x_sub1 (List.Mem.tail _ (List.Mem.tail _ (List.Mem.head _))) (x_sub1 (List.Mem.tail _ (List.Mem.tail _ (List.Mem.tail _ (List.Mem.head _)))) x_sub0)) H
                      · replace H := H.2 c175
                        refine s_aload_n (nx := 179) hO rfl rfl rfl ?_
                        refine s_iload (nx := 181) hO rfl rfl rfl ?_
                        refine s_callV [.int x29] (ci := 12) (F := TX12) (N := 116) (nx := 184) hO rfl kX12_runIt_695 (by rw [hcl]; rfl) (hs_o12 kc139) (w_X12_guard hG H) rfl rfl (Nat.le_of_ble_eq_true rfl) (Nat.zero_le _) (Nat.zero_le _) rfl (k_Qv (fun s35 H => ?_))
                        refine s_goto hO rfl ?_
                        exact xEx.loc (x_sub1 (List.Mem.tail _ (List.Mem.tail _ (List.Mem.head _))) (x_sub1 (List.Mem.tail _ (List.Mem.tail _ (List.Mem.tail _ (List.Mem.head _)))) x_sub0)) H
                refine goV (wI s20 139 96 1) (fun s36 es36 => ?_)
                replace H := H s36 es36
                refine s_putf (nx := 136) hO rfl rfl (hs_o12 kc139) (Nat.le_of_ble_eq_true rfl) (by rw [hty]; rfl) (by rw [hty]; rfl) pX12_96 rfl ?_
                refine xEx.at (up_oI12 kc139 es36) ?_
                exact xEx.loc (x_sub1 (List.Mem.head _) (x_sub1 (List.Mem.tail _ (List.Mem.head _)) x_sub0)) H
              · replace H := H.2 c105
                refine s_aload_n (nx := 109) hO rfl rfl rfl ?_
                refine s_getf (v := .ref (q_b G + 205)) (nx := 112) hO rfl rfl (hs_o12 kc139) rfl rfl ?_
                refine s_iload_n (nx := 113) hO rfl rfl rfl ?_
                refine s_iconst (x := 0) (nx := 114) hO rfl (by decide) rfl ?_
                obtain ⟨b37, H⟩ := H
                refine goV (wI s18 205 (ix x17) 0) (fun s38 es38 => ?_)
                replace H := H s38 es38
                refine s_iast (nx := 115) hO rfl (hs_I kc205) b37 rfl ?_
                refine xEx.at (up_I kc205 es38) ?_
                refine goV ((x17 + 1)) (fun x39 ex39 => ?_)
                replace H := H x39 ex39
                refine e_iinc (nx := 118) (l' := [(3, .int x39), (0, .ref (q_b G + 139)), (2, .int v2)]) ex39 hO rfl (by decide) rfl rfl rfl rfl ?_
                refine s_goto hO rfl ?_
                exact xEx.loc (x_sub1 (List.Mem.tail _ (List.Mem.head _)) (x_sub1 (List.Mem.tail _ (List.Mem.tail _ (List.Mem.head _))) (x_sub1 (List.Mem.head _) x_sub0))) H
            refine s_istore_n (nx := 102) (l' := [(3, .int 0), (0, .ref (q_b G + 139)), (2, .int v2)]) hO rfl (by decide) rfl rfl ?_
            exact xEx.loc (x_sub1 (List.Mem.tail _ (List.Mem.head _)) (x_sub1 (List.Mem.tail _ (List.Mem.tail _ (List.Mem.head _))) (x_sub1 (List.Mem.head _) x_sub0))) H
          refine s_if_eq (nx := 40) hO rfl rfl (fun c37 => ?_) (fun c37 => ?_)
          · replace H := H.1 c37
            refine s_iconst (x := 0) (nx := 45) hO rfl (by decide) rfl ?_
            exact xEx.loc (x_sub1 (List.Mem.head _) (x_sub1 (List.Mem.tail _ (List.Mem.tail _ (List.Mem.head _))) x_sub0)) H
          · replace H := H.2 c37
            refine s_iconst (x := 1) (nx := 41) hO rfl (by decide) rfl ?_
            refine s_goto hO rfl ?_
            exact xEx.loc (x_sub1 (List.Mem.head _) (x_sub1 (List.Mem.tail _ (List.Mem.tail _ (List.Mem.head _))) x_sub0)) H
        · replace H := H.2 c30
          refine s_iconst (x := (-1)) (nx := 34) hO rfl (by decide) rfl ?_
          exact s_iret hO rfl rfl rfl ⟨rfl, _, _, rfl, rfl, H⟩
  refine s_if_eq (nx := 13) hO rfl rfl (fun c10 => ?_) (fun c10 => ?_)
  · replace H := H.1 c10
    refine s_iconst (x := 0) (nx := 18) hO rfl (by decide) rfl ?_
    exact xEx.loc (x_sub1 (List.Mem.head _) (x_sub1 (List.Mem.tail _ (List.Mem.head _)) (x_sub1 (List.Mem.tail _ (List.Mem.tail _ (List.Mem.head _))) x_sub0))) H
  · replace H := H.2 c10
    refine s_iconst (x := 1) (nx := 14) hO rfl (by decide) rfl ?_
    refine s_goto hO rfl ?_
    exact xEx.loc (x_sub1 (List.Mem.head _) (x_sub1 (List.Mem.tail _ (List.Mem.head _)) (x_sub1 (List.Mem.tail _ (List.Mem.tail _ (List.Mem.head _))) x_sub0))) H
def W_X12_endOf (s : yS) (v1 : Int32) (Q : Int32 → yS → Prop) : Prop :=
 ∀ s1 : yS, s1 = wI s 139 0 0 → 
 ((¬ (sI s1 139 89) = 0 → ((((v1).toInt < 0 ∨ 7 < (v1).toInt) → Q (-1) s1)
  ∧ ((v1).toInt = 0 → Q (sI s1 139 90) s1)
  ∧ ((v1).toInt = 1 → Q (sI s1 139 91) s1)
  ∧ ((v1).toInt = 2 → Q (sI s1 139 92) s1)
  ∧ ((v1).toInt = 3 → Q (sI s1 139 93) s1)
  ∧ ((v1).toInt = 4 → Q (sI s1 139 94) s1)
  ∧ ((v1).toInt = 5 → W_X12_indexOf s1 (sI s1 139 97) 
    (fun r2 => vp_in r2 64 ∧ 
    Q (sI s1 173 (ix r2)) s1))
  ∧ ((v1).toInt = 6 → Q (sI s1 139 95) s1)
  ∧ ((v1).toInt = 7 → Q (sI s1 139 96) s1)))
 ∧ ((sI s1 139 89) = 0 → Q (-1) s1))
set_option maxRecDepth 100000 in
set_option maxHeartbeats 40000000 in
theorem w_X12_endOf {G : xG} (hG : yG G) {z : Nat} {s : yS} {v1 : Int32} {Q : Int32 → yS → Prop} (H : W_X12_endOf s v1 Q) : xC G mX12_endOf [.ref (q_b G + 139), .int v1] (hS G s) z 0 0 (yQi G z Q) := by
  have hW := hG.1
  have hcl := hG.2.1
  have hty := hG.2.2.1
  have hO : xO G mX12_endOf tbX12_endOf ptX12_endOf := ⟨tkX12_endOf, pkX12_endOf hcl⟩
  unfold W_X12_endOf at H
  refine xC.of hW (by decide) rfl (Nat.le_of_ble_eq_true rfl) ?_
  refine s_aload_n (nx := 1) hO rfl rfl rfl ?_
  refine s_iconst (x := 0) (nx := 2) hO rfl (by decide) rfl ?_
  refine goV (wI s 139 0 0) (fun s1 es1 => ?_)
  replace H := H s1 es1
  refine s_putf (nx := 5) hO rfl rfl (hs_o12 kc139) (Nat.le_of_ble_eq_true rfl) (by rw [hty]; rfl) (by rw [hty]; rfl) pX12_0 rfl ?_
  refine xEx.at (up_oI12 kc139 es1) ?_
  refine s_aload_n (nx := 6) hO rfl rfl rfl ?_
  refine s_getf (v := .int (sI s1 139 89)) (nx := 9) hO rfl rfl (hs_o12 kc139) rfl rfl ?_
  refine s_if_ne (nx := 12) hO rfl rfl (fun c9 => ?_) (fun c9 => ?_)
  · replace H := H.1 c9
    refine s_iload_n (nx := 15) hO rfl rfl rfl ?_
    refine s_switch hO rfl (fun c15 => ?_) (fun dc15 fc15 => ?_)
    · replace H := H.1 c15
      refine s_iconst (x := (-1)) (nx := 110) hO rfl (by decide) rfl ?_
      exact s_iret hO rfl rfl rfl ⟨rfl, _, _, rfl, rfl, H⟩
    · obtain c15 | c15 | c15 | c15 | c15 | c15 | c15 | c15 : (v1).toInt = 0 ∨ (v1).toInt = 1 ∨ (v1).toInt = 2 ∨ (v1).toInt = 3 ∨ (v1).toInt = 4 ∨ (v1).toInt = 5 ∨ (v1).toInt = 6 ∨ (v1).toInt = 7 := by omega
      · replace H := H.2.1 c15
        refine ⟨60, by rw [c15]; rfl, ?_⟩
        refine s_aload_n (nx := 61) hO rfl rfl rfl ?_
        refine s_getf (v := .int (sI s1 139 90)) (nx := 64) hO rfl rfl (hs_o12 kc139) rfl rfl ?_
        exact s_iret hO rfl rfl rfl ⟨rfl, _, _, rfl, rfl, H⟩
      · replace H := H.2.2.1 c15
        refine ⟨65, by rw [c15]; rfl, ?_⟩
        refine s_aload_n (nx := 66) hO rfl rfl rfl ?_
        refine s_getf (v := .int (sI s1 139 91)) (nx := 69) hO rfl rfl (hs_o12 kc139) rfl rfl ?_
        exact s_iret hO rfl rfl rfl ⟨rfl, _, _, rfl, rfl, H⟩
      · replace H := H.2.2.2.1 c15
        refine ⟨70, by rw [c15]; rfl, ?_⟩
        refine s_aload_n (nx := 71) hO rfl rfl rfl ?_
        refine s_getf (v := .int (sI s1 139 92)) (nx := 74) hO rfl rfl (hs_o12 kc139) rfl rfl ?_
        exact s_iret hO rfl rfl rfl ⟨rfl, _, _, rfl, rfl, H⟩
      · replace H := H.2.2.2.2.1 c15
        refine ⟨75, by rw [c15]; rfl, ?_⟩
        refine s_aload_n (nx := 76) hO rfl rfl rfl ?_
        refine s_getf (v := .int (sI s1 139 93)) (nx := 79) hO rfl rfl (hs_o12 kc139) rfl rfl ?_
        exact s_iret hO rfl rfl rfl ⟨rfl, _, _, rfl, rfl, H⟩
      · replace H := H.2.2.2.2.2.1 c15
        refine ⟨80, by rw [c15]; rfl, ?_⟩
        refine s_aload_n (nx := 81) hO rfl rfl rfl ?_
        refine s_getf (v := .int (sI s1 139 94)) (nx := 84) hO rfl rfl (hs_o12 kc139) rfl rfl ?_
        exact s_iret hO rfl rfl rfl ⟨rfl, _, _, rfl, rfl, H⟩
      · replace H := H.2.2.2.2.2.2.1 c15
        refine ⟨85, by rw [c15]; rfl, ?_⟩
        refine s_aload_n (nx := 86) hO rfl rfl rfl ?_
        refine s_getf (v := .ref (q_b G + 173)) (nx := 89) hO rfl rfl (hs_o12 kc139) rfl rfl ?_
        refine s_aload_n (nx := 90) hO rfl rfl rfl ?_
        refine s_aload_n (nx := 91) hO rfl rfl rfl ?_
        refine s_getf (v := .int (sI s1 139 97)) (nx := 94) hO rfl rfl (hs_o12 kc139) rfl rfl ?_
        refine s_callV [.int (sI s1 139 97)] (ci := 12) (F := TX12) (N := 116) (nx := 97) hO rfl kX12_endOf_484 (by rw [hcl]; rfl) (hs_o12 kc139) (w_X12_indexOf hG H) rfl rfl (Nat.le_of_ble_eq_true rfl) (Nat.zero_le _) (Nat.zero_le _) rfl (k_Pi (fun r2 H => ?_))
        obtain ⟨b3, H⟩ := H
        refine s_iald (nx := 98) hO rfl (hs_I kc173) b3 rfl ?_
        exact s_iret hO rfl rfl rfl ⟨rfl, _, _, rfl, rfl, H⟩
      · replace H := H.2.2.2.2.2.2.2.1 c15
        refine ⟨99, by rw [c15]; rfl, ?_⟩
        refine s_aload_n (nx := 100) hO rfl rfl rfl ?_
        refine s_getf (v := .int (sI s1 139 95)) (nx := 103) hO rfl rfl (hs_o12 kc139) rfl rfl ?_
        exact s_iret hO rfl rfl rfl ⟨rfl, _, _, rfl, rfl, H⟩
      · replace H := H.2.2.2.2.2.2.2.2 c15
        refine ⟨104, by rw [c15]; rfl, ?_⟩
        refine s_aload_n (nx := 105) hO rfl rfl rfl ?_
        refine s_getf (v := .int (sI s1 139 96)) (nx := 108) hO rfl rfl (hs_o12 kc139) rfl rfl ?_
        exact s_iret hO rfl rfl rfl ⟨rfl, _, _, rfl, rfl, H⟩
  · replace H := H.2 c9
    refine s_iconst (x := (-1)) (nx := 13) hO rfl (by decide) rfl ?_
    exact s_iret hO rfl rfl rfl ⟨rfl, _, _, rfl, rfl, H⟩
def W_X12_traceAt (s : yS) (v1 : Int32) (v2 : Int32) (Q : Int32 → yS → Prop) : Prop :=
 ∀ s1 : yS, s1 = wI s 139 0 0 → 
 (((sI s1 139 89) = 0 → Q 0 s1)
 ∧ (¬ (sI s1 139 89) = 0 → ((v1 < 0 → Q 0 s1)
  ∧ (¬ v1 < 0 → (((sI s1 139 93) ≤ v1 → Q 0 s1)
   ∧ (¬ (sI s1 139 93) ≤ v1 → (((nI 255) < v1 → Q 0 s1)
    ∧ (¬ (nI 255) < v1 → ((v2 < 0 → Q 0 s1)
     ∧ (¬ v2 < 0 → ((v2 ≤ (nI 4) → vp_in (((nI 5) * v1) + v2) 1280 ∧ 
       Q (sI s1 207 (ix (((nI 5) * v1) + v2))) s1)
      ∧ (¬ v2 ≤ (nI 4) → Q 0 s1))))))))))))
set_option maxRecDepth 100000 in
set_option maxHeartbeats 40000000 in
theorem w_X12_traceAt {G : xG} (hG : yG G) {z : Nat} {s : yS} {v1 : Int32} {v2 : Int32} {Q : Int32 → yS → Prop} (H : W_X12_traceAt s v1 v2 Q) : xC G mX12_traceAt [.ref (q_b G + 139), .int v1, .int v2] (hS G s) z 0 0 (yQi G z Q) := by
  have hW := hG.1
  have hcl := hG.2.1
  have hty := hG.2.2.1
  have hO : xO G mX12_traceAt tbX12_traceAt ptX12_traceAt := ⟨tkX12_traceAt, pkX12_traceAt hcl⟩
  unfold W_X12_traceAt at H
  refine xC.of hW (by decide) rfl (Nat.le_of_ble_eq_true rfl) ?_
  refine s_aload_n (nx := 1) hO rfl rfl rfl ?_
  refine s_iconst (x := 0) (nx := 2) hO rfl (by decide) rfl ?_
  refine goV (wI s 139 0 0) (fun s1 es1 => ?_)
  replace H := H s1 es1
  refine s_putf (nx := 5) hO rfl rfl (hs_o12 kc139) (Nat.le_of_ble_eq_true rfl) (by rw [hty]; rfl) (by rw [hty]; rfl) pX12_0 rfl ?_
  refine xEx.at (up_oI12 kc139 es1) ?_
  refine s_aload_n (nx := 6) hO rfl rfl rfl ?_
  refine s_getf (v := .int (sI s1 139 89)) (nx := 9) hO rfl rfl (hs_o12 kc139) rfl rfl ?_
  refine s_if_eq (nx := 12) hO rfl rfl (fun c9 => ?_) (fun c9 => ?_)
  · replace H := H.1 c9
    refine s_iconst (x := 0) (nx := 41) hO rfl (by decide) rfl ?_
    refine s_goto hO rfl ?_
    exact s_iret hO rfl rfl rfl ⟨rfl, _, _, rfl, rfl, H⟩
  · replace H := H.2 c9
    refine s_iload_n (nx := 13) hO rfl rfl rfl ?_
    refine s_if_lt (nx := 16) hO rfl rfl (fun c13 => ?_) (fun c13 => ?_)
    · replace H := H.1 c13
      refine s_iconst (x := 0) (nx := 41) hO rfl (by decide) rfl ?_
      refine s_goto hO rfl ?_
      exact s_iret hO rfl rfl rfl ⟨rfl, _, _, rfl, rfl, H⟩
    · replace H := H.2 c13
      refine s_iload_n (nx := 17) hO rfl rfl rfl ?_
      refine s_aload_n (nx := 18) hO rfl rfl rfl ?_
      refine s_getf (v := .int (sI s1 139 93)) (nx := 21) hO rfl rfl (hs_o12 kc139) rfl rfl ?_
      refine s_icmp_ge (nx := 24) hO rfl rfl (fun c21 => ?_) (fun c21 => ?_)
      · replace H := H.1 c21
        refine s_iconst (x := 0) (nx := 41) hO rfl (by decide) rfl ?_
        refine s_goto hO rfl ?_
        exact s_iret hO rfl rfl rfl ⟨rfl, _, _, rfl, rfl, H⟩
      · replace H := H.2 c21
        refine s_iload_n (nx := 25) hO rfl rfl rfl ?_
        refine s_sipush (x := (nI 255)) (nx := 28) hO rfl (by decide) rfl ?_
        refine s_icmp_gt (nx := 31) hO rfl rfl (fun c28 => ?_) (fun c28 => ?_)
        · replace H := H.1 c28
          refine s_iconst (x := 0) (nx := 41) hO rfl (by decide) rfl ?_
          refine s_goto hO rfl ?_
          exact s_iret hO rfl rfl rfl ⟨rfl, _, _, rfl, rfl, H⟩
        · replace H := H.2 c28
          refine s_iload_n (nx := 32) hO rfl rfl rfl ?_
          refine s_if_lt (nx := 35) hO rfl rfl (fun c32 => ?_) (fun c32 => ?_)
          · replace H := H.1 c32
            refine s_iconst (x := 0) (nx := 41) hO rfl (by decide) rfl ?_
            refine s_goto hO rfl ?_
            exact s_iret hO rfl rfl rfl ⟨rfl, _, _, rfl, rfl, H⟩
          · replace H := H.2 c32
            refine s_iload_n (nx := 36) hO rfl rfl rfl ?_
            refine s_iconst (x := (nI 4)) (nx := 37) hO rfl (by decide) rfl ?_
            refine s_icmp_le (nx := 40) hO rfl rfl (fun c37 => ?_) (fun c37 => ?_)
            · replace H := H.1 c37
              refine s_aload_n (nx := 45) hO rfl rfl rfl ?_
              refine s_getf (v := .ref (q_b G + 207)) (nx := 48) hO rfl rfl (hs_o12 kc139) rfl rfl ?_
              refine s_iconst (x := (nI 5)) (nx := 49) hO rfl (by decide) rfl ?_
              refine s_iload_n (nx := 50) hO rfl rfl rfl ?_
              refine s_imul (nx := 51) hO rfl rfl ?_
              refine s_iload_n (nx := 52) hO rfl rfl rfl ?_
              refine s_iadd (nx := 53) hO rfl rfl ?_
              obtain ⟨b2, H⟩ := H
              refine s_iald (nx := 54) hO rfl (hs_I kc207) b2 rfl ?_
              exact s_iret hO rfl rfl rfl ⟨rfl, _, _, rfl, rfl, H⟩
            · replace H := H.2 c37
              refine s_iconst (x := 0) (nx := 41) hO rfl (by decide) rfl ?_
              refine s_goto hO rfl ?_
              exact s_iret hO rfl rfl rfl ⟨rfl, _, _, rfl, rfl, H⟩
def W_X12_isThere (s : yS) (v1 : Int32) (v2 : Int32) (v3 : Int32) (Q : Int32 → Prop) : Prop :=
 vp_in v1 3 ∧ 
 (((sI s 177 (ix v1)) = 0 → Q 0)
 ∧ (¬ (sI s 177 (ix v1)) = 0 → ((v2 < 0 → Q 0)
  ∧ (¬ v2 < 0 → vp_in v1 3 ∧ 
   (((sI s 178 (ix v1)) ≤ v2 → Q 0)
   ∧ (¬ (sI s 178 (ix v1)) ≤ v2 → ((v3 < 0 → Q 0)
    ∧ (¬ v3 < 0 → vp_in (((nI 12) * v1) + v2) 36 ∧ 
     (((sI s 184 (ix (((nI 12) * v1) + v2))) ≤ v3 → Q 0)
     ∧ (¬ (sI s 184 (ix (((nI 12) * v1) + v2))) ≤ v3 → Q 1))))))))))
set_option maxRecDepth 100000 in
set_option maxHeartbeats 40000000 in
theorem w_X12_isThere {G : xG} (hG : yG G) {z : Nat} {s : yS} {v1 : Int32} {v2 : Int32} {v3 : Int32} {Q : Int32 → Prop} (H : W_X12_isThere s v1 v2 v3 Q) : xC G mX12_isThere [.ref (q_b G + 139), .int v1, .int v2, .int v3] (hS G s) z 0 0 (yPi G z s Q) := by
  have hW := hG.1
  have hcl := hG.2.1
  have hty := hG.2.2.1
  have hO : xO G mX12_isThere tbX12_isThere ptX12_isThere := ⟨tkX12_isThere, pkX12_isThere hcl⟩
  unfold W_X12_isThere at H
  refine xC.of hW (by decide) rfl (Nat.le_of_ble_eq_true rfl) ?_
  refine s_aload_n (nx := 1) hO rfl rfl rfl ?_
  refine s_getf (v := .ref (q_b G + 177)) (nx := 4) hO rfl rfl (hs_o12 kc139) rfl rfl ?_
  refine s_iload_n (nx := 5) hO rfl rfl rfl ?_
  obtain ⟨b1, H⟩ := H
  refine s_zald (nx := 6) hO rfl (hs_Z kc177) b1 rfl ?_
  refine s_if_eq (nx := 9) hO rfl rfl (fun c6 => ?_) (fun c6 => ?_)
  · replace H := H.1 c6
    refine s_iconst (x := 0) (nx := 47) hO rfl (by decide) rfl ?_
    exact s_iret hO rfl rfl rfl ⟨rfl, _, rfl, rfl, H⟩
  · replace H := H.2 c6
    refine s_iload_n (nx := 10) hO rfl rfl rfl ?_
    refine s_if_lt (nx := 13) hO rfl rfl (fun c10 => ?_) (fun c10 => ?_)
    · replace H := H.1 c10
      refine s_iconst (x := 0) (nx := 47) hO rfl (by decide) rfl ?_
      exact s_iret hO rfl rfl rfl ⟨rfl, _, rfl, rfl, H⟩
    · replace H := H.2 c10
      refine s_iload_n (nx := 14) hO rfl rfl rfl ?_
      refine s_aload_n (nx := 15) hO rfl rfl rfl ?_
      refine s_getf (v := .ref (q_b G + 178)) (nx := 18) hO rfl rfl (hs_o12 kc139) rfl rfl ?_
      refine s_iload_n (nx := 19) hO rfl rfl rfl ?_
      obtain ⟨b2, H⟩ := H
      refine s_iald (nx := 20) hO rfl (hs_I kc178) b2 rfl ?_
      refine s_icmp_ge (nx := 23) hO rfl rfl (fun c20 => ?_) (fun c20 => ?_)
      · replace H := H.1 c20
        refine s_iconst (x := 0) (nx := 47) hO rfl (by decide) rfl ?_
        exact s_iret hO rfl rfl rfl ⟨rfl, _, rfl, rfl, H⟩
      · replace H := H.2 c20
        refine s_iload_n (nx := 24) hO rfl rfl rfl ?_
        refine s_if_lt (nx := 27) hO rfl rfl (fun c24 => ?_) (fun c24 => ?_)
        · replace H := H.1 c24
          refine s_iconst (x := 0) (nx := 47) hO rfl (by decide) rfl ?_
          exact s_iret hO rfl rfl rfl ⟨rfl, _, rfl, rfl, H⟩
        · replace H := H.2 c24
          refine s_iload_n (nx := 28) hO rfl rfl rfl ?_
          refine s_aload_n (nx := 29) hO rfl rfl rfl ?_
          refine s_getf (v := .ref (q_b G + 184)) (nx := 32) hO rfl rfl (hs_o12 kc139) rfl rfl ?_
          refine s_bipush (x := (nI 12)) (nx := 34) hO rfl (by decide) rfl ?_
          refine s_iload_n (nx := 35) hO rfl rfl rfl ?_
          refine s_imul (nx := 36) hO rfl rfl ?_
          refine s_iload_n (nx := 37) hO rfl rfl rfl ?_
          refine s_iadd (nx := 38) hO rfl rfl ?_
          obtain ⟨b3, H⟩ := H
          refine s_iald (nx := 39) hO rfl (hs_I kc184) b3 rfl ?_
          refine s_icmp_ge (nx := 42) hO rfl rfl (fun c39 => ?_) (fun c39 => ?_)
          · replace H := H.1 c39
            refine s_iconst (x := 0) (nx := 47) hO rfl (by decide) rfl ?_
            exact s_iret hO rfl rfl rfl ⟨rfl, _, rfl, rfl, H⟩
          · replace H := H.2 c39
            refine s_iconst (x := 1) (nx := 43) hO rfl (by decide) rfl ?_
            refine s_goto hO rfl ?_
            exact s_iret hO rfl rfl rfl ⟨rfl, _, rfl, rfl, H⟩
def W_X12_codeOf (s : yS) (v1 : Int32) (v2 : Int32) (v3 : Int32) (v4 : Int32) (Q : Int32 → yS → Prop) : Prop :=
 ∀ s1 : yS, s1 = wI s 139 0 0 → 
 ∀ P14 : Int32 → Prop, (∀ (y2 : Int32), (W_X12_isThere s1 y2 v2 v3 
  (fun r3 => ((¬ r3 = 0 → ∀ x4 : Int32, x4 = ((((nI 4800) * y2) + ((nI 400) * v2)) + v3) → 
   ((((v4).toInt < 0 ∨ 5 < (v4).toInt) → Q 0 s1)
   ∧ ((v4).toInt = 0 → vp_in x4 14400 ∧ 
     Q (sI s1 186 (ix x4)) s1)
   ∧ ((v4).toInt = 1 → vp_in x4 14400 ∧ 
     Q (sI s1 187 (ix x4)) s1)
   ∧ ((v4).toInt = 2 → vp_in x4 14400 ∧ 
     Q (sI s1 193 (ix x4)) s1)
   ∧ ((v4).toInt = 3 → vp_in x4 14400 ∧ 
     Q (sI s1 194 (ix x4)) s1)
   ∧ ((v4).toInt = 4 → W_X12_isGuarded s1 y2 v2 v3 
     (fun r9 => ((r9 = 0 → Q 0 s1)
     ∧ (¬ r9 = 0 → Q 1 s1))))
   ∧ ((v4).toInt = 5 → W_X12_makeMay s1 y2 
     (fun s10 => W_X12_needs s10 y2 v2 v3 
     (fun r11 => ((r11 = 0 → Q 0 s10)
     ∧ (¬ r11 = 0 → Q 1 s10)))))))
  ∧ (r3 = 0 → Q 0 s1)))) → P14 y2) → 
 ((v1 = 0 → P14 0)
 ∧ (¬ v1 = 0 → P14 1))
set_option maxRecDepth 100000 in
set_option maxHeartbeats 40000000 in
theorem w_X12_codeOf {G : xG} (hG : yG G) {z : Nat} {s : yS} {v1 : Int32} {v2 : Int32} {v3 : Int32} {v4 : Int32} {Q : Int32 → yS → Prop} (H : W_X12_codeOf s v1 v2 v3 v4 Q) : xC G mX12_codeOf [.ref (q_b G + 139), .int v1, .int v2, .int v3, .int v4] (hS G s) z 0 0 (yQi G z Q) := by
  have hW := hG.1
  have hcl := hG.2.1
  have hty := hG.2.2.1
  have hO : xO G mX12_codeOf tbX12_codeOf ptX12_codeOf := ⟨tkX12_codeOf, pkX12_codeOf hcl⟩
  unfold W_X12_codeOf at H
  refine xC.of hW (by decide) rfl (Nat.le_of_ble_eq_true rfl) ?_
  refine s_aload_n (nx := 1) hO rfl rfl rfl ?_
  refine s_iconst (x := 0) (nx := 2) hO rfl (by decide) rfl ?_
  refine goV (wI s 139 0 0) (fun s1 es1 => ?_)
  replace H := H s1 es1
  refine s_putf (nx := 5) hO rfl rfl (hs_o12 kc139) (Nat.le_of_ble_eq_true rfl) (by rw [hty]; rfl) (by rw [hty]; rfl) pX12_0 rfl ?_
  refine xEx.at (up_oI12 kc139 es1) ?_
  refine s_iload_n (nx := 6) hO rfl rfl rfl ?_
  refine goK (H (fun (y2 : Int32) => xEx G mX12_codeOf 14 [(0, .ref (q_b G + 139)), (2, .int v2), (3, .int v3), (4, .int v4)] [.int y2] (hS G s1) z 0 0 (yQi G z Q)) (fun y2 H => ?_)) (fun H => ?_)
  · show xEx G mX12_codeOf 14 [(0, .ref (q_b G + 139)), (2, .int v2), (3, .int v3), (4, .int v4)] [.int y2] (hS G s1) z 0 0 (yQi G z Q)
    refine s_istore (nx := 16) (l' := [(5, .int y2), (0, .ref (q_b G + 139)), (2, .int v2), (3, .int v3), (4, .int v4)]) hO rfl (by decide) rfl rfl ?_
    refine s_aload_n (nx := 17) hO rfl rfl rfl ?_
    refine s_iload (nx := 19) hO rfl rfl rfl ?_
    refine s_iload_n (nx := 20) hO rfl rfl rfl ?_
    refine s_iload_n (nx := 21) hO rfl rfl rfl ?_
    refine s_callV [.int y2, .int v2, .int v3] (ci := 12) (F := TX12) (N := 116) (nx := 24) hO rfl kX12_codeOf_701 (by rw [hcl]; rfl) (hs_o12 kc139) (w_X12_isThere hG H) rfl rfl (Nat.le_of_ble_eq_true rfl) (Nat.zero_le _) (Nat.zero_le _) rfl (k_Pi (fun r3 H => ?_))
    refine s_if_ne (nx := 27) hO rfl rfl (fun c24 => ?_) (fun c24 => ?_)
    · replace H := H.1 c24
      refine s_sipush (x := (nI 4800)) (nx := 32) hO rfl (by decide) rfl ?_
      refine s_iload (nx := 34) hO rfl rfl rfl ?_
      refine s_imul (nx := 35) hO rfl rfl ?_
      refine s_sipush (x := (nI 400)) (nx := 38) hO rfl (by decide) rfl ?_
      refine s_iload_n (nx := 39) hO rfl rfl rfl ?_
      refine s_imul (nx := 40) hO rfl rfl ?_
      refine s_iadd (nx := 41) hO rfl rfl ?_
      refine s_iload_n (nx := 42) hO rfl rfl rfl ?_
      refine s_iadd (nx := 43) hO rfl rfl ?_
      refine goV (((((nI 4800) * y2) + ((nI 400) * v2)) + v3)) (fun x4 ex4 => ?_)
      replace H := H x4 ex4
      refine e_istore (nx := 45) (l' := [(6, .int x4), (5, .int y2), (0, .ref (q_b G + 139)), (2, .int v2), (3, .int v3), (4, .int v4)]) ex4 hO rfl (by decide) rfl rfl ?_
      refine s_iload (nx := 47) hO rfl rfl rfl ?_
      refine s_switch hO rfl (fun c47 => ?_) (fun dc47 fc47 => ?_)
      · replace H := H.1 c47
        refine s_iconst (x := 0) (nx := 157) hO rfl (by decide) rfl ?_
        exact s_iret hO rfl rfl rfl ⟨rfl, _, _, rfl, rfl, H⟩
      · obtain c47 | c47 | c47 | c47 | c47 | c47 : (v4).toInt = 0 ∨ (v4).toInt = 1 ∨ (v4).toInt = 2 ∨ (v4).toInt = 3 ∨ (v4).toInt = 4 ∨ (v4).toInt = 5 := by omega
        · replace H := H.2.1 c47
          refine ⟨84, by rw [c47]; rfl, ?_⟩
          refine s_aload_n (nx := 85) hO rfl rfl rfl ?_
          refine s_getf (v := .ref (q_b G + 186)) (nx := 88) hO rfl rfl (hs_o12 kc139) rfl rfl ?_
          refine s_iload (nx := 90) hO rfl rfl rfl ?_
          obtain ⟨b5, H⟩ := H
          refine s_iald (nx := 91) hO rfl (hs_I kc186) b5 rfl ?_
          exact s_iret hO rfl rfl rfl ⟨rfl, _, _, rfl, rfl, H⟩
        · replace H := H.2.2.1 c47
          refine ⟨92, by rw [c47]; rfl, ?_⟩
          refine s_aload_n (nx := 93) hO rfl rfl rfl ?_
          refine s_getf (v := .ref (q_b G + 187)) (nx := 96) hO rfl rfl (hs_o12 kc139) rfl rfl ?_
          refine s_iload (nx := 98) hO rfl rfl rfl ?_
          obtain ⟨b6, H⟩ := H
          refine s_iald (nx := 99) hO rfl (hs_I kc187) b6 rfl ?_
          exact s_iret hO rfl rfl rfl ⟨rfl, _, _, rfl, rfl, H⟩
        · replace H := H.2.2.2.1 c47
          refine ⟨100, by rw [c47]; rfl, ?_⟩
          refine s_aload_n (nx := 101) hO rfl rfl rfl ?_
          refine s_getf (v := .ref (q_b G + 193)) (nx := 104) hO rfl rfl (hs_o12 kc139) rfl rfl ?_
          refine s_iload (nx := 106) hO rfl rfl rfl ?_
          obtain ⟨b7, H⟩ := H
          refine s_iald (nx := 107) hO rfl (hs_I kc193) b7 rfl ?_
          exact s_iret hO rfl rfl rfl ⟨rfl, _, _, rfl, rfl, H⟩
        · replace H := H.2.2.2.2.1 c47
          refine ⟨108, by rw [c47]; rfl, ?_⟩
          refine s_aload_n (nx := 109) hO rfl rfl rfl ?_
          refine s_getf (v := .ref (q_b G + 194)) (nx := 112) hO rfl rfl (hs_o12 kc139) rfl rfl ?_
          refine s_iload (nx := 114) hO rfl rfl rfl ?_
          obtain ⟨b8, H⟩ := H
          refine s_iald (nx := 115) hO rfl (hs_I kc194) b8 rfl ?_
          exact s_iret hO rfl rfl rfl ⟨rfl, _, _, rfl, rfl, H⟩
        · replace H := H.2.2.2.2.2.1 c47
          refine ⟨116, by rw [c47]; rfl, ?_⟩
          refine s_aload_n (nx := 117) hO rfl rfl rfl ?_
          refine s_iload (nx := 119) hO rfl rfl rfl ?_
          refine s_iload_n (nx := 120) hO rfl rfl rfl ?_
          refine s_iload_n (nx := 121) hO rfl rfl rfl ?_
          refine s_callV [.int y2, .int v2, .int v3] (ci := 12) (F := TX12) (N := 116) (nx := 124) hO rfl kX12_codeOf_585 (by rw [hcl]; rfl) (hs_o12 kc139) (w_X12_isGuarded hG H) rfl rfl (Nat.le_of_ble_eq_true rfl) (Nat.zero_le _) (Nat.zero_le _) rfl (k_Pi (fun r9 H => ?_))
          refine s_if_eq (nx := 127) hO rfl rfl (fun c124 => ?_) (fun c124 => ?_)
          · replace H := H.1 c124
            refine s_iconst (x := 0) (nx := 132) hO rfl (by decide) rfl ?_
            exact s_iret hO rfl rfl rfl ⟨rfl, _, _, rfl, rfl, H⟩
          · replace H := H.2 c124
            refine s_iconst (x := 1) (nx := 128) hO rfl (by decide) rfl ?_
            refine s_goto hO rfl ?_
            exact s_iret hO rfl rfl rfl ⟨rfl, _, _, rfl, rfl, H⟩
        · replace H := H.2.2.2.2.2.2 c47
          refine ⟨133, by rw [c47]; rfl, ?_⟩
          refine s_aload_n (nx := 134) hO rfl rfl rfl ?_
          refine s_iload (nx := 136) hO rfl rfl rfl ?_
          refine s_callV [.int y2] (ci := 12) (F := TX12) (N := 116) (nx := 139) hO rfl kX12_codeOf_595 (by rw [hcl]; rfl) (hs_o12 kc139) (w_X12_makeMay hG H) rfl rfl (Nat.le_of_ble_eq_true rfl) (Nat.zero_le _) (Nat.zero_le _) rfl (k_Qv (fun s10 H => ?_))
          refine s_aload_n (nx := 140) hO rfl rfl rfl ?_
          refine s_iload (nx := 142) hO rfl rfl rfl ?_
          refine s_iload_n (nx := 143) hO rfl rfl rfl ?_
          refine s_iload_n (nx := 144) hO rfl rfl rfl ?_
          refine s_callV [.int y2, .int v2, .int v3] (ci := 12) (F := TX12) (N := 116) (nx := 147) hO rfl kX12_codeOf_598 (by rw [hcl]; rfl) (hs_o12 kc139) (w_X12_needs hG H) rfl rfl (Nat.le_of_ble_eq_true rfl) (Nat.zero_le _) (Nat.zero_le _) rfl (k_Pi (fun r11 H => ?_))
          refine s_if_eq (nx := 150) hO rfl rfl (fun c147 => ?_) (fun c147 => ?_)
          · replace H := H.1 c147
            refine s_iconst (x := 0) (nx := 155) hO rfl (by decide) rfl ?_
            exact s_iret hO rfl rfl rfl ⟨rfl, _, _, rfl, rfl, H⟩
          · replace H := H.2 c147
            refine s_iconst (x := 1) (nx := 151) hO rfl (by decide) rfl ?_
            refine s_goto hO rfl ?_
            exact s_iret hO rfl rfl rfl ⟨rfl, _, _, rfl, rfl, H⟩
    · replace H := H.2 c24
      refine s_iconst (x := 0) (nx := 28) hO rfl (by decide) rfl ?_
      exact s_iret hO rfl rfl rfl ⟨rfl, _, _, rfl, rfl, H⟩
  refine s_if_eq (nx := 9) hO rfl rfl (fun c6 => ?_) (fun c6 => ?_)
  · replace H := H.1 c6
    refine s_iconst (x := 0) (nx := 14) hO rfl (by decide) rfl ?_
    exact xEx.loc (x_sub1 (List.Mem.head _) (x_sub1 (List.Mem.tail _ (List.Mem.tail _ (List.Mem.head _))) (x_sub1 (List.Mem.tail _ (List.Mem.tail _ (List.Mem.tail _ (List.Mem.head _)))) (x_sub1 (List.Mem.tail _ (List.Mem.tail _ (List.Mem.tail _ (List.Mem.tail _ (List.Mem.head _))))) x_sub0)))) H
  · replace H := H.2 c6
    refine s_iconst (x := 1) (nx := 10) hO rfl (by decide) rfl ?_
    refine s_goto hO rfl ?_
    exact xEx.loc (x_sub1 (List.Mem.head _) (x_sub1 (List.Mem.tail _ (List.Mem.tail _ (List.Mem.head _))) (x_sub1 (List.Mem.tail _ (List.Mem.tail _ (List.Mem.tail _ (List.Mem.head _)))) (x_sub1 (List.Mem.tail _ (List.Mem.tail _ (List.Mem.tail _ (List.Mem.tail _ (List.Mem.head _))))) x_sub0)))) H
def W_X12_mayOf (s : yS) (v1 : Int32) (v2 : Int32) (v3 : Int32) (Q : Int64 → yS → Prop) : Prop :=
 ∀ s1 : yS, s1 = wI s 139 0 0 → 
 ∀ P14 : Int32 → Prop, (∀ (y2 : Int32), (W_X12_isThere s1 y2 v2 v3 
  (fun r3 => ((¬ r3 = 0 → W_X12_makeMay s1 y2 
   (fun s4 => vp_in ((((nI 4800) * y2) + ((nI 400) * v2)) + v3) 14400 ∧ 
   Q (sJ s4 196 (ix ((((nI 4800) * y2) + ((nI 400) * v2)) + v3))) s4))
  ∧ (r3 = 0 → Q 0 s1)))) → P14 y2) → 
 ((v1 = 0 → P14 0)
 ∧ (¬ v1 = 0 → P14 1))
set_option maxRecDepth 100000 in
set_option maxHeartbeats 40000000 in
theorem w_X12_mayOf {G : xG} (hG : yG G) {z : Nat} {s : yS} {v1 : Int32} {v2 : Int32} {v3 : Int32} {Q : Int64 → yS → Prop} (H : W_X12_mayOf s v1 v2 v3 Q) : xC G mX12_mayOf [.ref (q_b G + 139), .int v1, .int v2, .int v3] (hS G s) z 0 0 (yQl G z Q) := by
  have hW := hG.1
  have hcl := hG.2.1
  have hty := hG.2.2.1
  have hO : xO G mX12_mayOf tbX12_mayOf ptX12_mayOf := ⟨tkX12_mayOf, pkX12_mayOf hcl⟩
  unfold W_X12_mayOf at H
  refine xC.of hW (by decide) rfl (Nat.le_of_ble_eq_true rfl) ?_
  refine s_aload_n (nx := 1) hO rfl rfl rfl ?_
  refine s_iconst (x := 0) (nx := 2) hO rfl (by decide) rfl ?_
  refine goV (wI s 139 0 0) (fun s1 es1 => ?_)
  replace H := H s1 es1
  refine s_putf (nx := 5) hO rfl rfl (hs_o12 kc139) (Nat.le_of_ble_eq_true rfl) (by rw [hty]; rfl) (by rw [hty]; rfl) pX12_0 rfl ?_
  refine xEx.at (up_oI12 kc139 es1) ?_
  refine s_iload_n (nx := 6) hO rfl rfl rfl ?_
  refine goK (H (fun (y2 : Int32) => xEx G mX12_mayOf 14 [(0, .ref (q_b G + 139)), (2, .int v2), (3, .int v3)] [.int y2] (hS G s1) z 0 0 (yQl G z Q)) (fun y2 H => ?_)) (fun H => ?_)
  · show xEx G mX12_mayOf 14 [(0, .ref (q_b G + 139)), (2, .int v2), (3, .int v3)] [.int y2] (hS G s1) z 0 0 (yQl G z Q)
    refine s_istore (nx := 16) (l' := [(4, .int y2), (0, .ref (q_b G + 139)), (2, .int v2), (3, .int v3)]) hO rfl (by decide) rfl rfl ?_
    refine s_aload_n (nx := 17) hO rfl rfl rfl ?_
    refine s_iload (nx := 19) hO rfl rfl rfl ?_
    refine s_iload_n (nx := 20) hO rfl rfl rfl ?_
    refine s_iload_n (nx := 21) hO rfl rfl rfl ?_
    refine s_callV [.int y2, .int v2, .int v3] (ci := 12) (F := TX12) (N := 116) (nx := 24) hO rfl kX12_mayOf_701 (by rw [hcl]; rfl) (hs_o12 kc139) (w_X12_isThere hG H) rfl rfl (Nat.le_of_ble_eq_true rfl) (Nat.zero_le _) (Nat.zero_le _) rfl (k_Pi (fun r3 H => ?_))
    refine s_if_ne (nx := 27) hO rfl rfl (fun c24 => ?_) (fun c24 => ?_)
    · replace H := H.1 c24
      refine s_aload_n (nx := 30) hO rfl rfl rfl ?_
      refine s_iload (nx := 32) hO rfl rfl rfl ?_
      refine s_callV [.int y2] (ci := 12) (F := TX12) (N := 116) (nx := 35) hO rfl kX12_mayOf_595 (by rw [hcl]; rfl) (hs_o12 kc139) (w_X12_makeMay hG H) rfl rfl (Nat.le_of_ble_eq_true rfl) (Nat.zero_le _) (Nat.zero_le _) rfl (k_Qv (fun s4 H => ?_))
      refine s_aload_n (nx := 36) hO rfl rfl rfl ?_
      refine s_getf (v := .ref (q_b G + 196)) (nx := 39) hO rfl rfl (hs_o12 kc139) rfl rfl ?_
      refine s_sipush (x := (nI 4800)) (nx := 42) hO rfl (by decide) rfl ?_
      refine s_iload (nx := 44) hO rfl rfl rfl ?_
      refine s_imul (nx := 45) hO rfl rfl ?_
      refine s_sipush (x := (nI 400)) (nx := 48) hO rfl (by decide) rfl ?_
      refine s_iload_n (nx := 49) hO rfl rfl rfl ?_
      refine s_imul (nx := 50) hO rfl rfl ?_
      refine s_iadd (nx := 51) hO rfl rfl ?_
      refine s_iload_n (nx := 52) hO rfl rfl rfl ?_
      refine s_iadd (nx := 53) hO rfl rfl ?_
      obtain ⟨b5, H⟩ := H
      refine s_lald (nx := 54) hO rfl (hs_J kc196) b5 rfl ?_
      exact s_lret hO rfl rfl ⟨rfl, _, _, rfl, rfl, H⟩
    · replace H := H.2 c24
      refine s_lconst (x := 0) (nx := 28) hO rfl (by decide) rfl ?_
      exact s_lret hO rfl rfl ⟨rfl, _, _, rfl, rfl, H⟩
  refine s_if_eq (nx := 9) hO rfl rfl (fun c6 => ?_) (fun c6 => ?_)
  · replace H := H.1 c6
    refine s_iconst (x := 0) (nx := 14) hO rfl (by decide) rfl ?_
    exact xEx.loc (x_sub1 (List.Mem.head _) (x_sub1 (List.Mem.tail _ (List.Mem.tail _ (List.Mem.head _))) (x_sub1 (List.Mem.tail _ (List.Mem.tail _ (List.Mem.tail _ (List.Mem.head _)))) x_sub0))) H
  · replace H := H.2 c6
    refine s_iconst (x := 1) (nx := 10) hO rfl (by decide) rfl ?_
    refine s_goto hO rfl ?_
    exact xEx.loc (x_sub1 (List.Mem.head _) (x_sub1 (List.Mem.tail _ (List.Mem.tail _ (List.Mem.head _))) (x_sub1 (List.Mem.tail _ (List.Mem.tail _ (List.Mem.tail _ (List.Mem.head _)))) x_sub0))) H
def W_X12_functionOf (s : yS) (v1 : Int32) (v2 : Int32) (v3 : Int32) (Q : Int32 → yS → Prop) : Prop :=
 ∀ s1 : yS, s1 = wI s 139 0 0 → 
 ∀ P14 : Int32 → Prop, (∀ (y2 : Int32), (vp_in y2 3 ∧ 
  (((sI s1 177 (ix y2)) = 0 → Q (-1) s1)
  ∧ (¬ (sI s1 177 (ix y2)) = 0 → ((v2 < 0 → Q (-1) s1)
   ∧ (¬ v2 < 0 → vp_in y2 3 ∧ 
    ((v2 < (sI s1 178 (ix y2)) → ∀ x5 : Int32, x5 = (((nI 12) * y2) + v2) → 
     ((¬ v3 = 0 → ((¬ v3 = 1 → ((¬ v3 = (nI 2) → ((¬ v3 = (nI 3) → ((¬ v3 = (nI 4) → Q (-1) s1)
         ∧ (v3 = (nI 4) → vp_in x5 36 ∧ 
          Q (sI s1 185 (ix x5)) s1)))
        ∧ (v3 = (nI 3) → vp_in x5 36 ∧ 
         Q (sI s1 184 (ix x5)) s1)))
       ∧ (v3 = (nI 2) → vp_in x5 36 ∧ 
        Q (sI s1 182 (ix x5)) s1)))
      ∧ (v3 = 1 → vp_in x5 36 ∧ 
       Q (sI s1 180 (ix x5)) s1)))
     ∧ (v3 = 0 → vp_in x5 36 ∧ 
      Q (sI s1 179 (ix x5)) s1)))
    ∧ (¬ v2 < (sI s1 178 (ix y2)) → Q (-1) s1))))))) → P14 y2) → 
 ((v1 = 0 → P14 0)
 ∧ (¬ v1 = 0 → P14 1))
set_option maxRecDepth 100000 in
set_option maxHeartbeats 40000000 in
theorem w_X12_functionOf {G : xG} (hG : yG G) {z : Nat} {s : yS} {v1 : Int32} {v2 : Int32} {v3 : Int32} {Q : Int32 → yS → Prop} (H : W_X12_functionOf s v1 v2 v3 Q) : xC G mX12_functionOf [.ref (q_b G + 139), .int v1, .int v2, .int v3] (hS G s) z 0 0 (yQi G z Q) := by
  have hW := hG.1
  have hcl := hG.2.1
  have hty := hG.2.2.1
  have hO : xO G mX12_functionOf tbX12_functionOf ptX12_functionOf := ⟨tkX12_functionOf, pkX12_functionOf hcl⟩
  unfold W_X12_functionOf at H
  refine xC.of hW (by decide) rfl (Nat.le_of_ble_eq_true rfl) ?_
  refine s_aload_n (nx := 1) hO rfl rfl rfl ?_
  refine s_iconst (x := 0) (nx := 2) hO rfl (by decide) rfl ?_
  refine goV (wI s 139 0 0) (fun s1 es1 => ?_)
  replace H := H s1 es1
  refine s_putf (nx := 5) hO rfl rfl (hs_o12 kc139) (Nat.le_of_ble_eq_true rfl) (by rw [hty]; rfl) (by rw [hty]; rfl) pX12_0 rfl ?_
  refine xEx.at (up_oI12 kc139 es1) ?_
  refine s_iload_n (nx := 6) hO rfl rfl rfl ?_
  refine goK (H (fun (y2 : Int32) => xEx G mX12_functionOf 14 [(0, .ref (q_b G + 139)), (2, .int v2), (3, .int v3)] [.int y2] (hS G s1) z 0 0 (yQi G z Q)) (fun y2 H => ?_)) (fun H => ?_)
  · show xEx G mX12_functionOf 14 [(0, .ref (q_b G + 139)), (2, .int v2), (3, .int v3)] [.int y2] (hS G s1) z 0 0 (yQi G z Q)
    refine s_istore (nx := 16) (l' := [(4, .int y2), (0, .ref (q_b G + 139)), (2, .int v2), (3, .int v3)]) hO rfl (by decide) rfl rfl ?_
    refine s_aload_n (nx := 17) hO rfl rfl rfl ?_
    refine s_getf (v := .ref (q_b G + 177)) (nx := 20) hO rfl rfl (hs_o12 kc139) rfl rfl ?_
    refine s_iload (nx := 22) hO rfl rfl rfl ?_
    obtain ⟨b3, H⟩ := H
    refine s_zald (nx := 23) hO rfl (hs_Z kc177) b3 rfl ?_
    refine s_if_eq (nx := 26) hO rfl rfl (fun c23 => ?_) (fun c23 => ?_)
    · replace H := H.1 c23
      refine s_iconst (x := (-1)) (nx := 42) hO rfl (by decide) rfl ?_
      exact s_iret hO rfl rfl rfl ⟨rfl, _, _, rfl, rfl, H⟩
    · replace H := H.2 c23
      refine s_iload_n (nx := 27) hO rfl rfl rfl ?_
      refine s_if_lt (nx := 30) hO rfl rfl (fun c27 => ?_) (fun c27 => ?_)
      · replace H := H.1 c27
        refine s_iconst (x := (-1)) (nx := 42) hO rfl (by decide) rfl ?_
        exact s_iret hO rfl rfl rfl ⟨rfl, _, _, rfl, rfl, H⟩
      · replace H := H.2 c27
        refine s_iload_n (nx := 31) hO rfl rfl rfl ?_
        refine s_aload_n (nx := 32) hO rfl rfl rfl ?_
        refine s_getf (v := .ref (q_b G + 178)) (nx := 35) hO rfl rfl (hs_o12 kc139) rfl rfl ?_
        refine s_iload (nx := 37) hO rfl rfl rfl ?_
        obtain ⟨b4, H⟩ := H
        refine s_iald (nx := 38) hO rfl (hs_I kc178) b4 rfl ?_
        refine s_icmp_lt (nx := 41) hO rfl rfl (fun c38 => ?_) (fun c38 => ?_)
        · replace H := H.1 c38
          refine s_bipush (x := (nI 12)) (nx := 45) hO rfl (by decide) rfl ?_
          refine s_iload (nx := 47) hO rfl rfl rfl ?_
          refine s_imul (nx := 48) hO rfl rfl ?_
          refine s_iload_n (nx := 49) hO rfl rfl rfl ?_
          refine s_iadd (nx := 50) hO rfl rfl ?_
          refine goV ((((nI 12) * y2) + v2)) (fun x5 ex5 => ?_)
          replace H := H x5 ex5
          refine e_istore (nx := 52) (l' := [(5, .int x5), (4, .int y2), (0, .ref (q_b G + 139)), (2, .int v2), (3, .int v3)]) ex5 hO rfl (by decide) rfl rfl ?_
          refine s_iload_n (nx := 53) hO rfl rfl rfl ?_
          refine s_if_ne (nx := 56) hO rfl rfl (fun c53 => ?_) (fun c53 => ?_)
          · replace H := H.1 c53
            refine s_iload_n (nx := 67) hO rfl rfl rfl ?_
            refine s_iconst (x := 1) (nx := 68) hO rfl (by decide) rfl ?_
            refine s_icmp_ne (nx := 71) hO rfl rfl (fun c68 => ?_) (fun c68 => ?_)
            · replace H := H.1 c68
              refine s_iload_n (nx := 82) hO rfl rfl rfl ?_
              refine s_iconst (x := (nI 2)) (nx := 83) hO rfl (by decide) rfl ?_
              refine s_icmp_ne (nx := 86) hO rfl rfl (fun c83 => ?_) (fun c83 => ?_)
              · replace H := H.1 c83
                refine s_iload_n (nx := 97) hO rfl rfl rfl ?_
                refine s_iconst (x := (nI 3)) (nx := 98) hO rfl (by decide) rfl ?_
                refine s_icmp_ne (nx := 101) hO rfl rfl (fun c98 => ?_) (fun c98 => ?_)
                · replace H := H.1 c98
                  refine s_iload_n (nx := 112) hO rfl rfl rfl ?_
                  refine s_iconst (x := (nI 4)) (nx := 113) hO rfl (by decide) rfl ?_
                  refine s_icmp_ne (nx := 116) hO rfl rfl (fun c113 => ?_) (fun c113 => ?_)
                  · replace H := H.1 c113
                    refine s_iconst (x := (-1)) (nx := 127) hO rfl (by decide) rfl ?_
                    exact s_iret hO rfl rfl rfl ⟨rfl, _, _, rfl, rfl, H⟩
                  · replace H := H.2 c113
                    refine s_aload_n (nx := 117) hO rfl rfl rfl ?_
                    refine s_getf (v := .ref (q_b G + 185)) (nx := 120) hO rfl rfl (hs_o12 kc139) rfl rfl ?_
                    refine s_iload (nx := 122) hO rfl rfl rfl ?_
                    obtain ⟨b6, H⟩ := H
                    refine s_iald (nx := 123) hO rfl (hs_I kc185) b6 rfl ?_
                    refine s_goto hO rfl ?_
                    exact s_iret hO rfl rfl rfl ⟨rfl, _, _, rfl, rfl, H⟩
                · replace H := H.2 c98
                  refine s_aload_n (nx := 102) hO rfl rfl rfl ?_
                  refine s_getf (v := .ref (q_b G + 184)) (nx := 105) hO rfl rfl (hs_o12 kc139) rfl rfl ?_
                  refine s_iload (nx := 107) hO rfl rfl rfl ?_
                  obtain ⟨b7, H⟩ := H
                  refine s_iald (nx := 108) hO rfl (hs_I kc184) b7 rfl ?_
                  refine s_goto hO rfl ?_
                  exact s_iret hO rfl rfl rfl ⟨rfl, _, _, rfl, rfl, H⟩
              · replace H := H.2 c83
                refine s_aload_n (nx := 87) hO rfl rfl rfl ?_
                refine s_getf (v := .ref (q_b G + 182)) (nx := 90) hO rfl rfl (hs_o12 kc139) rfl rfl ?_
                refine s_iload (nx := 92) hO rfl rfl rfl ?_
                obtain ⟨b8, H⟩ := H
                refine s_iald (nx := 93) hO rfl (hs_I kc182) b8 rfl ?_
                refine s_goto hO rfl ?_
                exact s_iret hO rfl rfl rfl ⟨rfl, _, _, rfl, rfl, H⟩
            · replace H := H.2 c68
              refine s_aload_n (nx := 72) hO rfl rfl rfl ?_
              refine s_getf (v := .ref (q_b G + 180)) (nx := 75) hO rfl rfl (hs_o12 kc139) rfl rfl ?_
              refine s_iload (nx := 77) hO rfl rfl rfl ?_
              obtain ⟨b9, H⟩ := H
              refine s_iald (nx := 78) hO rfl (hs_I kc180) b9 rfl ?_
              refine s_goto hO rfl ?_
              exact s_iret hO rfl rfl rfl ⟨rfl, _, _, rfl, rfl, H⟩
          · replace H := H.2 c53
            refine s_aload_n (nx := 57) hO rfl rfl rfl ?_
            refine s_getf (v := .ref (q_b G + 179)) (nx := 60) hO rfl rfl (hs_o12 kc139) rfl rfl ?_
            refine s_iload (nx := 62) hO rfl rfl rfl ?_
            obtain ⟨b10, H⟩ := H
            refine s_iald (nx := 63) hO rfl (hs_I kc179) b10 rfl ?_
            refine s_goto hO rfl ?_
            exact s_iret hO rfl rfl rfl ⟨rfl, _, _, rfl, rfl, H⟩
        · replace H := H.2 c38
          refine s_iconst (x := (-1)) (nx := 42) hO rfl (by decide) rfl ?_
          exact s_iret hO rfl rfl rfl ⟨rfl, _, _, rfl, rfl, H⟩
  refine s_if_eq (nx := 9) hO rfl rfl (fun c6 => ?_) (fun c6 => ?_)
  · replace H := H.1 c6
    refine s_iconst (x := 0) (nx := 14) hO rfl (by decide) rfl ?_
    exact xEx.loc (x_sub1 (List.Mem.head _) (x_sub1 (List.Mem.tail _ (List.Mem.tail _ (List.Mem.head _))) (x_sub1 (List.Mem.tail _ (List.Mem.tail _ (List.Mem.tail _ (List.Mem.head _)))) x_sub0))) H
  · replace H := H.2 c6
    refine s_iconst (x := 1) (nx := 10) hO rfl (by decide) rfl ?_
    refine s_goto hO rfl ?_
    exact xEx.loc (x_sub1 (List.Mem.head _) (x_sub1 (List.Mem.tail _ (List.Mem.tail _ (List.Mem.head _))) (x_sub1 (List.Mem.tail _ (List.Mem.tail _ (List.Mem.tail _ (List.Mem.head _)))) x_sub0))) H
def W_X12_codes (s : yS) (v1 : Int32) (Q : Int32 → Prop) : Prop :=
 ∀ P4 : Int32 → Int32 → Prop, (∀ (x1 : Int32) (x2 : Int32), (vp_in v1 3 ∧ 
  (((sI s 178 (ix v1)) ≤ x2 → vp_in v1 3 ∧ 
   (((sI s 177 (ix v1)) = 0 → Q (-1))
   ∧ (¬ (sI s 177 (ix v1)) = 0 → Q x1)))
  ∧ (¬ (sI s 178 (ix v1)) ≤ x2 → vp_in (((nI 12) * v1) + x2) 36 ∧ 
   ∀ x6 : Int32, x6 = (x1 + (sI s 184 (ix (((nI 12) * v1) + x2)))) → 
   ∀ x7 : Int32, x7 = (x2 + 1) → 
   P4 x6 x7))) → P4 x1 x2) → 
 P4 0 0
set_option maxRecDepth 100000 in
set_option maxHeartbeats 40000000 in
theorem w_X12_codes {G : xG} (hG : yG G) {z : Nat} {s : yS} {v1 : Int32} {Q : Int32 → Prop} (H : W_X12_codes s v1 Q) : xC G mX12_codes [.ref (q_b G + 139), .int v1] (hS G s) z 0 0 (yPi G z s Q) := by
  have hW := hG.1
  have hcl := hG.2.1
  have hty := hG.2.2.1
  have hO : xO G mX12_codes tbX12_codes ptX12_codes := ⟨tkX12_codes, pkX12_codes hcl⟩
  unfold W_X12_codes at H
  refine xC.of hW (by decide) rfl (Nat.le_of_ble_eq_true rfl) ?_
  refine s_iconst (x := 0) (nx := 1) hO rfl (by decide) rfl ?_
  refine s_istore_n (nx := 2) (l' := [(2, .int 0), (0, .ref (q_b G + 139)), (1, .int v1)]) hO rfl (by decide) rfl rfl ?_
  refine s_iconst (x := 0) (nx := 3) hO rfl (by decide) rfl ?_
  refine goK (H (fun (x1 : Int32) (x2 : Int32) => xEx G mX12_codes 4 [(0, .ref (q_b G + 139)), (1, .int v1), (2, .int x1), (3, .int x2)] [] (hS G s) z 0 0 (yPi G z s Q)) (fun x1 x2 H => ?_)) (fun H => ?_)
  · show xEx G mX12_codes 4 [(0, .ref (q_b G + 139)), (1, .int v1), (2, .int x1), (3, .int x2)] [] (hS G s) z 0 0 (yPi G z s Q)
    refine s_iload_n (nx := 5) hO rfl rfl rfl ?_
    refine s_aload_n (nx := 6) hO rfl rfl rfl ?_
    refine s_getf (v := .ref (q_b G + 178)) (nx := 9) hO rfl rfl (hs_o12 kc139) rfl rfl ?_
    refine s_iload_n (nx := 10) hO rfl rfl rfl ?_
    obtain ⟨b3, H⟩ := H
    refine s_iald (nx := 11) hO rfl (hs_I kc178) b3 rfl ?_
    refine s_icmp_ge (nx := 14) hO rfl rfl (fun c11 => ?_) (fun c11 => ?_)
    · replace H := H.1 c11
      refine s_aload_n (nx := 35) hO rfl rfl rfl ?_
      refine s_getf (v := .ref (q_b G + 177)) (nx := 38) hO rfl rfl (hs_o12 kc139) rfl rfl ?_
      refine s_iload_n (nx := 39) hO rfl rfl rfl ?_
      obtain ⟨b4, H⟩ := H
      refine s_zald (nx := 40) hO rfl (hs_Z kc177) b4 rfl ?_
      refine s_if_eq (nx := 43) hO rfl rfl (fun c40 => ?_) (fun c40 => ?_)
      · replace H := H.1 c40
        refine s_iconst (x := (-1)) (nx := 48) hO rfl (by decide) rfl ?_
        exact s_iret hO rfl rfl rfl ⟨rfl, _, rfl, rfl, H⟩
      · replace H := H.2 c40
        refine s_iload_n (nx := 44) hO rfl rfl rfl ?_
        refine s_goto hO rfl ?_
        exact s_iret hO rfl rfl rfl ⟨rfl, _, rfl, rfl, H⟩
    · replace H := H.2 c11
      refine s_iload_n (nx := 15) hO rfl rfl rfl ?_
      refine s_aload_n (nx := 16) hO rfl rfl rfl ?_
      refine s_getf (v := .ref (q_b G + 184)) (nx := 19) hO rfl rfl (hs_o12 kc139) rfl rfl ?_
      refine s_bipush (x := (nI 12)) (nx := 21) hO rfl (by decide) rfl ?_
      refine s_iload_n (nx := 22) hO rfl rfl rfl ?_
      refine s_imul (nx := 23) hO rfl rfl ?_
      refine s_iload_n (nx := 24) hO rfl rfl rfl ?_
      refine s_iadd (nx := 25) hO rfl rfl ?_
      obtain ⟨b5, H⟩ := H
      refine s_iald (nx := 26) hO rfl (hs_I kc184) b5 rfl ?_
      refine s_iadd (nx := 27) hO rfl rfl ?_
      refine goV ((x1 + (sI s 184 (ix (((nI 12) * v1) + x2))))) (fun x6 ex6 => ?_)
      replace H := H x6 ex6
      refine e_istore_n (nx := 28) (l' := [(2, .int x6), (0, .ref (q_b G + 139)), (1, .int v1), (3, .int x2)]) ex6 hO rfl (by decide) rfl rfl ?_
      refine goV ((x2 + 1)) (fun x7 ex7 => ?_)
      replace H := H x7 ex7
      refine e_iinc (nx := 31) (l' := [(3, .int x7), (2, .int x6), (0, .ref (q_b G + 139)), (1, .int v1)]) ex7 hO rfl (by decide) rfl rfl rfl rfl ?_
      refine s_goto hO rfl ?_
      exact xEx.loc (x_sub1 (List.Mem.tail _ (List.Mem.tail _ (List.Mem.head _))) (x_sub1 (List.Mem.tail _ (List.Mem.tail _ (List.Mem.tail _ (List.Mem.head _)))) (x_sub1 (List.Mem.tail _ (List.Mem.head _)) (x_sub1 (List.Mem.head _) x_sub0)))) H
  refine s_istore_n (nx := 4) (l' := [(3, .int 0), (2, .int 0), (0, .ref (q_b G + 139)), (1, .int v1)]) hO rfl (by decide) rfl rfl ?_
  exact xEx.loc (x_sub1 (List.Mem.tail _ (List.Mem.tail _ (List.Mem.head _))) (x_sub1 (List.Mem.tail _ (List.Mem.tail _ (List.Mem.tail _ (List.Mem.head _)))) (x_sub1 (List.Mem.tail _ (List.Mem.head _)) (x_sub1 (List.Mem.head _) x_sub0)))) H

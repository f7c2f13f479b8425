def W_X12_setLetter (s : yS) (v1 : Int32) (Q : yS → Prop) : Prop :=
 ∀ P2 : Int32 → yS → Prop, (∀ (x1 : Int32) (s2 : yS), ((((nI 3) ≤ x1 → ∀ P32 : Int32 → yS → Prop, (∀ (x3 : Int32) (s4 : yS), ((((nI 6) ≤ x3 → Q s4)
    ∧ (¬ (nI 6) ≤ x3 → vp_in ((((nI 9) * v1) + (nI 3)) + x3) 4608 ∧ 
     vp_in x3 6 ∧ ∀ s7 : yS, s7 = wI s4 176 (ix x3) (sI s4 166 (ix ((((nI 9) * v1) + (nI 3)) + x3))) → 
     ∀ x8 : Int32, x8 = (x3 + 1) → 
     P32 x8 s7))) → P32 x3 s4) → 
   P32 0 s2)
  ∧ (¬ (nI 3) ≤ x1 → vp_in (((nI 9) * v1) + x1) 4608 ∧ 
   vp_in x1 3 ∧ ∀ s11 : yS, s11 = wI s2 175 (ix x1) (sI s2 166 (ix (((nI 9) * v1) + x1))) → 
   ∀ x12 : Int32, x12 = (x1 + 1) → 
   P2 x12 s11))) → P2 x1 s2) → 
 P2 0 s
set_option maxRecDepth 100000 in
set_option maxHeartbeats 40000000 in
theorem w_X12_setLetter {G : xG} (hG : yG G) {z : Nat} {s : yS} {v1 : Int32} {Q : yS → Prop} (H : W_X12_setLetter s v1 Q) : xC G mX12_setLetter [.ref (q_b G + 139), .int v1] (hS G s) z 0 0 (yQv G z Q) := by
  have hW := hG.1
  have hcl := hG.2.1
  have hty := hG.2.2.1
  have hO : xO G mX12_setLetter tbX12_setLetter ptX12_setLetter := ⟨tkX12_setLetter, pkX12_setLetter hcl⟩
  unfold W_X12_setLetter at H
  refine xC.of hW (by decide) rfl (Nat.le_of_ble_eq_true rfl) ?_
  refine s_iconst (x := 0) (nx := 1) hO rfl (by decide) rfl ?_
  refine goK (H (fun (x1 : Int32) (s2 : yS) => xEx G mX12_setLetter 2 [(0, .ref (q_b G + 139)), (1, .int v1), (2, .int x1)] [] (hS G s2) z 0 0 (yQv G z Q)) (fun x1 s2 H => ?_)) (fun H => ?_)
  · show xEx G mX12_setLetter 2 [(0, .ref (q_b G + 139)), (1, .int v1), (2, .int x1)] [] (hS G s2) z 0 0 (yQv G z Q)
    refine s_iload_n (nx := 3) hO rfl rfl rfl ?_
    refine s_iconst (x := (nI 3)) (nx := 4) hO rfl (by decide) rfl ?_
    refine s_icmp_ge (nx := 7) hO rfl rfl (fun c4 => ?_) (fun c4 => ?_)
    · replace H := H.1 c4
      refine s_iconst (x := 0) (nx := 31) hO rfl (by decide) rfl ?_
      refine goK (H (fun (x3 : Int32) (s4 : yS) => xEx G mX12_setLetter 32 [(0, .ref (q_b G + 139)), (1, .int v1), (2, .int x3)] [] (hS G s4) z 0 0 (yQv G z Q)) (fun x3 s4 H => ?_)) (fun H => ?_)
      · show xEx G mX12_setLetter 32 [(0, .ref (q_b G + 139)), (1, .int v1), (2, .int x3)] [] (hS G s4) z 0 0 (yQv G z Q)
        refine s_iload_n (nx := 33) hO rfl rfl rfl ?_
        refine s_bipush (x := (nI 6)) (nx := 35) hO rfl (by decide) rfl ?_
        refine s_icmp_ge (nx := 38) hO rfl rfl (fun c35 => ?_) (fun c35 => ?_)
        · replace H := H.1 c35
          exact s_vret hO rfl rfl ⟨rfl, _, rfl, rfl, H⟩
        · replace H := H.2 c35
          refine s_aload_n (nx := 39) hO rfl rfl rfl ?_
          refine s_getf (v := .ref (q_b G + 176)) (nx := 42) hO rfl rfl (hs_o12 kc139) rfl rfl ?_
          refine s_iload_n (nx := 43) hO rfl rfl rfl ?_
          refine s_aload_n (nx := 44) hO rfl rfl rfl ?_
          refine s_getf (v := .ref (q_b G + 166)) (nx := 47) hO rfl rfl (hs_o12 kc139) rfl rfl ?_
          refine s_bipush (x := (nI 9)) (nx := 49) hO rfl (by decide) rfl ?_
          refine s_iload_n (nx := 50) hO rfl rfl rfl ?_
          refine s_imul (nx := 51) hO rfl rfl ?_
          refine s_iconst (x := (nI 3)) (nx := 52) hO rfl (by decide) rfl ?_
          refine s_iadd (nx := 53) hO rfl rfl ?_
          refine s_iload_n (nx := 54) hO rfl rfl rfl ?_
          refine s_iadd (nx := 55) hO rfl rfl ?_
          obtain ⟨b5, H⟩ := H
          refine s_iald (nx := 56) hO rfl (hs_I kc166) b5 rfl ?_
          obtain ⟨b6, H⟩ := H
          refine goV (wI s4 176 (ix x3) (sI s4 166 (ix ((((nI 9) * v1) + (nI 3)) + x3)))) (fun s7 es7 => ?_)
          replace H := H s7 es7
          refine s_iast (nx := 57) hO rfl (hs_I kc176) b6 rfl ?_
          refine xEx.at (up_I kc176 es7) ?_
          refine goV ((x3 + 1)) (fun x8 ex8 => ?_)
          replace H := H x8 ex8
          refine e_iinc (nx := 60) (l' := [(2, .int x8), (0, .ref (q_b G + 139)), (1, .int v1)]) ex8 hO rfl (by decide) rfl rfl rfl rfl ?_
          refine s_goto hO rfl ?_
          exact xEx.loc (x_sub1 (List.Mem.tail _ (List.Mem.head _)) (x_sub1 (List.Mem.tail _ (List.Mem.tail _ (List.Mem.head _))) (x_sub1 (List.Mem.head _) x_sub0))) H
      refine s_istore_n (nx := 32) (l' := [(2, .int 0), (0, .ref (q_b G + 139)), (1, .int v1)]) hO rfl (by decide) rfl rfl ?_
      exact xEx.loc (x_sub1 (List.Mem.tail _ (List.Mem.head _)) (x_sub1 (List.Mem.tail _ (List.Mem.tail _ (List.Mem.head _))) (x_sub1 (List.Mem.head _) x_sub0))) H
    · replace H := H.2 c4
      refine s_aload_n (nx := 8) hO rfl rfl rfl ?_
      refine s_getf (v := .ref (q_b G + 175)) (nx := 11) hO rfl rfl (hs_o12 kc139) rfl rfl ?_
      refine s_iload_n (nx := 12) hO rfl rfl rfl ?_
      refine s_aload_n (nx := 13) hO rfl rfl rfl ?_
      refine s_getf (v := .ref (q_b G + 166)) (nx := 16) hO rfl rfl (hs_o12 kc139) rfl rfl ?_
      refine s_bipush (x := (nI 9)) (nx := 18) hO rfl (by decide) rfl ?_
      refine s_iload_n (nx := 19) hO rfl rfl rfl ?_
      refine s_imul (nx := 20) hO rfl rfl ?_
      refine s_iload_n (nx := 21) hO rfl rfl rfl ?_
      refine s_iadd (nx := 22) hO rfl rfl ?_
      obtain ⟨b9, H⟩ := H
      refine s_iald (nx := 23) hO rfl (hs_I kc166) b9 rfl ?_
      obtain ⟨b10, H⟩ := H
      refine goV (wI s2 175 (ix x1) (sI s2 166 (ix (((nI 9) * v1) + x1)))) (fun s11 es11 => ?_)
      replace H := H s11 es11
      refine s_iast (nx := 24) hO rfl (hs_I kc175) b10 rfl ?_
      refine xEx.at (up_I kc175 es11) ?_
      refine goV ((x1 + 1)) (fun x12 ex12 => ?_)
      replace H := H x12 ex12
      refine e_iinc (nx := 27) (l' := [(2, .int x12), (0, .ref (q_b G + 139)), (1, .int v1)]) ex12 hO rfl (by decide) rfl rfl rfl rfl ?_
      refine s_goto hO rfl ?_
      exact xEx.loc (x_sub1 (List.Mem.tail _ (List.Mem.head _)) (x_sub1 (List.Mem.tail _ (List.Mem.tail _ (List.Mem.head _))) (x_sub1 (List.Mem.head _) x_sub0))) H
  refine s_istore_n (nx := 2) (l' := [(2, .int 0), (0, .ref (q_b G + 139)), (1, .int v1)]) hO rfl (by decide) rfl rfl ?_
  exact xEx.loc (x_sub1 (List.Mem.tail _ (List.Mem.head _)) (x_sub1 (List.Mem.tail _ (List.Mem.tail _ (List.Mem.head _))) (x_sub1 (List.Mem.head _) x_sub0))) H
def W_X12_holds (s : yS) (v1 : Int32) (v2 : Int32) (Q : Int32 → Prop) : Prop :=
 vp_in v1 900 ∧ 
 ∀ P26 : Int32 → Prop, (∀ (y2 : Int32), (vp_in v1 900 ∧ 
  ∀ P61 : Int32 → Prop, (∀ (y4 : Int32), (∀ P130 : Int32 → Prop, (∀ (y5 : Int32), (vp_in v1 900 ∧ 
    ((y5 = (sI s 163 (ix v1)) → Q 0)
    ∧ (¬ y5 = (sI s 163 (ix v1)) → Q 1))) → P130 y5) → 
   ((y2 = 0 → P130 0)
   ∧ (¬ y2 = 0 → vp_in v1 900 ∧ 
    ((¬ (sI s 161 (ix v1)) = 0 → vp_in v1 900 ∧ 
     ((¬ (sI s 161 (ix v1)) = 1 → vp_in v1 900 ∧ 
      ((y4 ≤ (sI s 162 (ix v1)) → P130 0)
      ∧ (¬ y4 ≤ (sI s 162 (ix v1)) → P130 1)))
     ∧ ((sI s 161 (ix v1)) = 1 → vp_in v1 900 ∧ 
      ((¬ y4 = (sI s 162 (ix v1)) → P130 0)
      ∧ (y4 = (sI s 162 (ix v1)) → P130 1)))))
    ∧ ((sI s 161 (ix v1)) = 0 → vp_in v1 900 ∧ 
     (((sI s 162 (ix v1)) ≤ y4 → P130 0)
     ∧ (¬ (sI s 162 (ix v1)) ≤ y4 → P130 1))))))) → P61 y4) → 
  (((sI s 158 (ix v1)) = 0 → vp_in v1 900 ∧ 
   vp_in (sI s 159 (ix v1)) 3 ∧ 
   P61 (sI s 175 (ix (sI s 159 (ix v1)))))
  ∧ (¬ (sI s 158 (ix v1)) = 0 → vp_in v1 900 ∧ 
   vp_in (sI s 159 (ix v1)) 6 ∧ 
   P61 (sI s 176 (ix (sI s 159 (ix v1))))))) → P26 y2) → 
 ((¬ (sI s 158 (ix v1)) = 0 → P26 1)
 ∧ ((sI s 158 (ix v1)) = 0 → vp_in v1 900 ∧ 
  (((v2 - v2 / (nI 4) * (nI 4)) ≤ (sI s 159 (ix v1)) → P26 0)
  ∧ (¬ (v2 - v2 / (nI 4) * (nI 4)) ≤ (sI s 159 (ix v1)) → P26 1))))
set_option maxRecDepth 100000 in
set_option maxHeartbeats 40000000 in
theorem w_X12_holds {G : xG} (hG : yG G) {z : Nat} {s : yS} {v1 : Int32} {v2 : Int32} {Q : Int32 → Prop} (H : W_X12_holds s v1 v2 Q) : xC G mX12_holds [.ref (q_b G + 139), .int v1, .int v2] (hS G s) z 0 0 (yPi G z s Q) := by
  have hW := hG.1
  have hcl := hG.2.1
  have hty := hG.2.2.1
  have hO : xO G mX12_holds tbX12_holds ptX12_holds := ⟨tkX12_holds, pkX12_holds hcl⟩
  unfold W_X12_holds at H
  refine xC.of hW (by decide) rfl (Nat.le_of_ble_eq_true rfl) ?_
  refine s_aload_n (nx := 1) hO rfl rfl rfl ?_
  refine s_getf (v := .ref (q_b G + 158)) (nx := 4) hO rfl rfl (hs_o12 kc139) rfl rfl ?_
  refine s_iload_n (nx := 5) hO rfl rfl rfl ?_
  obtain ⟨b1, H⟩ := H
  refine s_zald (nx := 6) hO rfl (hs_Z kc158) b1 rfl ?_
  refine goK (H (fun (y2 : Int32) => xEx G mX12_holds 26 [(0, .ref (q_b G + 139)), (1, .int v1)] [.int y2] (hS G s) z 0 0 (yPi G z s Q)) (fun y2 H => ?_)) (fun H => ?_)
  · show xEx G mX12_holds 26 [(0, .ref (q_b G + 139)), (1, .int v1)] [.int y2] (hS G s) z 0 0 (yPi G z s Q)
    refine s_istore_n (nx := 27) (l' := [(3, .int y2), (0, .ref (q_b G + 139)), (1, .int v1)]) hO rfl (by decide) rfl rfl ?_
    refine s_aload_n (nx := 28) hO rfl rfl rfl ?_
    refine s_getf (v := .ref (q_b G + 158)) (nx := 31) hO rfl rfl (hs_o12 kc139) rfl rfl ?_
    refine s_iload_n (nx := 32) hO rfl rfl rfl ?_
    obtain ⟨b3, H⟩ := H
    refine s_zald (nx := 33) hO rfl (hs_Z kc158) b3 rfl ?_
    refine goK (H (fun (y4 : Int32) => xEx G mX12_holds 61 [(0, .ref (q_b G + 139)), (1, .int v1), (3, .int y2)] [.int y4] (hS G s) z 0 0 (yPi G z s Q)) (fun y4 H => ?_)) (fun H => ?_)
    · show xEx G mX12_holds 61 [(0, .ref (q_b G + 139)), (1, .int v1), (3, .int y2)] [.int y4] (hS G s) z 0 0 (yPi G z s Q)
      refine s_istore (nx := 63) (l' := [(4, .int y4), (0, .ref (q_b G + 139)), (1, .int v1), (3, .int y2)]) hO rfl (by decide) rfl rfl ?_
      refine s_iload_n (nx := 64) hO rfl rfl rfl ?_
      refine goK (H (fun (y5 : Int32) => xEx G mX12_holds 130 [(0, .ref (q_b G + 139)), (1, .int v1)] [.int y5] (hS G s) z 0 0 (yPi G z s Q)) (fun y5 H => ?_)) (fun H => ?_)
      · show xEx G mX12_holds 130 [(0, .ref (q_b G + 139)), (1, .int v1)] [.int y5] (hS G s) z 0 0 (yPi G z s Q)
        refine s_istore (nx := 132) (l' := [(5, .int y5), (0, .ref (q_b G + 139)), (1, .int v1)]) hO rfl (by decide) rfl rfl ?_
        refine s_iload (nx := 134) hO rfl rfl rfl ?_
        refine s_aload_n (nx := 135) hO rfl rfl rfl ?_
        refine s_getf (v := .ref (q_b G + 163)) (nx := 138) hO rfl rfl (hs_o12 kc139) rfl rfl ?_
        refine s_iload_n (nx := 139) hO rfl rfl rfl ?_
        obtain ⟨b6, H⟩ := H
        refine s_zald (nx := 140) hO rfl (hs_Z kc163) b6 rfl ?_
        refine s_icmp_eq (nx := 143) hO rfl rfl (fun c140 => ?_) (fun c140 => ?_)
        · replace H := H.1 c140
          refine s_iconst (x := 0) (nx := 148) hO rfl (by decide) rfl ?_
          exact s_iret hO rfl rfl rfl ⟨rfl, _, rfl, rfl, H⟩
        · replace H := H.2 c140
          refine s_iconst (x := 1) (nx := 144) hO rfl (by decide) rfl ?_
          refine s_goto hO rfl ?_
          exact s_iret hO rfl rfl rfl ⟨rfl, _, rfl, rfl, H⟩
      refine s_if_eq (nx := 67) hO rfl rfl (fun c64 => ?_) (fun c64 => ?_)
      · replace H := H.1 c64
        refine s_iconst (x := 0) (nx := 130) hO rfl (by decide) rfl ?_
        exact xEx.loc (x_sub1 (List.Mem.tail _ (List.Mem.head _)) (x_sub1 (List.Mem.tail _ (List.Mem.tail _ (List.Mem.head _))) x_sub0)) H
      · replace H := H.2 c64
        refine s_aload_n (nx := 68) hO rfl rfl rfl ?_
        refine s_getf (v := .ref (q_b G + 161)) (nx := 71) hO rfl rfl (hs_o12 kc139) rfl rfl ?_
        refine s_iload_n (nx := 72) hO rfl rfl rfl ?_
        obtain ⟨b7, H⟩ := H
        refine s_iald (nx := 73) hO rfl (hs_I kc161) b7 rfl ?_
        refine s_if_ne (nx := 76) hO rfl rfl (fun c73 => ?_) (fun c73 => ?_)
        · replace H := H.1 c73
          refine s_aload_n (nx := 91) hO rfl rfl rfl ?_
          refine s_getf (v := .ref (q_b G + 161)) (nx := 94) hO rfl rfl (hs_o12 kc139) rfl rfl ?_
          refine s_iload_n (nx := 95) hO rfl rfl rfl ?_
          obtain ⟨b8, H⟩ := H
          refine s_iald (nx := 96) hO rfl (hs_I kc161) b8 rfl ?_
          refine s_iconst (x := 1) (nx := 97) hO rfl (by decide) rfl ?_
          refine s_icmp_ne (nx := 100) hO rfl rfl (fun c97 => ?_) (fun c97 => ?_)
          · replace H := H.1 c97
            refine s_iload (nx := 116) hO rfl rfl rfl ?_
            refine s_aload_n (nx := 117) hO rfl rfl rfl ?_
            refine s_getf (v := .ref (q_b G + 162)) (nx := 120) hO rfl rfl (hs_o12 kc139) rfl rfl ?_
            refine s_iload_n (nx := 121) hO rfl rfl rfl ?_
            obtain ⟨b9, H⟩ := H
            refine s_iald (nx := 122) hO rfl (hs_I kc162) b9 rfl ?_
            refine s_icmp_le (nx := 125) hO rfl rfl (fun c122 => ?_) (fun c122 => ?_)
            · replace H := H.1 c122
              refine s_iconst (x := 0) (nx := 130) hO rfl (by decide) rfl ?_
              exact xEx.loc (x_sub1 (List.Mem.tail _ (List.Mem.head _)) (x_sub1 (List.Mem.tail _ (List.Mem.tail _ (List.Mem.head _))) x_sub0)) H
            · replace H := H.2 c122
              refine s_iconst (x := 1) (nx := 126) hO rfl (by decide) rfl ?_
              refine s_goto hO rfl ?_
              exact xEx.loc (x_sub1 (List.Mem.tail _ (List.Mem.head _)) (x_sub1 (List.Mem.tail _ (List.Mem.tail _ (List.Mem.head _))) x_sub0)) H
          · replace H := H.2 c97
            refine s_iload (nx := 102) hO rfl rfl rfl ?_
            refine s_aload_n (nx := 103) hO rfl rfl rfl ?_
            refine s_getf (v := .ref (q_b G + 162)) (nx := 106) hO rfl rfl (hs_o12 kc139) rfl rfl ?_
            refine s_iload_n (nx := 107) hO rfl rfl rfl ?_
            obtain ⟨b10, H⟩ := H
            refine s_iald (nx := 108) hO rfl (hs_I kc162) b10 rfl ?_
            refine s_icmp_ne (nx := 111) hO rfl rfl (fun c108 => ?_) (fun c108 => ?_)
            · replace H := H.1 c108
              refine s_iconst (x := 0) (nx := 130) hO rfl (by decide) rfl ?_
              exact xEx.loc (x_sub1 (List.Mem.tail _ (List.Mem.head _)) (x_sub1 (List.Mem.tail _ (List.Mem.tail _ (List.Mem.head _))) x_sub0)) H
            · replace H := H.2 c108
              refine s_goto hO rfl ?_
              refine s_iconst (x := 1) (nx := 126) hO rfl (by decide) rfl ?_
              refine s_goto hO rfl ?_
              exact xEx.loc (x_sub1 (List.Mem.tail _ (List.Mem.head _)) (x_sub1 (List.Mem.tail _ (List.Mem.tail _ (List.Mem.head _))) x_sub0)) H
        · replace H := H.2 c73
          refine s_iload (nx := 78) hO rfl rfl rfl ?_
          refine s_aload_n (nx := 79) hO rfl rfl rfl ?_
          refine s_getf (v := .ref (q_b G + 162)) (nx := 82) hO rfl rfl (hs_o12 kc139) rfl rfl ?_
          refine s_iload_n (nx := 83) hO rfl rfl rfl ?_
          obtain ⟨b11, H⟩ := H
          refine s_iald (nx := 84) hO rfl (hs_I kc162) b11 rfl ?_
          refine s_icmp_ge (nx := 87) hO rfl rfl (fun c84 => ?_) (fun c84 => ?_)
          · replace H := H.1 c84
            refine s_iconst (x := 0) (nx := 130) hO rfl (by decide) rfl ?_
            exact xEx.loc (x_sub1 (List.Mem.tail _ (List.Mem.head _)) (x_sub1 (List.Mem.tail _ (List.Mem.tail _ (List.Mem.head _))) x_sub0)) H
          · replace H := H.2 c84
            refine s_goto hO rfl ?_
            refine s_iconst (x := 1) (nx := 126) hO rfl (by decide) rfl ?_
            refine s_goto hO rfl ?_
            exact xEx.loc (x_sub1 (List.Mem.tail _ (List.Mem.head _)) (x_sub1 (List.Mem.tail _ (List.Mem.tail _ (List.Mem.head _))) x_sub0)) H
    refine s_if_eq (nx := 36) hO rfl rfl (fun c33 => ?_) (fun c33 => ?_)
    · replace H := H.1 c33
      refine s_aload_n (nx := 51) hO rfl rfl rfl ?_
      refine s_getf (v := .ref (q_b G + 175)) (nx := 54) hO rfl rfl (hs_o12 kc139) rfl rfl ?_
      refine s_aload_n (nx := 55) hO rfl rfl rfl ?_
      refine s_getf (v := .ref (q_b G + 159)) (nx := 58) hO rfl rfl (hs_o12 kc139) rfl rfl ?_
      refine s_iload_n (nx := 59) hO rfl rfl rfl ?_
      obtain ⟨b12, H⟩ := H
      refine s_iald (nx := 60) hO rfl (hs_I kc159) b12 rfl ?_
      obtain ⟨b13, H⟩ := H
      refine s_iald (nx := 61) hO rfl (hs_I kc175) b13 rfl ?_
      exact xEx.loc (x_sub1 (List.Mem.tail _ (List.Mem.head _)) (x_sub1 (List.Mem.tail _ (List.Mem.tail _ (List.Mem.head _))) (x_sub1 (List.Mem.head _) x_sub0))) H
    · replace H := H.2 c33
      refine s_aload_n (nx := 37) hO rfl rfl rfl ?_
      refine s_getf (v := .ref (q_b G + 176)) (nx := 40) hO rfl rfl (hs_o12 kc139) rfl rfl ?_
      refine s_aload_n (nx := 41) hO rfl rfl rfl ?_
      refine s_getf (v := .ref (q_b G + 159)) (nx := 44) hO rfl rfl (hs_o12 kc139) rfl rfl ?_
      refine s_iload_n (nx := 45) hO rfl rfl rfl ?_
      obtain ⟨b14, H⟩ := H
      refine s_iald (nx := 46) hO rfl (hs_I kc159) b14 rfl ?_
      obtain ⟨b15, H⟩ := H
      refine s_iald (nx := 47) hO rfl (hs_I kc176) b15 rfl ?_
      refine s_goto hO rfl ?_
      exact xEx.loc (x_sub1 (List.Mem.tail _ (List.Mem.head _)) (x_sub1 (List.Mem.tail _ (List.Mem.tail _ (List.Mem.head _))) (x_sub1 (List.Mem.head _) x_sub0))) H
  refine s_if_ne (nx := 9) hO rfl rfl (fun c6 => ?_) (fun c6 => ?_)
  · replace H := H.1 c6
    refine s_iconst (x := 1) (nx := 22) hO rfl (by decide) rfl ?_
    refine s_goto hO rfl ?_
    exact xEx.loc (x_sub1 (List.Mem.head _) (x_sub1 (List.Mem.tail _ (List.Mem.head _)) x_sub0)) H
  · replace H := H.2 c6
    refine s_aload_n (nx := 10) hO rfl rfl rfl ?_
    refine s_getf (v := .ref (q_b G + 159)) (nx := 13) hO rfl rfl (hs_o12 kc139) rfl rfl ?_
    refine s_iload_n (nx := 14) hO rfl rfl rfl ?_
    obtain ⟨b16, H⟩ := H
    refine s_iald (nx := 15) hO rfl (hs_I kc159) b16 rfl ?_
    refine s_iload_n (nx := 16) hO rfl rfl rfl ?_
    refine s_iconst (x := (nI 4)) (nx := 17) hO rfl (by decide) rfl ?_
    refine s_irem (nx := 18) hO rfl (by decide) rfl ?_
    refine s_icmp_ge (nx := 21) hO rfl rfl (fun c18 => ?_) (fun c18 => ?_)
    · replace H := H.1 c18
      refine s_iconst (x := 0) (nx := 26) hO rfl (by decide) rfl ?_
      exact xEx.loc (x_sub1 (List.Mem.head _) (x_sub1 (List.Mem.tail _ (List.Mem.head _)) x_sub0)) H
    · replace H := H.2 c18
      refine s_iconst (x := 1) (nx := 22) hO rfl (by decide) rfl ?_
      refine s_goto hO rfl ?_
      exact xEx.loc (x_sub1 (List.Mem.head _) (x_sub1 (List.Mem.tail _ (List.Mem.head _)) x_sub0)) H
def W_X12_hold (s : yS) (v1 : Int32) (v2 : Int32) (v3 : Int32) (Q : Int32 → Prop) : Prop :=
 ∀ P6 : Int32 → Int32 → Prop, (∀ (x1 : Int32) (x2 : Int32), ((((v1 + v2) ≤ x2 → zb x1 ∧ Q x1)
  ∧ (¬ (v1 + v2) ≤ x2 → ∀ P34 : Int32 → Prop, (∀ (y4 : Int32), (∀ x5 : Int32, x5 = (x2 + 1) → 
    P6 y4 x5) → P34 y4) → 
   ((x1 = 0 → P34 0)
   ∧ (¬ x1 = 0 → W_X12_holds s x2 v3 
    (fun r6 => ((r6 = 0 → P34 0)
    ∧ (¬ r6 = 0 → P34 1)))))))) → P6 x1 x2) → 
 P6 1 v1
set_option maxRecDepth 100000 in
set_option maxHeartbeats 40000000 in
theorem w_X12_hold {G : xG} (hG : yG G) {z : Nat} {s : yS} {v1 : Int32} {v2 : Int32} {v3 : Int32} {Q : Int32 → Prop} (H : W_X12_hold s v1 v2 v3 Q) : xC G mX12_hold [.ref (q_b G + 139), .int v1, .int v2, .int v3] (hS G s) z 0 0 (yPi G z s Q) := by
  have hW := hG.1
  have hcl := hG.2.1
  have hty := hG.2.2.1
  have hO : xO G mX12_hold tbX12_hold ptX12_hold := ⟨tkX12_hold, pkX12_hold hcl⟩
  unfold W_X12_hold at H
  refine xC.of hW (by decide) rfl (Nat.le_of_ble_eq_true rfl) ?_
  refine s_iconst (x := 1) (nx := 1) hO rfl (by decide) rfl ?_
  refine s_istore (nx := 3) (l' := [(4, .int 1), (0, .ref (q_b G + 139)), (1, .int v1), (2, .int v2), (3, .int v3)]) hO rfl (by decide) rfl rfl ?_
  refine s_iload_n (nx := 4) hO rfl rfl rfl ?_
  refine goK (H (fun (x1 : Int32) (x2 : Int32) => xEx G mX12_hold 6 [(0, .ref (q_b G + 139)), (1, .int v1), (2, .int v2), (3, .int v3), (4, .int x1), (5, .int x2)] [] (hS G s) z 0 0 (yPi G z s Q)) (fun x1 x2 H => ?_)) (fun H => ?_)
  · show xEx G mX12_hold 6 [(0, .ref (q_b G + 139)), (1, .int v1), (2, .int v2), (3, .int v3), (4, .int x1), (5, .int x2)] [] (hS G s) z 0 0 (yPi G z s Q)
    refine s_iload (nx := 8) hO rfl rfl rfl ?_
    refine s_iload_n (nx := 9) hO rfl rfl rfl ?_
    refine s_iload_n (nx := 10) hO rfl rfl rfl ?_
    refine s_iadd (nx := 11) hO rfl rfl ?_
    refine s_icmp_ge (nx := 14) hO rfl rfl (fun c11 => ?_) (fun c11 => ?_)
    · replace H := H.1 c11
      refine s_iload (nx := 44) hO rfl rfl rfl ?_
      obtain ⟨b3, H⟩ := H
      exact s_iret hO rfl rfl (zb_n b3) ⟨rfl, _, rfl, rfl, H⟩
    · replace H := H.2 c11
      refine s_iload (nx := 16) hO rfl rfl rfl ?_
      refine goK (H (fun (y4 : Int32) => xEx G mX12_hold 34 [(0, .ref (q_b G + 139)), (1, .int v1), (2, .int v2), (3, .int v3), (5, .int x2)] [.int y4] (hS G s) z 0 0 (yPi G z s Q)) (fun y4 H => ?_)) (fun H => ?_)
      · show xEx G mX12_hold 34 [(0, .ref (q_b G + 139)), (1, .int v1), (2, .int v2), (3, .int v3), (5, .int x2)] [.int y4] (hS G s) z 0 0 (yPi G z s Q)
        refine s_istore (nx := 36) (l' := [(4, .int y4), (0, .ref (q_b G + 139)), (1, .int v1), (2, .int v2), (3, .int v3), (5, .int x2)]) hO rfl (by decide) rfl rfl ?_
        refine goV ((x2 + 1)) (fun x5 ex5 => ?_)
        replace H := H x5 ex5
        refine e_iinc (nx := 39) (l' := [(5, .int x5), (4, .int y4), (0, .ref (q_b G + 139)), (1, .int v1), (2, .int v2), (3, .int v3)]) ex5 hO rfl (by decide) rfl rfl rfl rfl ?_
        refine s_goto hO rfl ?_
        exact xEx.loc (x_sub1 (List.Mem.tail _ (List.Mem.tail _ (List.Mem.head _))) (x_sub1 (List.Mem.tail _ (List.Mem.tail _ (List.Mem.tail _ (List.Mem.head _)))) (x_sub1 (List.Mem.tail _ (List.Mem.tail _ (List.Mem.tail _ (List.Mem.tail _ (List.Mem.head _))))) (x_sub1 (List.Mem.tail _ (List.Mem.tail _ (List.Mem.tail _ (List.Mem.tail _ (List.Mem.tail _ (List.Mem.head _)))))) (x_sub1 (List.Mem.tail _ (List.Mem.head _)) (x_sub1 (List.Mem.head _) x_sub0)))))) H
      refine s_if_eq (nx := 19) hO rfl rfl (fun c16 => ?_) (fun c16 => ?_)
      · replace H := H.1 c16
        refine s_iconst (x := 0) (nx := 34) hO rfl (by decide) rfl ?_
        exact xEx.loc (x_sub1 (List.Mem.head _) (x_sub1 (List.Mem.tail _ (List.Mem.head _)) (x_sub1 (List.Mem.tail _ (List.Mem.tail _ (List.Mem.head _))) (x_sub1 (List.Mem.tail _ (List.Mem.tail _ (List.Mem.tail _ (List.Mem.head _)))) (x_sub1 (List.Mem.tail _ (List.Mem.tail _ (List.Mem.tail _ (List.Mem.tail _ (List.Mem.tail _ (List.Mem.head _)))))) x_sub0))))) H
      · replace H := H.2 c16
        refine s_aload_n (nx := 20) hO rfl rfl rfl ?_
        refine s_iload (nx := 22) hO rfl rfl rfl ?_
        refine s_iload_n (nx := 23) hO rfl rfl rfl ?_
        refine s_callV [.int x2, .int v3] (ci := 12) (F := TX12) (N := 116) (nx := 26) hO rfl kX12_hold_449 (by rw [hcl]; rfl) (hs_o12 kc139) (w_X12_holds hG H) rfl rfl (Nat.le_of_ble_eq_true rfl) (Nat.zero_le _) (Nat.zero_le _) rfl (k_Pi (fun r6 H => ?_))
        refine s_if_eq (nx := 29) hO rfl rfl (fun c26 => ?_) (fun c26 => ?_)
        · replace H := H.1 c26
          refine s_iconst (x := 0) (nx := 34) hO rfl (by decide) rfl ?_
          exact xEx.loc (x_sub1 (List.Mem.head _) (x_sub1 (List.Mem.tail _ (List.Mem.head _)) (x_sub1 (List.Mem.tail _ (List.Mem.tail _ (List.Mem.head _))) (x_sub1 (List.Mem.tail _ (List.Mem.tail _ (List.Mem.tail _ (List.Mem.head _)))) (x_sub1 (List.Mem.tail _ (List.Mem.tail _ (List.Mem.tail _ (List.Mem.tail _ (List.Mem.tail _ (List.Mem.head _)))))) x_sub0))))) H
        · replace H := H.2 c26
          refine s_iconst (x := 1) (nx := 30) hO rfl (by decide) rfl ?_
          refine s_goto hO rfl ?_
          exact xEx.loc (x_sub1 (List.Mem.head _) (x_sub1 (List.Mem.tail _ (List.Mem.head _)) (x_sub1 (List.Mem.tail _ (List.Mem.tail _ (List.Mem.head _))) (x_sub1 (List.Mem.tail _ (List.Mem.tail _ (List.Mem.tail _ (List.Mem.head _)))) (x_sub1 (List.Mem.tail _ (List.Mem.tail _ (List.Mem.tail _ (List.Mem.tail _ (List.Mem.tail _ (List.Mem.head _)))))) x_sub0))))) H
  refine s_istore (nx := 6) (l' := [(5, .int v1), (4, .int 1), (0, .ref (q_b G + 139)), (1, .int v1), (2, .int v2), (3, .int v3)]) hO rfl (by decide) rfl rfl ?_
  exact xEx.loc (x_sub1 (List.Mem.tail _ (List.Mem.tail _ (List.Mem.head _))) (x_sub1 (List.Mem.tail _ (List.Mem.tail _ (List.Mem.tail _ (List.Mem.head _)))) (x_sub1 (List.Mem.tail _ (List.Mem.tail _ (List.Mem.tail _ (List.Mem.tail _ (List.Mem.head _))))) (x_sub1 (List.Mem.tail _ (List.Mem.tail _ (List.Mem.tail _ (List.Mem.tail _ (List.Mem.tail _ (List.Mem.head _)))))) (x_sub1 (List.Mem.tail _ (List.Mem.head _)) (x_sub1 (List.Mem.head _) x_sub0)))))) H
def W_X12_step (s : yS) (v1 : Int32) (v2 : Int32) (Q : Int32 → Prop) : Prop :=
 ∀ P5 : Int32 → Int32 → Prop, (∀ (x1 : Int32) (x2 : Int32), ((((sI s 139 34) ≤ x2 → Q x1)
  ∧ (¬ (sI s 139 34) ≤ x2 → vp_in x2 192 ∧ 
   ∀ P55 : Int32 → Prop, (∀ (y4 : Int32), (∀ P96 : Int32 → Prop, (∀ (x5 : Int32), (∀ x6 : Int32, x6 = (x2 + 1) → 
     P5 x5 x6) → P96 x5) → 
    ((y4 = 0 → P96 x1)
    ∧ (¬ y4 = 0 → vp_in x2 192 ∧ 
     vp_in x2 192 ∧ 
     W_X12_hold s (sI s 154 (ix x2)) (sI s 155 (ix x2)) v2 
     (fun r9 => ((r9 = 0 → P96 x1)
     ∧ (¬ r9 = 0 → vp_in x2 192 ∧ 
      ∀ x11 : Int32, x11 = (x1 ||| (1 <<< ((sI s 157 (ix x2)) &&& 31))) → 
      P96 x11)))))) → P55 y4) → 
   ((¬ ((v1 >>> ((sI s 152 (ix x2)) &&& 31)) &&& 1) = 1 → P55 0)
   ∧ (((v1 >>> ((sI s 152 (ix x2)) &&& 31)) &&& 1) = 1 → vp_in x2 192 ∧ 
    (((sI s 153 (ix x2)) < 0 → P55 1)
    ∧ (¬ (sI s 153 (ix x2)) < 0 → vp_in x2 192 ∧ 
     ((¬ (sI s 153 (ix x2)) = v2 → P55 0)
     ∧ ((sI s 153 (ix x2)) = v2 → P55 1))))))))) → P5 x1 x2) → 
 P5 0 0
set_option maxRecDepth 100000 in
set_option maxHeartbeats 40000000 in
theorem w_X12_step {G : xG} (hG : yG G) {z : Nat} {s : yS} {v1 : Int32} {v2 : Int32} {Q : Int32 → Prop} (H : W_X12_step s v1 v2 Q) : xC G mX12_step [.ref (q_b G + 139), .int v1, .int v2] (hS G s) z 0 0 (yPi G z s Q) := by
  have hW := hG.1
  have hcl := hG.2.1
  have hty := hG.2.2.1
  have hO : xO G mX12_step tbX12_step ptX12_step := ⟨tkX12_step, pkX12_step hcl⟩
  unfold W_X12_step at H
  refine xC.of hW (by decide) rfl (Nat.le_of_ble_eq_true rfl) ?_
  refine s_iconst (x := 0) (nx := 1) hO rfl (by decide) rfl ?_
  refine s_istore_n (nx := 2) (l' := [(3, .int 0), (0, .ref (q_b G + 139)), (1, .int v1), (2, .int v2)]) hO rfl (by decide) rfl rfl ?_
  refine s_iconst (x := 0) (nx := 3) hO rfl (by decide) rfl ?_
  refine goK (H (fun (x1 : Int32) (x2 : Int32) => xEx G mX12_step 5 [(0, .ref (q_b G + 139)), (1, .int v1), (2, .int v2), (3, .int x1), (4, .int x2)] [] (hS G s) z 0 0 (yPi G z s Q)) (fun x1 x2 H => ?_)) (fun H => ?_)
  · show xEx G mX12_step 5 [(0, .ref (q_b G + 139)), (1, .int v1), (2, .int v2), (3, .int x1), (4, .int x2)] [] (hS G s) z 0 0 (yPi G z s Q)
    refine s_iload (nx := 7) hO rfl rfl rfl ?_
    refine s_aload_n (nx := 8) hO rfl rfl rfl ?_
    refine s_getf (v := .int (sI s 139 34)) (nx := 11) hO rfl rfl (hs_o12 kc139) rfl rfl ?_
    refine s_icmp_ge (nx := 14) hO rfl rfl (fun c11 => ?_) (fun c11 => ?_)
    · replace H := H.1 c11
      refine s_iload_n (nx := 103) hO rfl rfl rfl ?_
      exact s_iret hO rfl rfl rfl ⟨rfl, _, rfl, rfl, H⟩
    · replace H := H.2 c11
      refine s_iload_n (nx := 15) hO rfl rfl rfl ?_
      refine s_aload_n (nx := 16) hO rfl rfl rfl ?_
      refine s_getf (v := .ref (q_b G + 152)) (nx := 19) hO rfl rfl (hs_o12 kc139) rfl rfl ?_
      refine s_iload (nx := 21) hO rfl rfl rfl ?_
      obtain ⟨b3, H⟩ := H
      refine s_iald (nx := 22) hO rfl (hs_I kc152) b3 rfl ?_
      refine s_ishr (nx := 23) hO rfl rfl ?_
      refine s_iconst (x := 1) (nx := 24) hO rfl (by decide) rfl ?_
      refine s_iand (nx := 25) hO rfl rfl ?_
      refine s_iconst (x := 1) (nx := 26) hO rfl (by decide) rfl ?_
      refine goK (H (fun (y4 : Int32) => xEx G mX12_step 55 [(0, .ref (q_b G + 139)), (1, .int v1), (2, .int v2), (3, .int x1), (4, .int x2)] [.int y4] (hS G s) z 0 0 (yPi G z s Q)) (fun y4 H => ?_)) (fun H => ?_)
      · show xEx G mX12_step 55 [(0, .ref (q_b G + 139)), (1, .int v1), (2, .int v2), (3, .int x1), (4, .int x2)] [.int y4] (hS G s) z 0 0 (yPi G z s Q)
        refine s_istore (nx := 57) (l' := [(5, .int y4), (0, .ref (q_b G + 139)), (1, .int v1), (2, .int v2), (3, .int x1), (4, .int x2)]) hO rfl (by decide) rfl rfl ?_
        refine s_iload (nx := 59) hO rfl rfl rfl ?_
        refine goK (H (fun (x5 : Int32) => xEx G mX12_step 96 [(0, .ref (q_b G + 139)), (1, .int v1), (2, .int v2), (3, .int x5), (4, .int x2)] [] (hS G s) z 0 0 (yPi G z s Q)) (fun x5 H => ?_)) (fun H => ?_)
        · show xEx G mX12_step 96 [(0, .ref (q_b G + 139)), (1, .int v1), (2, .int v2), (3, .int x5), (4, .int x2)] [] (hS G s) z 0 0 (yPi G z s Q)
          refine goV ((x2 + 1)) (fun x6 ex6 => ?_)
          replace H := H x6 ex6
          refine e_iinc (nx := 99) (l' := [(4, .int x6), (0, .ref (q_b G + 139)), (1, .int v1), (2, .int v2), (3, .int x5)]) ex6 hO rfl (by decide) rfl rfl rfl rfl ?_
          refine s_goto hO rfl ?_
          exact xEx.loc (x_sub1 (List.Mem.tail _ (List.Mem.head _)) (x_sub1 (List.Mem.tail _ (List.Mem.tail _ (List.Mem.head _))) (x_sub1 (List.Mem.tail _ (List.Mem.tail _ (List.Mem.tail _ (List.Mem.head _)))) (x_sub1 (List.Mem.tail _ (List.Mem.tail _ (List.Mem.tail _ (List.Mem.tail _ (List.Mem.head _))))) (x_sub1 (List.Mem.head _) x_sub0))))) H
        refine s_if_eq (nx := 62) hO rfl rfl (fun c59 => ?_) (fun c59 => ?_)
        · replace H := H.1 c59
          exact xEx.loc (x_sub1 (List.Mem.tail _ (List.Mem.head _)) (x_sub1 (List.Mem.tail _ (List.Mem.tail _ (List.Mem.head _))) (x_sub1 (List.Mem.tail _ (List.Mem.tail _ (List.Mem.tail _ (List.Mem.head _)))) (x_sub1 (List.Mem.tail _ (List.Mem.tail _ (List.Mem.tail _ (List.Mem.tail _ (List.Mem.head _))))) (x_sub1 (List.Mem.tail _ (List.Mem.tail _ (List.Mem.tail _ (List.Mem.tail _ (List.Mem.tail _ (List.Mem.head _)))))) x_sub0))))) H
        · replace H := H.2 c59
          refine s_aload_n (nx := 63) hO rfl rfl rfl ?_
          refine s_aload_n (nx := 64) hO rfl rfl rfl ?_
          refine s_getf (v := .ref (q_b G + 154)) (nx := 67) hO rfl rfl (hs_o12 kc139) rfl rfl ?_
          refine s_iload (nx := 69) hO rfl rfl rfl ?_
          obtain ⟨b7, H⟩ := H
          refine s_iald (nx := 70) hO rfl (hs_I kc154) b7 rfl ?_
          refine s_aload_n (nx := 71) hO rfl rfl rfl ?_
          refine s_getf (v := .ref (q_b G + 155)) (nx := 74) hO rfl rfl (hs_o12 kc139) rfl rfl ?_
          refine s_iload (nx := 76) hO rfl rfl rfl ?_
          obtain ⟨b8, H⟩ := H
          refine s_iald (nx := 77) hO rfl (hs_I kc155) b8 rfl ?_
          refine s_iload_n (nx := 78) hO rfl rfl rfl ?_
          refine s_callV [.int (sI s 154 (ix x2)), .int (sI s 155 (ix x2)), .int v2] (ci := 12) (F := TX12) (N := 116) (nx := 81) hO rfl kX12_step_471 (by rw [hcl]; rfl) (hs_o12 kc139) (w_X12_hold hG H) rfl rfl (Nat.le_of_ble_eq_true rfl) (Nat.zero_le _) (Nat.zero_le _) rfl (k_Pi (fun r9 H => ?_))
          refine s_if_eq (nx := 84) hO rfl rfl (fun c81 => ?_) (fun c81 => ?_)
          · replace H := H.1 c81
            exact xEx.loc (x_sub1 (List.Mem.tail _ (List.Mem.head _)) (x_sub1 (List.Mem.tail _ (List.Mem.tail _ (List.Mem.head _))) (x_sub1 (List.Mem.tail _ (List.Mem.tail _ (List.Mem.tail _ (List.Mem.head _)))) (x_sub1 (List.Mem.tail _ (List.Mem.tail _ (List.Mem.tail _ (List.Mem.tail _ (List.Mem.head _))))) (x_sub1 (List.Mem.tail _ (List.Mem.tail _ (List.Mem.tail _ (List.Mem.tail _ (List.Mem.tail _ (List.Mem.head _)))))) x_sub0))))) H
          · replace H := H.2 c81
            refine s_iload_n (nx := 85) hO rfl rfl rfl ?_
            refine s_iconst (x := 1) (nx := 86) hO rfl (by decide) rfl ?_
            refine s_aload_n (nx := 87) hO rfl rfl rfl ?_
            refine s_getf (v := .ref (q_b G + 157)) (nx := 90) hO rfl rfl (hs_o12 kc139) rfl rfl ?_
            refine s_iload (nx := 92) hO rfl rfl rfl ?_
            obtain ⟨b10, H⟩ := H
            refine s_iald (nx := 93) hO rfl (hs_I kc157) b10 rfl ?_
            refine s_ishl (nx := 94) hO rfl rfl ?_
            refine s_ior (nx := 95) hO rfl rfl ?_
            refine goV ((x1 ||| (1 <<< ((sI s 157 (ix x2)) &&& 31)))) (fun x11 ex11 => ?_)
            replace H := H x11 ex11
            refine e_istore_n (nx := 96) (l' := [(3, .int x11), (5, .int y4), (0, .ref (q_b G + 139)), (1, .int v1), (2, .int v2), (4, .int x2)]) ex11 hO rfl (by decide) rfl rfl ?_
            exact xEx.loc (x_sub1 (List.Mem.tail _ (List.Mem.tail _ (List.Mem.head _))) (x_sub1 (List.Mem.tail _ (List.Mem.tail _ (List.Mem.tail _ (List.Mem.head _)))) (x_sub1 (List.Mem.tail _ (List.Mem.tail _ (List.Mem.tail _ (List.Mem.tail _ (List.Mem.head _))))) (x_sub1 (List.Mem.head _) (x_sub1 (List.Mem.tail _ (List.Mem.tail _ (List.Mem.tail _ (List.Mem.tail _ (List.Mem.tail _ (List.Mem.head _)))))) x_sub0))))) H
      refine s_icmp_ne (nx := 29) hO rfl rfl (fun c26 => ?_) (fun c26 => ?_)
      · replace H := H.1 c26
        refine s_iconst (x := 0) (nx := 55) hO rfl (by decide) rfl ?_
        exact xEx.loc (x_sub1 (List.Mem.head _) (x_sub1 (List.Mem.tail _ (List.Mem.head _)) (x_sub1 (List.Mem.tail _ (List.Mem.tail _ (List.Mem.head _))) (x_sub1 (List.Mem.tail _ (List.Mem.tail _ (List.Mem.tail _ (List.Mem.head _)))) (x_sub1 (List.Mem.tail _ (List.Mem.tail _ (List.Mem.tail _ (List.Mem.tail _ (List.Mem.head _))))) x_sub0))))) H
      · replace H := H.2 c26
        refine s_aload_n (nx := 30) hO rfl rfl rfl ?_
        refine s_getf (v := .ref (q_b G + 153)) (nx := 33) hO rfl rfl (hs_o12 kc139) rfl rfl ?_
        refine s_iload (nx := 35) hO rfl rfl rfl ?_
        obtain ⟨b12, H⟩ := H
        refine s_iald (nx := 36) hO rfl (hs_I kc153) b12 rfl ?_
        refine s_if_lt (nx := 39) hO rfl rfl (fun c36 => ?_) (fun c36 => ?_)
        · replace H := H.1 c36
          refine s_iconst (x := 1) (nx := 51) hO rfl (by decide) rfl ?_
          refine s_goto hO rfl ?_
          exact xEx.loc (x_sub1 (List.Mem.head _) (x_sub1 (List.Mem.tail _ (List.Mem.head _)) (x_sub1 (List.Mem.tail _ (List.Mem.tail _ (List.Mem.head _))) (x_sub1 (List.Mem.tail _ (List.Mem.tail _ (List.Mem.tail _ (List.Mem.head _)))) (x_sub1 (List.Mem.tail _ (List.Mem.tail _ (List.Mem.tail _ (List.Mem.tail _ (List.Mem.head _))))) x_sub0))))) H
        · replace H := H.2 c36
          refine s_aload_n (nx := 40) hO rfl rfl rfl ?_
          refine s_getf (v := .ref (q_b G + 153)) (nx := 43) hO rfl rfl (hs_o12 kc139) rfl rfl ?_
          refine s_iload (nx := 45) hO rfl rfl rfl ?_
          obtain ⟨b13, H⟩ := H
          refine s_iald (nx := 46) hO rfl (hs_I kc153) b13 rfl ?_
          refine s_iload_n (nx := 47) hO rfl rfl rfl ?_
          refine s_icmp_ne (nx := 50) hO rfl rfl (fun c47 => ?_) (fun c47 => ?_)
          · replace H := H.1 c47
            refine s_iconst (x := 0) (nx := 55) hO rfl (by decide) rfl ?_
            exact xEx.loc (x_sub1 (List.Mem.head _) (x_sub1 (List.Mem.tail _ (List.Mem.head _)) (x_sub1 (List.Mem.tail _ (List.Mem.tail _ (List.Mem.head _))) (x_sub1 (List.Mem.tail _ (List.Mem.tail _ (List.Mem.tail _ (List.Mem.head _)))) (x_sub1 (List.Mem.tail _ (List.Mem.tail _ (List.Mem.tail _ (List.Mem.tail _ (List.Mem.head _))))) x_sub0))))) H
          · replace H := H.2 c47
            refine s_iconst (x := 1) (nx := 51) hO rfl (by decide) rfl ?_
            refine s_goto hO rfl ?_
            exact xEx.loc (x_sub1 (List.Mem.head _) (x_sub1 (List.Mem.tail _ (List.Mem.head _)) (x_sub1 (List.Mem.tail _ (List.Mem.tail _ (List.Mem.head _))) (x_sub1 (List.Mem.tail _ (List.Mem.tail _ (List.Mem.tail _ (List.Mem.head _)))) (x_sub1 (List.Mem.tail _ (List.Mem.tail _ (List.Mem.tail _ (List.Mem.tail _ (List.Mem.head _))))) x_sub0))))) H
  refine s_istore (nx := 5) (l' := [(4, .int 0), (3, .int 0), (0, .ref (q_b G + 139)), (1, .int v1), (2, .int v2)]) hO rfl (by decide) rfl rfl ?_
  exact xEx.loc (x_sub1 (List.Mem.tail _ (List.Mem.tail _ (List.Mem.head _))) (x_sub1 (List.Mem.tail _ (List.Mem.tail _ (List.Mem.tail _ (List.Mem.head _)))) (x_sub1 (List.Mem.tail _ (List.Mem.tail _ (List.Mem.tail _ (List.Mem.tail _ (List.Mem.head _))))) (x_sub1 (List.Mem.tail _ (List.Mem.head _)) (x_sub1 (List.Mem.head _) x_sub0))))) H
def W_X12_indexOf (s : yS) (v1 : Int32) (Q : Int32 → Prop) : Prop :=
 ∀ P2 : Int32 → Prop, (∀ (x1 : Int32), (∀ P26 : Prop, (((((sI s 139 51) ≤ x1 → Q (-1))
   ∧ (¬ (sI s 139 51) ≤ x1 → Q x1))) → P26) → 
  (((sI s 139 51) ≤ x1 → P26)
  ∧ (¬ (sI s 139 51) ≤ x1 → vp_in x1 64 ∧ 
   (((sI s 170 (ix x1)) = v1 → P26)
   ∧ (¬ (sI s 170 (ix x1)) = v1 → ∀ x3 : Int32, x3 = (x1 + 1) → 
    P2 x3))))) → P2 x1) → 
 P2 0
set_option maxRecDepth 100000 in
set_option maxHeartbeats 40000000 in
theorem w_X12_indexOf {G : xG} (hG : yG G) {z : Nat} {s : yS} {v1 : Int32} {Q : Int32 → Prop} (H : W_X12_indexOf s v1 Q) : xC G mX12_indexOf [.ref (q_b G + 139), .int v1] (hS G s) z 0 0 (yPi G z s Q) := by
  have hW := hG.1
  have hcl := hG.2.1
  have hty := hG.2.2.1
  have hO : xO G mX12_indexOf tbX12_indexOf ptX12_indexOf := ⟨tkX12_indexOf, pkX12_indexOf hcl⟩
  unfold W_X12_indexOf at H
  refine xC.of hW (by decide) rfl (Nat.le_of_ble_eq_true rfl) ?_
  refine s_iconst (x := 0) (nx := 1) hO rfl (by decide) rfl ?_
  refine goK (H (fun (x1 : Int32) => xEx G mX12_indexOf 2 [(0, .ref (q_b G + 139)), (1, .int v1), (2, .int x1)] [] (hS G s) z 0 0 (yPi G z s Q)) (fun x1 H => ?_)) (fun H => ?_)
  · show xEx G mX12_indexOf 2 [(0, .ref (q_b G + 139)), (1, .int v1), (2, .int x1)] [] (hS G s) z 0 0 (yPi G z s Q)
    refine s_iload_n (nx := 3) hO rfl rfl rfl ?_
    refine s_aload_n (nx := 4) hO rfl rfl rfl ?_
    refine s_getf (v := .int (sI s 139 51)) (nx := 7) hO rfl rfl (hs_o12 kc139) rfl rfl ?_
    refine goK (H (xEx G mX12_indexOf 26 [(0, .ref (q_b G + 139)), (2, .int x1)] [] (hS G s) z 0 0 (yPi G z s Q)) (fun H => ?_)) (fun H => ?_)
    · show xEx G mX12_indexOf 26 [(0, .ref (q_b G + 139)), (2, .int x1)] [] (hS G s) z 0 0 (yPi G z s Q)
      refine s_iload_n (nx := 27) hO rfl rfl rfl ?_
      refine s_aload_n (nx := 28) hO rfl rfl rfl ?_
      refine s_getf (v := .int (sI s 139 51)) (nx := 31) hO rfl rfl (hs_o12 kc139) rfl rfl ?_
      refine s_icmp_ge (nx := 34) hO rfl rfl (fun c31 => ?_) (fun c31 => ?_)
      · replace H := H.1 c31
        refine s_iconst (x := (-1)) (nx := 39) hO rfl (by decide) rfl ?_
        exact s_iret hO rfl rfl rfl ⟨rfl, _, rfl, rfl, H⟩
      · replace H := H.2 c31
        refine s_iload_n (nx := 35) hO rfl rfl rfl ?_
        refine s_goto hO rfl ?_
        exact s_iret hO rfl rfl rfl ⟨rfl, _, rfl, rfl, H⟩
    refine s_icmp_ge (nx := 10) hO rfl rfl (fun c7 => ?_) (fun c7 => ?_)
    · replace H := H.1 c7
      exact xEx.loc (x_sub1 (List.Mem.head _) (x_sub1 (List.Mem.tail _ (List.Mem.tail _ (List.Mem.head _))) x_sub0)) H
    · replace H := H.2 c7
      refine s_aload_n (nx := 11) hO rfl rfl rfl ?_
      refine s_getf (v := .ref (q_b G + 170)) (nx := 14) hO rfl rfl (hs_o12 kc139) rfl rfl ?_
      refine s_iload_n (nx := 15) hO rfl rfl rfl ?_
      obtain ⟨b2, H⟩ := H
      refine s_iald (nx := 16) hO rfl (hs_I kc170) b2 rfl ?_
      refine s_iload_n (nx := 17) hO rfl rfl rfl ?_
      refine s_icmp_eq (nx := 20) hO rfl rfl (fun c17 => ?_) (fun c17 => ?_)
      · replace H := H.1 c17
        exact xEx.loc (x_sub1 (List.Mem.head _) (x_sub1 (List.Mem.tail _ (List.Mem.tail _ (List.Mem.head _))) x_sub0)) H
      · replace H := H.2 c17
        refine goV ((x1 + 1)) (fun x3 ex3 => ?_)
        replace H := H x3 ex3
        refine e_iinc (nx := 23) (l' := [(2, .int x3), (0, .ref (q_b G + 139)), (1, .int v1)]) ex3 hO rfl (by decide) rfl rfl rfl rfl ?_
        refine s_goto hO rfl ?_
        exact xEx.loc (x_sub1 (List.Mem.tail _ (List.Mem.head _)) (x_sub1 (List.Mem.tail _ (List.Mem.tail _ (List.Mem.head _))) (x_sub1 (List.Mem.head _) x_sub0))) H
  refine s_istore_n (nx := 2) (l' := [(2, .int 0), (0, .ref (q_b G + 139)), (1, .int v1)]) hO rfl (by decide) rfl rfl ?_
  exact xEx.loc (x_sub1 (List.Mem.tail _ (List.Mem.head _)) (x_sub1 (List.Mem.tail _ (List.Mem.tail _ (List.Mem.head _))) (x_sub1 (List.Mem.head _) x_sub0))) H
def W_X12_makeSets (s : yS) (Q : yS → Prop) : Prop :=
 vp_in 0 64 ∧ ∀ s2 : yS, s2 = wI s 170 (ix 0) 1 → 
 ∀ s3 : yS, s3 = wI s2 139 51 1 → 
 ∀ P14 : Int32 → yS → Prop, (∀ (x4 : Int32) (s5 : yS), ((((sI s5 139 51) ≤ x4 → Q s5)
  ∧ (¬ (sI s5 139 51) ≤ x4 → ∀ P24 : Int32 → yS → Prop, (∀ (x6 : Int32) (s7 : yS), ((((sI s7 139 47) ≤ x6 → ∀ x8 : Int32, x8 = (x4 + 1) → 
     P14 x8 s7)
    ∧ (¬ (sI s7 139 47) ≤ x6 → W_X12_setLetter s7 x6 
     (fun s9 => vp_in x4 64 ∧ 
     vp_in x6 512 ∧ 
     W_X12_step s9 (sI s9 170 (ix x4)) (sI s9 165 (ix x6)) 
     (fun r12 => ∀ P106 : yS → Prop, (∀ (s13 : yS), (∀ P130 : Int32 → Prop, (∀ (y14 : Int32), (vp_in (((nI 512) * x4) + x6) 32768 ∧ ∀ s16 : yS, s16 = wI s13 171 (ix (((nI 512) * x4) + x6)) y14 → 
       ∀ x17 : Int32, x17 = (x6 + 1) → 
       P24 x17 s16) → P130 y14) → 
      ((¬ r12 = 0 → W_X12_indexOf s13 r12 
       (fun r18 => P130 r18))
      ∧ (r12 = 0 → P130 (-1)))) → P106 s13) → 
     ((r12 = 0 → P106 s9)
     ∧ (¬ r12 = 0 → W_X12_indexOf s9 r12 
      (fun r19 => ((0 ≤ r19 → P106 s9)
      ∧ (¬ 0 ≤ r19 → ((¬ (sI s9 139 51) = (nI 63) → vp_in (sI s9 139 51) 64 ∧ ∀ s21 : yS, s21 = wI s9 170 (ix (sI s9 139 51)) r12 → 
        ∀ s22 : yS, s22 = wI s21 139 51 ((sI s21 139 51) + 1) → 
        P106 s22)
       ∧ ((sI s9 139 51) = (nI 63) → W_X12_wrong s9 (nI 8) (sI s9 139 9) 
        (fun s23 => Q s23))))))))))))) → P24 x6 s7) → 
   P24 0 s5))) → P14 x4 s5) → 
 P14 0 s3
set_option maxRecDepth 100000 in
set_option maxHeartbeats 40000000 in
theorem w_X12_makeSets {G : xG} (hG : yG G) {z : Nat} {s : yS} {Q : yS → Prop} (H : W_X12_makeSets s Q) : xC G mX12_makeSets [.ref (q_b G + 139)] (hS G s) z 0 0 (yQv G z Q) := by
  have hW := hG.1
  have hcl := hG.2.1
  have hty := hG.2.2.1
  have hO : xO G mX12_makeSets tbX12_makeSets ptX12_makeSets := ⟨tkX12_makeSets, pkX12_makeSets hcl⟩
  unfold W_X12_makeSets at H
  refine xC.of hW (by decide) rfl (Nat.le_of_ble_eq_true rfl) ?_
  refine s_aload_n (nx := 1) hO rfl rfl rfl ?_
  refine s_getf (v := .ref (q_b G + 170)) (nx := 4) hO rfl rfl (hs_o12 kc139) rfl rfl ?_
  refine s_iconst (x := 0) (nx := 5) hO rfl (by decide) rfl ?_
  refine s_iconst (x := 1) (nx := 6) hO rfl (by decide) rfl ?_
  obtain ⟨b1, H⟩ := H
  refine goV (wI s 170 (ix 0) 1) (fun s2 es2 => ?_)
  replace H := H s2 es2
  refine s_iast (nx := 7) hO rfl (hs_I kc170) b1 rfl ?_
  refine xEx.at (up_I kc170 es2) ?_
  refine s_aload_n (nx := 8) hO rfl rfl rfl ?_
  refine s_iconst (x := 1) (nx := 9) hO rfl (by decide) rfl ?_
  refine goV (wI s2 139 51 1) (fun s3 es3 => ?_)
  replace H := H s3 es3
  refine s_putf (nx := 12) hO rfl rfl (hs_o12 kc139) (Nat.le_of_ble_eq_true rfl) (by rw [hty]; rfl) (by rw [hty]; rfl) pX12_51 rfl ?_
  refine xEx.at (up_oI12 kc139 es3) ?_
  refine s_iconst (x := 0) (nx := 13) hO rfl (by decide) rfl ?_
  refine goK (H (fun (x4 : Int32) (s5 : yS) => xEx G mX12_makeSets 14 [(0, .ref (q_b G + 139)), (1, .int x4)] [] (hS G s5) z 0 0 (yQv G z Q)) (fun x4 s5 H => ?_)) (fun H => ?_)
  · show xEx G mX12_makeSets 14 [(0, .ref (q_b G + 139)), (1, .int x4)] [] (hS G s5) z 0 0 (yQv G z Q)
    refine s_iload_n (nx := 15) hO rfl rfl rfl ?_
    refine s_aload_n (nx := 16) hO rfl rfl rfl ?_
    refine s_getf (v := .int (sI s5 139 51)) (nx := 19) hO rfl rfl (hs_o12 kc139) rfl rfl ?_
    refine s_icmp_ge (nx := 22) hO rfl rfl (fun c19 => ?_) (fun c19 => ?_)
    · replace H := H.1 c19
      exact s_vret hO rfl rfl ⟨rfl, _, rfl, rfl, H⟩
    · replace H := H.2 c19
      refine s_iconst (x := 0) (nx := 23) hO rfl (by decide) rfl ?_
      refine goK (H (fun (x6 : Int32) (s7 : yS) => xEx G mX12_makeSets 24 [(0, .ref (q_b G + 139)), (1, .int x4), (2, .int x6)] [] (hS G s7) z 0 0 (yQv G z Q)) (fun x6 s7 H => ?_)) (fun H => ?_)
      · show xEx G mX12_makeSets 24 [(0, .ref (q_b G + 139)), (1, .int x4), (2, .int x6)] [] (hS G s7) z 0 0 (yQv G z Q)
        refine s_iload_n (nx := 25) hO rfl rfl rfl ?_
        refine s_aload_n (nx := 26) hO rfl rfl rfl ?_
        refine s_getf (v := .int (sI s7 139 47)) (nx := 29) hO rfl rfl (hs_o12 kc139) rfl rfl ?_
        refine s_icmp_ge (nx := 32) hO rfl rfl (fun c29 => ?_) (fun c29 => ?_)
        · replace H := H.1 c29
          refine goV ((x4 + 1)) (fun x8 ex8 => ?_)
          replace H := H x8 ex8
          refine e_iinc (nx := 140) (l' := [(1, .int x8), (0, .ref (q_b G + 139)), (2, .int x6)]) ex8 hO rfl (by decide) rfl rfl rfl rfl ?_
          refine s_goto hO rfl ?_
          exact xEx.loc (x_sub1 (List.Mem.tail _ (List.Mem.head _)) (x_sub1 (List.Mem.head _) x_sub0)) H
        · replace H := H.2 c29
          refine s_aload_n (nx := 33) hO rfl rfl rfl ?_
          refine s_iload_n (nx := 34) hO rfl rfl rfl ?_
          refine s_callV [.int x6] (ci := 12) (F := TX12) (N := 116) (nx := 37) hO rfl kX12_makeSets_478 (by rw [hcl]; rfl) (hs_o12 kc139) (w_X12_setLetter hG H) rfl rfl (Nat.le_of_ble_eq_true rfl) (Nat.zero_le _) (Nat.zero_le _) rfl (k_Qv (fun s9 H => ?_))
          refine s_aload_n (nx := 38) hO rfl rfl rfl ?_
          refine s_aload_n (nx := 39) hO rfl rfl rfl ?_
          refine s_getf (v := .ref (q_b G + 170)) (nx := 42) hO rfl rfl (hs_o12 kc139) rfl rfl ?_
          refine s_iload_n (nx := 43) hO rfl rfl rfl ?_
          obtain ⟨b10, H⟩ := H
          refine s_iald (nx := 44) hO rfl (hs_I kc170) b10 rfl ?_
          refine s_aload_n (nx := 45) hO rfl rfl rfl ?_
          refine s_getf (v := .ref (q_b G + 165)) (nx := 48) hO rfl rfl (hs_o12 kc139) rfl rfl ?_
          refine s_iload_n (nx := 49) hO rfl rfl rfl ?_
          obtain ⟨b11, H⟩ := H
          refine s_iald (nx := 50) hO rfl (hs_I kc165) b11 rfl ?_
          refine s_callV [.int (sI s9 170 (ix x4)), .int (sI s9 165 (ix x6))] (ci := 12) (F := TX12) (N := 116) (nx := 53) hO rfl kX12_makeSets_481 (by rw [hcl]; rfl) (hs_o12 kc139) (w_X12_step hG H) rfl rfl (Nat.le_of_ble_eq_true rfl) (Nat.zero_le _) (Nat.zero_le _) rfl (k_Pi (fun r12 H => ?_))
          refine s_istore_n (nx := 54) (l' := [(3, .int r12), (0, .ref (q_b G + 139)), (1, .int x4), (2, .int x6)]) hO rfl (by decide) rfl rfl ?_
          refine s_iload_n (nx := 55) hO rfl rfl rfl ?_
          refine goK (H (fun (s13 : yS) => xEx G mX12_makeSets 106 [(0, .ref (q_b G + 139)), (1, .int x4), (2, .int x6), (3, .int r12)] [] (hS G s13) z 0 0 (yQv G z Q)) (fun s13 H => ?_)) (fun H => ?_)
          · show xEx G mX12_makeSets 106 [(0, .ref (q_b G + 139)), (1, .int x4), (2, .int x6), (3, .int r12)] [] (hS G s13) z 0 0 (yQv G z Q)
            refine s_aload_n (nx := 107) hO rfl rfl rfl ?_
            refine s_getf (v := .ref (q_b G + 171)) (nx := 110) hO rfl rfl (hs_o12 kc139) rfl rfl ?_
            refine s_sipush (x := (nI 512)) (nx := 113) hO rfl (by decide) rfl ?_
            refine s_iload_n (nx := 114) hO rfl rfl rfl ?_
            refine s_imul (nx := 115) hO rfl rfl ?_
            refine s_iload_n (nx := 116) hO rfl rfl rfl ?_
            refine s_iadd (nx := 117) hO rfl rfl ?_
            refine s_iload_n (nx := 118) hO rfl rfl rfl ?_
            refine goK (H (fun (y14 : Int32) => xEx G mX12_makeSets 130 [(0, .ref (q_b G + 139)), (1, .int x4), (2, .int x6)] [.int y14, .int (((nI 512) * x4) + x6), .ref (q_b G + 171)] (hS G s13) z 0 0 (yQv G z Q)) (fun y14 H => ?_)) (fun H => ?_)
            · show xEx G mX12_makeSets 130 [(0, .ref (q_b G + 139)), (1, .int x4), (2, .int x6)] [.int y14, .int (((nI 512) * x4) + x6), .ref (q_b G + 171)] (hS G s13) z 0 0 (yQv G z Q)
              obtain ⟨b15, H⟩ := H
              refine goV (wI s13 171 (ix (((nI 512) * x4) + x6)) y14) (fun s16 es16 => ?_)
              replace H := H s16 es16
              refine s_iast (nx := 131) hO rfl (hs_I kc171) b15 rfl ?_
              refine xEx.at (up_I kc171 es16) ?_
              refine goV ((x6 + 1)) (fun x17 ex17 => ?_)
              replace H := H x17 ex17
              refine e_iinc (nx := 134) (l' := [(2, .int x17), (0, .ref (q_b G + 139)), (1, .int x4)]) ex17 hO rfl (by decide) rfl rfl rfl rfl ?_
              refine s_goto hO rfl ?_
              exact xEx.loc (x_sub1 (List.Mem.tail _ (List.Mem.head _)) (x_sub1 (List.Mem.tail _ (List.Mem.tail _ (List.Mem.head _))) (x_sub1 (List.Mem.head _) x_sub0))) H
            refine s_if_ne (nx := 121) hO rfl rfl (fun c118 => ?_) (fun c118 => ?_)
            · replace H := H.1 c118
              refine s_aload_n (nx := 126) hO rfl rfl rfl ?_
              refine s_iload_n (nx := 127) hO rfl rfl rfl ?_
              refine s_callV [.int r12] (ci := 12) (F := TX12) (N := 116) (nx := 130) hO rfl kX12_makeSets_484 (by rw [hcl]; rfl) (hs_o12 kc139) (w_X12_indexOf hG H) rfl rfl (Nat.le_of_ble_eq_true rfl) (Nat.zero_le _) (Nat.zero_le _) rfl (k_Pi (fun r18 H => ?_))
              exact xEx.loc (x_sub1 (List.Mem.head _) (x_sub1 (List.Mem.tail _ (List.Mem.head _)) (x_sub1 (List.Mem.tail _ (List.Mem.tail _ (List.Mem.head _))) x_sub0))) H
            · replace H := H.2 c118
              refine s_iconst (x := (-1)) (nx := 122) hO rfl (by decide) rfl ?_
              refine s_goto hO rfl ?_
              exact xEx.loc (x_sub1 (List.Mem.head _) (x_sub1 (List.Mem.tail _ (List.Mem.head _)) (x_sub1 (List.Mem.tail _ (List.Mem.tail _ (List.Mem.head _))) x_sub0))) H
          refine s_if_eq (nx := 58) hO rfl rfl (fun c55 => ?_) (fun c55 => ?_)
          · replace H := H.1 c55
            exact xEx.loc (x_sub1 (List.Mem.tail _ (List.Mem.head _)) (x_sub1 (List.Mem.tail _ (List.Mem.tail _ (List.Mem.head _))) (x_sub1 (List.Mem.tail _ (List.Mem.tail _ (List.Mem.tail _ (List.Mem.head _)))) (x_sub1 (List.Mem.head _) x_sub0)))) H
          · replace H := H.2 c55
            refine s_aload_n (nx := 59) hO rfl rfl rfl ?_
            refine s_iload_n (nx := 60) hO rfl rfl rfl ?_
            refine s_callV [.int r12] (ci := 12) (F := TX12) (N := 116) (nx := 63) hO rfl kX12_makeSets_484 (by rw [hcl]; rfl) (hs_o12 kc139) (w_X12_indexOf hG H) rfl rfl (Nat.le_of_ble_eq_true rfl) (Nat.zero_le _) (Nat.zero_le _) rfl (k_Pi (fun r19 H => ?_))
            refine s_if_ge (nx := 66) hO rfl rfl (fun c63 => ?_) (fun c63 => ?_)
            · replace H := H.1 c63
              exact xEx.loc (x_sub1 (List.Mem.tail _ (List.Mem.head _)) (x_sub1 (List.Mem.tail _ (List.Mem.tail _ (List.Mem.head _))) (x_sub1 (List.Mem.tail _ (List.Mem.tail _ (List.Mem.tail _ (List.Mem.head _)))) (x_sub1 (List.Mem.head _) x_sub0)))) H
            · replace H := H.2 c63
              refine s_aload_n (nx := 67) hO rfl rfl rfl ?_
              refine s_getf (v := .int (sI s9 139 51)) (nx := 70) hO rfl rfl (hs_o12 kc139) rfl rfl ?_
              refine s_bipush (x := (nI 63)) (nx := 72) hO rfl (by decide) rfl ?_
              refine s_icmp_ne (nx := 75) hO rfl rfl (fun c72 => ?_) (fun c72 => ?_)
              · replace H := H.1 c72
                refine s_aload_n (nx := 87) hO rfl rfl rfl ?_
                refine s_getf (v := .ref (q_b G + 170)) (nx := 90) hO rfl rfl (hs_o12 kc139) rfl rfl ?_
                refine s_aload_n (nx := 91) hO rfl rfl rfl ?_
                refine s_getf (v := .int (sI s9 139 51)) (nx := 94) hO rfl rfl (hs_o12 kc139) rfl rfl ?_
                refine s_iload_n (nx := 95) hO rfl rfl rfl ?_
                obtain ⟨b20, H⟩ := H
                refine goV (wI s9 170 (ix (sI s9 139 51)) r12) (fun s21 es21 => ?_)
                replace H := H s21 es21
                refine s_iast (nx := 96) hO rfl (hs_I kc170) b20 rfl ?_
                refine xEx.at (up_I kc170 es21) ?_
                refine s_aload_n (nx := 97) hO rfl rfl rfl ?_
                refine s_dup (nx := 98) hO rfl rfl rfl ?_
                refine s_getf (v := .int (sI s21 139 51)) (nx := 101) hO rfl rfl (hs_o12 kc139) rfl rfl ?_
                refine s_iconst (x := 1) (nx := 102) hO rfl (by decide) rfl ?_
                refine s_iadd (nx := 103) hO rfl rfl ?_
                refine goV (wI s21 139 51 ((sI s21 139 51) + 1)) (fun s22 es22 => ?_)
                replace H := H s22 es22
                refine s_putf (nx := 106) hO rfl rfl (hs_o12 kc139) (Nat.le_of_ble_eq_true rfl) (by rw [hty]; rfl) (by rw [hty]; rfl) pX12_51 rfl ?_
                refine xEx.at (up_oI12 kc139 es22) ?_
                exact xEx.loc (x_sub1 (List.Mem.tail _ (List.Mem.head _)) (x_sub1 (List.Mem.tail _ (List.Mem.tail _ (List.Mem.head _))) (x_sub1 (List.Mem.tail _ (List.Mem.tail _ (List.Mem.tail _ (List.Mem.head _)))) (x_sub1 (List.Mem.head _) x_sub0)))) H
              · replace H := H.2 c72
                refine s_aload_n (nx := 76) hO rfl rfl rfl ?_
                refine s_bipush (x := (nI 8)) (nx := 78) hO rfl (by decide) rfl ?_
                refine s_aload_n (nx := 79) hO rfl rfl rfl ?_
                refine s_getf (v := .int (sI s9 139 9)) (nx := 82) hO rfl rfl (hs_o12 kc139) rfl rfl ?_
                refine s_callV [.int (nI 8), .int (sI s9 139 9)] (ci := 12) (F := TX12) (N := 116) (nx := 85) hO rfl kX12_makeSets_303 (by rw [hcl]; rfl) (hs_o12 kc139) (w_X12_wrong hG H) rfl rfl (Nat.le_of_ble_eq_true rfl) (Nat.zero_le _) (Nat.zero_le _) rfl (k_Qv (fun s23 H => ?_))
                exact s_vret hO rfl rfl ⟨rfl, _, rfl, rfl, H⟩
      refine s_istore_n (nx := 24) (l' := [(2, .int 0), (0, .ref (q_b G + 139)), (1, .int x4)]) hO rfl (by decide) rfl rfl ?_
      exact xEx.loc (x_sub1 (List.Mem.tail _ (List.Mem.head _)) (x_sub1 (List.Mem.tail _ (List.Mem.tail _ (List.Mem.head _))) (x_sub1 (List.Mem.head _) x_sub0))) H
  refine s_istore_n (nx := 14) (l' := [(1, .int 0), (0, .ref (q_b G + 139))]) hO rfl (by decide) rfl rfl ?_
  exact xEx.loc (x_sub1 (List.Mem.tail _ (List.Mem.head _)) (x_sub1 (List.Mem.head _) x_sub0)) H
def W_X12_differs (s : yS) (v1 : Int32) (v2 : Int32) (Q : Int32 → Prop) : Prop :=
 ∀ P2 : Int32 → Prop, (∀ (x1 : Int32), ((((sI s 139 47) ≤ x1 → Q 0)
  ∧ (¬ (sI s 139 47) ≤ x1 → vp_in (((nI 512) * v1) + x1) 32768 ∧ 
   ∀ x3 : Int32, x3 = (sI s 171 (ix (((nI 512) * v1) + x1))) → 
   vp_in (((nI 512) * v2) + x1) 32768 ∧ 
   ∀ x5 : Int32, x5 = (sI s 171 (ix (((nI 512) * v2) + x1))) → 
   ∀ P48 : Int32 → Prop, (∀ (y6 : Int32), (∀ P58 : Int32 → Prop, (∀ (y7 : Int32), (((¬ y6 = y7 → Q 1)
     ∧ (y6 = y7 → ∀ P84 : Prop, ((∀ x8 : Int32, x8 = (x1 + 1) → 
       P2 x8) → P84) → 
      ((x3 < 0 → P84)
      ∧ (¬ x3 < 0 → vp_in (((nI 64) * x3) + x5) 4096 ∧ 
       (((sI s 172 (ix (((nI 64) * x3) + x5))) = 0 → P84)
       ∧ (¬ (sI s 172 (ix (((nI 64) * x3) + x5))) = 0 → Q 1))))))) → P58 y7) → 
    ((0 ≤ x5 → P58 0)
    ∧ (¬ 0 ≤ x5 → P58 1))) → P48 y6) → 
   ((0 ≤ x3 → P48 0)
   ∧ (¬ 0 ≤ x3 → P48 1))))) → P2 x1) → 
 P2 0
set_option maxRecDepth 100000 in
set_option maxHeartbeats 40000000 in
theorem w_X12_differs {G : xG} (hG : yG G) {z : Nat} {s : yS} {v1 : Int32} {v2 : Int32} {Q : Int32 → Prop} (H : W_X12_differs s v1 v2 Q) : xC G mX12_differs [.ref (q_b G + 139), .int v1, .int v2] (hS G s) z 0 0 (yPi G z s Q) := by
  have hW := hG.1
  have hcl := hG.2.1
  have hty := hG.2.2.1
  have hO : xO G mX12_differs tbX12_differs ptX12_differs := ⟨tkX12_differs, pkX12_differs hcl⟩
  unfold W_X12_differs at H
  refine xC.of hW (by decide) rfl (Nat.le_of_ble_eq_true rfl) ?_
  refine s_iconst (x := 0) (nx := 1) hO rfl (by decide) rfl ?_
  refine goK (H (fun (x1 : Int32) => xEx G mX12_differs 2 [(0, .ref (q_b G + 139)), (1, .int v1), (2, .int v2), (3, .int x1)] [] (hS G s) z 0 0 (yPi G z s Q)) (fun x1 H => ?_)) (fun H => ?_)
  · show xEx G mX12_differs 2 [(0, .ref (q_b G + 139)), (1, .int v1), (2, .int v2), (3, .int x1)] [] (hS G s) z 0 0 (yPi G z s Q)
    refine s_iload_n (nx := 3) hO rfl rfl rfl ?_
    refine s_aload_n (nx := 4) hO rfl rfl rfl ?_
    refine s_getf (v := .int (sI s 139 47)) (nx := 7) hO rfl rfl (hs_o12 kc139) rfl rfl ?_
    refine s_icmp_ge (nx := 10) hO rfl rfl (fun c7 => ?_) (fun c7 => ?_)
    · replace H := H.1 c7
      refine s_iconst (x := 0) (nx := 91) hO rfl (by decide) rfl ?_
      exact s_iret hO rfl rfl rfl ⟨rfl, _, rfl, rfl, H⟩
    · replace H := H.2 c7
      refine s_aload_n (nx := 11) hO rfl rfl rfl ?_
      refine s_getf (v := .ref (q_b G + 171)) (nx := 14) hO rfl rfl (hs_o12 kc139) rfl rfl ?_
      refine s_sipush (x := (nI 512)) (nx := 17) hO rfl (by decide) rfl ?_
      refine s_iload_n (nx := 18) hO rfl rfl rfl ?_
      refine s_imul (nx := 19) hO rfl rfl ?_
      refine s_iload_n (nx := 20) hO rfl rfl rfl ?_
      refine s_iadd (nx := 21) hO rfl rfl ?_
      obtain ⟨b2, H⟩ := H
      refine s_iald (nx := 22) hO rfl (hs_I kc171) b2 rfl ?_
      refine goV ((sI s 171 (ix (((nI 512) * v1) + x1)))) (fun x3 ex3 => ?_)
      replace H := H x3 ex3
      refine e_istore (nx := 24) (l' := [(4, .int x3), (0, .ref (q_b G + 139)), (1, .int v1), (2, .int v2), (3, .int x1)]) ex3 hO rfl (by decide) rfl rfl ?_
      refine s_aload_n (nx := 25) hO rfl rfl rfl ?_
      refine s_getf (v := .ref (q_b G + 171)) (nx := 28) hO rfl rfl (hs_o12 kc139) rfl rfl ?_
      refine s_sipush (x := (nI 512)) (nx := 31) hO rfl (by decide) rfl ?_
      refine s_iload_n (nx := 32) hO rfl rfl rfl ?_
      refine s_imul (nx := 33) hO rfl rfl ?_
      refine s_iload_n (nx := 34) hO rfl rfl rfl ?_
      refine s_iadd (nx := 35) hO rfl rfl ?_
      obtain ⟨b4, H⟩ := H
      refine s_iald (nx := 36) hO rfl (hs_I kc171) b4 rfl ?_
      refine goV ((sI s 171 (ix (((nI 512) * v2) + x1)))) (fun x5 ex5 => ?_)
      replace H := H x5 ex5
      refine e_istore (nx := 38) (l' := [(5, .int x5), (4, .int x3), (0, .ref (q_b G + 139)), (1, .int v1), (2, .int v2), (3, .int x1)]) ex5 hO rfl (by decide) rfl rfl ?_
      refine s_iload (nx := 40) hO rfl rfl rfl ?_
      refine goK (H (fun (y6 : Int32) => xEx G mX12_differs 48 [(0, .ref (q_b G + 139)), (1, .int v1), (2, .int v2), (3, .int x1), (4, .int x3), (5, .int x5)] [.int y6] (hS G s) z 0 0 (yPi G z s Q)) (fun y6 H => ?_)) (fun H => ?_)
      · show xEx G mX12_differs 48 [(0, .ref (q_b G + 139)), (1, .int v1), (2, .int v2), (3, .int x1), (4, .int x3), (5, .int x5)] [.int y6] (hS G s) z 0 0 (yPi G z s Q)
        refine s_iload (nx := 50) hO rfl rfl rfl ?_
        refine goK (H (fun (y7 : Int32) => xEx G mX12_differs 58 [(0, .ref (q_b G + 139)), (1, .int v1), (2, .int v2), (3, .int x1), (4, .int x3), (5, .int x5)] [.int y7, .int y6] (hS G s) z 0 0 (yPi G z s Q)) (fun y7 H => ?_)) (fun H => ?_)
        · show xEx G mX12_differs 58 [(0, .ref (q_b G + 139)), (1, .int v1), (2, .int v2), (3, .int x1), (4, .int x3), (5, .int x5)] [.int y7, .int y6] (hS G s) z 0 0 (yPi G z s Q)
          refine s_icmp_ne (nx := 61) hO rfl rfl (fun c58 => ?_) (fun c58 => ?_)
          · replace H := H.1 c58
            refine s_iconst (x := 1) (nx := 83) hO rfl (by decide) rfl ?_
            exact s_iret hO rfl rfl rfl ⟨rfl, _, rfl, rfl, H⟩
          · replace H := H.2 c58
            refine s_iload (nx := 63) hO rfl rfl rfl ?_
            refine goK (H (xEx G mX12_differs 84 [(0, .ref (q_b G + 139)), (1, .int v1), (2, .int v2), (3, .int x1)] [] (hS G s) z 0 0 (yPi G z s Q)) (fun H => ?_)) (fun H => ?_)
            · show xEx G mX12_differs 84 [(0, .ref (q_b G + 139)), (1, .int v1), (2, .int v2), (3, .int x1)] [] (hS G s) z 0 0 (yPi G z s Q)
              refine goV ((x1 + 1)) (fun x8 ex8 => ?_)
              replace H := H x8 ex8
              refine e_iinc (nx := 87) (l' := [(3, .int x8), (0, .ref (q_b G + 139)), (1, .int v1), (2, .int v2)]) ex8 hO rfl (by decide) rfl rfl rfl rfl ?_
              refine s_goto hO rfl ?_
              exact xEx.loc (x_sub1 (List.Mem.tail _ (List.Mem.head _)) (x_sub1 (List.Mem.tail _ (List.Mem.tail _ (List.Mem.head _))) (x_sub1 (List.Mem.tail _ (List.Mem.tail _ (List.Mem.tail _ (List.Mem.head _)))) (x_sub1 (List.Mem.head _) x_sub0)))) H
            refine s_if_lt (nx := 66) hO rfl rfl (fun c63 => ?_) (fun c63 => ?_)
            · replace H := H.1 c63
              exact xEx.loc (x_sub1 (List.Mem.head _) (x_sub1 (List.Mem.tail _ (List.Mem.head _)) (x_sub1 (List.Mem.tail _ (List.Mem.tail _ (List.Mem.head _))) (x_sub1 (List.Mem.tail _ (List.Mem.tail _ (List.Mem.tail _ (List.Mem.head _)))) x_sub0)))) H
            · replace H := H.2 c63
              refine s_aload_n (nx := 67) hO rfl rfl rfl ?_
              refine s_getf (v := .ref (q_b G + 172)) (nx := 70) hO rfl rfl (hs_o12 kc139) rfl rfl ?_
              refine s_bipush (x := (nI 64)) (nx := 72) hO rfl (by decide) rfl ?_
              refine s_iload (nx := 74) hO rfl rfl rfl ?_
              refine s_imul (nx := 75) hO rfl rfl ?_
              refine s_iload (nx := 77) hO rfl rfl rfl ?_
              refine s_iadd (nx := 78) hO rfl rfl ?_
              obtain ⟨b9, H⟩ := H
              refine s_zald (nx := 79) hO rfl (hs_Z kc172) b9 rfl ?_
              refine s_if_eq (nx := 82) hO rfl rfl (fun c79 => ?_) (fun c79 => ?_)
              · replace H := H.1 c79
                exact xEx.loc (x_sub1 (List.Mem.head _) (x_sub1 (List.Mem.tail _ (List.Mem.head _)) (x_sub1 (List.Mem.tail _ (List.Mem.tail _ (List.Mem.head _))) (x_sub1 (List.Mem.tail _ (List.Mem.tail _ (List.Mem.tail _ (List.Mem.head _)))) x_sub0)))) H
              · replace H := H.2 c79
                refine s_iconst (x := 1) (nx := 83) hO rfl (by decide) rfl ?_
                exact s_iret hO rfl rfl rfl ⟨rfl, _, rfl, rfl, H⟩
        refine s_if_ge (nx := 53) hO rfl rfl (fun c50 => ?_) (fun c50 => ?_)
        · replace H := H.1 c50
          refine s_iconst (x := 0) (nx := 58) hO rfl (by decide) rfl ?_
          exact xEx.loc (x_sub1 (List.Mem.head _) (x_sub1 (List.Mem.tail _ (List.Mem.head _)) (x_sub1 (List.Mem.tail _ (List.Mem.tail _ (List.Mem.head _))) (x_sub1 (List.Mem.tail _ (List.Mem.tail _ (List.Mem.tail _ (List.Mem.head _)))) (x_sub1 (List.Mem.tail _ (List.Mem.tail _ (List.Mem.tail _ (List.Mem.tail _ (List.Mem.head _))))) (x_sub1 (List.Mem.tail _ (List.Mem.tail _ (List.Mem.tail _ (List.Mem.tail _ (List.Mem.tail _ (List.Mem.head _)))))) x_sub0)))))) H
        · replace H := H.2 c50
          refine s_iconst (x := 1) (nx := 54) hO rfl (by decide) rfl ?_
          refine s_goto hO rfl ?_
          exact xEx.loc (x_sub1 (List.Mem.head _) (x_sub1 (List.Mem.tail _ (List.Mem.head _)) (x_sub1 (List.Mem.tail _ (List.Mem.tail _ (List.Mem.head _))) (x_sub1 (List.Mem.tail _ (List.Mem.tail _ (List.Mem.tail _ (List.Mem.head _)))) (x_sub1 (List.Mem.tail _ (List.Mem.tail _ (List.Mem.tail _ (List.Mem.tail _ (List.Mem.head _))))) (x_sub1 (List.Mem.tail _ (List.Mem.tail _ (List.Mem.tail _ (List.Mem.tail _ (List.Mem.tail _ (List.Mem.head _)))))) x_sub0)))))) H
      refine s_if_ge (nx := 43) hO rfl rfl (fun c40 => ?_) (fun c40 => ?_)
      · replace H := H.1 c40
        refine s_iconst (x := 0) (nx := 48) hO rfl (by decide) rfl ?_
        exact xEx.loc (x_sub1 (List.Mem.tail _ (List.Mem.tail _ (List.Mem.head _))) (x_sub1 (List.Mem.tail _ (List.Mem.tail _ (List.Mem.tail _ (List.Mem.head _)))) (x_sub1 (List.Mem.tail _ (List.Mem.tail _ (List.Mem.tail _ (List.Mem.tail _ (List.Mem.head _))))) (x_sub1 (List.Mem.tail _ (List.Mem.tail _ (List.Mem.tail _ (List.Mem.tail _ (List.Mem.tail _ (List.Mem.head _)))))) (x_sub1 (List.Mem.tail _ (List.Mem.head _)) (x_sub1 (List.Mem.head _) x_sub0)))))) H
      · replace H := H.2 c40
        refine s_iconst (x := 1) (nx := 44) hO rfl (by decide) rfl ?_
        refine s_goto hO rfl ?_
        exact xEx.loc (x_sub1 (List.Mem.tail _ (List.Mem.tail _ (List.Mem.head _))) (x_sub1 (List.Mem.tail _ (List.Mem.tail _ (List.Mem.tail _ (List.Mem.head _)))) (x_sub1 (List.Mem.tail _ (List.Mem.tail _ (List.Mem.tail _ (List.Mem.tail _ (List.Mem.head _))))) (x_sub1 (List.Mem.tail _ (List.Mem.tail _ (List.Mem.tail _ (List.Mem.tail _ (List.Mem.tail _ (List.Mem.head _)))))) (x_sub1 (List.Mem.tail _ (List.Mem.head _)) (x_sub1 (List.Mem.head _) x_sub0)))))) H
  refine s_istore_n (nx := 2) (l' := [(3, .int 0), (0, .ref (q_b G + 139)), (1, .int v1), (2, .int v2)]) hO rfl (by decide) rfl rfl ?_
  exact xEx.loc (x_sub1 (List.Mem.tail _ (List.Mem.head _)) (x_sub1 (List.Mem.tail _ (List.Mem.tail _ (List.Mem.head _))) (x_sub1 (List.Mem.tail _ (List.Mem.tail _ (List.Mem.tail _ (List.Mem.head _)))) (x_sub1 (List.Mem.head _) x_sub0)))) H
def W_X12_tellApart (s : yS) (Q : yS → Prop) : Prop :=
 ∀ P2 : Int32 → yS → Prop, (∀ (x1 : Int32) (s2 : yS), ((((nI 4096) ≤ x1 → ∀ P24 : Int32 → yS → Prop, (∀ (x3 : Int32) (s4 : yS), (((x3 = 0 → Q s4)
    ∧ (¬ x3 = 0 → ∀ P32 : Int32 → Int32 → yS → Prop, (∀ (x5 : Int32) (x6 : Int32) (s7 : yS), ((((sI s7 139 51) ≤ x6 → P24 x5 s7)
      ∧ (¬ (sI s7 139 51) ≤ x6 → ∀ P42 : Int32 → Int32 → yS → Prop, (∀ (x8 : Int32) (x9 : Int32) (s10 : yS), (((x6 ≤ x9 → ∀ x11 : Int32, x11 = (x6 + 1) → 
         P32 x8 x11 s10)
        ∧ (¬ x6 ≤ x9 → vp_in (((nI 64) * x6) + x9) 4096 ∧ 
         ∀ P96 : Int32 → yS → Prop, (∀ (x13 : Int32) (s14 : yS), (∀ x15 : Int32, x15 = (x9 + 1) → 
          P42 x13 x15 s14) → P96 x13 s14) → 
         ((¬ (sI s10 172 (ix (((nI 64) * x6) + x9))) = 0 → P96 x8 s10)
         ∧ ((sI s10 172 (ix (((nI 64) * x6) + x9))) = 0 → W_X12_differs s10 x6 x9 
          (fun r16 => ((r16 = 0 → P96 x8 s10)
          ∧ (¬ r16 = 0 → vp_in (((nI 64) * x6) + x9) 4096 ∧ ∀ s18 : yS, s18 = wI s10 172 (ix (((nI 64) * x6) + x9)) (vp_nar .boolean 1) → 
           vp_in (((nI 64) * x9) + x6) 4096 ∧ ∀ s20 : yS, s20 = wI s18 172 (ix (((nI 64) * x9) + x6)) (vp_nar .boolean 1) → 
           P96 1 s20)))))))) → P42 x8 x9 s10) → 
       P42 x5 0 s7))) → P32 x5 x6 s7) → 
     P32 0 0 s4))) → P24 x3 s4) → 
   P24 1 s2)
  ∧ (¬ (nI 4096) ≤ x1 → vp_in x1 4096 ∧ ∀ s22 : yS, s22 = wI s2 172 (ix x1) (vp_nar .boolean 0) → 
   ∀ x23 : Int32, x23 = (x1 + 1) → 
   P2 x23 s22))) → P2 x1 s2) → 
 P2 0 s
set_option maxRecDepth 100000 in
set_option maxHeartbeats 40000000 in
theorem w_X12_tellApart {G : xG} (hG : yG G) {z : Nat} {s : yS} {Q : yS → Prop} (H : W_X12_tellApart s Q) : xC G mX12_tellApart [.ref (q_b G + 139)] (hS G s) z 0 0 (yQv G z Q) := by
  have hW := hG.1
  have hcl := hG.2.1
  have hty := hG.2.2.1
  have hO : xO G mX12_tellApart tbX12_tellApart ptX12_tellApart := ⟨tkX12_tellApart, pkX12_tellApart hcl⟩
  unfold W_X12_tellApart at H
  refine xC.of hW (by decide) rfl (Nat.le_of_ble_eq_true rfl) ?_
  refine s_iconst (x := 0) (nx := 1) hO rfl (by decide) rfl ?_
  refine goK (H (fun (x1 : Int32) (s2 : yS) => xEx G mX12_tellApart 2 [(0, .ref (q_b G + 139)), (1, .int x1)] [] (hS G s2) z 0 0 (yQv G z Q)) (fun x1 s2 H => ?_)) (fun H => ?_)
  · show xEx G mX12_tellApart 2 [(0, .ref (q_b G + 139)), (1, .int x1)] [] (hS G s2) z 0 0 (yQv G z Q)
    refine s_iload_n (nx := 3) hO rfl rfl rfl ?_
    refine s_sipush (x := (nI 4096)) (nx := 6) hO rfl (by decide) rfl ?_
    refine s_icmp_ge (nx := 9) hO rfl rfl (fun c6 => ?_) (fun c6 => ?_)
    · replace H := H.1 c6
      refine s_iconst (x := 1) (nx := 23) hO rfl (by decide) rfl ?_
      refine goK (H (fun (x3 : Int32) (s4 : yS) => xEx G mX12_tellApart 24 [(0, .ref (q_b G + 139)), (1, .int x3)] [] (hS G s4) z 0 0 (yQv G z Q)) (fun x3 s4 H => ?_)) (fun H => ?_)
      · show xEx G mX12_tellApart 24 [(0, .ref (q_b G + 139)), (1, .int x3)] [] (hS G s4) z 0 0 (yQv G z Q)
        refine s_iload_n (nx := 25) hO rfl rfl rfl ?_
        refine s_if_eq (nx := 28) hO rfl rfl (fun c25 => ?_) (fun c25 => ?_)
        · replace H := H.1 c25
          exact s_vret hO rfl rfl ⟨rfl, _, rfl, rfl, H⟩
        · replace H := H.2 c25
          refine s_iconst (x := 0) (nx := 29) hO rfl (by decide) rfl ?_
          refine s_istore_n (nx := 30) (l' := [(1, .int 0), (0, .ref (q_b G + 139))]) hO rfl (by decide) rfl rfl ?_
          refine s_iconst (x := 0) (nx := 31) hO rfl (by decide) rfl ?_
          refine goK (H (fun (x5 : Int32) (x6 : Int32) (s7 : yS) => xEx G mX12_tellApart 32 [(0, .ref (q_b G + 139)), (1, .int x5), (2, .int x6)] [] (hS G s7) z 0 0 (yQv G z Q)) (fun x5 x6 s7 H => ?_)) (fun H => ?_)
          · show xEx G mX12_tellApart 32 [(0, .ref (q_b G + 139)), (1, .int x5), (2, .int x6)] [] (hS G s7) z 0 0 (yQv G z Q)
            refine s_iload_n (nx := 33) hO rfl rfl rfl ?_
            refine s_aload_n (nx := 34) hO rfl rfl rfl ?_
            refine s_getf (v := .int (sI s7 139 51)) (nx := 37) hO rfl rfl (hs_o12 kc139) rfl rfl ?_
            refine s_icmp_ge (nx := 40) hO rfl rfl (fun c37 => ?_) (fun c37 => ?_)
            · replace H := H.1 c37
              refine s_goto hO rfl ?_
              exact xEx.loc (x_sub1 (List.Mem.head _) (x_sub1 (List.Mem.tail _ (List.Mem.head _)) x_sub0)) H
            · replace H := H.2 c37
              refine s_iconst (x := 0) (nx := 41) hO rfl (by decide) rfl ?_
              refine goK (H (fun (x8 : Int32) (x9 : Int32) (s10 : yS) => xEx G mX12_tellApart 42 [(0, .ref (q_b G + 139)), (1, .int x8), (2, .int x6), (3, .int x9)] [] (hS G s10) z 0 0 (yQv G z Q)) (fun x8 x9 s10 H => ?_)) (fun H => ?_)
              · show xEx G mX12_tellApart 42 [(0, .ref (q_b G + 139)), (1, .int x8), (2, .int x6), (3, .int x9)] [] (hS G s10) z 0 0 (yQv G z Q)
                refine s_iload_n (nx := 43) hO rfl rfl rfl ?_
                refine s_iload_n (nx := 44) hO rfl rfl rfl ?_
                refine s_icmp_ge (nx := 47) hO rfl rfl (fun c44 => ?_) (fun c44 => ?_)
                · replace H := H.1 c44
                  refine goV ((x6 + 1)) (fun x11 ex11 => ?_)
                  replace H := H x11 ex11
                  refine e_iinc (nx := 105) (l' := [(2, .int x11), (0, .ref (q_b G + 139)), (1, .int x8), (3, .int x9)]) ex11 hO rfl (by decide) rfl rfl rfl rfl ?_
                  refine s_goto hO rfl ?_
                  exact xEx.loc (x_sub1 (List.Mem.tail _ (List.Mem.head _)) (x_sub1 (List.Mem.tail _ (List.Mem.tail _ (List.Mem.head _))) (x_sub1 (List.Mem.head _) x_sub0))) H
                · replace H := H.2 c44
                  refine s_aload_n (nx := 48) hO rfl rfl rfl ?_
                  refine s_getf (v := .ref (q_b G + 172)) (nx := 51) hO rfl rfl (hs_o12 kc139) rfl rfl ?_
                  refine s_bipush (x := (nI 64)) (nx := 53) hO rfl (by decide) rfl ?_
                  refine s_iload_n (nx := 54) hO rfl rfl rfl ?_
                  refine s_imul (nx := 55) hO rfl rfl ?_
                  refine s_iload_n (nx := 56) hO rfl rfl rfl ?_
                  refine s_iadd (nx := 57) hO rfl rfl ?_
                  obtain ⟨b12, H⟩ := H
                  refine s_zald (nx := 58) hO rfl (hs_Z kc172) b12 rfl ?_
                  refine goK (H (fun (x13 : Int32) (s14 : yS) => xEx G mX12_tellApart 96 [(0, .ref (q_b G + 139)), (1, .int x13), (2, .int x6), (3, .int x9)] [] (hS G s14) z 0 0 (yQv G z Q)) (fun x13 s14 H => ?_)) (fun H => ?_)
                  · show xEx G mX12_tellApart 96 [(0, .ref (q_b G + 139)), (1, .int x13), (2, .int x6), (3, .int x9)] [] (hS G s14) z 0 0 (yQv G z Q)
                    refine goV ((x9 + 1)) (fun x15 ex15 => ?_)
                    replace H := H x15 ex15
                    refine e_iinc (nx := 99) (l' := [(3, .int x15), (0, .ref (q_b G + 139)), (1, .int x13), (2, .int x6)]) ex15 hO rfl (by decide) rfl rfl rfl rfl ?_
                    refine s_goto hO rfl ?_
                    exact xEx.loc (x_sub1 (List.Mem.tail _ (List.Mem.head _)) (x_sub1 (List.Mem.tail _ (List.Mem.tail _ (List.Mem.head _))) (x_sub1 (List.Mem.tail _ (List.Mem.tail _ (List.Mem.tail _ (List.Mem.head _)))) (x_sub1 (List.Mem.head _) x_sub0)))) H
                  refine s_if_ne (nx := 61) hO rfl rfl (fun c58 => ?_) (fun c58 => ?_)
                  · replace H := H.1 c58
                    exact xEx.loc (x_sub1 (List.Mem.head _) (x_sub1 (List.Mem.tail _ (List.Mem.head _)) (x_sub1 (List.Mem.tail _ (List.Mem.tail _ (List.Mem.head _))) (x_sub1 (List.Mem.tail _ (List.Mem.tail _ (List.Mem.tail _ (List.Mem.head _)))) x_sub0)))) H
                  · replace H := H.2 c58
                    refine s_aload_n (nx := 62) hO rfl rfl rfl ?_
                    refine s_iload_n (nx := 63) hO rfl rfl rfl ?_
                    refine s_iload_n (nx := 64) hO rfl rfl rfl ?_
                    refine s_callV [.int x6, .int x9] (ci := 12) (F := TX12) (N := 116) (nx := 67) hO rfl kX12_tellApart_487 (by rw [hcl]; rfl) (hs_o12 kc139) (w_X12_differs hG H) rfl rfl (Nat.le_of_ble_eq_true rfl) (Nat.zero_le _) (Nat.zero_le _) rfl (k_Pi (fun r16 H => ?_))
                    refine s_if_eq (nx := 70) hO rfl rfl (fun c67 => ?_) (fun c67 => ?_)
                    · replace H := H.1 c67
                      exact xEx.loc (x_sub1 (List.Mem.head _) (x_sub1 (List.Mem.tail _ (List.Mem.head _)) (x_sub1 (List.Mem.tail _ (List.Mem.tail _ (List.Mem.head _))) (x_sub1 (List.Mem.tail _ (List.Mem.tail _ (List.Mem.tail _ (List.Mem.head _)))) x_sub0)))) H
                    · replace H := H.2 c67
                      refine s_aload_n (nx := 71) hO rfl rfl rfl ?_
                      refine s_getf (v := .ref (q_b G + 172)) (nx := 74) hO rfl rfl (hs_o12 kc139) rfl rfl ?_
                      refine s_bipush (x := (nI 64)) (nx := 76) hO rfl (by decide) rfl ?_
                      refine s_iload_n (nx := 77) hO rfl rfl rfl ?_
                      refine s_imul (nx := 78) hO rfl rfl ?_
                      refine s_iload_n (nx := 79) hO rfl rfl rfl ?_
                      refine s_iadd (nx := 80) hO rfl rfl ?_
                      refine s_iconst (x := 1) (nx := 81) hO rfl (by decide) rfl ?_
                      obtain ⟨b17, H⟩ := H
                      refine goV (wI s10 172 (ix (((nI 64) * x6) + x9)) (vp_nar .boolean 1)) (fun s18 es18 => ?_)
                      replace H := H s18 es18
                      refine s_zast (nx := 82) hO rfl (hs_Z kc172) b17 rfl ?_
                      refine xEx.at (up_Z kc172 es18) ?_
                      refine s_aload_n (nx := 83) hO rfl rfl rfl ?_
                      refine s_getf (v := .ref (q_b G + 172)) (nx := 86) hO rfl rfl (hs_o12 kc139) rfl rfl ?_
                      refine s_bipush (x := (nI 64)) (nx := 88) hO rfl (by decide) rfl ?_
                      refine s_iload_n (nx := 89) hO rfl rfl rfl ?_
                      refine s_imul (nx := 90) hO rfl rfl ?_
                      refine s_iload_n (nx := 91) hO rfl rfl rfl ?_
                      refine s_iadd (nx := 92) hO rfl rfl ?_
                      refine s_iconst (x := 1) (nx := 93) hO rfl (by decide) rfl ?_
                      obtain ⟨b19, H⟩ := H
                      refine goV (wI s18 172 (ix (((nI 64) * x9) + x6)) (vp_nar .boolean 1)) (fun s20 es20 => ?_)
                      replace H := H s20 es20
                      refine s_zast (nx := 94) hO rfl (hs_Z kc172) b19 rfl ?_
                      refine xEx.at (up_Z kc172 es20) ?_
                      refine s_iconst (x := 1) (nx := 95) hO rfl (by decide) rfl ?_
                      refine s_istore_n (nx := 96) (l' := [(1, .int 1), (0, .ref (q_b G + 139)), (2, .int x6), (3, .int x9)]) hO rfl (by decide) rfl rfl ?_
                      exact xEx.loc (x_sub1 (List.Mem.tail _ (List.Mem.head _)) (x_sub1 (List.Mem.head _) (x_sub1 (List.Mem.tail _ (List.Mem.tail _ (List.Mem.head _))) (x_sub1 (List.Mem.tail _ (List.Mem.tail _ (List.Mem.tail _ (List.Mem.head _)))) x_sub0)))) H
              refine s_istore_n (nx := 42) (l' := [(3, .int 0), (0, .ref (q_b G + 139)), (1, .int x5), (2, .int x6)]) hO rfl (by decide) rfl rfl ?_
              exact xEx.loc (x_sub1 (List.Mem.tail _ (List.Mem.head _)) (x_sub1 (List.Mem.tail _ (List.Mem.tail _ (List.Mem.head _))) (x_sub1 (List.Mem.tail _ (List.Mem.tail _ (List.Mem.tail _ (List.Mem.head _)))) (x_sub1 (List.Mem.head _) x_sub0)))) H
          refine s_istore_n (nx := 32) (l' := [(2, .int 0), (1, .int 0), (0, .ref (q_b G + 139))]) hO rfl (by decide) rfl rfl ?_
          exact xEx.loc (x_sub1 (List.Mem.tail _ (List.Mem.tail _ (List.Mem.head _))) (x_sub1 (List.Mem.tail _ (List.Mem.head _)) (x_sub1 (List.Mem.head _) x_sub0))) H
      refine s_istore_n (nx := 24) (l' := [(1, .int 1), (0, .ref (q_b G + 139))]) hO rfl (by decide) rfl rfl ?_
      exact xEx.loc (x_sub1 (List.Mem.tail _ (List.Mem.head _)) (x_sub1 (List.Mem.head _) x_sub0)) H
    · replace H := H.2 c6
      refine s_aload_n (nx := 10) hO rfl rfl rfl ?_
      refine s_getf (v := .ref (q_b G + 172)) (nx := 13) hO rfl rfl (hs_o12 kc139) rfl rfl ?_
      refine s_iload_n (nx := 14) hO rfl rfl rfl ?_
      refine s_iconst (x := 0) (nx := 15) hO rfl (by decide) rfl ?_
      obtain ⟨b21, H⟩ := H
      refine goV (wI s2 172 (ix x1) (vp_nar .boolean 0)) (fun s22 es22 => ?_)
      replace H := H s22 es22
      refine s_zast (nx := 16) hO rfl (hs_Z kc172) b21 rfl ?_
      refine xEx.at (up_Z kc172 es22) ?_
      refine goV ((x1 + 1)) (fun x23 ex23 => ?_)
      replace H := H x23 ex23
      refine e_iinc (nx := 19) (l' := [(1, .int x23), (0, .ref (q_b G + 139))]) ex23 hO rfl (by decide) rfl rfl rfl rfl ?_
      refine s_goto hO rfl ?_
      exact xEx.loc (x_sub1 (List.Mem.tail _ (List.Mem.head _)) (x_sub1 (List.Mem.head _) x_sub0)) H
  refine s_istore_n (nx := 2) (l' := [(1, .int 0), (0, .ref (q_b G + 139))]) hO rfl (by decide) rfl rfl ?_
  exact xEx.loc (x_sub1 (List.Mem.tail _ (List.Mem.head _)) (x_sub1 (List.Mem.head _) x_sub0)) H
def W_X12_leastLike (s : yS) (v1 : Int32) (Q : Int32 → Prop) : Prop :=
 ∀ P2 : Int32 → Prop, (∀ (x1 : Int32), (vp_in (((nI 64) * v1) + x1) 4096 ∧ 
  (((sI s 172 (ix (((nI 64) * v1) + x1))) = 0 → Q x1)
  ∧ (¬ (sI s 172 (ix (((nI 64) * v1) + x1))) = 0 → ∀ x3 : Int32, x3 = (x1 + 1) → 
   P2 x3))) → P2 x1) → 
 P2 0
set_option maxRecDepth 100000 in
set_option maxHeartbeats 40000000 in
theorem w_X12_leastLike {G : xG} (hG : yG G) {z : Nat} {s : yS} {v1 : Int32} {Q : Int32 → Prop} (H : W_X12_leastLike s v1 Q) : xC G mX12_leastLike [.ref (q_b G + 139), .int v1] (hS G s) z 0 0 (yPi G z s Q) := by
  have hW := hG.1
  have hcl := hG.2.1
  have hty := hG.2.2.1
  have hO : xO G mX12_leastLike tbX12_leastLike ptX12_leastLike := ⟨tkX12_leastLike, pkX12_leastLike hcl⟩
  unfold W_X12_leastLike at H
  refine xC.of hW (by decide) rfl (Nat.le_of_ble_eq_true rfl) ?_
  refine s_iconst (x := 0) (nx := 1) hO rfl (by decide) rfl ?_
  refine goK (H (fun (x1 : Int32) => xEx G mX12_leastLike 2 [(0, .ref (q_b G + 139)), (1, .int v1), (2, .int x1)] [] (hS G s) z 0 0 (yPi G z s Q)) (fun x1 H => ?_)) (fun H => ?_)
  · show xEx G mX12_leastLike 2 [(0, .ref (q_b G + 139)), (1, .int v1), (2, .int x1)] [] (hS G s) z 0 0 (yPi G z s Q)
    refine s_aload_n (nx := 3) hO rfl rfl rfl ?_
    refine s_getf (v := .ref (q_b G + 172)) (nx := 6) hO rfl rfl (hs_o12 kc139) rfl rfl ?_
    refine s_bipush (x := (nI 64)) (nx := 8) hO rfl (by decide) rfl ?_
    refine s_iload_n (nx := 9) hO rfl rfl rfl ?_
    refine s_imul (nx := 10) hO rfl rfl ?_
    refine s_iload_n (nx := 11) hO rfl rfl rfl ?_
    refine s_iadd (nx := 12) hO rfl rfl ?_
    obtain ⟨b2, H⟩ := H
    refine s_zald (nx := 13) hO rfl (hs_Z kc172) b2 rfl ?_
    refine s_if_eq (nx := 16) hO rfl rfl (fun c13 => ?_) (fun c13 => ?_)
    · replace H := H.1 c13
      refine s_iload_n (nx := 23) hO rfl rfl rfl ?_
      exact s_iret hO rfl rfl rfl ⟨rfl, _, rfl, rfl, H⟩
    · replace H := H.2 c13
      refine goV ((x1 + 1)) (fun x3 ex3 => ?_)
      replace H := H x3 ex3
      refine e_iinc (nx := 19) (l' := [(2, .int x3), (0, .ref (q_b G + 139)), (1, .int v1)]) ex3 hO rfl (by decide) rfl rfl rfl rfl ?_
      refine s_goto hO rfl ?_
      exact xEx.loc (x_sub1 (List.Mem.tail _ (List.Mem.head _)) (x_sub1 (List.Mem.tail _ (List.Mem.tail _ (List.Mem.head _))) (x_sub1 (List.Mem.head _) x_sub0))) H
  refine s_istore_n (nx := 2) (l' := [(2, .int 0), (0, .ref (q_b G + 139)), (1, .int v1)]) hO rfl (by decide) rfl rfl ?_
  exact xEx.loc (x_sub1 (List.Mem.tail _ (List.Mem.head _)) (x_sub1 (List.Mem.tail _ (List.Mem.tail _ (List.Mem.head _))) (x_sub1 (List.Mem.head _) x_sub0))) H
def W_X12_number (s : yS) (Q : yS → Prop) : Prop :=
 ∀ P2 : Int32 → yS → Prop, (∀ (x1 : Int32) (s2 : yS), ((((sI s2 139 51) ≤ x1 → vp_in 0 64 ∧ ∀ s4 : yS, s4 = wI s2 174 (ix 0) 0 → 
   vp_in 0 64 ∧ ∀ s6 : yS, s6 = wI s4 173 (ix 0) 0 → 
   ∀ s7 : yS, s7 = wI s6 139 56 1 → 
   ∀ P44 : Int32 → yS → Prop, (∀ (x8 : Int32) (s9 : yS), ((((sI s9 139 56) ≤ x8 → ∀ P155 : Int32 → yS → Prop, (∀ (x10 : Int32) (s11 : yS), ((((sI s11 139 51) ≤ x10 → Q s11)
      ∧ (¬ (sI s11 139 51) ≤ x10 → W_X12_leastLike s11 x10 
       (fun r12 => vp_in r12 64 ∧ 
       vp_in x10 64 ∧ ∀ s15 : yS, s15 = wI s11 173 (ix x10) (sI s11 173 (ix r12)) → 
       ∀ x16 : Int32, x16 = (x10 + 1) → 
       P155 x16 s15)))) → P155 x10 s11) → 
     P155 0 s9)
    ∧ (¬ (sI s9 139 56) ≤ x8 → ∀ P54 : Int32 → yS → Prop, (∀ (x17 : Int32) (s18 : yS), ((((sI s18 139 47) ≤ x17 → ∀ x19 : Int32, x19 = (x8 + 1) → 
       P44 x19 s18)
      ∧ (¬ (sI s18 139 47) ≤ x17 → vp_in x8 64 ∧ 
       vp_in (((nI 512) * (sI s18 174 (ix x8))) + x17) 32768 ∧ 
       ∀ x22 : Int32, x22 = (sI s18 171 (ix (((nI 512) * (sI s18 174 (ix x8))) + x17))) → 
       ∀ P93 : Int32 → Prop, (∀ (y23 : Int32), (∀ P141 : yS → Prop, (∀ (s24 : yS), (∀ x25 : Int32, x25 = (x17 + 1) → 
         P54 x25 s24) → P141 s24) → 
        ((x22 < 0 → P141 s18)
        ∧ (¬ x22 < 0 → vp_in y23 64 ∧ 
         ((0 ≤ (sI s18 173 (ix y23)) → P141 s18)
         ∧ (¬ 0 ≤ (sI s18 173 (ix y23)) → vp_in y23 64 ∧ ∀ s28 : yS, s28 = wI s18 173 (ix y23) (sI s18 139 56) → 
          vp_in (sI s28 139 56) 64 ∧ ∀ s30 : yS, s30 = wI s28 174 (ix (sI s28 139 56)) y23 → 
          ∀ s31 : yS, s31 = wI s30 139 56 ((sI s30 139 56) + 1) → 
          P141 s31))))) → P93 y23) → 
       ((0 ≤ x22 → W_X12_leastLike s18 x22 
        (fun r32 => P93 r32))
       ∧ (¬ 0 ≤ x22 → P93 0))))) → P54 x17 s18) → 
     P54 0 s9))) → P44 x8 s9) → 
   P44 0 s7)
  ∧ (¬ (sI s2 139 51) ≤ x1 → vp_in x1 64 ∧ ∀ s34 : yS, s34 = wI s2 173 (ix x1) (-1) → 
   ∀ x35 : Int32, x35 = (x1 + 1) → 
   P2 x35 s34))) → P2 x1 s2) → 
 P2 0 s
set_option maxRecDepth 100000 in
set_option maxHeartbeats 40000000 in
theorem w_X12_number {G : xG} (hG : yG G) {z : Nat} {s : yS} {Q : yS → Prop} (H : W_X12_number s Q) : xC G mX12_number [.ref (q_b G + 139)] (hS G s) z 0 0 (yQv G z Q) := by
  have hW := hG.1
  have hcl := hG.2.1
  have hty := hG.2.2.1
  have hO : xO G mX12_number tbX12_number ptX12_number := ⟨tkX12_number, pkX12_number hcl⟩
  unfold W_X12_number at H
  refine xC.of hW (by decide) rfl (Nat.le_of_ble_eq_true rfl) ?_
  refine s_iconst (x := 0) (nx := 1) hO rfl (by decide) rfl ?_
  refine goK (H (fun (x1 : Int32) (s2 : yS) => xEx G mX12_number 2 [(0, .ref (q_b G + 139)), (1, .int x1)] [] (hS G s2) z 0 0 (yQv G z Q)) (fun x1 s2 H => ?_)) (fun H => ?_)
  · show xEx G mX12_number 2 [(0, .ref (q_b G + 139)), (1, .int x1)] [] (hS G s2) z 0 0 (yQv G z Q)
    refine s_iload_n (nx := 3) hO rfl rfl rfl ?_
    refine s_aload_n (nx := 4) hO rfl rfl rfl ?_
    refine s_getf (v := .int (sI s2 139 51)) (nx := 7) hO rfl rfl (hs_o12 kc139) rfl rfl ?_
    refine s_icmp_ge (nx := 10) hO rfl rfl (fun c7 => ?_) (fun c7 => ?_)
    · replace H := H.1 c7
      refine s_aload_n (nx := 24) hO rfl rfl rfl ?_
      refine s_getf (v := .ref (q_b G + 174)) (nx := 27) hO rfl rfl (hs_o12 kc139) rfl rfl ?_
      refine s_iconst (x := 0) (nx := 28) hO rfl (by decide) rfl ?_
      refine s_iconst (x := 0) (nx := 29) hO rfl (by decide) rfl ?_
      obtain ⟨b3, H⟩ := H
      refine goV (wI s2 174 (ix 0) 0) (fun s4 es4 => ?_)
      replace H := H s4 es4
      refine s_iast (nx := 30) hO rfl (hs_I kc174) b3 rfl ?_
      refine xEx.at (up_I kc174 es4) ?_
      refine s_aload_n (nx := 31) hO rfl rfl rfl ?_
      refine s_getf (v := .ref (q_b G + 173)) (nx := 34) hO rfl rfl (hs_o12 kc139) rfl rfl ?_
      refine s_iconst (x := 0) (nx := 35) hO rfl (by decide) rfl ?_
      refine s_iconst (x := 0) (nx := 36) hO rfl (by decide) rfl ?_
      obtain ⟨b5, H⟩ := H
      refine goV (wI s4 173 (ix 0) 0) (fun s6 es6 => ?_)
      replace H := H s6 es6
      refine s_iast (nx := 37) hO rfl (hs_I kc173) b5 rfl ?_
      refine xEx.at (up_I kc173 es6) ?_
      refine s_aload_n (nx := 38) hO rfl rfl rfl ?_
      refine s_iconst (x := 1) (nx := 39) hO rfl (by decide) rfl ?_
      refine goV (wI s6 139 56 1) (fun s7 es7 => ?_)
      replace H := H s7 es7
      refine s_putf (nx := 42) hO rfl rfl (hs_o12 kc139) (Nat.le_of_ble_eq_true rfl) (by rw [hty]; rfl) (by rw [hty]; rfl) pX12_56 rfl ?_
      refine xEx.at (up_oI12 kc139 es7) ?_
      refine s_iconst (x := 0) (nx := 43) hO rfl (by decide) rfl ?_
      refine goK (H (fun (x8 : Int32) (s9 : yS) => xEx G mX12_number 44 [(0, .ref (q_b G + 139)), (1, .int x8)] [] (hS G s9) z 0 0 (yQv G z Q)) (fun x8 s9 H => ?_)) (fun H => ?_)
      · show xEx G mX12_number 44 [(0, .ref (q_b G + 139)), (1, .int x8)] [] (hS G s9) z 0 0 (yQv G z Q)
        refine s_iload_n (nx := 45) hO rfl rfl rfl ?_
        refine s_aload_n (nx := 46) hO rfl rfl rfl ?_
        refine s_getf (v := .int (sI s9 139 56)) (nx := 49) hO rfl rfl (hs_o12 kc139) rfl rfl ?_
        refine s_icmp_ge (nx := 52) hO rfl rfl (fun c49 => ?_) (fun c49 => ?_)
        · replace H := H.1 c49
          refine s_iconst (x := 0) (nx := 154) hO rfl (by decide) rfl ?_
          refine goK (H (fun (x10 : Int32) (s11 : yS) => xEx G mX12_number 155 [(0, .ref (q_b G + 139)), (1, .int x10)] [] (hS G s11) z 0 0 (yQv G z Q)) (fun x10 s11 H => ?_)) (fun H => ?_)
          · show xEx G mX12_number 155 [(0, .ref (q_b G + 139)), (1, .int x10)] [] (hS G s11) z 0 0 (yQv G z Q)
            refine s_iload_n (nx := 156) hO rfl rfl rfl ?_
            refine s_aload_n (nx := 157) hO rfl rfl rfl ?_
            refine s_getf (v := .int (sI s11 139 51)) (nx := 160) hO rfl rfl (hs_o12 kc139) rfl rfl ?_
            refine s_icmp_ge (nx := 163) hO rfl rfl (fun c160 => ?_) (fun c160 => ?_)
            · replace H := H.1 c160
              exact s_vret hO rfl rfl ⟨rfl, _, rfl, rfl, H⟩
            · replace H := H.2 c160
              refine s_aload_n (nx := 164) hO rfl rfl rfl ?_
              refine s_getf (v := .ref (q_b G + 173)) (nx := 167) hO rfl rfl (hs_o12 kc139) rfl rfl ?_
              refine s_iload_n (nx := 168) hO rfl rfl rfl ?_
              refine s_aload_n (nx := 169) hO rfl rfl rfl ?_
              refine s_getf (v := .ref (q_b G + 173)) (nx := 172) hO rfl rfl (hs_o12 kc139) rfl rfl ?_
              refine s_aload_n (nx := 173) hO rfl rfl rfl ?_
              refine s_iload_n (nx := 174) hO rfl rfl rfl ?_
              refine s_callV [.int x10] (ci := 12) (F := TX12) (N := 116) (nx := 177) hO rfl kX12_number_493 (by rw [hcl]; rfl) (hs_o12 kc139) (w_X12_leastLike hG H) rfl rfl (Nat.le_of_ble_eq_true rfl) (Nat.zero_le _) (Nat.zero_le _) rfl (k_Pi (fun r12 H => ?_))
              obtain ⟨b13, H⟩ := H
              refine s_iald (nx := 178) hO rfl (hs_I kc173) b13 rfl ?_
              obtain ⟨b14, H⟩ := H
              refine goV (wI s11 173 (ix x10) (sI s11 173 (ix r12))) (fun s15 es15 => ?_)
              replace H := H s15 es15
              refine s_iast (nx := 179) hO rfl (hs_I kc173) b14 rfl ?_
              refine xEx.at (up_I kc173 es15) ?_
              refine goV ((x10 + 1)) (fun x16 ex16 => ?_)
              replace H := H x16 ex16
              refine e_iinc (nx := 182) (l' := [(1, .int x16), (0, .ref (q_b G + 139))]) ex16 hO rfl (by decide) rfl rfl rfl rfl ?_
              refine s_goto hO rfl ?_
              exact xEx.loc (x_sub1 (List.Mem.tail _ (List.Mem.head _)) (x_sub1 (List.Mem.head _) x_sub0)) H
          refine s_istore_n (nx := 155) (l' := [(1, .int 0), (0, .ref (q_b G + 139))]) hO rfl (by decide) rfl rfl ?_
          exact xEx.loc (x_sub1 (List.Mem.tail _ (List.Mem.head _)) (x_sub1 (List.Mem.head _) x_sub0)) H
        · replace H := H.2 c49
          refine s_iconst (x := 0) (nx := 53) hO rfl (by decide) rfl ?_
          refine goK (H (fun (x17 : Int32) (s18 : yS) => xEx G mX12_number 54 [(0, .ref (q_b G + 139)), (1, .int x8), (2, .int x17)] [] (hS G s18) z 0 0 (yQv G z Q)) (fun x17 s18 H => ?_)) (fun H => ?_)
          · show xEx G mX12_number 54 [(0, .ref (q_b G + 139)), (1, .int x8), (2, .int x17)] [] (hS G s18) z 0 0 (yQv G z Q)
            refine s_iload_n (nx := 55) hO rfl rfl rfl ?_
            refine s_aload_n (nx := 56) hO rfl rfl rfl ?_
            refine s_getf (v := .int (sI s18 139 47)) (nx := 59) hO rfl rfl (hs_o12 kc139) rfl rfl ?_
            refine s_icmp_ge (nx := 62) hO rfl rfl (fun c59 => ?_) (fun c59 => ?_)
            · replace H := H.1 c59
              refine goV ((x8 + 1)) (fun x19 ex19 => ?_)
              replace H := H x19 ex19
              refine e_iinc (nx := 150) (l' := [(1, .int x19), (0, .ref (q_b G + 139)), (2, .int x17)]) ex19 hO rfl (by decide) rfl rfl rfl rfl ?_
              refine s_goto hO rfl ?_
              exact xEx.loc (x_sub1 (List.Mem.tail _ (List.Mem.head _)) (x_sub1 (List.Mem.head _) x_sub0)) H
            · replace H := H.2 c59
              refine s_aload_n (nx := 63) hO rfl rfl rfl ?_
              refine s_getf (v := .ref (q_b G + 171)) (nx := 66) hO rfl rfl (hs_o12 kc139) rfl rfl ?_
              refine s_sipush (x := (nI 512)) (nx := 69) hO rfl (by decide) rfl ?_
              refine s_aload_n (nx := 70) hO rfl rfl rfl ?_
              refine s_getf (v := .ref (q_b G + 174)) (nx := 73) hO rfl rfl (hs_o12 kc139) rfl rfl ?_
              refine s_iload_n (nx := 74) hO rfl rfl rfl ?_
              obtain ⟨b20, H⟩ := H
              refine s_iald (nx := 75) hO rfl (hs_I kc174) b20 rfl ?_
              refine s_imul (nx := 76) hO rfl rfl ?_
              refine s_iload_n (nx := 77) hO rfl rfl rfl ?_
              refine s_iadd (nx := 78) hO rfl rfl ?_
              obtain ⟨b21, H⟩ := H
              refine s_iald (nx := 79) hO rfl (hs_I kc171) b21 rfl ?_
              refine goV ((sI s18 171 (ix (((nI 512) * (sI s18 174 (ix x8))) + x17)))) (fun x22 ex22 => ?_)
              replace H := H x22 ex22
              refine e_istore_n (nx := 80) (l' := [(3, .int x22), (0, .ref (q_b G + 139)), (1, .int x8), (2, .int x17)]) ex22 hO rfl (by decide) rfl rfl ?_
              refine s_iload_n (nx := 81) hO rfl rfl rfl ?_
              refine goK (H (fun (y23 : Int32) => xEx G mX12_number 93 [(0, .ref (q_b G + 139)), (1, .int x8), (2, .int x17), (3, .int x22)] [.int y23] (hS G s18) z 0 0 (yQv G z Q)) (fun y23 H => ?_)) (fun H => ?_)
              · show xEx G mX12_number 93 [(0, .ref (q_b G + 139)), (1, .int x8), (2, .int x17), (3, .int x22)] [.int y23] (hS G s18) z 0 0 (yQv G z Q)
                refine s_istore (nx := 95) (l' := [(4, .int y23), (0, .ref (q_b G + 139)), (1, .int x8), (2, .int x17), (3, .int x22)]) hO rfl (by decide) rfl rfl ?_
                refine s_iload_n (nx := 96) hO rfl rfl rfl ?_
                refine goK (H (fun (s24 : yS) => xEx G mX12_number 141 [(0, .ref (q_b G + 139)), (1, .int x8), (2, .int x17)] [] (hS G s24) z 0 0 (yQv G z Q)) (fun s24 H => ?_)) (fun H => ?_)
                · show xEx G mX12_number 141 [(0, .ref (q_b G + 139)), (1, .int x8), (2, .int x17)] [] (hS G s24) z 0 0 (yQv G z Q)
                  refine goV ((x17 + 1)) (fun x25 ex25 => ?_)
                  replace H := H x25 ex25
                  refine e_iinc (nx := 144) (l' := [(2, .int x25), (0, .ref (q_b G + 139)), (1, .int x8)]) ex25 hO rfl (by decide) rfl rfl rfl rfl ?_
                  refine s_goto hO rfl ?_
                  exact xEx.loc (x_sub1 (List.Mem.tail _ (List.Mem.head _)) (x_sub1 (List.Mem.tail _ (List.Mem.tail _ (List.Mem.head _))) (x_sub1 (List.Mem.head _) x_sub0))) H
                refine s_if_lt (nx := 99) hO rfl rfl (fun c96 => ?_) (fun c96 => ?_)
                · replace H := H.1 c96
                  exact xEx.loc (x_sub1 (List.Mem.tail _ (List.Mem.head _)) (x_sub1 (List.Mem.tail _ (List.Mem.tail _ (List.Mem.head _))) (x_sub1 (List.Mem.tail _ (List.Mem.tail _ (List.Mem.tail _ (List.Mem.head _)))) x_sub0))) H
                · replace H := H.2 c96
                  refine s_aload_n (nx := 100) hO rfl rfl rfl ?_
                  refine s_getf (v := .ref (q_b G + 173)) (nx := 103) hO rfl rfl (hs_o12 kc139) rfl rfl ?_
                  refine s_iload (nx := 105) hO rfl rfl rfl ?_
                  obtain ⟨b26, H⟩ := H
                  refine s_iald (nx := 106) hO rfl (hs_I kc173) b26 rfl ?_
                  refine s_if_ge (nx := 109) hO rfl rfl (fun c106 => ?_) (fun c106 => ?_)
                  · replace H := H.1 c106
                    exact xEx.loc (x_sub1 (List.Mem.tail _ (List.Mem.head _)) (x_sub1 (List.Mem.tail _ (List.Mem.tail _ (List.Mem.head _))) (x_sub1 (List.Mem.tail _ (List.Mem.tail _ (List.Mem.tail _ (List.Mem.head _)))) x_sub0))) H
                  · replace H := H.2 c106
                    refine s_aload_n (nx := 110) hO rfl rfl rfl ?_
                    refine s_getf (v := .ref (q_b G + 173)) (nx := 113) hO rfl rfl (hs_o12 kc139) rfl rfl ?_
                    refine s_iload (nx := 115) hO rfl rfl rfl ?_
                    refine s_aload_n (nx := 116) hO rfl rfl rfl ?_
                    refine s_getf (v := .int (sI s18 139 56)) (nx := 119) hO rfl rfl (hs_o12 kc139) rfl rfl ?_
                    obtain ⟨b27, H⟩ := H
                    refine goV (wI s18 173 (ix y23) (sI s18 139 56)) (fun s28 es28 => ?_)
                    replace H := H s28 es28
                    refine s_iast (nx := 120) hO rfl (hs_I kc173) b27 rfl ?_
                    refine xEx.at (up_I kc173 es28) ?_
                    refine s_aload_n (nx := 121) hO rfl rfl rfl ?_
                    refine s_getf (v := .ref (q_b G + 174)) (nx := 124) hO rfl rfl (hs_o12 kc139) rfl rfl ?_
                    refine s_aload_n (nx := 125) hO rfl rfl rfl ?_
                    refine s_getf (v := .int (sI s28 139 56)) (nx := 128) hO rfl rfl (hs_o12 kc139) rfl rfl ?_
                    refine s_iload (nx := 130) hO rfl rfl rfl ?_
                    obtain ⟨b29, H⟩ := H
                    refine goV (wI s28 174 (ix (sI s28 139 56)) y23) (fun s30 es30 => ?_)
                    replace H := H s30 es30
                    refine s_iast (nx := 131) hO rfl (hs_I kc174) b29 rfl ?_
                    refine xEx.at (up_I kc174 es30) ?_
                    refine s_aload_n (nx := 132) hO rfl rfl rfl ?_
                    refine s_dup (nx := 133) hO rfl rfl rfl ?_
                    refine s_getf (v := .int (sI s30 139 56)) (nx := 136) hO rfl rfl (hs_o12 kc139) rfl rfl ?_
                    refine s_iconst (x := 1) (nx := 137) hO rfl (by decide) rfl ?_
                    refine s_iadd (nx := 138) hO rfl rfl ?_
                    refine goV (wI s30 139 56 ((sI s30 139 56) + 1)) (fun s31 es31 => ?_)
                    replace H := H s31 es31
                    refine s_putf (nx := 141) hO rfl rfl (hs_o12 kc139) (Nat.le_of_ble_eq_true rfl) (by rw [hty]; rfl) (by rw [hty]; rfl) pX12_56 rfl ?_
                    refine xEx.at (up_oI12 kc139 es31) ?_
                    exact xEx.loc (x_sub1 (List.Mem.tail _ (List.Mem.head _)) (x_sub1 (List.Mem.tail _ (List.Mem.tail _ (List.Mem.head _))) (x_sub1 (List.Mem.tail _ (List.Mem.tail _ (List.Mem.tail _ (List.Mem.head _)))) x_sub0))) H
              refine s_if_ge (nx := 84) hO rfl rfl (fun c81 => ?_) (fun c81 => ?_)
              · replace H := H.1 c81
                refine s_aload_n (nx := 89) hO rfl rfl rfl ?_
                refine s_iload_n (nx := 90) hO rfl rfl rfl ?_
                refine s_callV [.int x22] (ci := 12) (F := TX12) (N := 116) (nx := 93) hO rfl kX12_number_493 (by rw [hcl]; rfl) (hs_o12 kc139) (w_X12_leastLike hG H) rfl rfl (Nat.le_of_ble_eq_true rfl) (Nat.zero_le _) (Nat.zero_le _) rfl (k_Pi (fun r32 H => ?_))
                exact xEx.loc (x_sub1 (List.Mem.tail _ (List.Mem.head _)) (x_sub1 (List.Mem.tail _ (List.Mem.tail _ (List.Mem.head _))) (x_sub1 (List.Mem.tail _ (List.Mem.tail _ (List.Mem.tail _ (List.Mem.head _)))) (x_sub1 (List.Mem.head _) x_sub0)))) H
              · replace H := H.2 c81
                refine s_iconst (x := 0) (nx := 85) hO rfl (by decide) rfl ?_
                refine s_goto hO rfl ?_
                exact xEx.loc (x_sub1 (List.Mem.tail _ (List.Mem.head _)) (x_sub1 (List.Mem.tail _ (List.Mem.tail _ (List.Mem.head _))) (x_sub1 (List.Mem.tail _ (List.Mem.tail _ (List.Mem.tail _ (List.Mem.head _)))) (x_sub1 (List.Mem.head _) x_sub0)))) H
          refine s_istore_n (nx := 54) (l' := [(2, .int 0), (0, .ref (q_b G + 139)), (1, .int x8)]) hO rfl (by decide) rfl rfl ?_
          exact xEx.loc (x_sub1 (List.Mem.tail _ (List.Mem.head _)) (x_sub1 (List.Mem.tail _ (List.Mem.tail _ (List.Mem.head _))) (x_sub1 (List.Mem.head _) x_sub0))) H
      refine s_istore_n (nx := 44) (l' := [(1, .int 0), (0, .ref (q_b G + 139))]) hO rfl (by decide) rfl rfl ?_
      exact xEx.loc (x_sub1 (List.Mem.tail _ (List.Mem.head _)) (x_sub1 (List.Mem.head _) x_sub0)) H
    · replace H := H.2 c7
      refine s_aload_n (nx := 11) hO rfl rfl rfl ?_
      refine s_getf (v := .ref (q_b G + 173)) (nx := 14) hO rfl rfl (hs_o12 kc139) rfl rfl ?_
      refine s_iload_n (nx := 15) hO rfl rfl rfl ?_
      refine s_iconst (x := (-1)) (nx := 16) hO rfl (by decide) rfl ?_
      obtain ⟨b33, H⟩ := H
      refine goV (wI s2 173 (ix x1) (-1)) (fun s34 es34 => ?_)
      replace H := H s34 es34
      refine s_iast (nx := 17) hO rfl (hs_I kc173) b33 rfl ?_
      refine xEx.at (up_I kc173 es34) ?_
      refine goV ((x1 + 1)) (fun x35 ex35 => ?_)
      replace H := H x35 ex35
      refine e_iinc (nx := 20) (l' := [(1, .int x35), (0, .ref (q_b G + 139))]) ex35 hO rfl (by decide) rfl rfl rfl rfl ?_
      refine s_goto hO rfl ?_
      exact xEx.loc (x_sub1 (List.Mem.tail _ (List.Mem.head _)) (x_sub1 (List.Mem.head _) x_sub0)) H
  refine s_istore_n (nx := 2) (l' := [(1, .int 0), (0, .ref (q_b G + 139))]) hO rfl (by decide) rfl rfl ?_
  exact xEx.loc (x_sub1 (List.Mem.tail _ (List.Mem.head _)) (x_sub1 (List.Mem.head _) x_sub0)) H
def W_X12_goes (s : yS) (v1 : Int32) (v2 : Int32) (Q : Int32 → Prop) : Prop :=
 vp_in v1 64 ∧ 
 vp_in (((nI 512) * (sI s 174 (ix v1))) + v2) 32768 ∧ 
 ∀ x3 : Int32, x3 = (sI s 171 (ix (((nI 512) * (sI s 174 (ix v1))) + v2))) → 
 ((0 ≤ x3 → vp_in x3 64 ∧ 
  Q (sI s 173 (ix x3)))
 ∧ (¬ 0 ≤ x3 → Q (-1)))
set_option maxRecDepth 100000 in
set_option maxHeartbeats 40000000 in
theorem w_X12_goes {G : xG} (hG : yG G) {z : Nat} {s : yS} {v1 : Int32} {v2 : Int32} {Q : Int32 → Prop} (H : W_X12_goes s v1 v2 Q) : xC G mX12_goes [.ref (q_b G + 139), .int v1, .int v2] (hS G s) z 0 0 (yPi G z s Q) := by
  have hW := hG.1
  have hcl := hG.2.1
  have hty := hG.2.2.1
  have hO : xO G mX12_goes tbX12_goes ptX12_goes := ⟨tkX12_goes, pkX12_goes hcl⟩
  unfold W_X12_goes at H
  refine xC.of hW (by decide) rfl (Nat.le_of_ble_eq_true rfl) ?_
  refine s_aload_n (nx := 1) hO rfl rfl rfl ?_
  refine s_getf (v := .ref (q_b G + 171)) (nx := 4) hO rfl rfl (hs_o12 kc139) rfl rfl ?_
  refine s_sipush (x := (nI 512)) (nx := 7) hO rfl (by decide) rfl ?_
  refine s_aload_n (nx := 8) hO rfl rfl rfl ?_
  refine s_getf (v := .ref (q_b G + 174)) (nx := 11) hO rfl rfl (hs_o12 kc139) rfl rfl ?_
  refine s_iload_n (nx := 12) hO rfl rfl rfl ?_
  obtain ⟨b1, H⟩ := H
  refine s_iald (nx := 13) hO rfl (hs_I kc174) b1 rfl ?_
  refine s_imul (nx := 14) hO rfl rfl ?_
  refine s_iload_n (nx := 15) hO rfl rfl rfl ?_
  refine s_iadd (nx := 16) hO rfl rfl ?_
  obtain ⟨b2, H⟩ := H
  refine s_iald (nx := 17) hO rfl (hs_I kc171) b2 rfl ?_
  refine goV ((sI s 171 (ix (((nI 512) * (sI s 174 (ix v1))) + v2)))) (fun x3 ex3 => ?_)
  replace H := H x3 ex3
  refine e_istore_n (nx := 18) (l' := [(3, .int x3), (0, .ref (q_b G + 139)), (1, .int v1), (2, .int v2)]) ex3 hO rfl (by decide) rfl rfl ?_
  refine s_iload_n (nx := 19) hO rfl rfl rfl ?_
  refine s_if_ge (nx := 22) hO rfl rfl (fun c19 => ?_) (fun c19 => ?_)
  · replace H := H.1 c19
    refine s_aload_n (nx := 27) hO rfl rfl rfl ?_
    refine s_getf (v := .ref (q_b G + 173)) (nx := 30) hO rfl rfl (hs_o12 kc139) rfl rfl ?_
    refine s_iload_n (nx := 31) hO rfl rfl rfl ?_
    obtain ⟨b4, H⟩ := H
    refine s_iald (nx := 32) hO rfl (hs_I kc173) b4 rfl ?_
    exact s_iret hO rfl rfl rfl ⟨rfl, _, rfl, rfl, H⟩
  · replace H := H.2 c19
    refine s_iconst (x := (-1)) (nx := 23) hO rfl (by decide) rfl ?_
    refine s_goto hO rfl ?_
    exact s_iret hO rfl rfl rfl ⟨rfl, _, rfl, rfl, H⟩
def W_X12_gather (s : yS) (Q : yS → Prop) : Prop :=
 ∀ P2 : Int32 → yS → Prop, (∀ (x1 : Int32) (s2 : yS), ((((nI 1024) ≤ x1 → ∀ P31 : Int32 → yS → Prop, (∀ (x3 : Int32) (s4 : yS), ((((sI s4 139 56) ≤ x3 → vp_in 0 2 ∧ ∀ s6 : yS, s6 = wI s4 200 (ix 0) (vp_nar .boolean 0) → 
     vp_in 1 2 ∧ ∀ s8 : yS, s8 = wI s6 200 (ix 1) (vp_nar .boolean 0) → 
     Q s8)
    ∧ (¬ (sI s4 139 56) ≤ x3 → ∀ P41 : Int32 → yS → Prop, (∀ (x9 : Int32) (s10 : yS), ((((sI s10 139 47) ≤ x9 → ∀ x11 : Int32, x11 = (x3 + 1) → 
       P31 x11 s10)
      ∧ (¬ (sI s10 139 47) ≤ x9 → vp_in x9 512 ∧ 
       ∀ x13 : Int32, x13 = (((nI 64) * (sI s10 165 (ix x9))) + x3) → 
       W_X12_goes s10 x3 x9 
       (fun r14 => vp_in x13 1024 ∧ 
       ∀ P89 : Int64 → Prop, (∀ (y16 : Int64), (vp_in x13 1024 ∧ ∀ s18 : yS, s18 = wJ s10 201 (ix x13) ((sJ s10 201 (ix x13)) ||| y16) → 
        vp_in x13 1024 ∧ 
        ∀ P116 : Int32 → Prop, (∀ (y20 : Int32), (vp_in x13 1024 ∧ ∀ s22 : yS, s22 = wI s18 202 (ix x13) (vp_nar .boolean y20) → 
         ∀ x23 : Int32, x23 = (x9 + 1) → 
         P41 x23 s22) → P116 y20) → 
        (((sI s18 202 (ix x13)) = 0 → P116 0)
        ∧ (¬ (sI s18 202 (ix x13)) = 0 → ((¬ r14 = x3 → P116 0)
         ∧ (r14 = x3 → P116 1))))) → P89 y16) → 
       ((0 ≤ r14 → P89 (1 <<< ((r14).toInt64 &&& 63)))
       ∧ (¬ 0 ≤ r14 → P89 0)))))) → P41 x9 s10) → 
     P41 0 s4))) → P31 x3 s4) → 
   P31 0 s2)
  ∧ (¬ (nI 1024) ≤ x1 → vp_in x1 1024 ∧ ∀ s25 : yS, s25 = wJ s2 201 (ix x1) 0 → 
   vp_in x1 1024 ∧ ∀ s27 : yS, s27 = wI s25 202 (ix x1) (vp_nar .boolean 1) → 
   ∀ x28 : Int32, x28 = (x1 + 1) → 
   P2 x28 s27))) → P2 x1 s2) → 
 P2 0 s
set_option maxRecDepth 100000 in
set_option maxHeartbeats 40000000 in
theorem w_X12_gather {G : xG} (hG : yG G) {z : Nat} {s : yS} {Q : yS → Prop} (H : W_X12_gather s Q) : xC G mX12_gather [.ref (q_b G + 139)] (hS G s) z 0 0 (yQv G z Q) := by
  have hW := hG.1
  have hcl := hG.2.1
  have hty := hG.2.2.1
  have hO : xO G mX12_gather tbX12_gather ptX12_gather := ⟨tkX12_gather, pkX12_gather hcl⟩
  unfold W_X12_gather at H
  refine xC.of hW (by decide) rfl (Nat.le_of_ble_eq_true rfl) ?_
  refine s_iconst (x := 0) (nx := 1) hO rfl (by decide) rfl ?_
  refine goK (H (fun (x1 : Int32) (s2 : yS) => xEx G mX12_gather 2 [(0, .ref (q_b G + 139)), (1, .int x1)] [] (hS G s2) z 0 0 (yQv G z Q)) (fun x1 s2 H => ?_)) (fun H => ?_)
  · show xEx G mX12_gather 2 [(0, .ref (q_b G + 139)), (1, .int x1)] [] (hS G s2) z 0 0 (yQv G z Q)
    refine s_iload_n (nx := 3) hO rfl rfl rfl ?_
    refine s_sipush (x := (nI 1024)) (nx := 6) hO rfl (by decide) rfl ?_
    refine s_icmp_ge (nx := 9) hO rfl rfl (fun c6 => ?_) (fun c6 => ?_)
    · replace H := H.1 c6
      refine s_iconst (x := 0) (nx := 30) hO rfl (by decide) rfl ?_
      refine goK (H (fun (x3 : Int32) (s4 : yS) => xEx G mX12_gather 31 [(0, .ref (q_b G + 139)), (1, .int x3)] [] (hS G s4) z 0 0 (yQv G z Q)) (fun x3 s4 H => ?_)) (fun H => ?_)
      · show xEx G mX12_gather 31 [(0, .ref (q_b G + 139)), (1, .int x3)] [] (hS G s4) z 0 0 (yQv G z Q)
        refine s_iload_n (nx := 32) hO rfl rfl rfl ?_
        refine s_aload_n (nx := 33) hO rfl rfl rfl ?_
        refine s_getf (v := .int (sI s4 139 56)) (nx := 36) hO rfl rfl (hs_o12 kc139) rfl rfl ?_
        refine s_icmp_ge (nx := 39) hO rfl rfl (fun c36 => ?_) (fun c36 => ?_)
        · replace H := H.1 c36
          refine s_aload_n (nx := 130) hO rfl rfl rfl ?_
          refine s_getf (v := .ref (q_b G + 200)) (nx := 133) hO rfl rfl (hs_o12 kc139) rfl rfl ?_
          refine s_iconst (x := 0) (nx := 134) hO rfl (by decide) rfl ?_
          refine s_iconst (x := 0) (nx := 135) hO rfl (by decide) rfl ?_
          obtain ⟨b5, H⟩ := H
          refine goV (wI s4 200 (ix 0) (vp_nar .boolean 0)) (fun s6 es6 => ?_)
          replace H := H s6 es6
          refine s_zast (nx := 136) hO rfl (hs_Z kc200) b5 rfl ?_
          refine xEx.at (up_Z kc200 es6) ?_
          refine s_aload_n (nx := 137) hO rfl rfl rfl ?_
          refine s_getf (v := .ref (q_b G + 200)) (nx := 140) hO rfl rfl (hs_o12 kc139) rfl rfl ?_
          refine s_iconst (x := 1) (nx := 141) hO rfl (by decide) rfl ?_
          refine s_iconst (x := 0) (nx := 142) hO rfl (by decide) rfl ?_
          obtain ⟨b7, H⟩ := H
          refine goV (wI s6 200 (ix 1) (vp_nar .boolean 0)) (fun s8 es8 => ?_)
          replace H := H s8 es8
          refine s_zast (nx := 143) hO rfl (hs_Z kc200) b7 rfl ?_
          refine xEx.at (up_Z kc200 es8) ?_
          exact s_vret hO rfl rfl ⟨rfl, _, rfl, rfl, H⟩
        · replace H := H.2 c36
          refine s_iconst (x := 0) (nx := 40) hO rfl (by decide) rfl ?_
          refine goK (H (fun (x9 : Int32) (s10 : yS) => xEx G mX12_gather 41 [(0, .ref (q_b G + 139)), (1, .int x3), (2, .int x9)] [] (hS G s10) z 0 0 (yQv G z Q)) (fun x9 s10 H => ?_)) (fun H => ?_)
          · show xEx G mX12_gather 41 [(0, .ref (q_b G + 139)), (1, .int x3), (2, .int x9)] [] (hS G s10) z 0 0 (yQv G z Q)
            refine s_iload_n (nx := 42) hO rfl rfl rfl ?_
            refine s_aload_n (nx := 43) hO rfl rfl rfl ?_
            refine s_getf (v := .int (sI s10 139 47)) (nx := 46) hO rfl rfl (hs_o12 kc139) rfl rfl ?_
            refine s_icmp_ge (nx := 49) hO rfl rfl (fun c46 => ?_) (fun c46 => ?_)
            · replace H := H.1 c46
              refine goV ((x3 + 1)) (fun x11 ex11 => ?_)
              replace H := H x11 ex11
              refine e_iinc (nx := 126) (l' := [(1, .int x11), (0, .ref (q_b G + 139)), (2, .int x9)]) ex11 hO rfl (by decide) rfl rfl rfl rfl ?_
              refine s_goto hO rfl ?_
              exact xEx.loc (x_sub1 (List.Mem.tail _ (List.Mem.head _)) (x_sub1 (List.Mem.head _) x_sub0)) H
            · replace H := H.2 c46
              refine s_bipush (x := (nI 64)) (nx := 51) hO rfl (by decide) rfl ?_
              refine s_aload_n (nx := 52) hO rfl rfl rfl ?_
              refine s_getf (v := .ref (q_b G + 165)) (nx := 55) hO rfl rfl (hs_o12 kc139) rfl rfl ?_
              refine s_iload_n (nx := 56) hO rfl rfl rfl ?_
              obtain ⟨b12, H⟩ := H
              refine s_iald (nx := 57) hO rfl (hs_I kc165) b12 rfl ?_
              refine s_imul (nx := 58) hO rfl rfl ?_
              refine s_iload_n (nx := 59) hO rfl rfl rfl ?_
              refine s_iadd (nx := 60) hO rfl rfl ?_
              refine goV ((((nI 64) * (sI s10 165 (ix x9))) + x3)) (fun x13 ex13 => ?_)
              replace H := H x13 ex13
              refine e_istore_n (nx := 61) (l' := [(3, .int x13), (0, .ref (q_b G + 139)), (1, .int x3), (2, .int x9)]) ex13 hO rfl (by decide) rfl rfl ?_
              refine s_aload_n (nx := 62) hO rfl rfl rfl ?_
              refine s_iload_n (nx := 63) hO rfl rfl rfl ?_
              refine s_iload_n (nx := 64) hO rfl rfl rfl ?_
              refine s_callV [.int x3, .int x9] (ci := 12) (F := TX12) (N := 116) (nx := 67) hO rfl kX12_gather_510 (by rw [hcl]; rfl) (hs_o12 kc139) (w_X12_goes hG H) rfl rfl (Nat.le_of_ble_eq_true rfl) (Nat.zero_le _) (Nat.zero_le _) rfl (k_Pi (fun r14 H => ?_))
              refine s_istore (nx := 69) (l' := [(4, .int r14), (3, .int x13), (0, .ref (q_b G + 139)), (1, .int x3), (2, .int x9)]) hO rfl (by decide) rfl rfl ?_
              refine s_aload_n (nx := 70) hO rfl rfl rfl ?_
              refine s_getf (v := .ref (q_b G + 201)) (nx := 73) hO rfl rfl (hs_o12 kc139) rfl rfl ?_
              refine s_iload_n (nx := 74) hO rfl rfl rfl ?_
              refine s_dup2 (nx := 75) hO rfl rfl rfl rfl ?_
              obtain ⟨b15, H⟩ := H
              refine s_lald (nx := 76) hO rfl (hs_J kc201) b15 rfl ?_
              refine s_iload (nx := 78) hO rfl rfl rfl ?_
              refine goK (H (fun (y16 : Int64) => xEx G mX12_gather 89 [(0, .ref (q_b G + 139)), (1, .int x3), (2, .int x9), (3, .int x13), (4, .int r14)] [.long y16, .long (sJ s10 201 (ix x13)), .int x13, .ref (q_b G + 201)] (hS G s10) z 0 0 (yQv G z Q)) (fun y16 H => ?_)) (fun H => ?_)
              · show xEx G mX12_gather 89 [(0, .ref (q_b G + 139)), (1, .int x3), (2, .int x9), (3, .int x13), (4, .int r14)] [.long y16, .long (sJ s10 201 (ix x13)), .int x13, .ref (q_b G + 201)] (hS G s10) z 0 0 (yQv G z Q)
                refine s_lor (nx := 90) hO rfl rfl ?_
                obtain ⟨b17, H⟩ := H
                refine goV (wJ s10 201 (ix x13) ((sJ s10 201 (ix x13)) ||| y16)) (fun s18 es18 => ?_)
                replace H := H s18 es18
                refine s_last (nx := 91) hO rfl (hs_J kc201) b17 rfl ?_
                refine xEx.at (up_J kc201 es18) ?_
                refine s_aload_n (nx := 92) hO rfl rfl rfl ?_
                refine s_getf (v := .ref (q_b G + 202)) (nx := 95) hO rfl rfl (hs_o12 kc139) rfl rfl ?_
                refine s_iload_n (nx := 96) hO rfl rfl rfl ?_
                refine s_aload_n (nx := 97) hO rfl rfl rfl ?_
                refine s_getf (v := .ref (q_b G + 202)) (nx := 100) hO rfl rfl (hs_o12 kc139) rfl rfl ?_
                refine s_iload_n (nx := 101) hO rfl rfl rfl ?_
                obtain ⟨b19, H⟩ := H
                refine s_zald (nx := 102) hO rfl (hs_Z kc202) b19 rfl ?_
                refine goK (H (fun (y20 : Int32) => xEx G mX12_gather 116 [(0, .ref (q_b G + 139)), (1, .int x3), (2, .int x9)] [.int y20, .int x13, .ref (q_b G + 202)] (hS G s18) z 0 0 (yQv G z Q)) (fun y20 H => ?_)) (fun H => ?_)
                · show xEx G mX12_gather 116 [(0, .ref (q_b G + 139)), (1, .int x3), (2, .int x9)] [.int y20, .int x13, .ref (q_b G + 202)] (hS G s18) z 0 0 (yQv G z Q)
                  obtain ⟨b21, H⟩ := H
                  refine goV (wI s18 202 (ix x13) (vp_nar .boolean y20)) (fun s22 es22 => ?_)
                  replace H := H s22 es22
                  refine s_zast (nx := 117) hO rfl (hs_Z kc202) b21 rfl ?_
                  refine xEx.at (up_Z kc202 es22) ?_
                  refine goV ((x9 + 1)) (fun x23 ex23 => ?_)
                  replace H := H x23 ex23
                  refine e_iinc (nx := 120) (l' := [(2, .int x23), (0, .ref (q_b G + 139)), (1, .int x3)]) ex23 hO rfl (by decide) rfl rfl rfl rfl ?_
                  refine s_goto hO rfl ?_
                  exact xEx.loc (x_sub1 (List.Mem.tail _ (List.Mem.head _)) (x_sub1 (List.Mem.tail _ (List.Mem.tail _ (List.Mem.head _))) (x_sub1 (List.Mem.head _) x_sub0))) H
                refine s_if_eq (nx := 105) hO rfl rfl (fun c102 => ?_) (fun c102 => ?_)
                · replace H := H.1 c102
                  refine s_iconst (x := 0) (nx := 116) hO rfl (by decide) rfl ?_
                  exact xEx.loc (x_sub1 (List.Mem.head _) (x_sub1 (List.Mem.tail _ (List.Mem.head _)) (x_sub1 (List.Mem.tail _ (List.Mem.tail _ (List.Mem.head _))) x_sub0))) H
                · replace H := H.2 c102
                  refine s_iload (nx := 107) hO rfl rfl rfl ?_
                  refine s_iload_n (nx := 108) hO rfl rfl rfl ?_
                  refine s_icmp_ne (nx := 111) hO rfl rfl (fun c108 => ?_) (fun c108 => ?_)
                  · replace H := H.1 c108
                    refine s_iconst (x := 0) (nx := 116) hO rfl (by decide) rfl ?_
                    exact xEx.loc (x_sub1 (List.Mem.head _) (x_sub1 (List.Mem.tail _ (List.Mem.head _)) (x_sub1 (List.Mem.tail _ (List.Mem.tail _ (List.Mem.head _))) x_sub0))) H
                  · replace H := H.2 c108
                    refine s_iconst (x := 1) (nx := 112) hO rfl (by decide) rfl ?_
                    refine s_goto hO rfl ?_
                    exact xEx.loc (x_sub1 (List.Mem.head _) (x_sub1 (List.Mem.tail _ (List.Mem.head _)) (x_sub1 (List.Mem.tail _ (List.Mem.tail _ (List.Mem.head _))) x_sub0))) H
              refine s_if_ge (nx := 81) hO rfl rfl (fun c78 => ?_) (fun c78 => ?_)
              · replace H := H.1 c78
                refine s_lconst (x := 1) (nx := 86) hO rfl (by decide) rfl ?_
                refine s_iload (nx := 88) hO rfl rfl rfl ?_
                refine s_lshl (nx := 89) hO rfl rfl ?_
                exact xEx.loc (x_sub1 (List.Mem.tail _ (List.Mem.tail _ (List.Mem.head _))) (x_sub1 (List.Mem.tail _ (List.Mem.tail _ (List.Mem.tail _ (List.Mem.head _)))) (x_sub1 (List.Mem.tail _ (List.Mem.tail _ (List.Mem.tail _ (List.Mem.tail _ (List.Mem.head _))))) (x_sub1 (List.Mem.tail _ (List.Mem.head _)) (x_sub1 (List.Mem.head _) x_sub0))))) H
              · replace H := H.2 c78
                refine s_lconst (x := 0) (nx := 82) hO rfl (by decide) rfl ?_
                refine s_goto hO rfl ?_
                exact xEx.loc (x_sub1 (List.Mem.tail _ (List.Mem.tail _ (List.Mem.head _))) (x_sub1 (List.Mem.tail _ (List.Mem.tail _ (List.Mem.tail _ (List.Mem.head _)))) (x_sub1 (List.Mem.tail _ (List.Mem.tail _ (List.Mem.tail _ (List.Mem.tail _ (List.Mem.head _))))) (x_sub1 (List.Mem.tail _ (List.Mem.head _)) (x_sub1 (List.Mem.head _) x_sub0))))) H
          refine s_istore_n (nx := 41) (l' := [(2, .int 0), (0, .ref (q_b G + 139)), (1, .int x3)]) hO rfl (by decide) rfl rfl ?_
          exact xEx.loc (x_sub1 (List.Mem.tail _ (List.Mem.head _)) (x_sub1 (List.Mem.tail _ (List.Mem.tail _ (List.Mem.head _))) (x_sub1 (List.Mem.head _) x_sub0))) H
      refine s_istore_n (nx := 31) (l' := [(1, .int 0), (0, .ref (q_b G + 139))]) hO rfl (by decide) rfl rfl ?_
      exact xEx.loc (x_sub1 (List.Mem.tail _ (List.Mem.head _)) (x_sub1 (List.Mem.head _) x_sub0)) H
    · replace H := H.2 c6
      refine s_aload_n (nx := 10) hO rfl rfl rfl ?_
      refine s_getf (v := .ref (q_b G + 201)) (nx := 13) hO rfl rfl (hs_o12 kc139) rfl rfl ?_
      refine s_iload_n (nx := 14) hO rfl rfl rfl ?_
      refine s_lconst (x := 0) (nx := 15) hO rfl (by decide) rfl ?_
      obtain ⟨b24, H⟩ := H
      refine goV (wJ s2 201 (ix x1) 0) (fun s25 es25 => ?_)
      replace H := H s25 es25
      refine s_last (nx := 16) hO rfl (hs_J kc201) b24 rfl ?_
      refine xEx.at (up_J kc201 es25) ?_
      refine s_aload_n (nx := 17) hO rfl rfl rfl ?_
      refine s_getf (v := .ref (q_b G + 202)) (nx := 20) hO rfl rfl (hs_o12 kc139) rfl rfl ?_
      refine s_iload_n (nx := 21) hO rfl rfl rfl ?_
      refine s_iconst (x := 1) (nx := 22) hO rfl (by decide) rfl ?_
      obtain ⟨b26, H⟩ := H
      refine goV (wI s25 202 (ix x1) (vp_nar .boolean 1)) (fun s27 es27 => ?_)
      replace H := H s27 es27
      refine s_zast (nx := 23) hO rfl (hs_Z kc202) b26 rfl ?_
      refine xEx.at (up_Z kc202 es27) ?_
      refine goV ((x1 + 1)) (fun x28 ex28 => ?_)
      replace H := H x28 ex28
      refine e_iinc (nx := 26) (l' := [(1, .int x28), (0, .ref (q_b G + 139))]) ex28 hO rfl (by decide) rfl rfl rfl rfl ?_
      refine s_goto hO rfl ?_
      exact xEx.loc (x_sub1 (List.Mem.tail _ (List.Mem.head _)) (x_sub1 (List.Mem.head _) x_sub0)) H
  refine s_istore_n (nx := 2) (l' := [(1, .int 0), (0, .ref (q_b G + 139))]) hO rfl (by decide) rfl rfl ?_
  exact xEx.loc (x_sub1 (List.Mem.tail _ (List.Mem.head _)) (x_sub1 (List.Mem.head _) x_sub0)) H
def W_X12_makeTables (s : yS) (Q : yS → Prop) : Prop :=
 W_X12_makeLetters s 
 (fun s1 => ∀ P15 : yS → Prop, (∀ (s2 : yS), (((¬ (sI s2 139 15) = 0 → Q s2)
  ∧ ((sI s2 139 15) = 0 → W_X12_tellApart s2 
   (fun s3 => W_X12_number s3 
   (fun s4 => W_X12_gather s4 
   (fun s5 => Q s5)))))) → P15 s2) → 
 ((¬ (sI s1 139 15) = 0 → P15 s1)
 ∧ ((sI s1 139 15) = 0 → W_X12_makeSets s1 
  (fun s6 => P15 s6))))
set_option maxRecDepth 100000 in
set_option maxHeartbeats 40000000 in
theorem w_X12_makeTables {G : xG} (hG : yG G) {z : Nat} {s : yS} {Q : yS → Prop} (H : W_X12_makeTables s Q) : xC G mX12_makeTables [.ref (q_b G + 139)] (hS G s) z 0 0 (yQv G z Q) := by
  have hW := hG.1
  have hcl := hG.2.1
  have hty := hG.2.2.1
  have hO : xO G mX12_makeTables tbX12_makeTables ptX12_makeTables := ⟨tkX12_makeTables, pkX12_makeTables hcl⟩
  unfold W_X12_makeTables at H
  refine xC.of hW (by decide) rfl (Nat.le_of_ble_eq_true rfl) ?_
  refine s_aload_n (nx := 1) hO rfl rfl rfl ?_
  refine s_callV [] (ci := 12) (F := TX12) (N := 116) (nx := 4) hO rfl kX12_makeTables_496 (by rw [hcl]; rfl) (hs_o12 kc139) (w_X12_makeLetters hG H) rfl rfl (Nat.le_of_ble_eq_true rfl) (Nat.zero_le _) (Nat.zero_le _) rfl (k_Qv (fun s1 H => ?_))
  refine s_aload_n (nx := 5) hO rfl rfl rfl ?_
  refine s_getf (v := .int (sI s1 139 15)) (nx := 8) hO rfl rfl (hs_o12 kc139) rfl rfl ?_
  refine goK (H (fun (s2 : yS) => xEx G mX12_makeTables 15 [(0, .ref (q_b G + 139))] [] (hS G s2) z 0 0 (yQv G z Q)) (fun s2 H => ?_)) (fun H => ?_)
  · show xEx G mX12_makeTables 15 [(0, .ref (q_b G + 139))] [] (hS G s2) z 0 0 (yQv G z Q)
    refine s_aload_n (nx := 16) hO rfl rfl rfl ?_
    refine s_getf (v := .int (sI s2 139 15)) (nx := 19) hO rfl rfl (hs_o12 kc139) rfl rfl ?_
    refine s_if_ne (nx := 22) hO rfl rfl (fun c19 => ?_) (fun c19 => ?_)
    · replace H := H.1 c19
      exact s_vret hO rfl rfl ⟨rfl, _, rfl, rfl, H⟩
    · replace H := H.2 c19
      refine s_aload_n (nx := 23) hO rfl rfl rfl ?_
      refine s_callV [] (ci := 12) (F := TX12) (N := 116) (nx := 26) hO rfl kX12_makeTables_502 (by rw [hcl]; rfl) (hs_o12 kc139) (w_X12_tellApart hG H) rfl rfl (Nat.le_of_ble_eq_true rfl) (Nat.zero_le _) (Nat.zero_le _) rfl (k_Qv (fun s3 H => ?_))
      refine s_aload_n (nx := 27) hO rfl rfl rfl ?_
      refine s_callV [] (ci := 12) (F := TX12) (N := 116) (nx := 30) hO rfl kX12_makeTables_505 (by rw [hcl]; rfl) (hs_o12 kc139) (w_X12_number hG H) rfl rfl (Nat.le_of_ble_eq_true rfl) (Nat.zero_le _) (Nat.zero_le _) rfl (k_Qv (fun s4 H => ?_))
      refine s_aload_n (nx := 31) hO rfl rfl rfl ?_
      refine s_callV [] (ci := 12) (F := TX12) (N := 116) (nx := 34) hO rfl kX12_makeTables_507 (by rw [hcl]; rfl) (hs_o12 kc139) (w_X12_gather hG H) rfl rfl (Nat.le_of_ble_eq_true rfl) (Nat.zero_le _) (Nat.zero_le _) rfl (k_Qv (fun s5 H => ?_))
      exact s_vret hO rfl rfl ⟨rfl, _, rfl, rfl, H⟩
  refine s_if_ne (nx := 11) hO rfl rfl (fun c8 => ?_) (fun c8 => ?_)
  · replace H := H.1 c8
    exact xEx.loc (x_sub1 (List.Mem.head _) x_sub0) H
  · replace H := H.2 c8
    refine s_aload_n (nx := 12) hO rfl rfl rfl ?_
    refine s_callV [] (ci := 12) (F := TX12) (N := 116) (nx := 15) hO rfl kX12_makeTables_499 (by rw [hcl]; rfl) (hs_o12 kc139) (w_X12_makeSets hG H) rfl rfl (Nat.le_of_ble_eq_true rfl) (Nat.zero_le _) (Nat.zero_le _) rfl (k_Qv (fun s6 H => ?_))
    exact xEx.loc (x_sub1 (List.Mem.head _) x_sub0) H
def W_X12_resetWatch (s : yS) (Q : yS → Prop) : Prop :=
 ∀ s1 : yS, s1 = wI s 139 0 0 → 
 ∀ s2 : yS, s2 = wI s1 139 99 1 → 
 ∀ P12 : Int32 → yS → Prop, (∀ (x3 : Int32) (s4 : yS), ((((nI 6) ≤ x3 → Q s4)
  ∧ (¬ (nI 6) ≤ x3 → vp_in x3 6 ∧ ∀ s6 : yS, s6 = wI s4 206 (ix x3) 0 → 
   ∀ x7 : Int32, x7 = (x3 + 1) → 
   P12 x7 s6))) → P12 x3 s4) → 
 P12 0 s2
set_option maxRecDepth 100000 in
set_option maxHeartbeats 40000000 in
theorem w_X12_resetWatch {G : xG} (hG : yG G) {z : Nat} {s : yS} {Q : yS → Prop} (H : W_X12_resetWatch s Q) : xC G mX12_resetWatch [.ref (q_b G + 139)] (hS G s) z 0 0 (yQv G z Q) := by
  have hW := hG.1
  have hcl := hG.2.1
  have hty := hG.2.2.1
  have hO : xO G mX12_resetWatch tbX12_resetWatch ptX12_resetWatch := ⟨tkX12_resetWatch, pkX12_resetWatch hcl⟩
  unfold W_X12_resetWatch at H
  refine xC.of hW (by decide) rfl (Nat.le_of_ble_eq_true rfl) ?_
  refine s_aload_n (nx := 1) hO rfl rfl rfl ?_
  refine s_iconst (x := 0) (nx := 2) hO rfl (by decide) rfl ?_
  refine goV (wI s 139 0 0) (fun s1 es1 => ?_)
  replace H := H s1 es1
  refine s_putf (nx := 5) hO rfl rfl (hs_o12 kc139) (Nat.le_of_ble_eq_true rfl) (by rw [hty]; rfl) (by rw [hty]; rfl) pX12_0 rfl ?_
  refine xEx.at (up_oI12 kc139 es1) ?_
  refine s_aload_n (nx := 6) hO rfl rfl rfl ?_
  refine s_iconst (x := 1) (nx := 7) hO rfl (by decide) rfl ?_
  refine goV (wI s1 139 99 1) (fun s2 es2 => ?_)
  replace H := H s2 es2
  refine s_putf (nx := 10) hO rfl rfl (hs_o12 kc139) (Nat.le_of_ble_eq_true rfl) (by rw [hty]; rfl) (by rw [hty]; rfl) pX12_99 rfl ?_
  refine xEx.at (up_oI12 kc139 es2) ?_
  refine s_iconst (x := 0) (nx := 11) hO rfl (by decide) rfl ?_
  refine goK (H (fun (x3 : Int32) (s4 : yS) => xEx G mX12_resetWatch 12 [(0, .ref (q_b G + 139)), (1, .int x3)] [] (hS G s4) z 0 0 (yQv G z Q)) (fun x3 s4 H => ?_)) (fun H => ?_)
  · show xEx G mX12_resetWatch 12 [(0, .ref (q_b G + 139)), (1, .int x3)] [] (hS G s4) z 0 0 (yQv G z Q)
    refine s_iload_n (nx := 13) hO rfl rfl rfl ?_
    refine s_bipush (x := (nI 6)) (nx := 15) hO rfl (by decide) rfl ?_
    refine s_icmp_ge (nx := 18) hO rfl rfl (fun c15 => ?_) (fun c15 => ?_)
    · replace H := H.1 c15
      exact s_vret hO rfl rfl ⟨rfl, _, rfl, rfl, H⟩
    · replace H := H.2 c15
      refine s_aload_n (nx := 19) hO rfl rfl rfl ?_
      refine s_getf (v := .ref (q_b G + 206)) (nx := 22) hO rfl rfl (hs_o12 kc139) rfl rfl ?_
      refine s_iload_n (nx := 23) hO rfl rfl rfl ?_
      refine s_iconst (x := 0) (nx := 24) hO rfl (by decide) rfl ?_
      obtain ⟨b5, H⟩ := H
      refine goV (wI s4 206 (ix x3) 0) (fun s6 es6 => ?_)
      replace H := H s6 es6
      refine s_iast (nx := 25) hO rfl (hs_I kc206) b5 rfl ?_
      refine xEx.at (up_I kc206 es6) ?_
      refine goV ((x3 + 1)) (fun x7 ex7 => ?_)
      replace H := H x7 ex7
      refine e_iinc (nx := 28) (l' := [(1, .int x7), (0, .ref (q_b G + 139))]) ex7 hO rfl (by decide) rfl rfl rfl rfl ?_
      refine s_goto hO rfl ?_
      exact xEx.loc (x_sub1 (List.Mem.tail _ (List.Mem.head _)) (x_sub1 (List.Mem.head _) x_sub0)) H
  refine s_istore_n (nx := 12) (l' := [(1, .int 0), (0, .ref (q_b G + 139))]) hO rfl (by decide) rfl rfl ?_
  exact xEx.loc (x_sub1 (List.Mem.tail _ (List.Mem.head _)) (x_sub1 (List.Mem.head _) x_sub0)) H
def W_X12_loadPolicy (s : yS) (Q : Int32 → yS → Prop) : Prop :=
 ∀ s1 : yS, s1 = wI s 139 0 0 → 
 ∀ P7 : Int32 → yS → Prop, (∀ (x2 : Int32) (s3 : yS), ((((sI s3 139 9) ≤ x2 → ∀ x4 : Int32, x4 = (sI s3 139 9) → 
   ∀ P40 : Int32 → yS → Prop, (∀ (x5 : Int32) (s6 : yS), ((((sI s6 139 2) ≤ x5 → ∀ s7 : yS, s7 = wI s6 139 9 (sI s6 139 2) → 
     W_X12_readPolicy s7 
     (fun s8 => ∀ P89 : yS → Prop, (∀ (s9 : yS), (∀ s10 : yS, s10 = wI s9 139 6 (sI s9 139 15) → 
      ∀ s11 : yS, s11 = wI s10 139 7 (sI s10 139 16) → 
      (((sI s11 139 6) ≤ 0 → vp_in 1 3 ∧ ∀ s13 : yS, s13 = wI s11 177 (ix 1) (vp_nar .boolean 0) → 
       ∀ s14 : yS, s14 = wI s13 139 89 0 → 
       W_X12_resetWatch s14 
       (fun s15 => Q 0 s15))
      ∧ (¬ (sI s11 139 6) ≤ 0 → ∀ s16 : yS, s16 = wI s11 139 9 x4 → 
       ∀ P119 : Int32 → yS → Prop, (∀ (x17 : Int32) (s18 : yS), ((((sI s18 139 9) ≤ x17 → W_X12_readPolicy s18 
         (fun s19 => W_X12_makeTables s19 
         (fun s20 => Q (sI s20 139 6) s20)))
        ∧ (¬ (sI s18 139 9) ≤ x17 → vp_in x17 8192 ∧ 
         vp_in x17 8192 ∧ ∀ s23 : yS, s23 = wI s18 143 (ix x17) (sI s18 142 (ix x17)) → 
         ∀ x24 : Int32, x24 = (x17 + 1) → 
         P119 x24 s23))) → P119 x17 s18) → 
       P119 0 s16))) → P89 s9) → 
     ((¬ (sI s8 139 15) = 0 → P89 s8)
     ∧ ((sI s8 139 15) = 0 → W_X12_makeTables s8 
      (fun s25 => P89 s25)))))
    ∧ (¬ (sI s6 139 2) ≤ x5 → vp_in x5 8192 ∧ 
     vp_in x5 8192 ∧ ∀ s28 : yS, s28 = wI s6 143 (ix x5) (sI s6 140 (ix x5)) → 
     ∀ x29 : Int32, x29 = (x5 + 1) → 
     P40 x29 s28))) → P40 x5 s6) → 
   P40 0 s3)
  ∧ (¬ (sI s3 139 9) ≤ x2 → vp_in x2 8192 ∧ 
   vp_in x2 8192 ∧ ∀ s32 : yS, s32 = wI s3 142 (ix x2) (sI s3 143 (ix x2)) → 
   ∀ x33 : Int32, x33 = (x2 + 1) → 
   P7 x33 s32))) → P7 x2 s3) → 
 P7 0 s1
set_option maxRecDepth 100000 in
set_option maxHeartbeats 40000000 in
theorem w_X12_loadPolicy {G : xG} (hG : yG G) {z : Nat} {s : yS} {Q : Int32 → yS → Prop} (H : W_X12_loadPolicy s Q) : xC G mX12_loadPolicy [.ref (q_b G + 139)] (hS G s) z 0 0 (yQi G z Q) := by
  have hW := hG.1
  have hcl := hG.2.1
  have hty := hG.2.2.1
  have hO : xO G mX12_loadPolicy tbX12_loadPolicy ptX12_loadPolicy := ⟨tkX12_loadPolicy, pkX12_loadPolicy hcl⟩
  unfold W_X12_loadPolicy at H
  refine xC.of hW (by decide) rfl (Nat.le_of_ble_eq_true rfl) ?_
  refine s_aload_n (nx := 1) hO rfl rfl rfl ?_
  refine s_iconst (x := 0) (nx := 2) hO rfl (by decide) rfl ?_
  refine goV (wI s 139 0 0) (fun s1 es1 => ?_)
  replace H := H s1 es1
  refine s_putf (nx := 5) hO rfl rfl (hs_o12 kc139) (Nat.le_of_ble_eq_true rfl) (by rw [hty]; rfl) (by rw [hty]; rfl) pX12_0 rfl ?_
  refine xEx.at (up_oI12 kc139 es1) ?_
  refine s_iconst (x := 0) (nx := 6) hO rfl (by decide) rfl ?_
  refine goK (H (fun (x2 : Int32) (s3 : yS) => xEx G mX12_loadPolicy 7 [(0, .ref (q_b G + 139)), (1, .int x2)] [] (hS G s3) z 0 0 (yQi G z Q)) (fun x2 s3 H => ?_)) (fun H => ?_)
  · show xEx G mX12_loadPolicy 7 [(0, .ref (q_b G + 139)), (1, .int x2)] [] (hS G s3) z 0 0 (yQi G z Q)
    refine s_iload_n (nx := 8) hO rfl rfl rfl ?_
    refine s_aload_n (nx := 9) hO rfl rfl rfl ?_
    refine s_getf (v := .int (sI s3 139 9)) (nx := 12) hO rfl rfl (hs_o12 kc139) rfl rfl ?_
    refine s_icmp_ge (nx := 15) hO rfl rfl (fun c12 => ?_) (fun c12 => ?_)
    · replace H := H.1 c12
      refine s_aload_n (nx := 34) hO rfl rfl rfl ?_
      refine s_getf (v := .int (sI s3 139 9)) (nx := 37) hO rfl rfl (hs_o12 kc139) rfl rfl ?_
      refine goV ((sI s3 139 9)) (fun x4 ex4 => ?_)
      replace H := H x4 ex4
      refine e_istore_n (nx := 38) (l' := [(1, .int x4), (0, .ref (q_b G + 139))]) ex4 hO rfl (by decide) rfl rfl ?_
      refine s_iconst (x := 0) (nx := 39) hO rfl (by decide) rfl ?_
      refine goK (H (fun (x5 : Int32) (s6 : yS) => xEx G mX12_loadPolicy 40 [(0, .ref (q_b G + 139)), (1, .int x4), (2, .int x5)] [] (hS G s6) z 0 0 (yQi G z Q)) (fun x5 s6 H => ?_)) (fun H => ?_)
      · show xEx G mX12_loadPolicy 40 [(0, .ref (q_b G + 139)), (1, .int x4), (2, .int x5)] [] (hS G s6) z 0 0 (yQi G z Q)
        refine s_iload_n (nx := 41) hO rfl rfl rfl ?_
        refine s_aload_n (nx := 42) hO rfl rfl rfl ?_
        refine s_getf (v := .int (sI s6 139 2)) (nx := 45) hO rfl rfl (hs_o12 kc139) rfl rfl ?_
        refine s_icmp_ge (nx := 48) hO rfl rfl (fun c45 => ?_) (fun c45 => ?_)
        · replace H := H.1 c45
          refine s_aload_n (nx := 67) hO rfl rfl rfl ?_
          refine s_aload_n (nx := 68) hO rfl rfl rfl ?_
          refine s_getf (v := .int (sI s6 139 2)) (nx := 71) hO rfl rfl (hs_o12 kc139) rfl rfl ?_
          refine goV (wI s6 139 9 (sI s6 139 2)) (fun s7 es7 => ?_)
          replace H := H s7 es7
          refine s_putf (nx := 74) hO rfl rfl (hs_o12 kc139) (Nat.le_of_ble_eq_true rfl) (by rw [hty]; rfl) (by rw [hty]; rfl) pX12_9 rfl ?_
          refine xEx.at (up_oI12 kc139 es7) ?_
          refine s_aload_n (nx := 75) hO rfl rfl rfl ?_
          refine s_callV [] (ci := 12) (F := TX12) (N := 116) (nx := 78) hO rfl kX12_loadPolicy_433 (by rw [hcl]; rfl) (hs_o12 kc139) (w_X12_readPolicy hG H) rfl rfl (Nat.le_of_ble_eq_true rfl) (Nat.zero_le _) (Nat.zero_le _) rfl (k_Qv (fun s8 H => ?_))
          refine s_aload_n (nx := 79) hO rfl rfl rfl ?_
          refine s_getf (v := .int (sI s8 139 15)) (nx := 82) hO rfl rfl (hs_o12 kc139) rfl rfl ?_
          refine goK (H (fun (s9 : yS) => xEx G mX12_loadPolicy 89 [(0, .ref (q_b G + 139)), (1, .int x4)] [] (hS G s9) z 0 0 (yQi G z Q)) (fun s9 H => ?_)) (fun H => ?_)
          · show xEx G mX12_loadPolicy 89 [(0, .ref (q_b G + 139)), (1, .int x4)] [] (hS G s9) z 0 0 (yQi G z Q)
            refine s_aload_n (nx := 90) hO rfl rfl rfl ?_
            refine s_aload_n (nx := 91) hO rfl rfl rfl ?_
            refine s_getf (v := .int (sI s9 139 15)) (nx := 94) hO rfl rfl (hs_o12 kc139) rfl rfl ?_
            refine goV (wI s9 139 6 (sI s9 139 15)) (fun s10 es10 => ?_)
            replace H := H s10 es10
            refine s_putf (nx := 97) hO rfl rfl (hs_o12 kc139) (Nat.le_of_ble_eq_true rfl) (by rw [hty]; rfl) (by rw [hty]; rfl) pX12_6 rfl ?_
            refine xEx.at (up_oI12 kc139 es10) ?_
            refine s_aload_n (nx := 98) hO rfl rfl rfl ?_
            refine s_aload_n (nx := 99) hO rfl rfl rfl ?_
            refine s_getf (v := .int (sI s10 139 16)) (nx := 102) hO rfl rfl (hs_o12 kc139) rfl rfl ?_
            refine goV (wI s10 139 7 (sI s10 139 16)) (fun s11 es11 => ?_)
            replace H := H s11 es11
            refine s_putf (nx := 105) hO rfl rfl (hs_o12 kc139) (Nat.le_of_ble_eq_true rfl) (by rw [hty]; rfl) (by rw [hty]; rfl) pX12_7 rfl ?_
            refine xEx.at (up_oI12 kc139 es11) ?_
            refine s_aload_n (nx := 106) hO rfl rfl rfl ?_
            refine s_getf (v := .int (sI s11 139 6)) (nx := 109) hO rfl rfl (hs_o12 kc139) rfl rfl ?_
            refine s_if_le (nx := 112) hO rfl rfl (fun c109 => ?_) (fun c109 => ?_)
            · replace H := H.1 c109
              refine s_aload_n (nx := 159) hO rfl rfl rfl ?_
              refine s_getf (v := .ref (q_b G + 177)) (nx := 162) hO rfl rfl (hs_o12 kc139) rfl rfl ?_
              refine s_iconst (x := 1) (nx := 163) hO rfl (by decide) rfl ?_
              refine s_iconst (x := 0) (nx := 164) hO rfl (by decide) rfl ?_
              obtain ⟨b12, H⟩ := H
              refine goV (wI s11 177 (ix 1) (vp_nar .boolean 0)) (fun s13 es13 => ?_)
              replace H := H s13 es13
              refine s_zast (nx := 165) hO rfl (hs_Z kc177) b12 rfl ?_
              refine xEx.at (up_Z kc177 es13) ?_
              refine s_aload_n (nx := 166) hO rfl rfl rfl ?_
              refine s_iconst (x := 0) (nx := 167) hO rfl (by decide) rfl ?_
              refine goV (wI s13 139 89 0) (fun s14 es14 => ?_)
              replace H := H s14 es14
              refine s_putf (nx := 170) hO rfl rfl (hs_o12 kc139) (Nat.le_of_ble_eq_true rfl) (by rw [hty]; rfl) (by rw [hty]; rfl) pX12_89 rfl ?_
              refine xEx.at (up_oI12 kc139 es14) ?_
              refine s_aload_n (nx := 171) hO rfl rfl rfl ?_
              refine s_callV [] (ci := 12) (F := TX12) (N := 116) (nx := 174) hO rfl kX12_loadPolicy_446 (by rw [hcl]; rfl) (hs_o12 kc139) (w_X12_resetWatch hG H) rfl rfl (Nat.le_of_ble_eq_true rfl) (Nat.zero_le _) (Nat.zero_le _) rfl (k_Qv (fun s15 H => ?_))
              refine s_iconst (x := 0) (nx := 175) hO rfl (by decide) rfl ?_
              exact s_iret hO rfl rfl rfl ⟨rfl, _, _, rfl, rfl, H⟩
            · replace H := H.2 c109
              refine s_aload_n (nx := 113) hO rfl rfl rfl ?_
              refine s_iload_n (nx := 114) hO rfl rfl rfl ?_
              refine goV (wI s11 139 9 x4) (fun s16 es16 => ?_)
              replace H := H s16 es16
              refine s_putf (nx := 117) hO rfl rfl (hs_o12 kc139) (Nat.le_of_ble_eq_true rfl) (by rw [hty]; rfl) (by rw [hty]; rfl) pX12_9 rfl ?_
              refine xEx.at (up_oI12 kc139 es16) ?_
              refine s_iconst (x := 0) (nx := 118) hO rfl (by decide) rfl ?_
              refine goK (H (fun (x17 : Int32) (s18 : yS) => xEx G mX12_loadPolicy 119 [(0, .ref (q_b G + 139)), (2, .int x17)] [] (hS G s18) z 0 0 (yQi G z Q)) (fun x17 s18 H => ?_)) (fun H => ?_)
              · show xEx G mX12_loadPolicy 119 [(0, .ref (q_b G + 139)), (2, .int x17)] [] (hS G s18) z 0 0 (yQi G z Q)
                refine s_iload_n (nx := 120) hO rfl rfl rfl ?_
                refine s_aload_n (nx := 121) hO rfl rfl rfl ?_
                refine s_getf (v := .int (sI s18 139 9)) (nx := 124) hO rfl rfl (hs_o12 kc139) rfl rfl ?_
                refine s_icmp_ge (nx := 127) hO rfl rfl (fun c124 => ?_) (fun c124 => ?_)
                · replace H := H.1 c124
                  refine s_aload_n (nx := 146) hO rfl rfl rfl ?_
                  refine s_callV [] (ci := 12) (F := TX12) (N := 116) (nx := 149) hO rfl kX12_loadPolicy_433 (by rw [hcl]; rfl) (hs_o12 kc139) (w_X12_readPolicy hG H) rfl rfl (Nat.le_of_ble_eq_true rfl) (Nat.zero_le _) (Nat.zero_le _) rfl (k_Qv (fun s19 H => ?_))
                  refine s_aload_n (nx := 150) hO rfl rfl rfl ?_
                  refine s_callV [] (ci := 12) (F := TX12) (N := 116) (nx := 153) hO rfl kX12_loadPolicy_436 (by rw [hcl]; rfl) (hs_o12 kc139) (w_X12_makeTables hG H) rfl rfl (Nat.le_of_ble_eq_true rfl) (Nat.zero_le _) (Nat.zero_le _) rfl (k_Qv (fun s20 H => ?_))
                  refine s_aload_n (nx := 154) hO rfl rfl rfl ?_
                  refine s_getf (v := .int (sI s20 139 6)) (nx := 157) hO rfl rfl (hs_o12 kc139) rfl rfl ?_
                  exact s_iret hO rfl rfl rfl ⟨rfl, _, _, rfl, rfl, H⟩
                · replace H := H.2 c124
                  refine s_aload_n (nx := 128) hO rfl rfl rfl ?_
                  refine s_getf (v := .ref (q_b G + 143)) (nx := 131) hO rfl rfl (hs_o12 kc139) rfl rfl ?_
                  refine s_iload_n (nx := 132) hO rfl rfl rfl ?_
                  refine s_aload_n (nx := 133) hO rfl rfl rfl ?_
                  refine s_getf (v := .ref (q_b G + 142)) (nx := 136) hO rfl rfl (hs_o12 kc139) rfl rfl ?_
                  refine s_iload_n (nx := 137) hO rfl rfl rfl ?_
                  obtain ⟨b21, H⟩ := H
                  refine s_iald (nx := 138) hO rfl (hs_I kc142) b21 rfl ?_
                  obtain ⟨b22, H⟩ := H
                  refine goV (wI s18 143 (ix x17) (sI s18 142 (ix x17))) (fun s23 es23 => ?_)
                  replace H := H s23 es23
                  refine s_iast (nx := 139) hO rfl (hs_I kc143) b22 rfl ?_
                  refine xEx.at (up_I kc143 es23) ?_
                  refine goV ((x17 + 1)) (fun x24 ex24 => ?_)
                  replace H := H x24 ex24
                  refine e_iinc (nx := 142) (l' := [(2, .int x24), (0, .ref (q_b G + 139))]) ex24 hO rfl (by decide) rfl rfl rfl rfl ?_
                  refine s_goto hO rfl ?_
                  exact xEx.loc (x_sub1 (List.Mem.tail _ (List.Mem.head _)) (x_sub1 (List.Mem.head _) x_sub0)) H
              refine s_istore_n (nx := 119) (l' := [(2, .int 0), (0, .ref (q_b G + 139)), (1, .int x4)]) hO rfl (by decide) rfl rfl ?_
              exact xEx.loc (x_sub1 (List.Mem.tail _ (List.Mem.head _)) (x_sub1 (List.Mem.head _) x_sub0)) H
          refine s_if_ne (nx := 85) hO rfl rfl (fun c82 => ?_) (fun c82 => ?_)
          · replace H := H.1 c82
            exact xEx.loc (x_sub1 (List.Mem.head _) (x_sub1 (List.Mem.tail _ (List.Mem.head _)) x_sub0)) H
          · replace H := H.2 c82
            refine s_aload_n (nx := 86) hO rfl rfl rfl ?_
            refine s_callV [] (ci := 12) (F := TX12) (N := 116) (nx := 89) hO rfl kX12_loadPolicy_436 (by rw [hcl]; rfl) (hs_o12 kc139) (w_X12_makeTables hG H) rfl rfl (Nat.le_of_ble_eq_true rfl) (Nat.zero_le _) (Nat.zero_le _) rfl (k_Qv (fun s25 H => ?_))
            exact xEx.loc (x_sub1 (List.Mem.head _) (x_sub1 (List.Mem.tail _ (List.Mem.head _)) x_sub0)) H
        · replace H := H.2 c45
          refine s_aload_n (nx := 49) hO rfl rfl rfl ?_
          refine s_getf (v := .ref (q_b G + 143)) (nx := 52) hO rfl rfl (hs_o12 kc139) rfl rfl ?_
          refine s_iload_n (nx := 53) hO rfl rfl rfl ?_
          refine s_aload_n (nx := 54) hO rfl rfl rfl ?_
          refine s_getf (v := .ref (q_b G + 140)) (nx := 57) hO rfl rfl (hs_o12 kc139) rfl rfl ?_
          refine s_iload_n (nx := 58) hO rfl rfl rfl ?_
          obtain ⟨b26, H⟩ := H
          refine s_iald (nx := 59) hO rfl (hs_I kc140) b26 rfl ?_
          obtain ⟨b27, H⟩ := H
          refine goV (wI s6 143 (ix x5) (sI s6 140 (ix x5))) (fun s28 es28 => ?_)
          replace H := H s28 es28
          refine s_iast (nx := 60) hO rfl (hs_I kc143) b27 rfl ?_
          refine xEx.at (up_I kc143 es28) ?_
          refine goV ((x5 + 1)) (fun x29 ex29 => ?_)
          replace H := H x29 ex29
          refine e_iinc (nx := 63) (l' := [(2, .int x29), (0, .ref (q_b G + 139)), (1, .int x4)]) ex29 hO rfl (by decide) rfl rfl rfl rfl ?_
          refine s_goto hO rfl ?_
          exact xEx.loc (x_sub1 (List.Mem.tail _ (List.Mem.head _)) (x_sub1 (List.Mem.tail _ (List.Mem.tail _ (List.Mem.head _))) (x_sub1 (List.Mem.head _) x_sub0))) H
      refine s_istore_n (nx := 40) (l' := [(2, .int 0), (1, .int x4), (0, .ref (q_b G + 139))]) hO rfl (by decide) rfl rfl ?_
      exact xEx.loc (x_sub1 (List.Mem.tail _ (List.Mem.tail _ (List.Mem.head _))) (x_sub1 (List.Mem.tail _ (List.Mem.head _)) (x_sub1 (List.Mem.head _) x_sub0))) H
    · replace H := H.2 c12
      refine s_aload_n (nx := 16) hO rfl rfl rfl ?_
      refine s_getf (v := .ref (q_b G + 142)) (nx := 19) hO rfl rfl (hs_o12 kc139) rfl rfl ?_
      refine s_iload_n (nx := 20) hO rfl rfl rfl ?_
      refine s_aload_n (nx := 21) hO rfl rfl rfl ?_
      refine s_getf (v := .ref (q_b G + 143)) (nx := 24) hO rfl rfl (hs_o12 kc139) rfl rfl ?_
      refine s_iload_n (nx := 25) hO rfl rfl rfl ?_
      obtain ⟨b30, H⟩ := H
      refine s_iald (nx := 26) hO rfl (hs_I kc143) b30 rfl ?_
      obtain ⟨b31, H⟩ := H
      refine goV (wI s3 142 (ix x2) (sI s3 143 (ix x2))) (fun s32 es32 => ?_)
      replace H := H s32 es32
      refine s_iast (nx := 27) hO rfl (hs_I kc142) b31 rfl ?_
      refine xEx.at (up_I kc142 es32) ?_
      refine goV ((x2 + 1)) (fun x33 ex33 => ?_)
      replace H := H x33 ex33
      refine e_iinc (nx := 30) (l' := [(1, .int x33), (0, .ref (q_b G + 139))]) ex33 hO rfl (by decide) rfl rfl rfl rfl ?_
      refine s_goto hO rfl ?_
      exact xEx.loc (x_sub1 (List.Mem.tail _ (List.Mem.head _)) (x_sub1 (List.Mem.head _) x_sub0)) H
  refine s_istore_n (nx := 7) (l' := [(1, .int 0), (0, .ref (q_b G + 139))]) hO rfl (by decide) rfl rfl ?_
  exact xEx.loc (x_sub1 (List.Mem.tail _ (List.Mem.head _)) (x_sub1 (List.Mem.head _) x_sub0)) H
def W_X12_giveBytes (s : yS) (v1 : Int64) (v2 : Int32) (Q : Int32 → yS → Prop) : Prop :=
 ∀ s1 : yS, s1 = wI s 139 0 0 → 
 ((v2 < 1 → Q 0 s1)
 ∧ (¬ v2 < 1 → (((nI 8) < v2 → Q 0 s1)
  ∧ (¬ (nI 8) < v2 → ((((sI s1 139 2) + v2) ≤ (nI 8192) → ∀ P35 : Int32 → yS → Prop, (∀ (x2 : Int32) (s3 : yS), (((x2 < 0 → Q 1 s3)
     ∧ (¬ x2 < 0 → vp_in (sI s3 139 2) 8192 ∧ ∀ s5 : yS, s5 = wI s3 140 (ix (sI s3 139 2)) (((v1 >>> ((((nI 8) * x2)).toInt64 &&& 63)) &&& ((255)))).toInt32 → 
      ∀ s6 : yS, s6 = wI s5 139 2 ((sI s5 139 2) + 1) → 
      ∀ x7 : Int32, x7 = (x2 + (-1)) → 
      P35 x7 s6))) → P35 x2 s3) → 
    ∀ x8 : Int32, x8 = (v2 - 1) → 
    P35 x8 s1)
   ∧ (¬ ((sI s1 139 2) + v2) ≤ (nI 8192) → Q 0 s1))))))
set_option maxRecDepth 100000 in
set_option maxHeartbeats 40000000 in
theorem w_X12_giveBytes {G : xG} (hG : yG G) {z : Nat} {s : yS} {v1 : Int64} {v2 : Int32} {Q : Int32 → yS → Prop} (H : W_X12_giveBytes s v1 v2 Q) : xC G mX12_giveBytes [.ref (q_b G + 139), .long v1, .int v2] (hS G s) z 0 0 (yQi G z Q) := by
  have hW := hG.1
  have hcl := hG.2.1
  have hty := hG.2.2.1
  have hO : xO G mX12_giveBytes tbX12_giveBytes ptX12_giveBytes := ⟨tkX12_giveBytes, pkX12_giveBytes hcl⟩
  unfold W_X12_giveBytes at H
  refine xC.of hW (by decide) rfl (Nat.le_of_ble_eq_true rfl) ?_
  refine s_aload_n (nx := 1) hO rfl rfl rfl ?_
  refine s_iconst (x := 0) (nx := 2) hO rfl (by decide) rfl ?_
  refine goV (wI s 139 0 0) (fun s1 es1 => ?_)
  replace H := H s1 es1
  refine s_putf (nx := 5) hO rfl rfl (hs_o12 kc139) (Nat.le_of_ble_eq_true rfl) (by rw [hty]; rfl) (by rw [hty]; rfl) pX12_0 rfl ?_
  refine xEx.at (up_oI12 kc139 es1) ?_
  refine s_iload_n (nx := 6) hO rfl rfl rfl ?_
  refine s_iconst (x := 1) (nx := 7) hO rfl (by decide) rfl ?_
  refine s_icmp_lt (nx := 10) hO rfl rfl (fun c7 => ?_) (fun c7 => ?_)
  · replace H := H.1 c7
    refine s_iconst (x := 0) (nx := 29) hO rfl (by decide) rfl ?_
    exact s_iret hO rfl rfl rfl ⟨rfl, _, _, rfl, rfl, H⟩
  · replace H := H.2 c7
    refine s_iload_n (nx := 11) hO rfl rfl rfl ?_
    refine s_bipush (x := (nI 8)) (nx := 13) hO rfl (by decide) rfl ?_
    refine s_icmp_gt (nx := 16) hO rfl rfl (fun c13 => ?_) (fun c13 => ?_)
    · replace H := H.1 c13
      refine s_iconst (x := 0) (nx := 29) hO rfl (by decide) rfl ?_
      exact s_iret hO rfl rfl rfl ⟨rfl, _, _, rfl, rfl, H⟩
    · replace H := H.2 c13
      refine s_aload_n (nx := 17) hO rfl rfl rfl ?_
      refine s_getf (v := .int (sI s1 139 2)) (nx := 20) hO rfl rfl (hs_o12 kc139) rfl rfl ?_
      refine s_iload_n (nx := 21) hO rfl rfl rfl ?_
      refine s_iadd (nx := 22) hO rfl rfl ?_
      refine s_sipush (x := (nI 8192)) (nx := 25) hO rfl (by decide) rfl ?_
      refine s_icmp_le (nx := 28) hO rfl rfl (fun c25 => ?_) (fun c25 => ?_)
      · replace H := H.1 c25
        refine s_iload_n (nx := 31) hO rfl rfl rfl ?_
        refine s_iconst (x := 1) (nx := 32) hO rfl (by decide) rfl ?_
        refine s_isub (nx := 33) hO rfl rfl ?_
        refine goK (H (fun (x2 : Int32) (s3 : yS) => xEx G mX12_giveBytes 35 [(0, .ref (q_b G + 139)), (1, .long v1), (4, .int x2)] [] (hS G s3) z 0 0 (yQi G z Q)) (fun x2 s3 H => ?_)) (fun H => ?_)
        · show xEx G mX12_giveBytes 35 [(0, .ref (q_b G + 139)), (1, .long v1), (4, .int x2)] [] (hS G s3) z 0 0 (yQi G z Q)
          refine s_iload (nx := 37) hO rfl rfl rfl ?_
          refine s_if_lt (nx := 40) hO rfl rfl (fun c37 => ?_) (fun c37 => ?_)
          · replace H := H.1 c37
            refine s_iconst (x := 1) (nx := 78) hO rfl (by decide) rfl ?_
            exact s_iret hO rfl rfl rfl ⟨rfl, _, _, rfl, rfl, H⟩
          · replace H := H.2 c37
            refine s_aload_n (nx := 41) hO rfl rfl rfl ?_
            refine s_getf (v := .ref (q_b G + 140)) (nx := 44) hO rfl rfl (hs_o12 kc139) rfl rfl ?_
            refine s_aload_n (nx := 45) hO rfl rfl rfl ?_
            refine s_getf (v := .int (sI s3 139 2)) (nx := 48) hO rfl rfl (hs_o12 kc139) rfl rfl ?_
            refine s_lload_n (nx := 49) hO rfl rfl rfl ?_
            refine s_bipush (x := (nI 8)) (nx := 51) hO rfl (by decide) rfl ?_
            refine s_iload (nx := 53) hO rfl rfl rfl ?_
            refine s_imul (nx := 54) hO rfl rfl ?_
            refine s_lshr (nx := 55) hO rfl rfl ?_
            refine s_ldc2_w (x := ((255))) (nx := 58) hO rfl rfl rfl ?_
            refine s_land (nx := 59) hO rfl rfl ?_
            refine s_l2i (nx := 60) hO rfl rfl ?_
            obtain ⟨b4, H⟩ := H
            refine goV (wI s3 140 (ix (sI s3 139 2)) (((v1 >>> ((((nI 8) * x2)).toInt64 &&& 63)) &&& ((255)))).toInt32) (fun s5 es5 => ?_)
            replace H := H s5 es5
            refine s_iast (nx := 61) hO rfl (hs_I kc140) b4 rfl ?_
            refine xEx.at (up_I kc140 es5) ?_
            refine s_aload_n (nx := 62) hO rfl rfl rfl ?_
            refine s_dup (nx := 63) hO rfl rfl rfl ?_
            refine s_getf (v := .int (sI s5 139 2)) (nx := 66) hO rfl rfl (hs_o12 kc139) rfl rfl ?_
            refine s_iconst (x := 1) (nx := 67) hO rfl (by decide) rfl ?_
            refine s_iadd (nx := 68) hO rfl rfl ?_
            refine goV (wI s5 139 2 ((sI s5 139 2) + 1)) (fun s6 es6 => ?_)
            replace H := H s6 es6
            refine s_putf (nx := 71) hO rfl rfl (hs_o12 kc139) (Nat.le_of_ble_eq_true rfl) (by rw [hty]; rfl) (by rw [hty]; rfl) pX12_2 rfl ?_
            refine xEx.at (up_oI12 kc139 es6) ?_
            refine goV ((x2 + (-1))) (fun x7 ex7 => ?_)
            replace H := H x7 ex7
            refine e_iinc (nx := 74) (l' := [(4, .int x7), (0, .ref (q_b G + 139)), (1, .long v1)]) ex7 hO rfl (by decide) rfl rfl rfl rfl ?_
            refine s_goto hO rfl ?_
            exact xEx.loc (x_sub1 (List.Mem.tail _ (List.Mem.head _)) (x_sub1 (List.Mem.tail _ (List.Mem.tail _ (List.Mem.head _))) (x_sub1 (List.Mem.head _) x_sub0))) H
        refine goV ((v2 - 1)) (fun x8 ex8 => ?_)
        replace H := H x8 ex8
        refine e_istore (nx := 35) (l' := [(4, .int x8), (0, .ref (q_b G + 139)), (1, .long v1), (3, .int v2)]) ex8 hO rfl (by decide) rfl rfl ?_
        exact xEx.loc (x_sub1 (List.Mem.tail _ (List.Mem.head _)) (x_sub1 (List.Mem.tail _ (List.Mem.tail _ (List.Mem.head _))) (x_sub1 (List.Mem.head _) x_sub0))) H
      · replace H := H.2 c25
        refine s_iconst (x := 0) (nx := 29) hO rfl (by decide) rfl ?_
        exact s_iret hO rfl rfl rfl ⟨rfl, _, _, rfl, rfl, H⟩

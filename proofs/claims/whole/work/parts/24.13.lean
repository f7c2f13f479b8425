def W_X12_after (s : yS) (v1 : Int64) (v2 : Int32) (Q : Int64 → Prop) : Prop :=
 ∀ P6 : Int64 → Int32 → Prop, (∀ (x1 : Int64) (x2 : Int32), ((((sI s 139 56) ≤ x2 → Q x1)
  ∧ (¬ (sI s 139 56) ≤ x2 → ∀ P44 : Int64 → Prop, (∀ (y3 : Int64), (∀ x4 : Int64, x4 = (x1 ||| y3) → 
    ∀ x5 : Int32, x5 = (x2 + 1) → 
    P6 x4 x5) → P44 y3) → 
   ((¬ (lg_cmp ((v1 >>> ((x2).toInt64 &&& 63)) &&& 1) 1) = 0 → P44 0)
   ∧ ((lg_cmp ((v1 >>> ((x2).toInt64 &&& 63)) &&& 1) 1) = 0 → vp_in (((nI 64) * v2) + x2) 1024 ∧ 
    P44 (sJ s 201 (ix (((nI 64) * v2) + x2)))))))) → P6 x1 x2) → 
 P6 0 0
set_option maxRecDepth 100000 in
set_option maxHeartbeats 40000000 in
theorem w_X12_after {G : xG} (hG : yG G) {z : Nat} {s : yS} {v1 : Int64} {v2 : Int32} {Q : Int64 → Prop} (H : W_X12_after s v1 v2 Q) : xC G mX12_after [.ref (q_b G + 139), .long v1, .int v2] (hS G s) z 0 0 (yPl G z s Q) := by
  have hW := hG.1
  have hcl := hG.2.1
  have hty := hG.2.2.1
  have hO : xO G mX12_after tbX12_after ptX12_after := ⟨tkX12_after, pkX12_after hcl⟩
  unfold W_X12_after at H
  refine xC.of hW (by decide) rfl (Nat.le_of_ble_eq_true rfl) ?_
  refine s_lconst (x := 0) (nx := 1) hO rfl (by decide) rfl ?_
  refine s_lstore (nx := 3) (l' := [(4, .long 0), (0, .ref (q_b G + 139)), (1, .long v1), (3, .int v2)]) hO rfl (by decide) rfl rfl ?_
  refine s_iconst (x := 0) (nx := 4) hO rfl (by decide) rfl ?_
  refine goK (H (fun (x1 : Int64) (x2 : Int32) => xEx G mX12_after 6 [(0, .ref (q_b G + 139)), (1, .long v1), (3, .int v2), (4, .long x1), (6, .int x2)] [] (hS G s) z 0 0 (yPl G z s Q)) (fun x1 x2 H => ?_)) (fun H => ?_)
  · show xEx G mX12_after 6 [(0, .ref (q_b G + 139)), (1, .long v1), (3, .int v2), (4, .long x1), (6, .int x2)] [] (hS G s) z 0 0 (yPl G z s Q)
    refine s_iload (nx := 8) hO rfl rfl rfl ?_
    refine s_aload_n (nx := 9) hO rfl rfl rfl ?_
    refine s_getf (v := .int (sI s 139 56)) (nx := 12) hO rfl rfl (hs_o12 kc139) rfl rfl ?_
    refine s_icmp_ge (nx := 15) hO rfl rfl (fun c12 => ?_) (fun c12 => ?_)
    · replace H := H.1 c12
      refine s_lload (nx := 55) hO rfl rfl rfl ?_
      exact s_lret hO rfl rfl ⟨rfl, _, rfl, rfl, H⟩
    · replace H := H.2 c12
      refine s_lload (nx := 17) hO rfl rfl rfl ?_
      refine s_lload_n (nx := 18) hO rfl rfl rfl ?_
      refine s_iload (nx := 20) hO rfl rfl rfl ?_
      refine s_lshr (nx := 21) hO rfl rfl ?_
      refine s_lconst (x := 1) (nx := 22) hO rfl (by decide) rfl ?_
      refine s_land (nx := 23) hO rfl rfl ?_
      refine s_lconst (x := 1) (nx := 24) hO rfl (by decide) rfl ?_
      refine s_lcmp (nx := 25) hO rfl rfl ?_
      refine goK (H (fun (y3 : Int64) => xEx G mX12_after 44 [(0, .ref (q_b G + 139)), (1, .long v1), (3, .int v2), (6, .int x2)] [.long y3, .long x1] (hS G s) z 0 0 (yPl G z s Q)) (fun y3 H => ?_)) (fun H => ?_)
      · show xEx G mX12_after 44 [(0, .ref (q_b G + 139)), (1, .long v1), (3, .int v2), (6, .int x2)] [.long y3, .long x1] (hS G s) z 0 0 (yPl G z s Q)
        refine s_lor (nx := 45) hO rfl rfl ?_
        refine goV ((x1 ||| y3)) (fun x4 ex4 => ?_)
        replace H := H x4 ex4
        refine e_lstore (nx := 47) (l' := [(4, .long x4), (0, .ref (q_b G + 139)), (1, .long v1), (3, .int v2), (6, .int x2)]) ex4 hO rfl (by decide) rfl rfl ?_
        refine goV ((x2 + 1)) (fun x5 ex5 => ?_)
        replace H := H x5 ex5
        refine e_iinc (nx := 50) (l' := [(6, .int x5), (4, .long x4), (0, .ref (q_b G + 139)), (1, .long v1), (3, .int v2)]) ex5 hO rfl (by decide) rfl rfl rfl rfl ?_
        refine s_goto hO rfl ?_
        exact xEx.loc (x_sub1 (List.Mem.tail _ (List.Mem.tail _ (List.Mem.head _))) (x_sub1 (List.Mem.tail _ (List.Mem.tail _ (List.Mem.tail _ (List.Mem.head _)))) (x_sub1 (List.Mem.tail _ (List.Mem.tail _ (List.Mem.tail _ (List.Mem.tail _ (List.Mem.head _))))) (x_sub1 (List.Mem.tail _ (List.Mem.head _)) (x_sub1 (List.Mem.head _) x_sub0))))) H
      refine s_if_ne (nx := 28) hO rfl rfl (fun c25 => ?_) (fun c25 => ?_)
      · replace H := H.1 c25
        refine s_lconst (x := 0) (nx := 44) hO rfl (by decide) rfl ?_
        exact xEx.loc (x_sub1 (List.Mem.head _) (x_sub1 (List.Mem.tail _ (List.Mem.head _)) (x_sub1 (List.Mem.tail _ (List.Mem.tail _ (List.Mem.head _))) (x_sub1 (List.Mem.tail _ (List.Mem.tail _ (List.Mem.tail _ (List.Mem.tail _ (List.Mem.head _))))) x_sub0)))) H
      · replace H := H.2 c25
        refine s_aload_n (nx := 29) hO rfl rfl rfl ?_
        refine s_getf (v := .ref (q_b G + 201)) (nx := 32) hO rfl rfl (hs_o12 kc139) rfl rfl ?_
        refine s_bipush (x := (nI 64)) (nx := 34) hO rfl (by decide) rfl ?_
        refine s_iload_n (nx := 35) hO rfl rfl rfl ?_
        refine s_imul (nx := 36) hO rfl rfl ?_
        refine s_iload (nx := 38) hO rfl rfl rfl ?_
        refine s_iadd (nx := 39) hO rfl rfl ?_
        obtain ⟨b6, H⟩ := H
        refine s_lald (nx := 40) hO rfl (hs_J kc201) b6 rfl ?_
        refine s_goto hO rfl ?_
        exact xEx.loc (x_sub1 (List.Mem.head _) (x_sub1 (List.Mem.tail _ (List.Mem.head _)) (x_sub1 (List.Mem.tail _ (List.Mem.tail _ (List.Mem.head _))) (x_sub1 (List.Mem.tail _ (List.Mem.tail _ (List.Mem.tail _ (List.Mem.tail _ (List.Mem.head _))))) x_sub0)))) H
  refine s_istore (nx := 6) (l' := [(6, .int 0), (4, .long 0), (0, .ref (q_b G + 139)), (1, .long v1), (3, .int v2)]) hO rfl (by decide) rfl rfl ?_
  exact xEx.loc (x_sub1 (List.Mem.tail _ (List.Mem.tail _ (List.Mem.head _))) (x_sub1 (List.Mem.tail _ (List.Mem.tail _ (List.Mem.tail _ (List.Mem.head _)))) (x_sub1 (List.Mem.tail _ (List.Mem.tail _ (List.Mem.tail _ (List.Mem.tail _ (List.Mem.head _))))) (x_sub1 (List.Mem.tail _ (List.Mem.head _)) (x_sub1 (List.Mem.head _) x_sub0))))) H
def W_X12_add (s : yS) (a1 n1 : Nat) (v2 : Int32) (v3 : Int64) (Q : yS → Prop) : Prop :=
 vp_in v2 n1 ∧ 
 vp_in v2 n1 ∧ 
 (((lg_cmp ((sJ s a1 (ix v2)) ||| v3) (sJ s a1 (ix v2))) = 0 → Q s)
 ∧ (¬ (lg_cmp ((sJ s a1 (ix v2)) ||| v3) (sJ s a1 (ix v2))) = 0 → vp_in v2 n1 ∧ 
  vp_in v2 n1 ∧ ∀ s5 : yS, s5 = wJ s a1 (ix v2) ((sJ s a1 (ix v2)) ||| v3) → 
  ∀ s6 : yS, s6 = wI s5 139 82 1 → 
  Q s6))
set_option maxRecDepth 100000 in
set_option maxHeartbeats 40000000 in
theorem w_X12_add {G : xG} (hG : yG G) {z : Nat} {s : yS} {a1 n1 : Nat} {v2 : Int32} {v3 : Int64} {Q : yS → Prop} (ha1 : kd a1 = some (3, n1)) (H : W_X12_add s a1 n1 v2 v3 Q) : xC G mX12_add [.ref (q_b G + 139), .ref (q_b G + a1), .int v2, .long v3] (hS G s) z 0 0 (yQv G z Q) := by
  have hW := hG.1
  have hcl := hG.2.1
  have hty := hG.2.2.1
  have hO : xO G mX12_add tbX12_add ptX12_add := ⟨tkX12_add, pkX12_add hcl⟩
  unfold W_X12_add at H
  refine xC.of hW (by decide) rfl (Nat.le_of_ble_eq_true rfl) ?_
  refine s_aload_n (nx := 1) hO rfl rfl rfl ?_
  refine s_iload_n (nx := 2) hO rfl rfl rfl ?_
  obtain ⟨b1, H⟩ := H
  refine s_lald (nx := 3) hO rfl (hs_J ha1) b1 rfl ?_
  refine s_lload_n (nx := 4) hO rfl rfl rfl ?_
  refine s_lor (nx := 5) hO rfl rfl ?_
  refine s_aload_n (nx := 6) hO rfl rfl rfl ?_
  refine s_iload_n (nx := 7) hO rfl rfl rfl ?_
  obtain ⟨b2, H⟩ := H
  refine s_lald (nx := 8) hO rfl (hs_J ha1) b2 rfl ?_
  refine s_lcmp (nx := 9) hO rfl rfl ?_
  refine s_if_eq (nx := 12) hO rfl rfl (fun c9 => ?_) (fun c9 => ?_)
  · replace H := H.1 c9
    exact s_vret hO rfl rfl ⟨rfl, _, rfl, rfl, H⟩
  · replace H := H.2 c9
    refine s_aload_n (nx := 13) hO rfl rfl rfl ?_
    refine s_iload_n (nx := 14) hO rfl rfl rfl ?_
    refine s_dup2 (nx := 15) hO rfl rfl rfl rfl ?_
    obtain ⟨b3, H⟩ := H
    refine s_lald (nx := 16) hO rfl (hs_J ha1) b3 rfl ?_
    refine s_lload_n (nx := 17) hO rfl rfl rfl ?_
    refine s_lor (nx := 18) hO rfl rfl ?_
    obtain ⟨b4, H⟩ := H
    refine goV (wJ s a1 (ix v2) ((sJ s a1 (ix v2)) ||| v3)) (fun s5 es5 => ?_)
    replace H := H s5 es5
    refine s_last (nx := 19) hO rfl (hs_J ha1) b4 rfl ?_
    refine xEx.at (up_J ha1 es5) ?_
    refine s_aload_n (nx := 20) hO rfl rfl rfl ?_
    refine s_iconst (x := 1) (nx := 21) hO rfl (by decide) rfl ?_
    refine goV (wI s5 139 82 1) (fun s6 es6 => ?_)
    replace H := H s6 es6
    refine s_putf (nx := 24) hO rfl rfl (hs_o12 kc139) (Nat.le_of_ble_eq_true rfl) (by rw [hty]; rfl) (by rw [hty]; rfl) pX12_82 rfl ?_
    refine xEx.at (up_oI12 kc139 es6) ?_
    exact s_vret hO rfl rfl ⟨rfl, _, rfl, rfl, H⟩
def W_X12_goRound (s : yS) (v1 : Int32) (v2 : Int32) (Q : yS → Prop) : Prop :=
 ∀ x1 : Int32, x1 = (((nI 12) * v1) + v2) → 
 ∀ x2 : Int32, x2 = (((nI 4800) * v1) + ((nI 400) * v2)) → 
 vp_in x1 36 ∧ 
 W_X12_add s 196 14400 x2 (sJ s 197 (ix x1)) 
 (fun s4 => ∀ P39 : Int32 → yS → Prop, (∀ (x5 : Int32) (s6 : yS), (vp_in x1 36 ∧ 
  (((sI s6 184 (ix x1)) ≤ x5 → Q s6)
  ∧ (¬ (sI s6 184 (ix x1)) ≤ x5 → vp_in (x2 + x5) 14400 ∧ 
   ∀ x9 : Int64, x9 = (sJ s6 196 (ix (x2 + x5))) → 
   vp_in (x2 + x5) 14400 ∧ 
   ∀ x11 : Int32, x11 = (sI s6 186 (ix (x2 + x5))) → 
   vp_in (x2 + x5) 14400 ∧ 
   ∀ x13 : Int32, x13 = (sI s6 187 (ix (x2 + x5))) → 
   ∀ P230 : Int64 → yS → Prop, (∀ (x14 : Int64) (s15 : yS), (W_X12_add s15 199 36 x1 x9 
    (fun s16 => ∀ P260 : Int32 → Prop, (∀ (y17 : Int32), (∀ P282 : yS → Prop, (∀ (s18 : yS), (∀ P333 : yS → Prop, (∀ (s19 : yS), (∀ P380 : Int32 → Prop, (∀ (y20 : Int32), (∀ P393 : Int32 → yS → Prop, (∀ (x21 : Int32) (s22 : yS), (∀ P500 : Prop, ((∀ x23 : Int32, x23 = (x5 + 1) → 
          P39 x23 s22) → P500) → 
         ((y20 = 0 → P500)
         ∧ (¬ y20 = 0 → vp_in x1 36 ∧ 
          ((((((nI 72) * v1) + ((nI 6) * v2)) + (sI s22 185 (ix x1))) ≤ x21 → P500)
          ∧ (¬ ((((nI 72) * v1) + ((nI 6) * v2)) + (sI s22 185 (ix x1))) ≤ x21 → vp_in x21 216 ∧ 
           ∀ P494 : yS → Prop, (∀ (s26 : yS), (∀ x27 : Int32, x27 = (x21 + 1) → 
            P393 x27 s26) → P494 s26) → 
           ((x5 < (sI s22 188 (ix x21)) → P494 s22)
           ∧ (¬ x5 < (sI s22 188 (ix x21)) → vp_in x21 216 ∧ 
            (((sI s22 189 (ix x21)) ≤ x5 → P494 s22)
            ∧ (¬ (sI s22 189 (ix x21)) ≤ x5 → vp_in x21 216 ∧ 
             ∀ P490 : Int64 → Prop, (∀ (y30 : Int64), (W_X12_add s22 196 14400 (x2 + (sI s22 190 (ix x21))) (x9 ||| y30) 
              (fun s31 => P494 s31)) → P490 y30) → 
             ((¬ x11 = (nI 25) → P490 0)
             ∧ (x11 = (nI 25) → (((lg_cmp x9 0) = 0 → P490 0)
              ∧ (¬ (lg_cmp x9 0) = 0 → vp_in (((nI 12) * v1) + x13) 36 ∧ 
               P490 (sJ s22 199 (ix (((nI 12) * v1) + x13)))))))))))))))) → P393 x21 s22) → 
        ∀ x33 : Int32, x33 = (((nI 72) * v1) + ((nI 6) * v2)) → 
        P393 x33 s19) → P380 y20) → 
       ((x11 = (nI 9) → P380 1)
       ∧ (¬ x11 = (nI 9) → ((x11 = (nI 10) → P380 1)
        ∧ (¬ x11 = (nI 10) → ∀ P361 : Prop, ((((x11 = (nI 25) → P380 1)
          ∧ (¬ x11 = (nI 25) → ((¬ x11 = (nI 28) → P380 0)
           ∧ (x11 = (nI 28) → P380 1))))) → P361) → 
         ((x11 ≤ (nI 20) → P361)
         ∧ (¬ x11 ≤ (nI 20) → ((x11 < (nI 24) → P380 1)
          ∧ (¬ x11 < (nI 24) → P361))))))))) → P333 s19) → 
      ((x11 = (nI 18) → P333 s18)
      ∧ (¬ x11 = (nI 18) → ((x11 = (nI 27) → P333 s18)
       ∧ (¬ x11 = (nI 27) → ((x11 = (nI 28) → P333 s18)
        ∧ (¬ x11 = (nI 28) → vp_in x1 36 ∧ 
         (((sI s18 184 (ix x1)) ≤ (x5 + 1) → P333 s18)
         ∧ (¬ (sI s18 184 (ix x1)) ≤ (x5 + 1) → W_X12_add s18 196 14400 ((x2 + x5) + 1) x14 
          (fun s35 => P333 s35)))))))))) → P282 s18) → 
     ((y17 = 0 → P282 s16)
     ∧ (¬ y17 = 0 → W_X12_add s16 196 14400 (x2 + x13) x14 
      (fun s36 => P282 s36)))) → P260 y17) → 
    ((x11 ≤ (nI 17) → P260 0)
    ∧ (¬ x11 ≤ (nI 17) → (((nI 21) ≤ x11 → P260 0)
     ∧ (¬ (nI 21) ≤ x11 → P260 1)))))) → P230 x14 s15) → 
   ∀ P115 : Prop, ((W_X12_after s6 x9 x13 
    (fun r37 => P230 r37 s6)) → P115) → 
   ((x11 = (nI 29) → P115)
   ∧ (¬ x11 = (nI 29) → ∀ P128 : Prop, ((((¬ x11 = (nI 25) → ((¬ x11 = (nI 27) → P230 x9 s6)
      ∧ (x11 = (nI 27) → W_X12_add s6 198 36 x1 x9 
       (fun s38 => P230 x9 s38))))
     ∧ (x11 = (nI 25) → ∀ P158 : Int64 → Prop, (∀ (y39 : Int64), (W_X12_add s6 197 36 (((nI 12) * v1) + x13) x9 
       (fun s40 => ∀ P206 : Int64 → Prop, (∀ (y41 : Int64), (W_X12_add s40 199 36 x1 y41 
        (fun s42 => P230 y39 s42)) → P206 y41) → 
       (((lg_cmp x9 0) = 0 → P206 0)
       ∧ (¬ (lg_cmp x9 0) = 0 → vp_in (((nI 12) * v1) + x13) 36 ∧ 
        P206 (sJ s40 199 (ix (((nI 12) * v1) + x13))))))) → P158 y39) → 
      (((lg_cmp x9 0) = 0 → P158 0)
      ∧ (¬ (lg_cmp x9 0) = 0 → vp_in (((nI 12) * v1) + x13) 36 ∧ 
       P158 (sJ s6 198 (ix (((nI 12) * v1) + x13)))))))) → P128) → 
    ((¬ x11 = (nI 26) → P128)
    ∧ (x11 = (nI 26) → W_X12_isGuarded s6 v1 v2 x5 
     (fun r45 => ((¬ r45 = 0 → P128)
     ∧ (r45 = 0 → P115)))))))))) → P39 x5 s6) → 
 P39 0 s4)
set_option maxRecDepth 100000 in
set_option maxHeartbeats 40000000 in
theorem w_X12_goRound {G : xG} (hG : yG G) {z : Nat} {s : yS} {v1 : Int32} {v2 : Int32} {Q : yS → Prop} (H : W_X12_goRound s v1 v2 Q) : xC G mX12_goRound [.ref (q_b G + 139), .int v1, .int v2] (hS G s) z 0 0 (yQv G z Q) := by
  have hW := hG.1
  have hcl := hG.2.1
  have hty := hG.2.2.1
  have hO : xO G mX12_goRound tbX12_goRound ptX12_goRound := ⟨tkX12_goRound, pkX12_goRound hcl⟩
  unfold W_X12_goRound at H
  refine xC.of hW (by decide) rfl (Nat.le_of_ble_eq_true rfl) ?_
  refine s_bipush (x := (nI 12)) (nx := 2) hO rfl (by decide) rfl ?_
  refine s_iload_n (nx := 3) hO rfl rfl rfl ?_
  refine s_imul (nx := 4) hO rfl rfl ?_
  refine s_iload_n (nx := 5) hO rfl rfl rfl ?_
  refine s_iadd (nx := 6) hO rfl rfl ?_
  refine goV ((((nI 12) * v1) + v2)) (fun x1 ex1 => ?_)
  replace H := H x1 ex1
  refine e_istore_n (nx := 7) (l' := [(3, .int x1), (0, .ref (q_b G + 139)), (1, .int v1), (2, .int v2)]) ex1 hO rfl (by decide) rfl rfl ?_
  refine s_sipush (x := (nI 4800)) (nx := 10) hO rfl (by decide) rfl ?_
  refine s_iload_n (nx := 11) hO rfl rfl rfl ?_
  refine s_imul (nx := 12) hO rfl rfl ?_
  refine s_sipush (x := (nI 400)) (nx := 15) hO rfl (by decide) rfl ?_
  refine s_iload_n (nx := 16) hO rfl rfl rfl ?_
  refine s_imul (nx := 17) hO rfl rfl ?_
  refine s_iadd (nx := 18) hO rfl rfl ?_
  refine goV ((((nI 4800) * v1) + ((nI 400) * v2))) (fun x2 ex2 => ?_)
  replace H := H x2 ex2
  refine e_istore (nx := 20) (l' := [(4, .int x2), (3, .int x1), (0, .ref (q_b G + 139)), (1, .int v1), (2, .int v2)]) ex2 hO rfl (by decide) rfl rfl ?_
  refine s_aload_n (nx := 21) hO rfl rfl rfl ?_
  refine s_aload_n (nx := 22) hO rfl rfl rfl ?_
  refine s_getf (v := .ref (q_b G + 196)) (nx := 25) hO rfl rfl (hs_o12 kc139) rfl rfl ?_
  refine s_iload (nx := 27) hO rfl rfl rfl ?_
  refine s_aload_n (nx := 28) hO rfl rfl rfl ?_
  refine s_getf (v := .ref (q_b G + 197)) (nx := 31) hO rfl rfl (hs_o12 kc139) rfl rfl ?_
  refine s_iload_n (nx := 32) hO rfl rfl rfl ?_
  obtain ⟨b3, H⟩ := H
  refine s_lald (nx := 33) hO rfl (hs_J kc197) b3 rfl ?_
  refine s_callV [.ref (q_b G + 196), .int x2, .long (sJ s 197 (ix x1))] (ci := 12) (F := TX12) (N := 116) (nx := 36) hO rfl kX12_goRound_581 (by rw [hcl]; rfl) (hs_o12 kc139) (w_X12_add hG kc196 H) rfl rfl (Nat.le_of_ble_eq_true rfl) (Nat.zero_le _) (Nat.zero_le _) rfl (k_Qv (fun s4 H => ?_))
  refine s_iconst (x := 0) (nx := 37) hO rfl (by decide) rfl ?_
  refine goK (H (fun (x5 : Int32) (s6 : yS) => xEx G mX12_goRound 39 [(0, .ref (q_b G + 139)), (1, .int v1), (2, .int v2), (3, .int x1), (4, .int x2), (5, .int x5)] [] (hS G s6) z 0 0 (yQv G z Q)) (fun x5 s6 H => ?_)) (fun H => ?_)
  · show xEx G mX12_goRound 39 [(0, .ref (q_b G + 139)), (1, .int v1), (2, .int v2), (3, .int x1), (4, .int x2), (5, .int x5)] [] (hS G s6) z 0 0 (yQv G z Q)
    refine s_iload (nx := 41) hO rfl rfl rfl ?_
    refine s_aload_n (nx := 42) hO rfl rfl rfl ?_
    refine s_getf (v := .ref (q_b G + 184)) (nx := 45) hO rfl rfl (hs_o12 kc139) rfl rfl ?_
    refine s_iload_n (nx := 46) hO rfl rfl rfl ?_
    obtain ⟨b7, H⟩ := H
    refine s_iald (nx := 47) hO rfl (hs_I kc184) b7 rfl ?_
    refine s_icmp_ge (nx := 50) hO rfl rfl (fun c47 => ?_) (fun c47 => ?_)
    · replace H := H.1 c47
      exact s_vret hO rfl rfl ⟨rfl, _, rfl, rfl, H⟩
    · replace H := H.2 c47
      refine s_aload_n (nx := 51) hO rfl rfl rfl ?_
      refine s_getf (v := .ref (q_b G + 196)) (nx := 54) hO rfl rfl (hs_o12 kc139) rfl rfl ?_
      refine s_iload (nx := 56) hO rfl rfl rfl ?_
      refine s_iload (nx := 58) hO rfl rfl rfl ?_
      refine s_iadd (nx := 59) hO rfl rfl ?_
      obtain ⟨b8, H⟩ := H
      refine s_lald (nx := 60) hO rfl (hs_J kc196) b8 rfl ?_
      refine goV ((sJ s6 196 (ix (x2 + x5)))) (fun x9 ex9 => ?_)
      replace H := H x9 ex9
      refine e_lstore (nx := 62) (l' := [(6, .long x9), (0, .ref (q_b G + 139)), (1, .int v1), (2, .int v2), (3, .int x1), (4, .int x2), (5, .int x5)]) ex9 hO rfl (by decide) rfl rfl ?_
      refine s_aload_n (nx := 63) hO rfl rfl rfl ?_
      refine s_getf (v := .ref (q_b G + 186)) (nx := 66) hO rfl rfl (hs_o12 kc139) rfl rfl ?_
      refine s_iload (nx := 68) hO rfl rfl rfl ?_
      refine s_iload (nx := 70) hO rfl rfl rfl ?_
      refine s_iadd (nx := 71) hO rfl rfl ?_
      obtain ⟨b10, H⟩ := H
      refine s_iald (nx := 72) hO rfl (hs_I kc186) b10 rfl ?_
      refine goV ((sI s6 186 (ix (x2 + x5)))) (fun x11 ex11 => ?_)
      replace H := H x11 ex11
      refine e_istore (nx := 74) (l' := [(8, .int x11), (6, .long x9), (0, .ref (q_b G + 139)), (1, .int v1), (2, .int v2), (3, .int x1), (4, .int x2), (5, .int x5)]) ex11 hO rfl (by decide) rfl rfl ?_
      refine s_aload_n (nx := 75) hO rfl rfl rfl ?_
      refine s_getf (v := .ref (q_b G + 187)) (nx := 78) hO rfl rfl (hs_o12 kc139) rfl rfl ?_
      refine s_iload (nx := 80) hO rfl rfl rfl ?_
      refine s_iload (nx := 82) hO rfl rfl rfl ?_
      refine s_iadd (nx := 83) hO rfl rfl ?_
      obtain ⟨b12, H⟩ := H
      refine s_iald (nx := 84) hO rfl (hs_I kc187) b12 rfl ?_
      refine goV ((sI s6 187 (ix (x2 + x5)))) (fun x13 ex13 => ?_)
      replace H := H x13 ex13
      refine e_istore (nx := 86) (l' := [(9, .int x13), (8, .int x11), (6, .long x9), (0, .ref (q_b G + 139)), (1, .int v1), (2, .int v2), (3, .int x1), (4, .int x2), (5, .int x5)]) ex13 hO rfl (by decide) rfl rfl ?_
      refine s_lload (nx := 88) hO rfl rfl rfl ?_
      refine s_lstore (nx := 90) (l' := [(10, .long x9), (9, .int x13), (8, .int x11), (6, .long x9), (0, .ref (q_b G + 139)), (1, .int v1), (2, .int v2), (3, .int x1), (4, .int x2), (5, .int x5)]) hO rfl (by decide) rfl rfl ?_
      refine s_iload (nx := 92) hO rfl rfl rfl ?_
      refine s_bipush (x := (nI 29)) (nx := 94) hO rfl (by decide) rfl ?_
      refine goK (H (fun (x14 : Int64) (s15 : yS) => xEx G mX12_goRound 230 [(0, .ref (q_b G + 139)), (1, .int v1), (2, .int v2), (3, .int x1), (4, .int x2), (5, .int x5), (6, .long x9), (8, .int x11), (9, .int x13), (10, .long x14)] [] (hS G s15) z 0 0 (yQv G z Q)) (fun x14 s15 H => ?_)) (fun H => ?_)
      · show xEx G mX12_goRound 230 [(0, .ref (q_b G + 139)), (1, .int v1), (2, .int v2), (3, .int x1), (4, .int x2), (5, .int x5), (6, .long x9), (8, .int x11), (9, .int x13), (10, .long x14)] [] (hS G s15) z 0 0 (yQv G z Q)
        refine s_aload_n (nx := 231) hO rfl rfl rfl ?_
        refine s_aload_n (nx := 232) hO rfl rfl rfl ?_
        refine s_getf (v := .ref (q_b G + 199)) (nx := 235) hO rfl rfl (hs_o12 kc139) rfl rfl ?_
        refine s_iload_n (nx := 236) hO rfl rfl rfl ?_
        refine s_lload (nx := 238) hO rfl rfl rfl ?_
        refine s_callV [.ref (q_b G + 199), .int x1, .long x9] (ci := 12) (F := TX12) (N := 116) (nx := 241) hO rfl kX12_goRound_581 (by rw [hcl]; rfl) (hs_o12 kc139) (w_X12_add hG kc199 H) rfl rfl (Nat.le_of_ble_eq_true rfl) (Nat.zero_le _) (Nat.zero_le _) rfl (k_Qv (fun s16 H => ?_))
        refine s_iload (nx := 243) hO rfl rfl rfl ?_
        refine s_bipush (x := (nI 17)) (nx := 245) hO rfl (by decide) rfl ?_
        refine goK (H (fun (y17 : Int32) => xEx G mX12_goRound 260 [(0, .ref (q_b G + 139)), (1, .int v1), (2, .int v2), (3, .int x1), (4, .int x2), (5, .int x5), (6, .long x9), (8, .int x11), (9, .int x13), (10, .long x14)] [.int y17] (hS G s16) z 0 0 (yQv G z Q)) (fun y17 H => ?_)) (fun H => ?_)
        · show xEx G mX12_goRound 260 [(0, .ref (q_b G + 139)), (1, .int v1), (2, .int v2), (3, .int x1), (4, .int x2), (5, .int x5), (6, .long x9), (8, .int x11), (9, .int x13), (10, .long x14)] [.int y17] (hS G s16) z 0 0 (yQv G z Q)
          refine s_istore (nx := 262) (l' := [(12, .int y17), (0, .ref (q_b G + 139)), (1, .int v1), (2, .int v2), (3, .int x1), (4, .int x2), (5, .int x5), (6, .long x9), (8, .int x11), (9, .int x13), (10, .long x14)]) hO rfl (by decide) rfl rfl ?_
          refine s_iload (nx := 264) hO rfl rfl rfl ?_
          refine goK (H (fun (s18 : yS) => xEx G mX12_goRound 282 [(0, .ref (q_b G + 139)), (1, .int v1), (2, .int v2), (3, .int x1), (4, .int x2), (5, .int x5), (6, .long x9), (8, .int x11), (9, .int x13), (10, .long x14)] [] (hS G s18) z 0 0 (yQv G z Q)) (fun s18 H => ?_)) (fun H => ?_)
          · show xEx G mX12_goRound 282 [(0, .ref (q_b G + 139)), (1, .int v1), (2, .int v2), (3, .int x1), (4, .int x2), (5, .int x5), (6, .long x9), (8, .int x11), (9, .int x13), (10, .long x14)] [] (hS G s18) z 0 0 (yQv G z Q)
            refine s_iload (nx := 284) hO rfl rfl rfl ?_
            refine s_bipush (x := (nI 18)) (nx := 286) hO rfl (by decide) rfl ?_
            refine goK (H (fun (s19 : yS) => xEx G mX12_goRound 333 [(0, .ref (q_b G + 139)), (1, .int v1), (2, .int v2), (3, .int x1), (4, .int x2), (5, .int x5), (6, .long x9), (8, .int x11), (9, .int x13)] [] (hS G s19) z 0 0 (yQv G z Q)) (fun s19 H => ?_)) (fun H => ?_)
            · show xEx G mX12_goRound 333 [(0, .ref (q_b G + 139)), (1, .int v1), (2, .int v2), (3, .int x1), (4, .int x2), (5, .int x5), (6, .long x9), (8, .int x11), (9, .int x13)] [] (hS G s19) z 0 0 (yQv G z Q)
              refine s_iload (nx := 335) hO rfl rfl rfl ?_
              refine s_bipush (x := (nI 9)) (nx := 337) hO rfl (by decide) rfl ?_
              refine goK (H (fun (y20 : Int32) => xEx G mX12_goRound 380 [(0, .ref (q_b G + 139)), (1, .int v1), (2, .int v2), (3, .int x1), (4, .int x2), (5, .int x5), (6, .long x9), (8, .int x11), (9, .int x13)] [.int y20] (hS G s19) z 0 0 (yQv G z Q)) (fun y20 H => ?_)) (fun H => ?_)
              · show xEx G mX12_goRound 380 [(0, .ref (q_b G + 139)), (1, .int v1), (2, .int v2), (3, .int x1), (4, .int x2), (5, .int x5), (6, .long x9), (8, .int x11), (9, .int x13)] [.int y20] (hS G s19) z 0 0 (yQv G z Q)
                refine s_istore (nx := 382) (l' := [(13, .int y20), (0, .ref (q_b G + 139)), (1, .int v1), (2, .int v2), (3, .int x1), (4, .int x2), (5, .int x5), (6, .long x9), (8, .int x11), (9, .int x13)]) hO rfl (by decide) rfl rfl ?_
                refine s_bipush (x := (nI 72)) (nx := 384) hO rfl (by decide) rfl ?_
                refine s_iload_n (nx := 385) hO rfl rfl rfl ?_
                refine s_imul (nx := 386) hO rfl rfl ?_
                refine s_bipush (x := (nI 6)) (nx := 388) hO rfl (by decide) rfl ?_
                refine s_iload_n (nx := 389) hO rfl rfl rfl ?_
                refine s_imul (nx := 390) hO rfl rfl ?_
                refine s_iadd (nx := 391) hO rfl rfl ?_
                refine goK (H (fun (x21 : Int32) (s22 : yS) => xEx G mX12_goRound 393 [(0, .ref (q_b G + 139)), (1, .int v1), (2, .int v2), (3, .int x1), (4, .int x2), (5, .int x5), (6, .long x9), (8, .int x11), (9, .int x13), (13, .int y20), (14, .int x21)] [] (hS G s22) z 0 0 (yQv G z Q)) (fun x21 s22 H => ?_)) (fun H => ?_)
                · show xEx G mX12_goRound 393 [(0, .ref (q_b G + 139)), (1, .int v1), (2, .int v2), (3, .int x1), (4, .int x2), (5, .int x5), (6, .long x9), (8, .int x11), (9, .int x13), (13, .int y20), (14, .int x21)] [] (hS G s22) z 0 0 (yQv G z Q)
                  refine s_iload (nx := 395) hO rfl rfl rfl ?_
                  refine goK (H (xEx G mX12_goRound 500 [(0, .ref (q_b G + 139)), (1, .int v1), (2, .int v2), (3, .int x1), (4, .int x2), (5, .int x5)] [] (hS G s22) z 0 0 (yQv G z Q)) (fun H => ?_)) (fun H => ?_)
                  · show xEx G mX12_goRound 500 [(0, .ref (q_b G + 139)), (1, .int v1), (2, .int v2), (3, .int x1), (4, .int x2), (5, .int x5)] [] (hS G s22) z 0 0 (yQv G z Q)
                    refine goV ((x5 + 1)) (fun x23 ex23 => ?_)
                    replace H := H x23 ex23
                    refine e_iinc (nx := 503) (l' := [(5, .int x23), (0, .ref (q_b G + 139)), (1, .int v1), (2, .int v2), (3, .int x1), (4, .int x2)]) ex23 hO rfl (by decide) rfl rfl rfl rfl ?_
                    refine s_goto hO rfl ?_
                    exact xEx.loc (x_sub1 (List.Mem.tail _ (List.Mem.head _)) (x_sub1 (List.Mem.tail _ (List.Mem.tail _ (List.Mem.head _))) (x_sub1 (List.Mem.tail _ (List.Mem.tail _ (List.Mem.tail _ (List.Mem.head _)))) (x_sub1 (List.Mem.tail _ (List.Mem.tail _ (List.Mem.tail _ (List.Mem.tail _ (List.Mem.head _))))) (x_sub1 (List.Mem.tail _ (List.Mem.tail _ (List.Mem.tail _ (List.Mem.tail _ (List.Mem.tail _ (List.Mem.head _)))))) (x_sub1 (List.Mem.head _) x_sub0)))))) H
                  refine s_if_eq (nx := 398) hO rfl rfl (fun c395 => ?_) (fun c395 => ?_)
                  · replace H := H.1 c395
                    exact xEx.loc (x_sub1 (List.Mem.head _) (x_sub1 (List.Mem.tail _ (List.Mem.head _)) (x_sub1 (List.Mem.tail _ (List.Mem.tail _ (List.Mem.head _))) (x_sub1 (List.Mem.tail _ (List.Mem.tail _ (List.Mem.tail _ (List.Mem.head _)))) (x_sub1 (List.Mem.tail _ (List.Mem.tail _ (List.Mem.tail _ (List.Mem.tail _ (List.Mem.head _))))) (x_sub1 (List.Mem.tail _ (List.Mem.tail _ (List.Mem.tail _ (List.Mem.tail _ (List.Mem.tail _ (List.Mem.head _)))))) x_sub0)))))) H
                  · replace H := H.2 c395
                    refine s_iload (nx := 400) hO rfl rfl rfl ?_
                    refine s_bipush (x := (nI 72)) (nx := 402) hO rfl (by decide) rfl ?_
                    refine s_iload_n (nx := 403) hO rfl rfl rfl ?_
                    refine s_imul (nx := 404) hO rfl rfl ?_
                    refine s_bipush (x := (nI 6)) (nx := 406) hO rfl (by decide) rfl ?_
                    refine s_iload_n (nx := 407) hO rfl rfl rfl ?_
                    refine s_imul (nx := 408) hO rfl rfl ?_
                    refine s_iadd (nx := 409) hO rfl rfl ?_
                    refine s_aload_n (nx := 410) hO rfl rfl rfl ?_
                    refine s_getf (v := .ref (q_b G + 185)) (nx := 413) hO rfl rfl (hs_o12 kc139) rfl rfl ?_
                    refine s_iload_n (nx := 414) hO rfl rfl rfl ?_
                    obtain ⟨b24, H⟩ := H
                    refine s_iald (nx := 415) hO rfl (hs_I kc185) b24 rfl ?_
                    refine s_iadd (nx := 416) hO rfl rfl ?_
                    refine s_icmp_ge (nx := 419) hO rfl rfl (fun c416 => ?_) (fun c416 => ?_)
                    · replace H := H.1 c416
                      exact xEx.loc (x_sub1 (List.Mem.head _) (x_sub1 (List.Mem.tail _ (List.Mem.head _)) (x_sub1 (List.Mem.tail _ (List.Mem.tail _ (List.Mem.head _))) (x_sub1 (List.Mem.tail _ (List.Mem.tail _ (List.Mem.tail _ (List.Mem.head _)))) (x_sub1 (List.Mem.tail _ (List.Mem.tail _ (List.Mem.tail _ (List.Mem.tail _ (List.Mem.head _))))) (x_sub1 (List.Mem.tail _ (List.Mem.tail _ (List.Mem.tail _ (List.Mem.tail _ (List.Mem.tail _ (List.Mem.head _)))))) x_sub0)))))) H
                    · replace H := H.2 c416
                      refine s_aload_n (nx := 420) hO rfl rfl rfl ?_
                      refine s_getf (v := .ref (q_b G + 188)) (nx := 423) hO rfl rfl (hs_o12 kc139) rfl rfl ?_
                      refine s_iload (nx := 425) hO rfl rfl rfl ?_
                      obtain ⟨b25, H⟩ := H
                      refine s_iald (nx := 426) hO rfl (hs_I kc188) b25 rfl ?_
                      refine s_iload (nx := 428) hO rfl rfl rfl ?_
                      refine goK (H (fun (s26 : yS) => xEx G mX12_goRound 494 [(0, .ref (q_b G + 139)), (1, .int v1), (2, .int v2), (3, .int x1), (4, .int x2), (5, .int x5), (6, .long x9), (8, .int x11), (9, .int x13), (13, .int y20), (14, .int x21)] [] (hS G s26) z 0 0 (yQv G z Q)) (fun s26 H => ?_)) (fun H => ?_)
                      · show xEx G mX12_goRound 494 [(0, .ref (q_b G + 139)), (1, .int v1), (2, .int v2), (3, .int x1), (4, .int x2), (5, .int x5), (6, .long x9), (8, .int x11), (9, .int x13), (13, .int y20), (14, .int x21)] [] (hS G s26) z 0 0 (yQv G z Q)
                        refine goV ((x21 + 1)) (fun x27 ex27 => ?_)
                        replace H := H x27 ex27
                        refine e_iinc (nx := 497) (l' := [(14, .int x27), (0, .ref (q_b G + 139)), (1, .int v1), (2, .int v2), (3, .int x1), (4, .int x2), (5, .int x5), (6, .long x9), (8, .int x11), (9, .int x13), (13, .int y20)]) ex27 hO rfl (by decide) rfl rfl rfl rfl ?_
                        refine s_goto hO rfl ?_
                        exact xEx.loc (x_sub1 (List.Mem.tail _ (List.Mem.head _)) (x_sub1 (List.Mem.tail _ (List.Mem.tail _ (List.Mem.head _))) (x_sub1 (List.Mem.tail _ (List.Mem.tail _ (List.Mem.tail _ (List.Mem.head _)))) (x_sub1 (List.Mem.tail _ (List.Mem.tail _ (List.Mem.tail _ (List.Mem.tail _ (List.Mem.head _))))) (x_sub1 (List.Mem.tail _ (List.Mem.tail _ (List.Mem.tail _ (List.Mem.tail _ (List.Mem.tail _ (List.Mem.head _)))))) (x_sub1 (List.Mem.tail _ (List.Mem.tail _ (List.Mem.tail _ (List.Mem.tail _ (List.Mem.tail _ (List.Mem.tail _ (List.Mem.head _))))))) (x_sub1 (List.Mem.tail _ (List.Mem.tail _ (List.Mem.tail _ (List.Mem.tail _ (List.Mem.tail _ (List.Mem.tail _ (List.Mem.tail _ (List.Mem.head _)))))))) (x_sub1 (List.Mem.tail _ (List.Mem.tail _ (List.Mem.tail _ (List.Mem.tail _ (List.Mem.tail _ (List.Mem.tail _ (List.Mem.tail _ (List.Mem.tail _ (List.Mem.head _))))))))) (x_sub1 (List.Mem.tail _ (List.Mem.tail _ (List.Mem.tail _ (List.Mem.tail _ (List.Mem.tail _ (List.Mem.tail _ (List.Mem.tail _ (List.Mem.tail _ (List.Mem.tail _ (List.Mem.head _)))))))))) (x_sub1 (List.Mem.tail _ (List.Mem.tail _ (List.Mem.tail _ (List.Mem.tail _ (List.Mem.tail _ (List.Mem.tail _ (List.Mem.tail _ (List.Mem.tail _ (List.Mem.tail _ (List.Mem.tail _ (List.Mem.head _))))))))))) (x_sub1 (List.Mem.head _) x_sub0))))))))))) H
                      refine s_icmp_gt (nx := 431) hO rfl rfl (fun c428 => ?_) (fun c428 => ?_)
                      · replace H := H.1 c428
                        exact xEx.loc (x_sub1 (List.Mem.head _) (x_sub1 (List.Mem.tail _ (List.Mem.head _)) (x_sub1 (List.Mem.tail _ (List.Mem.tail _ (List.Mem.head _))) (x_sub1 (List.Mem.tail _ (List.Mem.tail _ (List.Mem.tail _ (List.Mem.head _)))) (x_sub1 (List.Mem.tail _ (List.Mem.tail _ (List.Mem.tail _ (List.Mem.tail _ (List.Mem.head _))))) (x_sub1 (List.Mem.tail _ (List.Mem.tail _ (List.Mem.tail _ (List.Mem.tail _ (List.Mem.tail _ (List.Mem.head _)))))) (x_sub1 (List.Mem.tail _ (List.Mem.tail _ (List.Mem.tail _ (List.Mem.tail _ (List.Mem.tail _ (List.Mem.tail _ (List.Mem.head _))))))) (x_sub1 (List.Mem.tail _ (List.Mem.tail _ (List.Mem.tail _ (List.Mem.tail _ (List.Mem.tail _ (List.Mem.tail _ (List.Mem.tail _ (List.Mem.head _)))))))) (x_sub1 (List.Mem.tail _ (List.Mem.tail _ (List.Mem.tail _ (List.Mem.tail _ (List.Mem.tail _ (List.Mem.tail _ (List.Mem.tail _ (List.Mem.tail _ (List.Mem.head _))))))))) (x_sub1 (List.Mem.tail _ (List.Mem.tail _ (List.Mem.tail _ (List.Mem.tail _ (List.Mem.tail _ (List.Mem.tail _ (List.Mem.tail _ (List.Mem.tail _ (List.Mem.tail _ (List.Mem.head _)))))))))) (x_sub1 (List.Mem.tail _ (List.Mem.tail _ (List.Mem.tail _ (List.Mem.tail _ (List.Mem.tail _ (List.Mem.tail _ (List.Mem.tail _ (List.Mem.tail _ (List.Mem.tail _ (List.Mem.tail _ (List.Mem.head _))))))))))) x_sub0))))))))))) H
                      · replace H := H.2 c428
                        refine s_iload (nx := 433) hO rfl rfl rfl ?_
                        refine s_aload_n (nx := 434) hO rfl rfl rfl ?_
                        refine s_getf (v := .ref (q_b G + 189)) (nx := 437) hO rfl rfl (hs_o12 kc139) rfl rfl ?_
                        refine s_iload (nx := 439) hO rfl rfl rfl ?_
                        obtain ⟨b28, H⟩ := H
                        refine s_iald (nx := 440) hO rfl (hs_I kc189) b28 rfl ?_
                        refine s_icmp_ge (nx := 443) hO rfl rfl (fun c440 => ?_) (fun c440 => ?_)
                        · replace H := H.1 c440
                          exact xEx.loc (x_sub1 (List.Mem.head _) (x_sub1 (List.Mem.tail _ (List.Mem.head _)) (x_sub1 (List.Mem.tail _ (List.Mem.tail _ (List.Mem.head _))) (x_sub1 (List.Mem.tail _ (List.Mem.tail _ (List.Mem.tail _ (List.Mem.head _)))) (x_sub1 (List.Mem.tail _ (List.Mem.tail _ (List.Mem.tail _ (List.Mem.tail _ (List.Mem.head _))))) (x_sub1 (List.Mem.tail _ (List.Mem.tail _ (List.Mem.tail _ (List.Mem.tail _ (List.Mem.tail _ (List.Mem.head _)))))) (x_sub1 (List.Mem.tail _ (List.Mem.tail _ (List.Mem.tail _ (List.Mem.tail _ (List.Mem.tail _ (List.Mem.tail _ (List.Mem.head _))))))) (x_sub1 (List.Mem.tail _ (List.Mem.tail _ (List.Mem.tail _ (List.Mem.tail _ (List.Mem.tail _ (List.Mem.tail _ (List.Mem.tail _ (List.Mem.head _)))))))) (x_sub1 (List.Mem.tail _ (List.Mem.tail _ (List.Mem.tail _ (List.Mem.tail _ (List.Mem.tail _ (List.Mem.tail _ (List.Mem.tail _ (List.Mem.tail _ (List.Mem.head _))))))))) (x_sub1 (List.Mem.tail _ (List.Mem.tail _ (List.Mem.tail _ (List.Mem.tail _ (List.Mem.tail _ (List.Mem.tail _ (List.Mem.tail _ (List.Mem.tail _ (List.Mem.tail _ (List.Mem.head _)))))))))) (x_sub1 (List.Mem.tail _ (List.Mem.tail _ (List.Mem.tail _ (List.Mem.tail _ (List.Mem.tail _ (List.Mem.tail _ (List.Mem.tail _ (List.Mem.tail _ (List.Mem.tail _ (List.Mem.tail _ (List.Mem.head _))))))))))) x_sub0))))))))))) H
                        · replace H := H.2 c440
                          refine s_aload_n (nx := 444) hO rfl rfl rfl ?_
                          refine s_aload_n (nx := 445) hO rfl rfl rfl ?_
                          refine s_getf (v := .ref (q_b G + 196)) (nx := 448) hO rfl rfl (hs_o12 kc139) rfl rfl ?_
                          refine s_iload (nx := 450) hO rfl rfl rfl ?_
                          refine s_aload_n (nx := 451) hO rfl rfl rfl ?_
                          refine s_getf (v := .ref (q_b G + 190)) (nx := 454) hO rfl rfl (hs_o12 kc139) rfl rfl ?_
                          refine s_iload (nx := 456) hO rfl rfl rfl ?_
                          obtain ⟨b29, H⟩ := H
                          refine s_iald (nx := 457) hO rfl (hs_I kc190) b29 rfl ?_
                          refine s_iadd (nx := 458) hO rfl rfl ?_
                          refine s_lload (nx := 460) hO rfl rfl rfl ?_
                          refine s_iload (nx := 462) hO rfl rfl rfl ?_
                          refine s_bipush (x := (nI 25)) (nx := 464) hO rfl (by decide) rfl ?_
                          refine goK (H (fun (y30 : Int64) => xEx G mX12_goRound 490 [(0, .ref (q_b G + 139)), (1, .int v1), (2, .int v2), (3, .int x1), (4, .int x2), (5, .int x5), (6, .long x9), (8, .int x11), (9, .int x13), (13, .int y20), (14, .int x21)] [.long y30, .long x9, .int (x2 + (sI s22 190 (ix x21))), .ref (q_b G + 196), .ref (q_b G + 139)] (hS G s22) z 0 0 (yQv G z Q)) (fun y30 H => ?_)) (fun H => ?_)
                          · show xEx G mX12_goRound 490 [(0, .ref (q_b G + 139)), (1, .int v1), (2, .int v2), (3, .int x1), (4, .int x2), (5, .int x5), (6, .long x9), (8, .int x11), (9, .int x13), (13, .int y20), (14, .int x21)] [.long y30, .long x9, .int (x2 + (sI s22 190 (ix x21))), .ref (q_b G + 196), .ref (q_b G + 139)] (hS G s22) z 0 0 (yQv G z Q)
                            refine s_lor (nx := 491) hO rfl rfl ?_
                            refine s_callV [.ref (q_b G + 196), .int (x2 + (sI s22 190 (ix x21))), .long (x9 ||| y30)] (ci := 12) (F := TX12) (N := 116) (nx := 494) hO rfl kX12_goRound_581 (by rw [hcl]; rfl) (hs_o12 kc139) (w_X12_add hG kc196 H) rfl rfl (Nat.le_of_ble_eq_true rfl) (Nat.zero_le _) (Nat.zero_le _) rfl (k_Qv (fun s31 H => ?_))
                            exact xEx.loc (x_sub1 (List.Mem.head _) (x_sub1 (List.Mem.tail _ (List.Mem.head _)) (x_sub1 (List.Mem.tail _ (List.Mem.tail _ (List.Mem.head _))) (x_sub1 (List.Mem.tail _ (List.Mem.tail _ (List.Mem.tail _ (List.Mem.head _)))) (x_sub1 (List.Mem.tail _ (List.Mem.tail _ (List.Mem.tail _ (List.Mem.tail _ (List.Mem.head _))))) (x_sub1 (List.Mem.tail _ (List.Mem.tail _ (List.Mem.tail _ (List.Mem.tail _ (List.Mem.tail _ (List.Mem.head _)))))) (x_sub1 (List.Mem.tail _ (List.Mem.tail _ (List.Mem.tail _ (List.Mem.tail _ (List.Mem.tail _ (List.Mem.tail _ (List.Mem.head _))))))) (x_sub1 (List.Mem.tail _ (List.Mem.tail _ (List.Mem.tail _ (List.Mem.tail _ (List.Mem.tail _ (List.Mem.tail _ (List.Mem.tail _ (List.Mem.head _)))))))) (x_sub1 (List.Mem.tail _ (List.Mem.tail _ (List.Mem.tail _ (List.Mem.tail _ (List.Mem.tail _ (List.Mem.tail _ (List.Mem.tail _ (List.Mem.tail _ (List.Mem.head _))))))))) (x_sub1 (List.Mem.tail _ (List.Mem.tail _ (List.Mem.tail _ (List.Mem.tail _ (List.Mem.tail _ (List.Mem.tail _ (List.Mem.tail _ (List.Mem.tail _ (List.Mem.tail _ (List.Mem.head _)))))))))) (x_sub1 (List.Mem.tail _ (List.Mem.tail _ (List.Mem.tail _ (List.Mem.tail _ (List.Mem.tail _ (List.Mem.tail _ (List.Mem.tail _ (List.Mem.tail _ (List.Mem.tail _ (List.Mem.tail _ (List.Mem.head _))))))))))) x_sub0))))))))))) H
                          refine s_icmp_ne (nx := 467) hO rfl rfl (fun c464 => ?_) (fun c464 => ?_)
                          · replace H := H.1 c464
                            refine s_lconst (x := 0) (nx := 490) hO rfl (by decide) rfl ?_
                            exact xEx.loc (x_sub1 (List.Mem.head _) (x_sub1 (List.Mem.tail _ (List.Mem.head _)) (x_sub1 (List.Mem.tail _ (List.Mem.tail _ (List.Mem.head _))) (x_sub1 (List.Mem.tail _ (List.Mem.tail _ (List.Mem.tail _ (List.Mem.head _)))) (x_sub1 (List.Mem.tail _ (List.Mem.tail _ (List.Mem.tail _ (List.Mem.tail _ (List.Mem.head _))))) (x_sub1 (List.Mem.tail _ (List.Mem.tail _ (List.Mem.tail _ (List.Mem.tail _ (List.Mem.tail _ (List.Mem.head _)))))) (x_sub1 (List.Mem.tail _ (List.Mem.tail _ (List.Mem.tail _ (List.Mem.tail _ (List.Mem.tail _ (List.Mem.tail _ (List.Mem.head _))))))) (x_sub1 (List.Mem.tail _ (List.Mem.tail _ (List.Mem.tail _ (List.Mem.tail _ (List.Mem.tail _ (List.Mem.tail _ (List.Mem.tail _ (List.Mem.head _)))))))) (x_sub1 (List.Mem.tail _ (List.Mem.tail _ (List.Mem.tail _ (List.Mem.tail _ (List.Mem.tail _ (List.Mem.tail _ (List.Mem.tail _ (List.Mem.tail _ (List.Mem.head _))))))))) (x_sub1 (List.Mem.tail _ (List.Mem.tail _ (List.Mem.tail _ (List.Mem.tail _ (List.Mem.tail _ (List.Mem.tail _ (List.Mem.tail _ (List.Mem.tail _ (List.Mem.tail _ (List.Mem.head _)))))))))) (x_sub1 (List.Mem.tail _ (List.Mem.tail _ (List.Mem.tail _ (List.Mem.tail _ (List.Mem.tail _ (List.Mem.tail _ (List.Mem.tail _ (List.Mem.tail _ (List.Mem.tail _ (List.Mem.tail _ (List.Mem.head _))))))))))) x_sub0))))))))))) H
                          · replace H := H.2 c464
                            refine s_lload (nx := 469) hO rfl rfl rfl ?_
                            refine s_lconst (x := 0) (nx := 470) hO rfl (by decide) rfl ?_
                            refine s_lcmp (nx := 471) hO rfl rfl ?_
                            refine s_if_eq (nx := 474) hO rfl rfl (fun c471 => ?_) (fun c471 => ?_)
                            · replace H := H.1 c471
                              refine s_lconst (x := 0) (nx := 490) hO rfl (by decide) rfl ?_
                              exact xEx.loc (x_sub1 (List.Mem.head _) (x_sub1 (List.Mem.tail _ (List.Mem.head _)) (x_sub1 (List.Mem.tail _ (List.Mem.tail _ (List.Mem.head _))) (x_sub1 (List.Mem.tail _ (List.Mem.tail _ (List.Mem.tail _ (List.Mem.head _)))) (x_sub1 (List.Mem.tail _ (List.Mem.tail _ (List.Mem.tail _ (List.Mem.tail _ (List.Mem.head _))))) (x_sub1 (List.Mem.tail _ (List.Mem.tail _ (List.Mem.tail _ (List.Mem.tail _ (List.Mem.tail _ (List.Mem.head _)))))) (x_sub1 (List.Mem.tail _ (List.Mem.tail _ (List.Mem.tail _ (List.Mem.tail _ (List.Mem.tail _ (List.Mem.tail _ (List.Mem.head _))))))) (x_sub1 (List.Mem.tail _ (List.Mem.tail _ (List.Mem.tail _ (List.Mem.tail _ (List.Mem.tail _ (List.Mem.tail _ (List.Mem.tail _ (List.Mem.head _)))))))) (x_sub1 (List.Mem.tail _ (List.Mem.tail _ (List.Mem.tail _ (List.Mem.tail _ (List.Mem.tail _ (List.Mem.tail _ (List.Mem.tail _ (List.Mem.tail _ (List.Mem.head _))))))))) (x_sub1 (List.Mem.tail _ (List.Mem.tail _ (List.Mem.tail _ (List.Mem.tail _ (List.Mem.tail _ (List.Mem.tail _ (List.Mem.tail _ (List.Mem.tail _ (List.Mem.tail _ (List.Mem.head _)))))))))) (x_sub1 (List.Mem.tail _ (List.Mem.tail _ (List.Mem.tail _ (List.Mem.tail _ (List.Mem.tail _ (List.Mem.tail _ (List.Mem.tail _ (List.Mem.tail _ (List.Mem.tail _ (List.Mem.tail _ (List.Mem.head _))))))))))) x_sub0))))))))))) H
                            · replace H := H.2 c471
                              refine s_aload_n (nx := 475) hO rfl rfl rfl ?_
                              refine s_getf (v := .ref (q_b G + 199)) (nx := 478) hO rfl rfl (hs_o12 kc139) rfl rfl ?_
                              refine s_bipush (x := (nI 12)) (nx := 480) hO rfl (by decide) rfl ?_
                              refine s_iload_n (nx := 481) hO rfl rfl rfl ?_
                              refine s_imul (nx := 482) hO rfl rfl ?_
                              refine s_iload (nx := 484) hO rfl rfl rfl ?_
                              refine s_iadd (nx := 485) hO rfl rfl ?_
                              obtain ⟨b32, H⟩ := H
                              refine s_lald (nx := 486) hO rfl (hs_J kc199) b32 rfl ?_
                              refine s_goto hO rfl ?_
                              exact xEx.loc (x_sub1 (List.Mem.head _) (x_sub1 (List.Mem.tail _ (List.Mem.head _)) (x_sub1 (List.Mem.tail _ (List.Mem.tail _ (List.Mem.head _))) (x_sub1 (List.Mem.tail _ (List.Mem.tail _ (List.Mem.tail _ (List.Mem.head _)))) (x_sub1 (List.Mem.tail _ (List.Mem.tail _ (List.Mem.tail _ (List.Mem.tail _ (List.Mem.head _))))) (x_sub1 (List.Mem.tail _ (List.Mem.tail _ (List.Mem.tail _ (List.Mem.tail _ (List.Mem.tail _ (List.Mem.head _)))))) (x_sub1 (List.Mem.tail _ (List.Mem.tail _ (List.Mem.tail _ (List.Mem.tail _ (List.Mem.tail _ (List.Mem.tail _ (List.Mem.head _))))))) (x_sub1 (List.Mem.tail _ (List.Mem.tail _ (List.Mem.tail _ (List.Mem.tail _ (List.Mem.tail _ (List.Mem.tail _ (List.Mem.tail _ (List.Mem.head _)))))))) (x_sub1 (List.Mem.tail _ (List.Mem.tail _ (List.Mem.tail _ (List.Mem.tail _ (List.Mem.tail _ (List.Mem.tail _ (List.Mem.tail _ (List.Mem.tail _ (List.Mem.head _))))))))) (x_sub1 (List.Mem.tail _ (List.Mem.tail _ (List.Mem.tail _ (List.Mem.tail _ (List.Mem.tail _ (List.Mem.tail _ (List.Mem.tail _ (List.Mem.tail _ (List.Mem.tail _ (List.Mem.head _)))))))))) (x_sub1 (List.Mem.tail _ (List.Mem.tail _ (List.Mem.tail _ (List.Mem.tail _ (List.Mem.tail _ (List.Mem.tail _ (List.Mem.tail _ (List.Mem.tail _ (List.Mem.tail _ (List.Mem.tail _ (List.Mem.head _))))))))))) x_sub0))))))))))) H
                refine goV ((((nI 72) * v1) + ((nI 6) * v2))) (fun x33 ex33 => ?_)
                replace H := H x33 ex33
                refine e_istore (nx := 393) (l' := [(14, .int x33), (13, .int y20), (0, .ref (q_b G + 139)), (1, .int v1), (2, .int v2), (3, .int x1), (4, .int x2), (5, .int x5), (6, .long x9), (8, .int x11), (9, .int x13)]) ex33 hO rfl (by decide) rfl rfl ?_
                exact xEx.loc (x_sub1 (List.Mem.tail _ (List.Mem.tail _ (List.Mem.head _))) (x_sub1 (List.Mem.tail _ (List.Mem.tail _ (List.Mem.tail _ (List.Mem.head _)))) (x_sub1 (List.Mem.tail _ (List.Mem.tail _ (List.Mem.tail _ (List.Mem.tail _ (List.Mem.head _))))) (x_sub1 (List.Mem.tail _ (List.Mem.tail _ (List.Mem.tail _ (List.Mem.tail _ (List.Mem.tail _ (List.Mem.head _)))))) (x_sub1 (List.Mem.tail _ (List.Mem.tail _ (List.Mem.tail _ (List.Mem.tail _ (List.Mem.tail _ (List.Mem.tail _ (List.Mem.head _))))))) (x_sub1 (List.Mem.tail _ (List.Mem.tail _ (List.Mem.tail _ (List.Mem.tail _ (List.Mem.tail _ (List.Mem.tail _ (List.Mem.tail _ (List.Mem.head _)))))))) (x_sub1 (List.Mem.tail _ (List.Mem.tail _ (List.Mem.tail _ (List.Mem.tail _ (List.Mem.tail _ (List.Mem.tail _ (List.Mem.tail _ (List.Mem.tail _ (List.Mem.head _))))))))) (x_sub1 (List.Mem.tail _ (List.Mem.tail _ (List.Mem.tail _ (List.Mem.tail _ (List.Mem.tail _ (List.Mem.tail _ (List.Mem.tail _ (List.Mem.tail _ (List.Mem.tail _ (List.Mem.head _)))))))))) (x_sub1 (List.Mem.tail _ (List.Mem.tail _ (List.Mem.tail _ (List.Mem.tail _ (List.Mem.tail _ (List.Mem.tail _ (List.Mem.tail _ (List.Mem.tail _ (List.Mem.tail _ (List.Mem.tail _ (List.Mem.head _))))))))))) (x_sub1 (List.Mem.tail _ (List.Mem.head _)) (x_sub1 (List.Mem.head _) x_sub0))))))))))) H
              refine s_icmp_eq (nx := 340) hO rfl rfl (fun c337 => ?_) (fun c337 => ?_)
              · replace H := H.1 c337
                refine s_iconst (x := 1) (nx := 376) hO rfl (by decide) rfl ?_
                refine s_goto hO rfl ?_
                exact xEx.loc (x_sub1 (List.Mem.head _) (x_sub1 (List.Mem.tail _ (List.Mem.head _)) (x_sub1 (List.Mem.tail _ (List.Mem.tail _ (List.Mem.head _))) (x_sub1 (List.Mem.tail _ (List.Mem.tail _ (List.Mem.tail _ (List.Mem.head _)))) (x_sub1 (List.Mem.tail _ (List.Mem.tail _ (List.Mem.tail _ (List.Mem.tail _ (List.Mem.head _))))) (x_sub1 (List.Mem.tail _ (List.Mem.tail _ (List.Mem.tail _ (List.Mem.tail _ (List.Mem.tail _ (List.Mem.head _)))))) (x_sub1 (List.Mem.tail _ (List.Mem.tail _ (List.Mem.tail _ (List.Mem.tail _ (List.Mem.tail _ (List.Mem.tail _ (List.Mem.head _))))))) (x_sub1 (List.Mem.tail _ (List.Mem.tail _ (List.Mem.tail _ (List.Mem.tail _ (List.Mem.tail _ (List.Mem.tail _ (List.Mem.tail _ (List.Mem.head _)))))))) (x_sub1 (List.Mem.tail _ (List.Mem.tail _ (List.Mem.tail _ (List.Mem.tail _ (List.Mem.tail _ (List.Mem.tail _ (List.Mem.tail _ (List.Mem.tail _ (List.Mem.head _))))))))) x_sub0))))))))) H
              · replace H := H.2 c337
                refine s_iload (nx := 342) hO rfl rfl rfl ?_
                refine s_bipush (x := (nI 10)) (nx := 344) hO rfl (by decide) rfl ?_
                refine s_icmp_eq (nx := 347) hO rfl rfl (fun c344 => ?_) (fun c344 => ?_)
                · replace H := H.1 c344
                  refine s_iconst (x := 1) (nx := 376) hO rfl (by decide) rfl ?_
                  refine s_goto hO rfl ?_
                  exact xEx.loc (x_sub1 (List.Mem.head _) (x_sub1 (List.Mem.tail _ (List.Mem.head _)) (x_sub1 (List.Mem.tail _ (List.Mem.tail _ (List.Mem.head _))) (x_sub1 (List.Mem.tail _ (List.Mem.tail _ (List.Mem.tail _ (List.Mem.head _)))) (x_sub1 (List.Mem.tail _ (List.Mem.tail _ (List.Mem.tail _ (List.Mem.tail _ (List.Mem.head _))))) (x_sub1 (List.Mem.tail _ (List.Mem.tail _ (List.Mem.tail _ (List.Mem.tail _ (List.Mem.tail _ (List.Mem.head _)))))) (x_sub1 (List.Mem.tail _ (List.Mem.tail _ (List.Mem.tail _ (List.Mem.tail _ (List.Mem.tail _ (List.Mem.tail _ (List.Mem.head _))))))) (x_sub1 (List.Mem.tail _ (List.Mem.tail _ (List.Mem.tail _ (List.Mem.tail _ (List.Mem.tail _ (List.Mem.tail _ (List.Mem.tail _ (List.Mem.head _)))))))) (x_sub1 (List.Mem.tail _ (List.Mem.tail _ (List.Mem.tail _ (List.Mem.tail _ (List.Mem.tail _ (List.Mem.tail _ (List.Mem.tail _ (List.Mem.tail _ (List.Mem.head _))))))))) x_sub0))))))))) H
                · replace H := H.2 c344
                  refine s_iload (nx := 349) hO rfl rfl rfl ?_
                  refine s_bipush (x := (nI 20)) (nx := 351) hO rfl (by decide) rfl ?_
                  refine goK (H (xEx G mX12_goRound 361 [(0, .ref (q_b G + 139)), (1, .int v1), (2, .int v2), (3, .int x1), (4, .int x2), (5, .int x5), (6, .long x9), (8, .int x11), (9, .int x13)] [] (hS G s19) z 0 0 (yQv G z Q)) (fun H => ?_)) (fun H => ?_)
                  · show xEx G mX12_goRound 361 [(0, .ref (q_b G + 139)), (1, .int v1), (2, .int v2), (3, .int x1), (4, .int x2), (5, .int x5), (6, .long x9), (8, .int x11), (9, .int x13)] [] (hS G s19) z 0 0 (yQv G z Q)
                    refine s_iload (nx := 363) hO rfl rfl rfl ?_
                    refine s_bipush (x := (nI 25)) (nx := 365) hO rfl (by decide) rfl ?_
                    refine s_icmp_eq (nx := 368) hO rfl rfl (fun c365 => ?_) (fun c365 => ?_)
                    · replace H := H.1 c365
                      refine s_iconst (x := 1) (nx := 376) hO rfl (by decide) rfl ?_
                      refine s_goto hO rfl ?_
                      exact xEx.loc (x_sub1 (List.Mem.head _) (x_sub1 (List.Mem.tail _ (List.Mem.head _)) (x_sub1 (List.Mem.tail _ (List.Mem.tail _ (List.Mem.head _))) (x_sub1 (List.Mem.tail _ (List.Mem.tail _ (List.Mem.tail _ (List.Mem.head _)))) (x_sub1 (List.Mem.tail _ (List.Mem.tail _ (List.Mem.tail _ (List.Mem.tail _ (List.Mem.head _))))) (x_sub1 (List.Mem.tail _ (List.Mem.tail _ (List.Mem.tail _ (List.Mem.tail _ (List.Mem.tail _ (List.Mem.head _)))))) (x_sub1 (List.Mem.tail _ (List.Mem.tail _ (List.Mem.tail _ (List.Mem.tail _ (List.Mem.tail _ (List.Mem.tail _ (List.Mem.head _))))))) (x_sub1 (List.Mem.tail _ (List.Mem.tail _ (List.Mem.tail _ (List.Mem.tail _ (List.Mem.tail _ (List.Mem.tail _ (List.Mem.tail _ (List.Mem.head _)))))))) (x_sub1 (List.Mem.tail _ (List.Mem.tail _ (List.Mem.tail _ (List.Mem.tail _ (List.Mem.tail _ (List.Mem.tail _ (List.Mem.tail _ (List.Mem.tail _ (List.Mem.head _))))))))) x_sub0))))))))) H
                    · replace H := H.2 c365
                      refine s_iload (nx := 370) hO rfl rfl rfl ?_
                      refine s_bipush (x := (nI 28)) (nx := 372) hO rfl (by decide) rfl ?_
                      refine s_icmp_ne (nx := 375) hO rfl rfl (fun c372 => ?_) (fun c372 => ?_)
                      · replace H := H.1 c372
                        refine s_iconst (x := 0) (nx := 380) hO rfl (by decide) rfl ?_
                        exact xEx.loc (x_sub1 (List.Mem.head _) (x_sub1 (List.Mem.tail _ (List.Mem.head _)) (x_sub1 (List.Mem.tail _ (List.Mem.tail _ (List.Mem.head _))) (x_sub1 (List.Mem.tail _ (List.Mem.tail _ (List.Mem.tail _ (List.Mem.head _)))) (x_sub1 (List.Mem.tail _ (List.Mem.tail _ (List.Mem.tail _ (List.Mem.tail _ (List.Mem.head _))))) (x_sub1 (List.Mem.tail _ (List.Mem.tail _ (List.Mem.tail _ (List.Mem.tail _ (List.Mem.tail _ (List.Mem.head _)))))) (x_sub1 (List.Mem.tail _ (List.Mem.tail _ (List.Mem.tail _ (List.Mem.tail _ (List.Mem.tail _ (List.Mem.tail _ (List.Mem.head _))))))) (x_sub1 (List.Mem.tail _ (List.Mem.tail _ (List.Mem.tail _ (List.Mem.tail _ (List.Mem.tail _ (List.Mem.tail _ (List.Mem.tail _ (List.Mem.head _)))))))) (x_sub1 (List.Mem.tail _ (List.Mem.tail _ (List.Mem.tail _ (List.Mem.tail _ (List.Mem.tail _ (List.Mem.tail _ (List.Mem.tail _ (List.Mem.tail _ (List.Mem.head _))))))))) x_sub0))))))))) H
                      · replace H := H.2 c372
                        refine s_iconst (x := 1) (nx := 376) hO rfl (by decide) rfl ?_
                        refine s_goto hO rfl ?_
                        exact xEx.loc (x_sub1 (List.Mem.head _) (x_sub1 (List.Mem.tail _ (List.Mem.head _)) (x_sub1 (List.Mem.tail _ (List.Mem.tail _ (List.Mem.head _))) (x_sub1 (List.Mem.tail _ (List.Mem.tail _ (List.Mem.tail _ (List.Mem.head _)))) (x_sub1 (List.Mem.tail _ (List.Mem.tail _ (List.Mem.tail _ (List.Mem.tail _ (List.Mem.head _))))) (x_sub1 (List.Mem.tail _ (List.Mem.tail _ (List.Mem.tail _ (List.Mem.tail _ (List.Mem.tail _ (List.Mem.head _)))))) (x_sub1 (List.Mem.tail _ (List.Mem.tail _ (List.Mem.tail _ (List.Mem.tail _ (List.Mem.tail _ (List.Mem.tail _ (List.Mem.head _))))))) (x_sub1 (List.Mem.tail _ (List.Mem.tail _ (List.Mem.tail _ (List.Mem.tail _ (List.Mem.tail _ (List.Mem.tail _ (List.Mem.tail _ (List.Mem.head _)))))))) (x_sub1 (List.Mem.tail _ (List.Mem.tail _ (List.Mem.tail _ (List.Mem.tail _ (List.Mem.tail _ (List.Mem.tail _ (List.Mem.tail _ (List.Mem.tail _ (List.Mem.head _))))))))) x_sub0))))))))) H
                  refine s_icmp_le (nx := 354) hO rfl rfl (fun c351 => ?_) (fun c351 => ?_)
                  · replace H := H.1 c351
                    exact xEx.loc (x_sub1 (List.Mem.head _) (x_sub1 (List.Mem.tail _ (List.Mem.head _)) (x_sub1 (List.Mem.tail _ (List.Mem.tail _ (List.Mem.head _))) (x_sub1 (List.Mem.tail _ (List.Mem.tail _ (List.Mem.tail _ (List.Mem.head _)))) (x_sub1 (List.Mem.tail _ (List.Mem.tail _ (List.Mem.tail _ (List.Mem.tail _ (List.Mem.head _))))) (x_sub1 (List.Mem.tail _ (List.Mem.tail _ (List.Mem.tail _ (List.Mem.tail _ (List.Mem.tail _ (List.Mem.head _)))))) (x_sub1 (List.Mem.tail _ (List.Mem.tail _ (List.Mem.tail _ (List.Mem.tail _ (List.Mem.tail _ (List.Mem.tail _ (List.Mem.head _))))))) (x_sub1 (List.Mem.tail _ (List.Mem.tail _ (List.Mem.tail _ (List.Mem.tail _ (List.Mem.tail _ (List.Mem.tail _ (List.Mem.tail _ (List.Mem.head _)))))))) (x_sub1 (List.Mem.tail _ (List.Mem.tail _ (List.Mem.tail _ (List.Mem.tail _ (List.Mem.tail _ (List.Mem.tail _ (List.Mem.tail _ (List.Mem.tail _ (List.Mem.head _))))))))) x_sub0))))))))) H
                  · replace H := H.2 c351
                    refine s_iload (nx := 356) hO rfl rfl rfl ?_
                    refine s_bipush (x := (nI 24)) (nx := 358) hO rfl (by decide) rfl ?_
                    refine s_icmp_lt (nx := 361) hO rfl rfl (fun c358 => ?_) (fun c358 => ?_)
                    · replace H := H.1 c358
                      refine s_iconst (x := 1) (nx := 376) hO rfl (by decide) rfl ?_
                      refine s_goto hO rfl ?_
                      exact xEx.loc (x_sub1 (List.Mem.head _) (x_sub1 (List.Mem.tail _ (List.Mem.head _)) (x_sub1 (List.Mem.tail _ (List.Mem.tail _ (List.Mem.head _))) (x_sub1 (List.Mem.tail _ (List.Mem.tail _ (List.Mem.tail _ (List.Mem.head _)))) (x_sub1 (List.Mem.tail _ (List.Mem.tail _ (List.Mem.tail _ (List.Mem.tail _ (List.Mem.head _))))) (x_sub1 (List.Mem.tail _ (List.Mem.tail _ (List.Mem.tail _ (List.Mem.tail _ (List.Mem.tail _ (List.Mem.head _)))))) (x_sub1 (List.Mem.tail _ (List.Mem.tail _ (List.Mem.tail _ (List.Mem.tail _ (List.Mem.tail _ (List.Mem.tail _ (List.Mem.head _))))))) (x_sub1 (List.Mem.tail _ (List.Mem.tail _ (List.Mem.tail _ (List.Mem.tail _ (List.Mem.tail _ (List.Mem.tail _ (List.Mem.tail _ (List.Mem.head _)))))))) (x_sub1 (List.Mem.tail _ (List.Mem.tail _ (List.Mem.tail _ (List.Mem.tail _ (List.Mem.tail _ (List.Mem.tail _ (List.Mem.tail _ (List.Mem.tail _ (List.Mem.head _))))))))) x_sub0))))))))) H
                    · replace H := H.2 c358
                      exact xEx.loc (x_sub1 (List.Mem.head _) (x_sub1 (List.Mem.tail _ (List.Mem.head _)) (x_sub1 (List.Mem.tail _ (List.Mem.tail _ (List.Mem.head _))) (x_sub1 (List.Mem.tail _ (List.Mem.tail _ (List.Mem.tail _ (List.Mem.head _)))) (x_sub1 (List.Mem.tail _ (List.Mem.tail _ (List.Mem.tail _ (List.Mem.tail _ (List.Mem.head _))))) (x_sub1 (List.Mem.tail _ (List.Mem.tail _ (List.Mem.tail _ (List.Mem.tail _ (List.Mem.tail _ (List.Mem.head _)))))) (x_sub1 (List.Mem.tail _ (List.Mem.tail _ (List.Mem.tail _ (List.Mem.tail _ (List.Mem.tail _ (List.Mem.tail _ (List.Mem.head _))))))) (x_sub1 (List.Mem.tail _ (List.Mem.tail _ (List.Mem.tail _ (List.Mem.tail _ (List.Mem.tail _ (List.Mem.tail _ (List.Mem.tail _ (List.Mem.head _)))))))) (x_sub1 (List.Mem.tail _ (List.Mem.tail _ (List.Mem.tail _ (List.Mem.tail _ (List.Mem.tail _ (List.Mem.tail _ (List.Mem.tail _ (List.Mem.tail _ (List.Mem.head _))))))))) x_sub0))))))))) H
            refine s_icmp_eq (nx := 289) hO rfl rfl (fun c286 => ?_) (fun c286 => ?_)
            · replace H := H.1 c286
              exact xEx.loc (x_sub1 (List.Mem.head _) (x_sub1 (List.Mem.tail _ (List.Mem.head _)) (x_sub1 (List.Mem.tail _ (List.Mem.tail _ (List.Mem.head _))) (x_sub1 (List.Mem.tail _ (List.Mem.tail _ (List.Mem.tail _ (List.Mem.head _)))) (x_sub1 (List.Mem.tail _ (List.Mem.tail _ (List.Mem.tail _ (List.Mem.tail _ (List.Mem.head _))))) (x_sub1 (List.Mem.tail _ (List.Mem.tail _ (List.Mem.tail _ (List.Mem.tail _ (List.Mem.tail _ (List.Mem.head _)))))) (x_sub1 (List.Mem.tail _ (List.Mem.tail _ (List.Mem.tail _ (List.Mem.tail _ (List.Mem.tail _ (List.Mem.tail _ (List.Mem.head _))))))) (x_sub1 (List.Mem.tail _ (List.Mem.tail _ (List.Mem.tail _ (List.Mem.tail _ (List.Mem.tail _ (List.Mem.tail _ (List.Mem.tail _ (List.Mem.head _)))))))) (x_sub1 (List.Mem.tail _ (List.Mem.tail _ (List.Mem.tail _ (List.Mem.tail _ (List.Mem.tail _ (List.Mem.tail _ (List.Mem.tail _ (List.Mem.tail _ (List.Mem.head _))))))))) x_sub0))))))))) H
            · replace H := H.2 c286
              refine s_iload (nx := 291) hO rfl rfl rfl ?_
              refine s_bipush (x := (nI 27)) (nx := 293) hO rfl (by decide) rfl ?_
              refine s_icmp_eq (nx := 296) hO rfl rfl (fun c293 => ?_) (fun c293 => ?_)
              · replace H := H.1 c293
                exact xEx.loc (x_sub1 (List.Mem.head _) (x_sub1 (List.Mem.tail _ (List.Mem.head _)) (x_sub1 (List.Mem.tail _ (List.Mem.tail _ (List.Mem.head _))) (x_sub1 (List.Mem.tail _ (List.Mem.tail _ (List.Mem.tail _ (List.Mem.head _)))) (x_sub1 (List.Mem.tail _ (List.Mem.tail _ (List.Mem.tail _ (List.Mem.tail _ (List.Mem.head _))))) (x_sub1 (List.Mem.tail _ (List.Mem.tail _ (List.Mem.tail _ (List.Mem.tail _ (List.Mem.tail _ (List.Mem.head _)))))) (x_sub1 (List.Mem.tail _ (List.Mem.tail _ (List.Mem.tail _ (List.Mem.tail _ (List.Mem.tail _ (List.Mem.tail _ (List.Mem.head _))))))) (x_sub1 (List.Mem.tail _ (List.Mem.tail _ (List.Mem.tail _ (List.Mem.tail _ (List.Mem.tail _ (List.Mem.tail _ (List.Mem.tail _ (List.Mem.head _)))))))) (x_sub1 (List.Mem.tail _ (List.Mem.tail _ (List.Mem.tail _ (List.Mem.tail _ (List.Mem.tail _ (List.Mem.tail _ (List.Mem.tail _ (List.Mem.tail _ (List.Mem.head _))))))))) x_sub0))))))))) H
              · replace H := H.2 c293
                refine s_iload (nx := 298) hO rfl rfl rfl ?_
                refine s_bipush (x := (nI 28)) (nx := 300) hO rfl (by decide) rfl ?_
                refine s_icmp_eq (nx := 303) hO rfl rfl (fun c300 => ?_) (fun c300 => ?_)
                · replace H := H.1 c300
                  exact xEx.loc (x_sub1 (List.Mem.head _) (x_sub1 (List.Mem.tail _ (List.Mem.head _)) (x_sub1 (List.Mem.tail _ (List.Mem.tail _ (List.Mem.head _))) (x_sub1 (List.Mem.tail _ (List.Mem.tail _ (List.Mem.tail _ (List.Mem.head _)))) (x_sub1 (List.Mem.tail _ (List.Mem.tail _ (List.Mem.tail _ (List.Mem.tail _ (List.Mem.head _))))) (x_sub1 (List.Mem.tail _ (List.Mem.tail _ (List.Mem.tail _ (List.Mem.tail _ (List.Mem.tail _ (List.Mem.head _)))))) (x_sub1 (List.Mem.tail _ (List.Mem.tail _ (List.Mem.tail _ (List.Mem.tail _ (List.Mem.tail _ (List.Mem.tail _ (List.Mem.head _))))))) (x_sub1 (List.Mem.tail _ (List.Mem.tail _ (List.Mem.tail _ (List.Mem.tail _ (List.Mem.tail _ (List.Mem.tail _ (List.Mem.tail _ (List.Mem.head _)))))))) (x_sub1 (List.Mem.tail _ (List.Mem.tail _ (List.Mem.tail _ (List.Mem.tail _ (List.Mem.tail _ (List.Mem.tail _ (List.Mem.tail _ (List.Mem.tail _ (List.Mem.head _))))))))) x_sub0))))))))) H
                · replace H := H.2 c300
                  refine s_iload (nx := 305) hO rfl rfl rfl ?_
                  refine s_iconst (x := 1) (nx := 306) hO rfl (by decide) rfl ?_
                  refine s_iadd (nx := 307) hO rfl rfl ?_
                  refine s_aload_n (nx := 308) hO rfl rfl rfl ?_
                  refine s_getf (v := .ref (q_b G + 184)) (nx := 311) hO rfl rfl (hs_o12 kc139) rfl rfl ?_
                  refine s_iload_n (nx := 312) hO rfl rfl rfl ?_
                  obtain ⟨b34, H⟩ := H
                  refine s_iald (nx := 313) hO rfl (hs_I kc184) b34 rfl ?_
                  refine s_icmp_ge (nx := 316) hO rfl rfl (fun c313 => ?_) (fun c313 => ?_)
                  · replace H := H.1 c313
                    exact xEx.loc (x_sub1 (List.Mem.head _) (x_sub1 (List.Mem.tail _ (List.Mem.head _)) (x_sub1 (List.Mem.tail _ (List.Mem.tail _ (List.Mem.head _))) (x_sub1 (List.Mem.tail _ (List.Mem.tail _ (List.Mem.tail _ (List.Mem.head _)))) (x_sub1 (List.Mem.tail _ (List.Mem.tail _ (List.Mem.tail _ (List.Mem.tail _ (List.Mem.head _))))) (x_sub1 (List.Mem.tail _ (List.Mem.tail _ (List.Mem.tail _ (List.Mem.tail _ (List.Mem.tail _ (List.Mem.head _)))))) (x_sub1 (List.Mem.tail _ (List.Mem.tail _ (List.Mem.tail _ (List.Mem.tail _ (List.Mem.tail _ (List.Mem.tail _ (List.Mem.head _))))))) (x_sub1 (List.Mem.tail _ (List.Mem.tail _ (List.Mem.tail _ (List.Mem.tail _ (List.Mem.tail _ (List.Mem.tail _ (List.Mem.tail _ (List.Mem.head _)))))))) (x_sub1 (List.Mem.tail _ (List.Mem.tail _ (List.Mem.tail _ (List.Mem.tail _ (List.Mem.tail _ (List.Mem.tail _ (List.Mem.tail _ (List.Mem.tail _ (List.Mem.head _))))))))) x_sub0))))))))) H
                  · replace H := H.2 c313
                    refine s_aload_n (nx := 317) hO rfl rfl rfl ?_
                    refine s_aload_n (nx := 318) hO rfl rfl rfl ?_
                    refine s_getf (v := .ref (q_b G + 196)) (nx := 321) hO rfl rfl (hs_o12 kc139) rfl rfl ?_
                    refine s_iload (nx := 323) hO rfl rfl rfl ?_
                    refine s_iload (nx := 325) hO rfl rfl rfl ?_
                    refine s_iadd (nx := 326) hO rfl rfl ?_
                    refine s_iconst (x := 1) (nx := 327) hO rfl (by decide) rfl ?_
                    refine s_iadd (nx := 328) hO rfl rfl ?_
                    refine s_lload (nx := 330) hO rfl rfl rfl ?_
                    refine s_callV [.ref (q_b G + 196), .int ((x2 + x5) + 1), .long x14] (ci := 12) (F := TX12) (N := 116) (nx := 333) hO rfl kX12_goRound_581 (by rw [hcl]; rfl) (hs_o12 kc139) (w_X12_add hG kc196 H) rfl rfl (Nat.le_of_ble_eq_true rfl) (Nat.zero_le _) (Nat.zero_le _) rfl (k_Qv (fun s35 H => ?_))
                    exact xEx.loc (x_sub1 (List.Mem.head _) (x_sub1 (List.Mem.tail _ (List.Mem.head _)) (x_sub1 (List.Mem.tail _ (List.Mem.tail _ (List.Mem.head _))) (x_sub1 (List.Mem.tail _ (List.Mem.tail _ (List.Mem.tail _ (List.Mem.head _)))) (x_sub1 (List.Mem.tail _ (List.Mem.tail _ (List.Mem.tail _ (List.Mem.tail _ (List.Mem.head _))))) (x_sub1 (List.Mem.tail _ (List.Mem.tail _ (List.Mem.tail _ (List.Mem.tail _ (List.Mem.tail _ (List.Mem.head _)))))) (x_sub1 (List.Mem.tail _ (List.Mem.tail _ (List.Mem.tail _ (List.Mem.tail _ (List.Mem.tail _ (List.Mem.tail _ (List.Mem.head _))))))) (x_sub1 (List.Mem.tail _ (List.Mem.tail _ (List.Mem.tail _ (List.Mem.tail _ (List.Mem.tail _ (List.Mem.tail _ (List.Mem.tail _ (List.Mem.head _)))))))) (x_sub1 (List.Mem.tail _ (List.Mem.tail _ (List.Mem.tail _ (List.Mem.tail _ (List.Mem.tail _ (List.Mem.tail _ (List.Mem.tail _ (List.Mem.tail _ (List.Mem.head _))))))))) x_sub0))))))))) H
          refine s_if_eq (nx := 267) hO rfl rfl (fun c264 => ?_) (fun c264 => ?_)
          · replace H := H.1 c264
            exact xEx.loc (x_sub1 (List.Mem.tail _ (List.Mem.head _)) (x_sub1 (List.Mem.tail _ (List.Mem.tail _ (List.Mem.head _))) (x_sub1 (List.Mem.tail _ (List.Mem.tail _ (List.Mem.tail _ (List.Mem.head _)))) (x_sub1 (List.Mem.tail _ (List.Mem.tail _ (List.Mem.tail _ (List.Mem.tail _ (List.Mem.head _))))) (x_sub1 (List.Mem.tail _ (List.Mem.tail _ (List.Mem.tail _ (List.Mem.tail _ (List.Mem.tail _ (List.Mem.head _)))))) (x_sub1 (List.Mem.tail _ (List.Mem.tail _ (List.Mem.tail _ (List.Mem.tail _ (List.Mem.tail _ (List.Mem.tail _ (List.Mem.head _))))))) (x_sub1 (List.Mem.tail _ (List.Mem.tail _ (List.Mem.tail _ (List.Mem.tail _ (List.Mem.tail _ (List.Mem.tail _ (List.Mem.tail _ (List.Mem.head _)))))))) (x_sub1 (List.Mem.tail _ (List.Mem.tail _ (List.Mem.tail _ (List.Mem.tail _ (List.Mem.tail _ (List.Mem.tail _ (List.Mem.tail _ (List.Mem.tail _ (List.Mem.head _))))))))) (x_sub1 (List.Mem.tail _ (List.Mem.tail _ (List.Mem.tail _ (List.Mem.tail _ (List.Mem.tail _ (List.Mem.tail _ (List.Mem.tail _ (List.Mem.tail _ (List.Mem.tail _ (List.Mem.head _)))))))))) (x_sub1 (List.Mem.tail _ (List.Mem.tail _ (List.Mem.tail _ (List.Mem.tail _ (List.Mem.tail _ (List.Mem.tail _ (List.Mem.tail _ (List.Mem.tail _ (List.Mem.tail _ (List.Mem.tail _ (List.Mem.head _))))))))))) x_sub0)))))))))) H
          · replace H := H.2 c264
            refine s_aload_n (nx := 268) hO rfl rfl rfl ?_
            refine s_aload_n (nx := 269) hO rfl rfl rfl ?_
            refine s_getf (v := .ref (q_b G + 196)) (nx := 272) hO rfl rfl (hs_o12 kc139) rfl rfl ?_
            refine s_iload (nx := 274) hO rfl rfl rfl ?_
            refine s_iload (nx := 276) hO rfl rfl rfl ?_
            refine s_iadd (nx := 277) hO rfl rfl ?_
            refine s_lload (nx := 279) hO rfl rfl rfl ?_
            refine s_callV [.ref (q_b G + 196), .int (x2 + x13), .long x14] (ci := 12) (F := TX12) (N := 116) (nx := 282) hO rfl kX12_goRound_581 (by rw [hcl]; rfl) (hs_o12 kc139) (w_X12_add hG kc196 H) rfl rfl (Nat.le_of_ble_eq_true rfl) (Nat.zero_le _) (Nat.zero_le _) rfl (k_Qv (fun s36 H => ?_))
            exact xEx.loc (x_sub1 (List.Mem.tail _ (List.Mem.head _)) (x_sub1 (List.Mem.tail _ (List.Mem.tail _ (List.Mem.head _))) (x_sub1 (List.Mem.tail _ (List.Mem.tail _ (List.Mem.tail _ (List.Mem.head _)))) (x_sub1 (List.Mem.tail _ (List.Mem.tail _ (List.Mem.tail _ (List.Mem.tail _ (List.Mem.head _))))) (x_sub1 (List.Mem.tail _ (List.Mem.tail _ (List.Mem.tail _ (List.Mem.tail _ (List.Mem.tail _ (List.Mem.head _)))))) (x_sub1 (List.Mem.tail _ (List.Mem.tail _ (List.Mem.tail _ (List.Mem.tail _ (List.Mem.tail _ (List.Mem.tail _ (List.Mem.head _))))))) (x_sub1 (List.Mem.tail _ (List.Mem.tail _ (List.Mem.tail _ (List.Mem.tail _ (List.Mem.tail _ (List.Mem.tail _ (List.Mem.tail _ (List.Mem.head _)))))))) (x_sub1 (List.Mem.tail _ (List.Mem.tail _ (List.Mem.tail _ (List.Mem.tail _ (List.Mem.tail _ (List.Mem.tail _ (List.Mem.tail _ (List.Mem.tail _ (List.Mem.head _))))))))) (x_sub1 (List.Mem.tail _ (List.Mem.tail _ (List.Mem.tail _ (List.Mem.tail _ (List.Mem.tail _ (List.Mem.tail _ (List.Mem.tail _ (List.Mem.tail _ (List.Mem.tail _ (List.Mem.head _)))))))))) (x_sub1 (List.Mem.tail _ (List.Mem.tail _ (List.Mem.tail _ (List.Mem.tail _ (List.Mem.tail _ (List.Mem.tail _ (List.Mem.tail _ (List.Mem.tail _ (List.Mem.tail _ (List.Mem.tail _ (List.Mem.head _))))))))))) x_sub0)))))))))) H
        refine s_icmp_le (nx := 248) hO rfl rfl (fun c245 => ?_) (fun c245 => ?_)
        · replace H := H.1 c245
          refine s_iconst (x := 0) (nx := 260) hO rfl (by decide) rfl ?_
          exact xEx.loc (x_sub1 (List.Mem.head _) (x_sub1 (List.Mem.tail _ (List.Mem.head _)) (x_sub1 (List.Mem.tail _ (List.Mem.tail _ (List.Mem.head _))) (x_sub1 (List.Mem.tail _ (List.Mem.tail _ (List.Mem.tail _ (List.Mem.head _)))) (x_sub1 (List.Mem.tail _ (List.Mem.tail _ (List.Mem.tail _ (List.Mem.tail _ (List.Mem.head _))))) (x_sub1 (List.Mem.tail _ (List.Mem.tail _ (List.Mem.tail _ (List.Mem.tail _ (List.Mem.tail _ (List.Mem.head _)))))) (x_sub1 (List.Mem.tail _ (List.Mem.tail _ (List.Mem.tail _ (List.Mem.tail _ (List.Mem.tail _ (List.Mem.tail _ (List.Mem.head _))))))) (x_sub1 (List.Mem.tail _ (List.Mem.tail _ (List.Mem.tail _ (List.Mem.tail _ (List.Mem.tail _ (List.Mem.tail _ (List.Mem.tail _ (List.Mem.head _)))))))) (x_sub1 (List.Mem.tail _ (List.Mem.tail _ (List.Mem.tail _ (List.Mem.tail _ (List.Mem.tail _ (List.Mem.tail _ (List.Mem.tail _ (List.Mem.tail _ (List.Mem.head _))))))))) (x_sub1 (List.Mem.tail _ (List.Mem.tail _ (List.Mem.tail _ (List.Mem.tail _ (List.Mem.tail _ (List.Mem.tail _ (List.Mem.tail _ (List.Mem.tail _ (List.Mem.tail _ (List.Mem.head _)))))))))) x_sub0)))))))))) H
        · replace H := H.2 c245
          refine s_iload (nx := 250) hO rfl rfl rfl ?_
          refine s_bipush (x := (nI 21)) (nx := 252) hO rfl (by decide) rfl ?_
          refine s_icmp_ge (nx := 255) hO rfl rfl (fun c252 => ?_) (fun c252 => ?_)
          · replace H := H.1 c252
            refine s_iconst (x := 0) (nx := 260) hO rfl (by decide) rfl ?_
            exact xEx.loc (x_sub1 (List.Mem.head _) (x_sub1 (List.Mem.tail _ (List.Mem.head _)) (x_sub1 (List.Mem.tail _ (List.Mem.tail _ (List.Mem.head _))) (x_sub1 (List.Mem.tail _ (List.Mem.tail _ (List.Mem.tail _ (List.Mem.head _)))) (x_sub1 (List.Mem.tail _ (List.Mem.tail _ (List.Mem.tail _ (List.Mem.tail _ (List.Mem.head _))))) (x_sub1 (List.Mem.tail _ (List.Mem.tail _ (List.Mem.tail _ (List.Mem.tail _ (List.Mem.tail _ (List.Mem.head _)))))) (x_sub1 (List.Mem.tail _ (List.Mem.tail _ (List.Mem.tail _ (List.Mem.tail _ (List.Mem.tail _ (List.Mem.tail _ (List.Mem.head _))))))) (x_sub1 (List.Mem.tail _ (List.Mem.tail _ (List.Mem.tail _ (List.Mem.tail _ (List.Mem.tail _ (List.Mem.tail _ (List.Mem.tail _ (List.Mem.head _)))))))) (x_sub1 (List.Mem.tail _ (List.Mem.tail _ (List.Mem.tail _ (List.Mem.tail _ (List.Mem.tail _ (List.Mem.tail _ (List.Mem.tail _ (List.Mem.tail _ (List.Mem.head _))))))))) (x_sub1 (List.Mem.tail _ (List.Mem.tail _ (List.Mem.tail _ (List.Mem.tail _ (List.Mem.tail _ (List.Mem.tail _ (List.Mem.tail _ (List.Mem.tail _ (List.Mem.tail _ (List.Mem.head _)))))))))) x_sub0)))))))))) H
          · replace H := H.2 c252
            refine s_iconst (x := 1) (nx := 256) hO rfl (by decide) rfl ?_
            refine s_goto hO rfl ?_
            exact xEx.loc (x_sub1 (List.Mem.head _) (x_sub1 (List.Mem.tail _ (List.Mem.head _)) (x_sub1 (List.Mem.tail _ (List.Mem.tail _ (List.Mem.head _))) (x_sub1 (List.Mem.tail _ (List.Mem.tail _ (List.Mem.tail _ (List.Mem.head _)))) (x_sub1 (List.Mem.tail _ (List.Mem.tail _ (List.Mem.tail _ (List.Mem.tail _ (List.Mem.head _))))) (x_sub1 (List.Mem.tail _ (List.Mem.tail _ (List.Mem.tail _ (List.Mem.tail _ (List.Mem.tail _ (List.Mem.head _)))))) (x_sub1 (List.Mem.tail _ (List.Mem.tail _ (List.Mem.tail _ (List.Mem.tail _ (List.Mem.tail _ (List.Mem.tail _ (List.Mem.head _))))))) (x_sub1 (List.Mem.tail _ (List.Mem.tail _ (List.Mem.tail _ (List.Mem.tail _ (List.Mem.tail _ (List.Mem.tail _ (List.Mem.tail _ (List.Mem.head _)))))))) (x_sub1 (List.Mem.tail _ (List.Mem.tail _ (List.Mem.tail _ (List.Mem.tail _ (List.Mem.tail _ (List.Mem.tail _ (List.Mem.tail _ (List.Mem.tail _ (List.Mem.head _))))))))) (x_sub1 (List.Mem.tail _ (List.Mem.tail _ (List.Mem.tail _ (List.Mem.tail _ (List.Mem.tail _ (List.Mem.tail _ (List.Mem.tail _ (List.Mem.tail _ (List.Mem.tail _ (List.Mem.head _)))))))))) x_sub0)))))))))) H
      refine goK (H (xEx G mX12_goRound 115 [(0, .ref (q_b G + 139)), (1, .int v1), (2, .int v2), (3, .int x1), (4, .int x2), (5, .int x5), (6, .long x9), (8, .int x11), (9, .int x13)] [] (hS G s6) z 0 0 (yQv G z Q)) (fun H => ?_)) (fun H => ?_)
      · show xEx G mX12_goRound 115 [(0, .ref (q_b G + 139)), (1, .int v1), (2, .int v2), (3, .int x1), (4, .int x2), (5, .int x5), (6, .long x9), (8, .int x11), (9, .int x13)] [] (hS G s6) z 0 0 (yQv G z Q)
        refine s_aload_n (nx := 116) hO rfl rfl rfl ?_
        refine s_lload (nx := 118) hO rfl rfl rfl ?_
        refine s_iload (nx := 120) hO rfl rfl rfl ?_
        refine s_callV [.long x9, .int x13] (ci := 12) (F := TX12) (N := 116) (nx := 123) hO rfl kX12_goRound_588 (by rw [hcl]; rfl) (hs_o12 kc139) (w_X12_after hG H) rfl rfl (Nat.le_of_ble_eq_true rfl) (Nat.zero_le _) (Nat.zero_le _) rfl (k_Pl (fun r37 H => ?_))
        refine s_lstore (nx := 125) (l' := [(10, .long r37), (0, .ref (q_b G + 139)), (1, .int v1), (2, .int v2), (3, .int x1), (4, .int x2), (5, .int x5), (6, .long x9), (8, .int x11), (9, .int x13)]) hO rfl (by decide) rfl rfl ?_
        refine s_goto hO rfl ?_
        exact xEx.loc (x_sub1 (List.Mem.tail _ (List.Mem.head _)) (x_sub1 (List.Mem.tail _ (List.Mem.tail _ (List.Mem.head _))) (x_sub1 (List.Mem.tail _ (List.Mem.tail _ (List.Mem.tail _ (List.Mem.head _)))) (x_sub1 (List.Mem.tail _ (List.Mem.tail _ (List.Mem.tail _ (List.Mem.tail _ (List.Mem.head _))))) (x_sub1 (List.Mem.tail _ (List.Mem.tail _ (List.Mem.tail _ (List.Mem.tail _ (List.Mem.tail _ (List.Mem.head _)))))) (x_sub1 (List.Mem.tail _ (List.Mem.tail _ (List.Mem.tail _ (List.Mem.tail _ (List.Mem.tail _ (List.Mem.tail _ (List.Mem.head _))))))) (x_sub1 (List.Mem.tail _ (List.Mem.tail _ (List.Mem.tail _ (List.Mem.tail _ (List.Mem.tail _ (List.Mem.tail _ (List.Mem.tail _ (List.Mem.head _)))))))) (x_sub1 (List.Mem.tail _ (List.Mem.tail _ (List.Mem.tail _ (List.Mem.tail _ (List.Mem.tail _ (List.Mem.tail _ (List.Mem.tail _ (List.Mem.tail _ (List.Mem.head _))))))))) (x_sub1 (List.Mem.tail _ (List.Mem.tail _ (List.Mem.tail _ (List.Mem.tail _ (List.Mem.tail _ (List.Mem.tail _ (List.Mem.tail _ (List.Mem.tail _ (List.Mem.tail _ (List.Mem.head _)))))))))) (x_sub1 (List.Mem.head _) x_sub0)))))))))) H
      refine s_icmp_eq (nx := 97) hO rfl rfl (fun c94 => ?_) (fun c94 => ?_)
      · replace H := H.1 c94
        exact xEx.loc (x_sub1 (List.Mem.tail _ (List.Mem.tail _ (List.Mem.tail _ (List.Mem.tail _ (List.Mem.head _))))) (x_sub1 (List.Mem.tail _ (List.Mem.tail _ (List.Mem.tail _ (List.Mem.tail _ (List.Mem.tail _ (List.Mem.head _)))))) (x_sub1 (List.Mem.tail _ (List.Mem.tail _ (List.Mem.tail _ (List.Mem.tail _ (List.Mem.tail _ (List.Mem.tail _ (List.Mem.head _))))))) (x_sub1 (List.Mem.tail _ (List.Mem.tail _ (List.Mem.tail _ (List.Mem.tail _ (List.Mem.tail _ (List.Mem.tail _ (List.Mem.tail _ (List.Mem.head _)))))))) (x_sub1 (List.Mem.tail _ (List.Mem.tail _ (List.Mem.tail _ (List.Mem.tail _ (List.Mem.tail _ (List.Mem.tail _ (List.Mem.tail _ (List.Mem.tail _ (List.Mem.head _))))))))) (x_sub1 (List.Mem.tail _ (List.Mem.tail _ (List.Mem.tail _ (List.Mem.tail _ (List.Mem.tail _ (List.Mem.tail _ (List.Mem.tail _ (List.Mem.tail _ (List.Mem.tail _ (List.Mem.head _)))))))))) (x_sub1 (List.Mem.tail _ (List.Mem.tail _ (List.Mem.tail _ (List.Mem.head _)))) (x_sub1 (List.Mem.tail _ (List.Mem.tail _ (List.Mem.head _))) (x_sub1 (List.Mem.tail _ (List.Mem.head _)) x_sub0))))))))) H
      · replace H := H.2 c94
        refine s_iload (nx := 99) hO rfl rfl rfl ?_
        refine s_bipush (x := (nI 26)) (nx := 101) hO rfl (by decide) rfl ?_
        refine goK (H (xEx G mX12_goRound 128 [(0, .ref (q_b G + 139)), (1, .int v1), (2, .int v2), (3, .int x1), (4, .int x2), (5, .int x5), (6, .long x9), (8, .int x11), (9, .int x13), (10, .long x9)] [] (hS G s6) z 0 0 (yQv G z Q)) (fun H => ?_)) (fun H => ?_)
        · show xEx G mX12_goRound 128 [(0, .ref (q_b G + 139)), (1, .int v1), (2, .int v2), (3, .int x1), (4, .int x2), (5, .int x5), (6, .long x9), (8, .int x11), (9, .int x13), (10, .long x9)] [] (hS G s6) z 0 0 (yQv G z Q)
          refine s_iload (nx := 130) hO rfl rfl rfl ?_
          refine s_bipush (x := (nI 25)) (nx := 132) hO rfl (by decide) rfl ?_
          refine s_icmp_ne (nx := 135) hO rfl rfl (fun c132 => ?_) (fun c132 => ?_)
          · replace H := H.1 c132
            refine s_iload (nx := 214) hO rfl rfl rfl ?_
            refine s_bipush (x := (nI 27)) (nx := 216) hO rfl (by decide) rfl ?_
            refine s_icmp_ne (nx := 219) hO rfl rfl (fun c216 => ?_) (fun c216 => ?_)
            · replace H := H.1 c216
              exact xEx.loc (x_sub1 (List.Mem.head _) (x_sub1 (List.Mem.tail _ (List.Mem.head _)) (x_sub1 (List.Mem.tail _ (List.Mem.tail _ (List.Mem.head _))) (x_sub1 (List.Mem.tail _ (List.Mem.tail _ (List.Mem.tail _ (List.Mem.head _)))) (x_sub1 (List.Mem.tail _ (List.Mem.tail _ (List.Mem.tail _ (List.Mem.tail _ (List.Mem.head _))))) (x_sub1 (List.Mem.tail _ (List.Mem.tail _ (List.Mem.tail _ (List.Mem.tail _ (List.Mem.tail _ (List.Mem.head _)))))) (x_sub1 (List.Mem.tail _ (List.Mem.tail _ (List.Mem.tail _ (List.Mem.tail _ (List.Mem.tail _ (List.Mem.tail _ (List.Mem.head _))))))) (x_sub1 (List.Mem.tail _ (List.Mem.tail _ (List.Mem.tail _ (List.Mem.tail _ (List.Mem.tail _ (List.Mem.tail _ (List.Mem.tail _ (List.Mem.head _)))))))) (x_sub1 (List.Mem.tail _ (List.Mem.tail _ (List.Mem.tail _ (List.Mem.tail _ (List.Mem.tail _ (List.Mem.tail _ (List.Mem.tail _ (List.Mem.tail _ (List.Mem.head _))))))))) (x_sub1 (List.Mem.tail _ (List.Mem.tail _ (List.Mem.tail _ (List.Mem.tail _ (List.Mem.tail _ (List.Mem.tail _ (List.Mem.tail _ (List.Mem.tail _ (List.Mem.tail _ (List.Mem.head _)))))))))) x_sub0)))))))))) H
            · replace H := H.2 c216
              refine s_aload_n (nx := 220) hO rfl rfl rfl ?_
              refine s_aload_n (nx := 221) hO rfl rfl rfl ?_
              refine s_getf (v := .ref (q_b G + 198)) (nx := 224) hO rfl rfl (hs_o12 kc139) rfl rfl ?_
              refine s_iload_n (nx := 225) hO rfl rfl rfl ?_
              refine s_lload (nx := 227) hO rfl rfl rfl ?_
              refine s_callV [.ref (q_b G + 198), .int x1, .long x9] (ci := 12) (F := TX12) (N := 116) (nx := 230) hO rfl kX12_goRound_581 (by rw [hcl]; rfl) (hs_o12 kc139) (w_X12_add hG kc198 H) rfl rfl (Nat.le_of_ble_eq_true rfl) (Nat.zero_le _) (Nat.zero_le _) rfl (k_Qv (fun s38 H => ?_))
              exact xEx.loc (x_sub1 (List.Mem.head _) (x_sub1 (List.Mem.tail _ (List.Mem.head _)) (x_sub1 (List.Mem.tail _ (List.Mem.tail _ (List.Mem.head _))) (x_sub1 (List.Mem.tail _ (List.Mem.tail _ (List.Mem.tail _ (List.Mem.head _)))) (x_sub1 (List.Mem.tail _ (List.Mem.tail _ (List.Mem.tail _ (List.Mem.tail _ (List.Mem.head _))))) (x_sub1 (List.Mem.tail _ (List.Mem.tail _ (List.Mem.tail _ (List.Mem.tail _ (List.Mem.tail _ (List.Mem.head _)))))) (x_sub1 (List.Mem.tail _ (List.Mem.tail _ (List.Mem.tail _ (List.Mem.tail _ (List.Mem.tail _ (List.Mem.tail _ (List.Mem.head _))))))) (x_sub1 (List.Mem.tail _ (List.Mem.tail _ (List.Mem.tail _ (List.Mem.tail _ (List.Mem.tail _ (List.Mem.tail _ (List.Mem.tail _ (List.Mem.head _)))))))) (x_sub1 (List.Mem.tail _ (List.Mem.tail _ (List.Mem.tail _ (List.Mem.tail _ (List.Mem.tail _ (List.Mem.tail _ (List.Mem.tail _ (List.Mem.tail _ (List.Mem.head _))))))))) (x_sub1 (List.Mem.tail _ (List.Mem.tail _ (List.Mem.tail _ (List.Mem.tail _ (List.Mem.tail _ (List.Mem.tail _ (List.Mem.tail _ (List.Mem.tail _ (List.Mem.tail _ (List.Mem.head _)))))))))) x_sub0)))))))))) H
          · replace H := H.2 c132
            refine s_lload (nx := 137) hO rfl rfl rfl ?_
            refine s_lconst (x := 0) (nx := 138) hO rfl (by decide) rfl ?_
            refine s_lcmp (nx := 139) hO rfl rfl ?_
            refine goK (H (fun (y39 : Int64) => xEx G mX12_goRound 158 [(0, .ref (q_b G + 139)), (1, .int v1), (2, .int v2), (3, .int x1), (4, .int x2), (5, .int x5), (6, .long x9), (8, .int x11), (9, .int x13)] [.long y39] (hS G s6) z 0 0 (yQv G z Q)) (fun y39 H => ?_)) (fun H => ?_)
            · show xEx G mX12_goRound 158 [(0, .ref (q_b G + 139)), (1, .int v1), (2, .int v2), (3, .int x1), (4, .int x2), (5, .int x5), (6, .long x9), (8, .int x11), (9, .int x13)] [.long y39] (hS G s6) z 0 0 (yQv G z Q)
              refine s_lstore (nx := 160) (l' := [(10, .long y39), (0, .ref (q_b G + 139)), (1, .int v1), (2, .int v2), (3, .int x1), (4, .int x2), (5, .int x5), (6, .long x9), (8, .int x11), (9, .int x13)]) hO rfl (by decide) rfl rfl ?_
              refine s_aload_n (nx := 161) hO rfl rfl rfl ?_
              refine s_aload_n (nx := 162) hO rfl rfl rfl ?_
              refine s_getf (v := .ref (q_b G + 197)) (nx := 165) hO rfl rfl (hs_o12 kc139) rfl rfl ?_
              refine s_bipush (x := (nI 12)) (nx := 167) hO rfl (by decide) rfl ?_
              refine s_iload_n (nx := 168) hO rfl rfl rfl ?_
              refine s_imul (nx := 169) hO rfl rfl ?_
              refine s_iload (nx := 171) hO rfl rfl rfl ?_
              refine s_iadd (nx := 172) hO rfl rfl ?_
              refine s_lload (nx := 174) hO rfl rfl rfl ?_
              refine s_callV [.ref (q_b G + 197), .int (((nI 12) * v1) + x13), .long x9] (ci := 12) (F := TX12) (N := 116) (nx := 177) hO rfl kX12_goRound_581 (by rw [hcl]; rfl) (hs_o12 kc139) (w_X12_add hG kc197 H) rfl rfl (Nat.le_of_ble_eq_true rfl) (Nat.zero_le _) (Nat.zero_le _) rfl (k_Qv (fun s40 H => ?_))
              refine s_aload_n (nx := 178) hO rfl rfl rfl ?_
              refine s_aload_n (nx := 179) hO rfl rfl rfl ?_
              refine s_getf (v := .ref (q_b G + 199)) (nx := 182) hO rfl rfl (hs_o12 kc139) rfl rfl ?_
              refine s_iload_n (nx := 183) hO rfl rfl rfl ?_
              refine s_lload (nx := 185) hO rfl rfl rfl ?_
              refine s_lconst (x := 0) (nx := 186) hO rfl (by decide) rfl ?_
              refine s_lcmp (nx := 187) hO rfl rfl ?_
              refine goK (H (fun (y41 : Int64) => xEx G mX12_goRound 206 [(0, .ref (q_b G + 139)), (1, .int v1), (2, .int v2), (3, .int x1), (4, .int x2), (5, .int x5), (6, .long x9), (8, .int x11), (9, .int x13), (10, .long y39)] [.long y41, .int x1, .ref (q_b G + 199), .ref (q_b G + 139)] (hS G s40) z 0 0 (yQv G z Q)) (fun y41 H => ?_)) (fun H => ?_)
              · show xEx G mX12_goRound 206 [(0, .ref (q_b G + 139)), (1, .int v1), (2, .int v2), (3, .int x1), (4, .int x2), (5, .int x5), (6, .long x9), (8, .int x11), (9, .int x13), (10, .long y39)] [.long y41, .int x1, .ref (q_b G + 199), .ref (q_b G + 139)] (hS G s40) z 0 0 (yQv G z Q)
                refine s_callV [.ref (q_b G + 199), .int x1, .long y41] (ci := 12) (F := TX12) (N := 116) (nx := 209) hO rfl kX12_goRound_581 (by rw [hcl]; rfl) (hs_o12 kc139) (w_X12_add hG kc199 H) rfl rfl (Nat.le_of_ble_eq_true rfl) (Nat.zero_le _) (Nat.zero_le _) rfl (k_Qv (fun s42 H => ?_))
                refine s_goto hO rfl ?_
                exact xEx.loc (x_sub1 (List.Mem.head _) (x_sub1 (List.Mem.tail _ (List.Mem.head _)) (x_sub1 (List.Mem.tail _ (List.Mem.tail _ (List.Mem.head _))) (x_sub1 (List.Mem.tail _ (List.Mem.tail _ (List.Mem.tail _ (List.Mem.head _)))) (x_sub1 (List.Mem.tail _ (List.Mem.tail _ (List.Mem.tail _ (List.Mem.tail _ (List.Mem.head _))))) (x_sub1 (List.Mem.tail _ (List.Mem.tail _ (List.Mem.tail _ (List.Mem.tail _ (List.Mem.tail _ (List.Mem.head _)))))) (x_sub1 (List.Mem.tail _ (List.Mem.tail _ (List.Mem.tail _ (List.Mem.tail _ (List.Mem.tail _ (List.Mem.tail _ (List.Mem.head _))))))) (x_sub1 (List.Mem.tail _ (List.Mem.tail _ (List.Mem.tail _ (List.Mem.tail _ (List.Mem.tail _ (List.Mem.tail _ (List.Mem.tail _ (List.Mem.head _)))))))) (x_sub1 (List.Mem.tail _ (List.Mem.tail _ (List.Mem.tail _ (List.Mem.tail _ (List.Mem.tail _ (List.Mem.tail _ (List.Mem.tail _ (List.Mem.tail _ (List.Mem.head _))))))))) (x_sub1 (List.Mem.tail _ (List.Mem.tail _ (List.Mem.tail _ (List.Mem.tail _ (List.Mem.tail _ (List.Mem.tail _ (List.Mem.tail _ (List.Mem.tail _ (List.Mem.tail _ (List.Mem.head _)))))))))) x_sub0)))))))))) H
              refine s_if_eq (nx := 190) hO rfl rfl (fun c187 => ?_) (fun c187 => ?_)
              · replace H := H.1 c187
                refine s_lconst (x := 0) (nx := 206) hO rfl (by decide) rfl ?_
                exact xEx.loc (x_sub1 (List.Mem.tail _ (List.Mem.head _)) (x_sub1 (List.Mem.tail _ (List.Mem.tail _ (List.Mem.head _))) (x_sub1 (List.Mem.tail _ (List.Mem.tail _ (List.Mem.tail _ (List.Mem.head _)))) (x_sub1 (List.Mem.tail _ (List.Mem.tail _ (List.Mem.tail _ (List.Mem.tail _ (List.Mem.head _))))) (x_sub1 (List.Mem.tail _ (List.Mem.tail _ (List.Mem.tail _ (List.Mem.tail _ (List.Mem.tail _ (List.Mem.head _)))))) (x_sub1 (List.Mem.tail _ (List.Mem.tail _ (List.Mem.tail _ (List.Mem.tail _ (List.Mem.tail _ (List.Mem.tail _ (List.Mem.head _))))))) (x_sub1 (List.Mem.tail _ (List.Mem.tail _ (List.Mem.tail _ (List.Mem.tail _ (List.Mem.tail _ (List.Mem.tail _ (List.Mem.tail _ (List.Mem.head _)))))))) (x_sub1 (List.Mem.tail _ (List.Mem.tail _ (List.Mem.tail _ (List.Mem.tail _ (List.Mem.tail _ (List.Mem.tail _ (List.Mem.tail _ (List.Mem.tail _ (List.Mem.head _))))))))) (x_sub1 (List.Mem.tail _ (List.Mem.tail _ (List.Mem.tail _ (List.Mem.tail _ (List.Mem.tail _ (List.Mem.tail _ (List.Mem.tail _ (List.Mem.tail _ (List.Mem.tail _ (List.Mem.head _)))))))))) (x_sub1 (List.Mem.head _) x_sub0)))))))))) H
              · replace H := H.2 c187
                refine s_aload_n (nx := 191) hO rfl rfl rfl ?_
                refine s_getf (v := .ref (q_b G + 199)) (nx := 194) hO rfl rfl (hs_o12 kc139) rfl rfl ?_
                refine s_bipush (x := (nI 12)) (nx := 196) hO rfl (by decide) rfl ?_
                refine s_iload_n (nx := 197) hO rfl rfl rfl ?_
                refine s_imul (nx := 198) hO rfl rfl ?_
                refine s_iload (nx := 200) hO rfl rfl rfl ?_
                refine s_iadd (nx := 201) hO rfl rfl ?_
                obtain ⟨b43, H⟩ := H
                refine s_lald (nx := 202) hO rfl (hs_J kc199) b43 rfl ?_
                refine s_goto hO rfl ?_
                exact xEx.loc (x_sub1 (List.Mem.tail _ (List.Mem.head _)) (x_sub1 (List.Mem.tail _ (List.Mem.tail _ (List.Mem.head _))) (x_sub1 (List.Mem.tail _ (List.Mem.tail _ (List.Mem.tail _ (List.Mem.head _)))) (x_sub1 (List.Mem.tail _ (List.Mem.tail _ (List.Mem.tail _ (List.Mem.tail _ (List.Mem.head _))))) (x_sub1 (List.Mem.tail _ (List.Mem.tail _ (List.Mem.tail _ (List.Mem.tail _ (List.Mem.tail _ (List.Mem.head _)))))) (x_sub1 (List.Mem.tail _ (List.Mem.tail _ (List.Mem.tail _ (List.Mem.tail _ (List.Mem.tail _ (List.Mem.tail _ (List.Mem.head _))))))) (x_sub1 (List.Mem.tail _ (List.Mem.tail _ (List.Mem.tail _ (List.Mem.tail _ (List.Mem.tail _ (List.Mem.tail _ (List.Mem.tail _ (List.Mem.head _)))))))) (x_sub1 (List.Mem.tail _ (List.Mem.tail _ (List.Mem.tail _ (List.Mem.tail _ (List.Mem.tail _ (List.Mem.tail _ (List.Mem.tail _ (List.Mem.tail _ (List.Mem.head _))))))))) (x_sub1 (List.Mem.tail _ (List.Mem.tail _ (List.Mem.tail _ (List.Mem.tail _ (List.Mem.tail _ (List.Mem.tail _ (List.Mem.tail _ (List.Mem.tail _ (List.Mem.tail _ (List.Mem.head _)))))))))) (x_sub1 (List.Mem.head _) x_sub0)))))))))) H
            refine s_if_eq (nx := 142) hO rfl rfl (fun c139 => ?_) (fun c139 => ?_)
            · replace H := H.1 c139
              refine s_lconst (x := 0) (nx := 158) hO rfl (by decide) rfl ?_
              exact xEx.loc (x_sub1 (List.Mem.head _) (x_sub1 (List.Mem.tail _ (List.Mem.head _)) (x_sub1 (List.Mem.tail _ (List.Mem.tail _ (List.Mem.head _))) (x_sub1 (List.Mem.tail _ (List.Mem.tail _ (List.Mem.tail _ (List.Mem.head _)))) (x_sub1 (List.Mem.tail _ (List.Mem.tail _ (List.Mem.tail _ (List.Mem.tail _ (List.Mem.head _))))) (x_sub1 (List.Mem.tail _ (List.Mem.tail _ (List.Mem.tail _ (List.Mem.tail _ (List.Mem.tail _ (List.Mem.head _)))))) (x_sub1 (List.Mem.tail _ (List.Mem.tail _ (List.Mem.tail _ (List.Mem.tail _ (List.Mem.tail _ (List.Mem.tail _ (List.Mem.head _))))))) (x_sub1 (List.Mem.tail _ (List.Mem.tail _ (List.Mem.tail _ (List.Mem.tail _ (List.Mem.tail _ (List.Mem.tail _ (List.Mem.tail _ (List.Mem.head _)))))))) (x_sub1 (List.Mem.tail _ (List.Mem.tail _ (List.Mem.tail _ (List.Mem.tail _ (List.Mem.tail _ (List.Mem.tail _ (List.Mem.tail _ (List.Mem.tail _ (List.Mem.head _))))))))) x_sub0))))))))) H
            · replace H := H.2 c139
              refine s_aload_n (nx := 143) hO rfl rfl rfl ?_
              refine s_getf (v := .ref (q_b G + 198)) (nx := 146) hO rfl rfl (hs_o12 kc139) rfl rfl ?_
              refine s_bipush (x := (nI 12)) (nx := 148) hO rfl (by decide) rfl ?_
              refine s_iload_n (nx := 149) hO rfl rfl rfl ?_
              refine s_imul (nx := 150) hO rfl rfl ?_
              refine s_iload (nx := 152) hO rfl rfl rfl ?_
              refine s_iadd (nx := 153) hO rfl rfl ?_
              obtain ⟨b44, H⟩ := H
              refine s_lald (nx := 154) hO rfl (hs_J kc198) b44 rfl ?_
              refine s_goto hO rfl ?_
              exact xEx.loc (x_sub1 (List.Mem.head _) (x_sub1 (List.Mem.tail _ (List.Mem.head _)) (x_sub1 (List.Mem.tail _ (List.Mem.tail _ (List.Mem.head _))) (x_sub1 (List.Mem.tail _ (List.Mem.tail _ (List.Mem.tail _ (List.Mem.head _)))) (x_sub1 (List.Mem.tail _ (List.Mem.tail _ (List.Mem.tail _ (List.Mem.tail _ (List.Mem.head _))))) (x_sub1 (List.Mem.tail _ (List.Mem.tail _ (List.Mem.tail _ (List.Mem.tail _ (List.Mem.tail _ (List.Mem.head _)))))) (x_sub1 (List.Mem.tail _ (List.Mem.tail _ (List.Mem.tail _ (List.Mem.tail _ (List.Mem.tail _ (List.Mem.tail _ (List.Mem.head _))))))) (x_sub1 (List.Mem.tail _ (List.Mem.tail _ (List.Mem.tail _ (List.Mem.tail _ (List.Mem.tail _ (List.Mem.tail _ (List.Mem.tail _ (List.Mem.head _)))))))) (x_sub1 (List.Mem.tail _ (List.Mem.tail _ (List.Mem.tail _ (List.Mem.tail _ (List.Mem.tail _ (List.Mem.tail _ (List.Mem.tail _ (List.Mem.tail _ (List.Mem.head _))))))))) x_sub0))))))))) H
        refine s_icmp_ne (nx := 104) hO rfl rfl (fun c101 => ?_) (fun c101 => ?_)
        · replace H := H.1 c101
          exact xEx.loc (x_sub1 (List.Mem.tail _ (List.Mem.tail _ (List.Mem.tail _ (List.Mem.tail _ (List.Mem.head _))))) (x_sub1 (List.Mem.tail _ (List.Mem.tail _ (List.Mem.tail _ (List.Mem.tail _ (List.Mem.tail _ (List.Mem.head _)))))) (x_sub1 (List.Mem.tail _ (List.Mem.tail _ (List.Mem.tail _ (List.Mem.tail _ (List.Mem.tail _ (List.Mem.tail _ (List.Mem.head _))))))) (x_sub1 (List.Mem.tail _ (List.Mem.tail _ (List.Mem.tail _ (List.Mem.tail _ (List.Mem.tail _ (List.Mem.tail _ (List.Mem.tail _ (List.Mem.head _)))))))) (x_sub1 (List.Mem.tail _ (List.Mem.tail _ (List.Mem.tail _ (List.Mem.tail _ (List.Mem.tail _ (List.Mem.tail _ (List.Mem.tail _ (List.Mem.tail _ (List.Mem.head _))))))))) (x_sub1 (List.Mem.tail _ (List.Mem.tail _ (List.Mem.tail _ (List.Mem.tail _ (List.Mem.tail _ (List.Mem.tail _ (List.Mem.tail _ (List.Mem.tail _ (List.Mem.tail _ (List.Mem.head _)))))))))) (x_sub1 (List.Mem.tail _ (List.Mem.tail _ (List.Mem.tail _ (List.Mem.head _)))) (x_sub1 (List.Mem.tail _ (List.Mem.tail _ (List.Mem.head _))) (x_sub1 (List.Mem.tail _ (List.Mem.head _)) (x_sub1 (List.Mem.head _) x_sub0)))))))))) H
        · replace H := H.2 c101
          refine s_aload_n (nx := 105) hO rfl rfl rfl ?_
          refine s_iload_n (nx := 106) hO rfl rfl rfl ?_
          refine s_iload_n (nx := 107) hO rfl rfl rfl ?_
          refine s_iload (nx := 109) hO rfl rfl rfl ?_
          refine s_callV [.int v1, .int v2, .int x5] (ci := 12) (F := TX12) (N := 116) (nx := 112) hO rfl kX12_goRound_585 (by rw [hcl]; rfl) (hs_o12 kc139) (w_X12_isGuarded hG H) rfl rfl (Nat.le_of_ble_eq_true rfl) (Nat.zero_le _) (Nat.zero_le _) rfl (k_Pi (fun r45 H => ?_))
          refine s_if_ne (nx := 115) hO rfl rfl (fun c112 => ?_) (fun c112 => ?_)
          · replace H := H.1 c112
            exact xEx.loc (x_sub1 (List.Mem.tail _ (List.Mem.tail _ (List.Mem.tail _ (List.Mem.tail _ (List.Mem.head _))))) (x_sub1 (List.Mem.tail _ (List.Mem.tail _ (List.Mem.tail _ (List.Mem.tail _ (List.Mem.tail _ (List.Mem.head _)))))) (x_sub1 (List.Mem.tail _ (List.Mem.tail _ (List.Mem.tail _ (List.Mem.tail _ (List.Mem.tail _ (List.Mem.tail _ (List.Mem.head _))))))) (x_sub1 (List.Mem.tail _ (List.Mem.tail _ (List.Mem.tail _ (List.Mem.tail _ (List.Mem.tail _ (List.Mem.tail _ (List.Mem.tail _ (List.Mem.head _)))))))) (x_sub1 (List.Mem.tail _ (List.Mem.tail _ (List.Mem.tail _ (List.Mem.tail _ (List.Mem.tail _ (List.Mem.tail _ (List.Mem.tail _ (List.Mem.tail _ (List.Mem.head _))))))))) (x_sub1 (List.Mem.tail _ (List.Mem.tail _ (List.Mem.tail _ (List.Mem.tail _ (List.Mem.tail _ (List.Mem.tail _ (List.Mem.tail _ (List.Mem.tail _ (List.Mem.tail _ (List.Mem.head _)))))))))) (x_sub1 (List.Mem.tail _ (List.Mem.tail _ (List.Mem.tail _ (List.Mem.head _)))) (x_sub1 (List.Mem.tail _ (List.Mem.tail _ (List.Mem.head _))) (x_sub1 (List.Mem.tail _ (List.Mem.head _)) (x_sub1 (List.Mem.head _) x_sub0)))))))))) H
          · replace H := H.2 c112
            exact xEx.loc (x_sub1 (List.Mem.tail _ (List.Mem.tail _ (List.Mem.tail _ (List.Mem.tail _ (List.Mem.head _))))) (x_sub1 (List.Mem.tail _ (List.Mem.tail _ (List.Mem.tail _ (List.Mem.tail _ (List.Mem.tail _ (List.Mem.head _)))))) (x_sub1 (List.Mem.tail _ (List.Mem.tail _ (List.Mem.tail _ (List.Mem.tail _ (List.Mem.tail _ (List.Mem.tail _ (List.Mem.head _))))))) (x_sub1 (List.Mem.tail _ (List.Mem.tail _ (List.Mem.tail _ (List.Mem.tail _ (List.Mem.tail _ (List.Mem.tail _ (List.Mem.tail _ (List.Mem.head _)))))))) (x_sub1 (List.Mem.tail _ (List.Mem.tail _ (List.Mem.tail _ (List.Mem.tail _ (List.Mem.tail _ (List.Mem.tail _ (List.Mem.tail _ (List.Mem.tail _ (List.Mem.head _))))))))) (x_sub1 (List.Mem.tail _ (List.Mem.tail _ (List.Mem.tail _ (List.Mem.tail _ (List.Mem.tail _ (List.Mem.tail _ (List.Mem.tail _ (List.Mem.tail _ (List.Mem.tail _ (List.Mem.head _)))))))))) (x_sub1 (List.Mem.tail _ (List.Mem.tail _ (List.Mem.tail _ (List.Mem.head _)))) (x_sub1 (List.Mem.tail _ (List.Mem.tail _ (List.Mem.head _))) (x_sub1 (List.Mem.tail _ (List.Mem.head _)) x_sub0))))))))) H
  refine s_istore (nx := 39) (l' := [(5, .int 0), (4, .int x2), (3, .int x1), (0, .ref (q_b G + 139)), (1, .int v1), (2, .int v2)]) hO rfl (by decide) rfl rfl ?_
  exact xEx.loc (x_sub1 (List.Mem.tail _ (List.Mem.tail _ (List.Mem.tail _ (List.Mem.head _)))) (x_sub1 (List.Mem.tail _ (List.Mem.tail _ (List.Mem.tail _ (List.Mem.tail _ (List.Mem.head _))))) (x_sub1 (List.Mem.tail _ (List.Mem.tail _ (List.Mem.tail _ (List.Mem.tail _ (List.Mem.tail _ (List.Mem.head _)))))) (x_sub1 (List.Mem.tail _ (List.Mem.tail _ (List.Mem.head _))) (x_sub1 (List.Mem.tail _ (List.Mem.head _)) (x_sub1 (List.Mem.head _) x_sub0)))))) H
def W_X12_makeMay (s : yS) (v1 : Int32) (Q : yS → Prop) : Prop :=
 vp_in v1 2 ∧ 
 (((sI s 200 (ix v1)) = 0 → vp_in v1 2 ∧ ∀ s3 : yS, s3 = wI s 200 (ix v1) (vp_nar .boolean 1) → 
  ∀ P23 : Int32 → yS → Prop, (∀ (x4 : Int32) (s5 : yS), (((((nI 4800) * (v1 + 1)) ≤ x4 → ∀ P52 : Int32 → yS → Prop, (∀ (x6 : Int32) (s7 : yS), ((((((nI 12) * v1) + (nI 12)) ≤ x6 → vp_in ((nI 12) * v1) 36 ∧ ∀ s9 : yS, s9 = wJ s7 197 (ix ((nI 12) * v1)) 1 → 
      ∀ P105 : yS → Prop, (∀ (s10 : yS), ((((sI s10 139 82) = 0 → Q s10)
       ∧ (¬ (sI s10 139 82) = 0 → ∀ s11 : yS, s11 = wI s10 139 82 0 → 
        ∀ P119 : Int32 → yS → Prop, (∀ (x12 : Int32) (s13 : yS), (vp_in v1 3 ∧ 
         (((sI s13 178 (ix v1)) ≤ x12 → P105 s13)
         ∧ (¬ (sI s13 178 (ix v1)) ≤ x12 → W_X12_goRound s13 v1 x12 
          (fun s15 => ∀ x16 : Int32, x16 = (x12 + 1) → 
          P119 x16 s15)))) → P119 x12 s13) → 
        P119 0 s11))) → P105 s10) → 
      ∀ s17 : yS, s17 = wI s9 139 82 1 → 
      P105 s17)
     ∧ (¬ (((nI 12) * v1) + (nI 12)) ≤ x6 → vp_in x6 36 ∧ ∀ s19 : yS, s19 = wJ s7 197 (ix x6) 0 → 
      vp_in x6 36 ∧ ∀ s21 : yS, s21 = wJ s19 198 (ix x6) 0 → 
      vp_in x6 36 ∧ ∀ s23 : yS, s23 = wJ s21 199 (ix x6) 0 → 
      ∀ x24 : Int32, x24 = (x6 + 1) → 
      P52 x24 s23))) → P52 x6 s7) → 
    ∀ x25 : Int32, x25 = ((nI 12) * v1) → 
    P52 x25 s5)
   ∧ (¬ ((nI 4800) * (v1 + 1)) ≤ x4 → vp_in x4 14400 ∧ ∀ s27 : yS, s27 = wJ s5 196 (ix x4) 0 → 
    ∀ x28 : Int32, x28 = (x4 + 1) → 
    P23 x28 s27))) → P23 x4 s5) → 
  ∀ x29 : Int32, x29 = ((nI 4800) * v1) → 
  P23 x29 s3)
 ∧ (¬ (sI s 200 (ix v1)) = 0 → Q s))
set_option maxRecDepth 100000 in
set_option maxHeartbeats 40000000 in
theorem w_X12_makeMay {G : xG} (hG : yG G) {z : Nat} {s : yS} {v1 : Int32} {Q : yS → Prop} (H : W_X12_makeMay s v1 Q) : xC G mX12_makeMay [.ref (q_b G + 139), .int v1] (hS G s) z 0 0 (yQv G z Q) := by
  have hW := hG.1
  have hcl := hG.2.1
  have hty := hG.2.2.1
  have hO : xO G mX12_makeMay tbX12_makeMay ptX12_makeMay := ⟨tkX12_makeMay, pkX12_makeMay hcl⟩
  unfold W_X12_makeMay at H
  refine xC.of hW (by decide) rfl (Nat.le_of_ble_eq_true rfl) ?_
  refine s_aload_n (nx := 1) hO rfl rfl rfl ?_
  refine s_getf (v := .ref (q_b G + 200)) (nx := 4) hO rfl rfl (hs_o12 kc139) rfl rfl ?_
  refine s_iload_n (nx := 5) hO rfl rfl rfl ?_
  obtain ⟨b1, H⟩ := H
  refine s_zald (nx := 6) hO rfl (hs_Z kc200) b1 rfl ?_
  refine s_if_eq (nx := 9) hO rfl rfl (fun c6 => ?_) (fun c6 => ?_)
  · replace H := H.1 c6
    refine s_aload_n (nx := 11) hO rfl rfl rfl ?_
    refine s_getf (v := .ref (q_b G + 200)) (nx := 14) hO rfl rfl (hs_o12 kc139) rfl rfl ?_
    refine s_iload_n (nx := 15) hO rfl rfl rfl ?_
    refine s_iconst (x := 1) (nx := 16) hO rfl (by decide) rfl ?_
    obtain ⟨b2, H⟩ := H
    refine goV (wI s 200 (ix v1) (vp_nar .boolean 1)) (fun s3 es3 => ?_)
    replace H := H s3 es3
    refine s_zast (nx := 17) hO rfl (hs_Z kc200) b2 rfl ?_
    refine xEx.at (up_Z kc200 es3) ?_
    refine s_sipush (x := (nI 4800)) (nx := 20) hO rfl (by decide) rfl ?_
    refine s_iload_n (nx := 21) hO rfl rfl rfl ?_
    refine s_imul (nx := 22) hO rfl rfl ?_
    refine goK (H (fun (x4 : Int32) (s5 : yS) => xEx G mX12_makeMay 23 [(0, .ref (q_b G + 139)), (1, .int v1), (2, .int x4)] [] (hS G s5) z 0 0 (yQv G z Q)) (fun x4 s5 H => ?_)) (fun H => ?_)
    · show xEx G mX12_makeMay 23 [(0, .ref (q_b G + 139)), (1, .int v1), (2, .int x4)] [] (hS G s5) z 0 0 (yQv G z Q)
      refine s_iload_n (nx := 24) hO rfl rfl rfl ?_
      refine s_sipush (x := (nI 4800)) (nx := 27) hO rfl (by decide) rfl ?_
      refine s_iload_n (nx := 28) hO rfl rfl rfl ?_
      refine s_iconst (x := 1) (nx := 29) hO rfl (by decide) rfl ?_
      refine s_iadd (nx := 30) hO rfl rfl ?_
      refine s_imul (nx := 31) hO rfl rfl ?_
      refine s_icmp_ge (nx := 34) hO rfl rfl (fun c31 => ?_) (fun c31 => ?_)
      · replace H := H.1 c31
        refine s_bipush (x := (nI 12)) (nx := 49) hO rfl (by decide) rfl ?_
        refine s_iload_n (nx := 50) hO rfl rfl rfl ?_
        refine s_imul (nx := 51) hO rfl rfl ?_
        refine goK (H (fun (x6 : Int32) (s7 : yS) => xEx G mX12_makeMay 52 [(0, .ref (q_b G + 139)), (1, .int v1), (2, .int x6)] [] (hS G s7) z 0 0 (yQv G z Q)) (fun x6 s7 H => ?_)) (fun H => ?_)
        · show xEx G mX12_makeMay 52 [(0, .ref (q_b G + 139)), (1, .int v1), (2, .int x6)] [] (hS G s7) z 0 0 (yQv G z Q)
          refine s_iload_n (nx := 53) hO rfl rfl rfl ?_
          refine s_bipush (x := (nI 12)) (nx := 55) hO rfl (by decide) rfl ?_
          refine s_iload_n (nx := 56) hO rfl rfl rfl ?_
          refine s_imul (nx := 57) hO rfl rfl ?_
          refine s_bipush (x := (nI 12)) (nx := 59) hO rfl (by decide) rfl ?_
          refine s_iadd (nx := 60) hO rfl rfl ?_
          refine s_icmp_ge (nx := 63) hO rfl rfl (fun c60 => ?_) (fun c60 => ?_)
          · replace H := H.1 c60
            refine s_aload_n (nx := 91) hO rfl rfl rfl ?_
            refine s_getf (v := .ref (q_b G + 197)) (nx := 94) hO rfl rfl (hs_o12 kc139) rfl rfl ?_
            refine s_bipush (x := (nI 12)) (nx := 96) hO rfl (by decide) rfl ?_
            refine s_iload_n (nx := 97) hO rfl rfl rfl ?_
            refine s_imul (nx := 98) hO rfl rfl ?_
            refine s_lconst (x := 1) (nx := 99) hO rfl (by decide) rfl ?_
            obtain ⟨b8, H⟩ := H
            refine goV (wJ s7 197 (ix ((nI 12) * v1)) 1) (fun s9 es9 => ?_)
            replace H := H s9 es9
            refine s_last (nx := 100) hO rfl (hs_J kc197) b8 rfl ?_
            refine xEx.at (up_J kc197 es9) ?_
            refine s_aload_n (nx := 101) hO rfl rfl rfl ?_
            refine s_iconst (x := 1) (nx := 102) hO rfl (by decide) rfl ?_
            refine goK (H (fun (s10 : yS) => xEx G mX12_makeMay 105 [(0, .ref (q_b G + 139)), (1, .int v1)] [] (hS G s10) z 0 0 (yQv G z Q)) (fun s10 H => ?_)) (fun H => ?_)
            · show xEx G mX12_makeMay 105 [(0, .ref (q_b G + 139)), (1, .int v1)] [] (hS G s10) z 0 0 (yQv G z Q)
              refine s_aload_n (nx := 106) hO rfl rfl rfl ?_
              refine s_getf (v := .int (sI s10 139 82)) (nx := 109) hO rfl rfl (hs_o12 kc139) rfl rfl ?_
              refine s_if_eq (nx := 112) hO rfl rfl (fun c109 => ?_) (fun c109 => ?_)
              · replace H := H.1 c109
                exact s_vret hO rfl rfl ⟨rfl, _, rfl, rfl, H⟩
              · replace H := H.2 c109
                refine s_aload_n (nx := 113) hO rfl rfl rfl ?_
                refine s_iconst (x := 0) (nx := 114) hO rfl (by decide) rfl ?_
                refine goV (wI s10 139 82 0) (fun s11 es11 => ?_)
                replace H := H s11 es11
                refine s_putf (nx := 117) hO rfl rfl (hs_o12 kc139) (Nat.le_of_ble_eq_true rfl) (by rw [hty]; rfl) (by rw [hty]; rfl) pX12_82 rfl ?_
                refine xEx.at (up_oI12 kc139 es11) ?_
                refine s_iconst (x := 0) (nx := 118) hO rfl (by decide) rfl ?_
                refine goK (H (fun (x12 : Int32) (s13 : yS) => xEx G mX12_makeMay 119 [(0, .ref (q_b G + 139)), (1, .int v1), (2, .int x12)] [] (hS G s13) z 0 0 (yQv G z Q)) (fun x12 s13 H => ?_)) (fun H => ?_)
                · show xEx G mX12_makeMay 119 [(0, .ref (q_b G + 139)), (1, .int v1), (2, .int x12)] [] (hS G s13) z 0 0 (yQv G z Q)
                  refine s_iload_n (nx := 120) hO rfl rfl rfl ?_
                  refine s_aload_n (nx := 121) hO rfl rfl rfl ?_
                  refine s_getf (v := .ref (q_b G + 178)) (nx := 124) hO rfl rfl (hs_o12 kc139) rfl rfl ?_
                  refine s_iload_n (nx := 125) hO rfl rfl rfl ?_
                  obtain ⟨b14, H⟩ := H
                  refine s_iald (nx := 126) hO rfl (hs_I kc178) b14 rfl ?_
                  refine s_icmp_ge (nx := 129) hO rfl rfl (fun c126 => ?_) (fun c126 => ?_)
                  · replace H := H.1 c126
                    refine s_goto hO rfl ?_
                    exact xEx.loc (x_sub1 (List.Mem.head _) (x_sub1 (List.Mem.tail _ (List.Mem.head _)) x_sub0)) H
                  · replace H := H.2 c126
                    refine s_aload_n (nx := 130) hO rfl rfl rfl ?_
                    refine s_iload_n (nx := 131) hO rfl rfl rfl ?_
                    refine s_iload_n (nx := 132) hO rfl rfl rfl ?_
                    refine s_callV [.int v1, .int x12] (ci := 12) (F := TX12) (N := 116) (nx := 135) hO rfl kX12_makeMay_592 (by rw [hcl]; rfl) (hs_o12 kc139) (w_X12_goRound hG H) rfl rfl (Nat.le_of_ble_eq_true rfl) (Nat.zero_le _) (Nat.zero_le _) rfl (k_Qv (fun s15 H => ?_))
                    refine goV ((x12 + 1)) (fun x16 ex16 => ?_)
                    replace H := H x16 ex16
                    refine e_iinc (nx := 138) (l' := [(2, .int x16), (0, .ref (q_b G + 139)), (1, .int v1)]) ex16 hO rfl (by decide) rfl rfl rfl rfl ?_
                    refine s_goto hO rfl ?_
                    exact xEx.loc (x_sub1 (List.Mem.tail _ (List.Mem.head _)) (x_sub1 (List.Mem.tail _ (List.Mem.tail _ (List.Mem.head _))) (x_sub1 (List.Mem.head _) x_sub0))) H
                refine s_istore_n (nx := 119) (l' := [(2, .int 0), (0, .ref (q_b G + 139)), (1, .int v1)]) hO rfl (by decide) rfl rfl ?_
                exact xEx.loc (x_sub1 (List.Mem.tail _ (List.Mem.head _)) (x_sub1 (List.Mem.tail _ (List.Mem.tail _ (List.Mem.head _))) (x_sub1 (List.Mem.head _) x_sub0))) H
            refine goV (wI s9 139 82 1) (fun s17 es17 => ?_)
            replace H := H s17 es17
            refine s_putf (nx := 105) hO rfl rfl (hs_o12 kc139) (Nat.le_of_ble_eq_true rfl) (by rw [hty]; rfl) (by rw [hty]; rfl) pX12_82 rfl ?_
            refine xEx.at (up_oI12 kc139 es17) ?_
            exact xEx.loc (x_sub1 (List.Mem.head _) (x_sub1 (List.Mem.tail _ (List.Mem.head _)) x_sub0)) H
          · replace H := H.2 c60
            refine s_aload_n (nx := 64) hO rfl rfl rfl ?_
            refine s_getf (v := .ref (q_b G + 197)) (nx := 67) hO rfl rfl (hs_o12 kc139) rfl rfl ?_
            refine s_iload_n (nx := 68) hO rfl rfl rfl ?_
            refine s_lconst (x := 0) (nx := 69) hO rfl (by decide) rfl ?_
            obtain ⟨b18, H⟩ := H
            refine goV (wJ s7 197 (ix x6) 0) (fun s19 es19 => ?_)
            replace H := H s19 es19
            refine s_last (nx := 70) hO rfl (hs_J kc197) b18 rfl ?_
            refine xEx.at (up_J kc197 es19) ?_
            refine s_aload_n (nx := 71) hO rfl rfl rfl ?_
            refine s_getf (v := .ref (q_b G + 198)) (nx := 74) hO rfl rfl (hs_o12 kc139) rfl rfl ?_
            refine s_iload_n (nx := 75) hO rfl rfl rfl ?_
            refine s_lconst (x := 0) (nx := 76) hO rfl (by decide) rfl ?_
            obtain ⟨b20, H⟩ := H
            refine goV (wJ s19 198 (ix x6) 0) (fun s21 es21 => ?_)
            replace H := H s21 es21
            refine s_last (nx := 77) hO rfl (hs_J kc198) b20 rfl ?_
            refine xEx.at (up_J kc198 es21) ?_
            refine s_aload_n (nx := 78) hO rfl rfl rfl ?_
            refine s_getf (v := .ref (q_b G + 199)) (nx := 81) hO rfl rfl (hs_o12 kc139) rfl rfl ?_
            refine s_iload_n (nx := 82) hO rfl rfl rfl ?_
            refine s_lconst (x := 0) (nx := 83) hO rfl (by decide) rfl ?_
            obtain ⟨b22, H⟩ := H
            refine goV (wJ s21 199 (ix x6) 0) (fun s23 es23 => ?_)
            replace H := H s23 es23
            refine s_last (nx := 84) hO rfl (hs_J kc199) b22 rfl ?_
            refine xEx.at (up_J kc199 es23) ?_
            refine goV ((x6 + 1)) (fun x24 ex24 => ?_)
            replace H := H x24 ex24
            refine e_iinc (nx := 87) (l' := [(2, .int x24), (0, .ref (q_b G + 139)), (1, .int v1)]) ex24 hO rfl (by decide) rfl rfl rfl rfl ?_
            refine s_goto hO rfl ?_
            exact xEx.loc (x_sub1 (List.Mem.tail _ (List.Mem.head _)) (x_sub1 (List.Mem.tail _ (List.Mem.tail _ (List.Mem.head _))) (x_sub1 (List.Mem.head _) x_sub0))) H
        refine goV (((nI 12) * v1)) (fun x25 ex25 => ?_)
        replace H := H x25 ex25
        refine e_istore_n (nx := 52) (l' := [(2, .int x25), (0, .ref (q_b G + 139)), (1, .int v1)]) ex25 hO rfl (by decide) rfl rfl ?_
        exact xEx.loc (x_sub1 (List.Mem.tail _ (List.Mem.head _)) (x_sub1 (List.Mem.tail _ (List.Mem.tail _ (List.Mem.head _))) (x_sub1 (List.Mem.head _) x_sub0))) H
      · replace H := H.2 c31
        refine s_aload_n (nx := 35) hO rfl rfl rfl ?_
        refine s_getf (v := .ref (q_b G + 196)) (nx := 38) hO rfl rfl (hs_o12 kc139) rfl rfl ?_
        refine s_iload_n (nx := 39) hO rfl rfl rfl ?_
        refine s_lconst (x := 0) (nx := 40) hO rfl (by decide) rfl ?_
        obtain ⟨b26, H⟩ := H
        refine goV (wJ s5 196 (ix x4) 0) (fun s27 es27 => ?_)
        replace H := H s27 es27
        refine s_last (nx := 41) hO rfl (hs_J kc196) b26 rfl ?_
        refine xEx.at (up_J kc196 es27) ?_
        refine goV ((x4 + 1)) (fun x28 ex28 => ?_)
        replace H := H x28 ex28
        refine e_iinc (nx := 44) (l' := [(2, .int x28), (0, .ref (q_b G + 139)), (1, .int v1)]) ex28 hO rfl (by decide) rfl rfl rfl rfl ?_
        refine s_goto hO rfl ?_
        exact xEx.loc (x_sub1 (List.Mem.tail _ (List.Mem.head _)) (x_sub1 (List.Mem.tail _ (List.Mem.tail _ (List.Mem.head _))) (x_sub1 (List.Mem.head _) x_sub0))) H
    refine goV (((nI 4800) * v1)) (fun x29 ex29 => ?_)
    replace H := H x29 ex29
    refine e_istore_n (nx := 23) (l' := [(2, .int x29), (0, .ref (q_b G + 139)), (1, .int v1)]) ex29 hO rfl (by decide) rfl rfl ?_
    exact xEx.loc (x_sub1 (List.Mem.tail _ (List.Mem.head _)) (x_sub1 (List.Mem.tail _ (List.Mem.tail _ (List.Mem.head _))) (x_sub1 (List.Mem.head _) x_sub0))) H
  · replace H := H.2 c6
    exact s_vret hO rfl rfl ⟨rfl, _, rfl, rfl, H⟩
def W_X12_needs (s : yS) (v1 : Int32) (v2 : Int32) (v3 : Int32) (Q : Int32 → Prop) : Prop :=
 ∀ x1 : Int32, x1 = ((((nI 4800) * v1) + ((nI 400) * v2)) + v3) → 
 vp_in x1 14400 ∧ 
 (((sI s 186 (ix x1)) = (nI 26) → vp_in x1 14400 ∧ 
  ∀ x4 : Int32, x4 = (sI s 187 (ix x1)) → 
  ∀ P41 : Int32 → Prop, (∀ (x5 : Int32), ((((sI s 139 25) ≤ x5 → ∀ P83 : Int32 → Prop, (∀ (x6 : Int32), ((((sI s 139 56) ≤ x6 → Q 0)
     ∧ (¬ (sI s 139 56) ≤ x6 → vp_in x1 14400 ∧ 
      ∀ P127 : Prop, ((∀ x8 : Int32, x8 = (x6 + 1) → 
       P83 x8) → P127) → 
      ((¬ (lg_cmp (((sJ s 196 (ix x1)) >>> ((x6).toInt64 &&& 63)) &&& 1) 1) = 0 → P127)
      ∧ ((lg_cmp (((sJ s 196 (ix x1)) >>> ((x6).toInt64 &&& 63)) &&& 1) 1) = 0 → vp_in (((nI 64) * x4) + x6) 1024 ∧ 
       ((¬ (sI s 202 (ix (((nI 64) * x4) + x6))) = 0 → P127)
       ∧ ((sI s 202 (ix (((nI 64) * x4) + x6))) = 0 → Q 1))))))) → P83 x6) → 
    P83 0)
   ∧ (¬ (sI s 139 25) ≤ x5 → vp_in x5 24 ∧ 
    (((sI s 148 (ix x5)) < 0 → Q 1)
    ∧ (¬ (sI s 148 (ix x5)) < 0 → vp_in x5 24 ∧ 
     ((¬ (sI s 148 (ix x5)) = x4 → ∀ x12 : Int32, x12 = (x5 + 1) → 
      P41 x12)
     ∧ ((sI s 148 (ix x5)) = x4 → Q 1))))))) → P41 x5) → 
  P41 0)
 ∧ (¬ (sI s 186 (ix x1)) = (nI 26) → Q 0))
set_option maxRecDepth 100000 in
set_option maxHeartbeats 40000000 in
theorem w_X12_needs {G : xG} (hG : yG G) {z : Nat} {s : yS} {v1 : Int32} {v2 : Int32} {v3 : Int32} {Q : Int32 → Prop} (H : W_X12_needs s v1 v2 v3 Q) : xC G mX12_needs [.ref (q_b G + 139), .int v1, .int v2, .int v3] (hS G s) z 0 0 (yPi G z s Q) := by
  have hW := hG.1
  have hcl := hG.2.1
  have hty := hG.2.2.1
  have hO : xO G mX12_needs tbX12_needs ptX12_needs := ⟨tkX12_needs, pkX12_needs hcl⟩
  unfold W_X12_needs at H
  refine xC.of hW (by decide) rfl (Nat.le_of_ble_eq_true rfl) ?_
  refine s_sipush (x := (nI 4800)) (nx := 3) hO rfl (by decide) rfl ?_
  refine s_iload_n (nx := 4) hO rfl rfl rfl ?_
  refine s_imul (nx := 5) hO rfl rfl ?_
  refine s_sipush (x := (nI 400)) (nx := 8) hO rfl (by decide) rfl ?_
  refine s_iload_n (nx := 9) hO rfl rfl rfl ?_
  refine s_imul (nx := 10) hO rfl rfl ?_
  refine s_iadd (nx := 11) hO rfl rfl ?_
  refine s_iload_n (nx := 12) hO rfl rfl rfl ?_
  refine s_iadd (nx := 13) hO rfl rfl ?_
  refine goV (((((nI 4800) * v1) + ((nI 400) * v2)) + v3)) (fun x1 ex1 => ?_)
  replace H := H x1 ex1
  refine e_istore (nx := 15) (l' := [(4, .int x1), (0, .ref (q_b G + 139)), (1, .int v1), (2, .int v2), (3, .int v3)]) ex1 hO rfl (by decide) rfl rfl ?_
  refine s_aload_n (nx := 16) hO rfl rfl rfl ?_
  refine s_getf (v := .ref (q_b G + 186)) (nx := 19) hO rfl rfl (hs_o12 kc139) rfl rfl ?_
  refine s_iload (nx := 21) hO rfl rfl rfl ?_
  obtain ⟨b2, H⟩ := H
  refine s_iald (nx := 22) hO rfl (hs_I kc186) b2 rfl ?_
  refine s_bipush (x := (nI 26)) (nx := 24) hO rfl (by decide) rfl ?_
  refine s_icmp_eq (nx := 27) hO rfl rfl (fun c24 => ?_) (fun c24 => ?_)
  · replace H := H.1 c24
    refine s_aload_n (nx := 30) hO rfl rfl rfl ?_
    refine s_getf (v := .ref (q_b G + 187)) (nx := 33) hO rfl rfl (hs_o12 kc139) rfl rfl ?_
    refine s_iload (nx := 35) hO rfl rfl rfl ?_
    obtain ⟨b3, H⟩ := H
    refine s_iald (nx := 36) hO rfl (hs_I kc187) b3 rfl ?_
    refine goV ((sI s 187 (ix x1))) (fun x4 ex4 => ?_)
    replace H := H x4 ex4
    refine e_istore (nx := 38) (l' := [(5, .int x4), (4, .int x1), (0, .ref (q_b G + 139)), (1, .int v1), (2, .int v2), (3, .int v3)]) ex4 hO rfl (by decide) rfl rfl ?_
    refine s_iconst (x := 0) (nx := 39) hO rfl (by decide) rfl ?_
    refine goK (H (fun (x5 : Int32) => xEx G mX12_needs 41 [(0, .ref (q_b G + 139)), (4, .int x1), (5, .int x4), (6, .int x5)] [] (hS G s) z 0 0 (yPi G z s Q)) (fun x5 H => ?_)) (fun H => ?_)
    · show xEx G mX12_needs 41 [(0, .ref (q_b G + 139)), (4, .int x1), (5, .int x4), (6, .int x5)] [] (hS G s) z 0 0 (yPi G z s Q)
      refine s_iload (nx := 43) hO rfl rfl rfl ?_
      refine s_aload_n (nx := 44) hO rfl rfl rfl ?_
      refine s_getf (v := .int (sI s 139 25)) (nx := 47) hO rfl rfl (hs_o12 kc139) rfl rfl ?_
      refine s_icmp_ge (nx := 50) hO rfl rfl (fun c47 => ?_) (fun c47 => ?_)
      · replace H := H.1 c47
        refine s_iconst (x := 0) (nx := 81) hO rfl (by decide) rfl ?_
        refine goK (H (fun (x6 : Int32) => xEx G mX12_needs 83 [(0, .ref (q_b G + 139)), (4, .int x1), (5, .int x4), (6, .int x6)] [] (hS G s) z 0 0 (yPi G z s Q)) (fun x6 H => ?_)) (fun H => ?_)
        · show xEx G mX12_needs 83 [(0, .ref (q_b G + 139)), (4, .int x1), (5, .int x4), (6, .int x6)] [] (hS G s) z 0 0 (yPi G z s Q)
          refine s_iload (nx := 85) hO rfl rfl rfl ?_
          refine s_aload_n (nx := 86) hO rfl rfl rfl ?_
          refine s_getf (v := .int (sI s 139 56)) (nx := 89) hO rfl rfl (hs_o12 kc139) rfl rfl ?_
          refine s_icmp_ge (nx := 92) hO rfl rfl (fun c89 => ?_) (fun c89 => ?_)
          · replace H := H.1 c89
            refine s_iconst (x := 0) (nx := 134) hO rfl (by decide) rfl ?_
            exact s_iret hO rfl rfl rfl ⟨rfl, _, rfl, rfl, H⟩
          · replace H := H.2 c89
            refine s_aload_n (nx := 93) hO rfl rfl rfl ?_
            refine s_getf (v := .ref (q_b G + 196)) (nx := 96) hO rfl rfl (hs_o12 kc139) rfl rfl ?_
            refine s_iload (nx := 98) hO rfl rfl rfl ?_
            obtain ⟨b7, H⟩ := H
            refine s_lald (nx := 99) hO rfl (hs_J kc196) b7 rfl ?_
            refine s_iload (nx := 101) hO rfl rfl rfl ?_
            refine s_lshr (nx := 102) hO rfl rfl ?_
            refine s_lconst (x := 1) (nx := 103) hO rfl (by decide) rfl ?_
            refine s_land (nx := 104) hO rfl rfl ?_
            refine s_lconst (x := 1) (nx := 105) hO rfl (by decide) rfl ?_
            refine s_lcmp (nx := 106) hO rfl rfl ?_
            refine goK (H (xEx G mX12_needs 127 [(0, .ref (q_b G + 139)), (4, .int x1), (5, .int x4), (6, .int x6)] [] (hS G s) z 0 0 (yPi G z s Q)) (fun H => ?_)) (fun H => ?_)
            · show xEx G mX12_needs 127 [(0, .ref (q_b G + 139)), (4, .int x1), (5, .int x4), (6, .int x6)] [] (hS G s) z 0 0 (yPi G z s Q)
              refine goV ((x6 + 1)) (fun x8 ex8 => ?_)
              replace H := H x8 ex8
              refine e_iinc (nx := 130) (l' := [(6, .int x8), (0, .ref (q_b G + 139)), (4, .int x1), (5, .int x4)]) ex8 hO rfl (by decide) rfl rfl rfl rfl ?_
              refine s_goto hO rfl ?_
              exact xEx.loc (x_sub1 (List.Mem.tail _ (List.Mem.head _)) (x_sub1 (List.Mem.tail _ (List.Mem.tail _ (List.Mem.head _))) (x_sub1 (List.Mem.tail _ (List.Mem.tail _ (List.Mem.tail _ (List.Mem.head _)))) (x_sub1 (List.Mem.head _) x_sub0)))) H
            refine s_if_ne (nx := 109) hO rfl rfl (fun c106 => ?_) (fun c106 => ?_)
            · replace H := H.1 c106
              exact xEx.loc (x_sub1 (List.Mem.head _) (x_sub1 (List.Mem.tail _ (List.Mem.head _)) (x_sub1 (List.Mem.tail _ (List.Mem.tail _ (List.Mem.head _))) (x_sub1 (List.Mem.tail _ (List.Mem.tail _ (List.Mem.tail _ (List.Mem.head _)))) x_sub0)))) H
            · replace H := H.2 c106
              refine s_aload_n (nx := 110) hO rfl rfl rfl ?_
              refine s_getf (v := .ref (q_b G + 202)) (nx := 113) hO rfl rfl (hs_o12 kc139) rfl rfl ?_
              refine s_bipush (x := (nI 64)) (nx := 115) hO rfl (by decide) rfl ?_
              refine s_iload (nx := 117) hO rfl rfl rfl ?_
              refine s_imul (nx := 118) hO rfl rfl ?_
              refine s_iload (nx := 120) hO rfl rfl rfl ?_
              refine s_iadd (nx := 121) hO rfl rfl ?_
              obtain ⟨b9, H⟩ := H
              refine s_zald (nx := 122) hO rfl (hs_Z kc202) b9 rfl ?_
              refine s_if_ne (nx := 125) hO rfl rfl (fun c122 => ?_) (fun c122 => ?_)
              · replace H := H.1 c122
                exact xEx.loc (x_sub1 (List.Mem.head _) (x_sub1 (List.Mem.tail _ (List.Mem.head _)) (x_sub1 (List.Mem.tail _ (List.Mem.tail _ (List.Mem.head _))) (x_sub1 (List.Mem.tail _ (List.Mem.tail _ (List.Mem.tail _ (List.Mem.head _)))) x_sub0)))) H
              · replace H := H.2 c122
                refine s_iconst (x := 1) (nx := 126) hO rfl (by decide) rfl ?_
                exact s_iret hO rfl rfl rfl ⟨rfl, _, rfl, rfl, H⟩
        refine s_istore (nx := 83) (l' := [(6, .int 0), (0, .ref (q_b G + 139)), (4, .int x1), (5, .int x4)]) hO rfl (by decide) rfl rfl ?_
        exact xEx.loc (x_sub1 (List.Mem.tail _ (List.Mem.head _)) (x_sub1 (List.Mem.tail _ (List.Mem.tail _ (List.Mem.head _))) (x_sub1 (List.Mem.tail _ (List.Mem.tail _ (List.Mem.tail _ (List.Mem.head _)))) (x_sub1 (List.Mem.head _) x_sub0)))) H
      · replace H := H.2 c47
        refine s_aload_n (nx := 51) hO rfl rfl rfl ?_
        refine s_getf (v := .ref (q_b G + 148)) (nx := 54) hO rfl rfl (hs_o12 kc139) rfl rfl ?_
        refine s_iload (nx := 56) hO rfl rfl rfl ?_
        obtain ⟨b10, H⟩ := H
        refine s_iald (nx := 57) hO rfl (hs_I kc148) b10 rfl ?_
        refine s_if_lt (nx := 60) hO rfl rfl (fun c57 => ?_) (fun c57 => ?_)
        · replace H := H.1 c57
          refine s_iconst (x := 1) (nx := 73) hO rfl (by decide) rfl ?_
          exact s_iret hO rfl rfl rfl ⟨rfl, _, rfl, rfl, H⟩
        · replace H := H.2 c57
          refine s_aload_n (nx := 61) hO rfl rfl rfl ?_
          refine s_getf (v := .ref (q_b G + 148)) (nx := 64) hO rfl rfl (hs_o12 kc139) rfl rfl ?_
          refine s_iload (nx := 66) hO rfl rfl rfl ?_
          obtain ⟨b11, H⟩ := H
          refine s_iald (nx := 67) hO rfl (hs_I kc148) b11 rfl ?_
          refine s_iload (nx := 69) hO rfl rfl rfl ?_
          refine s_icmp_ne (nx := 72) hO rfl rfl (fun c69 => ?_) (fun c69 => ?_)
          · replace H := H.1 c69
            refine goV ((x5 + 1)) (fun x12 ex12 => ?_)
            replace H := H x12 ex12
            refine e_iinc (nx := 77) (l' := [(6, .int x12), (0, .ref (q_b G + 139)), (4, .int x1), (5, .int x4)]) ex12 hO rfl (by decide) rfl rfl rfl rfl ?_
            refine s_goto hO rfl ?_
            exact xEx.loc (x_sub1 (List.Mem.tail _ (List.Mem.head _)) (x_sub1 (List.Mem.tail _ (List.Mem.tail _ (List.Mem.head _))) (x_sub1 (List.Mem.tail _ (List.Mem.tail _ (List.Mem.tail _ (List.Mem.head _)))) (x_sub1 (List.Mem.head _) x_sub0)))) H
          · replace H := H.2 c69
            refine s_iconst (x := 1) (nx := 73) hO rfl (by decide) rfl ?_
            exact s_iret hO rfl rfl rfl ⟨rfl, _, rfl, rfl, H⟩
    refine s_istore (nx := 41) (l' := [(6, .int 0), (5, .int x4), (4, .int x1), (0, .ref (q_b G + 139)), (1, .int v1), (2, .int v2), (3, .int v3)]) hO rfl (by decide) rfl rfl ?_
    exact xEx.loc (x_sub1 (List.Mem.tail _ (List.Mem.tail _ (List.Mem.tail _ (List.Mem.head _)))) (x_sub1 (List.Mem.tail _ (List.Mem.tail _ (List.Mem.head _))) (x_sub1 (List.Mem.tail _ (List.Mem.head _)) (x_sub1 (List.Mem.head _) x_sub0)))) H
  · replace H := H.2 c24
    refine s_iconst (x := 0) (nx := 28) hO rfl (by decide) rfl ?_
    exact s_iret hO rfl rfl rfl ⟨rfl, _, rfl, rfl, H⟩
def W_X12_certifyIt (s : yS) (v1 : Int32) (Q : Int32 → yS → Prop) : Prop :=
 ∀ s1 : yS, s1 = wI s 139 0 0 → 
 ∀ P14 : Int32 → Prop, (∀ (y2 : Int32), (vp_in y2 3 ∧ 
  ((¬ (sI s1 177 (ix y2)) = 0 → W_X12_makeMay s1 y2 
   (fun s4 => ∀ P33 : Int32 → Prop, (∀ (x5 : Int32), (vp_in y2 3 ∧ 
    (((sI s4 178 (ix y2)) ≤ x5 → Q 0 s4)
    ∧ (¬ (sI s4 178 (ix y2)) ≤ x5 → ∀ P46 : Int32 → Prop, (∀ (x7 : Int32), (vp_in (((nI 12) * y2) + x5) 36 ∧ 
      (((sI s4 184 (ix (((nI 12) * y2) + x5))) ≤ x7 → ∀ x9 : Int32, x9 = (x5 + 1) → 
       P33 x9)
      ∧ (¬ (sI s4 184 (ix (((nI 12) * y2) + x5))) ≤ x7 → ∀ x10 : Int32, x10 = ((((nI 4800) * y2) + ((nI 400) * x5)) + x7) → 
       vp_in (((nI 12) * y2) + x5) 36 ∧ 
       ∀ P101 : Int32 → Prop, (∀ (y12 : Int32), (vp_in x10 14400 ∧ 
        ∀ P166 : Int32 → Prop, (∀ (y14 : Int32), (((¬ y14 = 0 → Q ((1 + ((nI 512) * x5)) + x7) s4)
         ∧ (y14 = 0 → W_X12_needs s4 y2 x5 x7 
          (fun r15 => ∀ P206 : Prop, ((∀ x16 : Int32, x16 = (x7 + 1) → 
           P46 x16) → P206) → 
          ((r15 = 0 → P206)
          ∧ (¬ r15 = 0 → W_X12_isGuarded s4 y2 x5 x7 
           (fun r17 => ((¬ r17 = 0 → P206)
           ∧ (r17 = 0 → Q ((1 + ((nI 512) * x5)) + x7) s4))))))))) → P166 y14) → 
        ((¬ (sI s4 186 (ix x10)) = (nI 29) → P166 0)
        ∧ ((sI s4 186 (ix x10)) = (nI 29) → ((¬ y12 = 0 → P166 1)
         ∧ (y12 = 0 → ∀ P136 : Int32 → Prop, (∀ (y18 : Int32), (vp_in (x10 + y18) 14400 ∧ 
           vp_in x10 14400 ∧ 
           ((¬ (sI s4 187 (ix (x10 + y18))) = (sI s4 187 (ix x10)) → P166 1)
           ∧ ((sI s4 187 (ix (x10 + y18))) = (sI s4 187 (ix x10)) → W_X12_isGuarded s4 y2 x5 (x7 + 1) 
            (fun r21 => ((¬ r21 = 0 → P166 0)
            ∧ (r21 = 0 → P166 1)))))) → P136 y18) → 
          ((y12 = 0 → P136 1)
          ∧ (¬ y12 = 0 → P136 0))))))) → P101 y12) → 
       ((¬ (x7 + 1) = (sI s4 184 (ix (((nI 12) * y2) + x5))) → P101 0)
       ∧ ((x7 + 1) = (sI s4 184 (ix (((nI 12) * y2) + x5))) → P101 1))))) → P46 x7) → 
     P46 0))) → P33 x5) → 
   P33 0))
  ∧ ((sI s1 177 (ix y2)) = 0 → Q (-1) s1))) → P14 y2) → 
 ((v1 = 0 → P14 0)
 ∧ (¬ v1 = 0 → P14 1))
set_option maxRecDepth 100000 in
set_option maxHeartbeats 40000000 in
theorem w_X12_certifyIt {G : xG} (hG : yG G) {z : Nat} {s : yS} {v1 : Int32} {Q : Int32 → yS → Prop} (H : W_X12_certifyIt s v1 Q) : xC G mX12_certifyIt [.ref (q_b G + 139), .int v1] (hS G s) z 0 0 (yQi G z Q) := by
  have hW := hG.1
  have hcl := hG.2.1
  have hty := hG.2.2.1
  have hO : xO G mX12_certifyIt tbX12_certifyIt ptX12_certifyIt := ⟨tkX12_certifyIt, pkX12_certifyIt hcl⟩
  unfold W_X12_certifyIt at H
  refine xC.of hW (by decide) rfl (Nat.le_of_ble_eq_true rfl) ?_
  refine s_aload_n (nx := 1) hO rfl rfl rfl ?_
  refine s_iconst (x := 0) (nx := 2) hO rfl (by decide) rfl ?_
  refine goV (wI s 139 0 0) (fun s1 es1 => ?_)
  replace H := H s1 es1
  refine s_putf (nx := 5) hO rfl rfl (hs_o12 kc139) (Nat.le_of_ble_eq_true rfl) (by rw [hty]; rfl) (by rw [hty]; rfl) pX12_0 rfl ?_
  refine xEx.at (up_oI12 kc139 es1) ?_
  refine s_iload_n (nx := 6) hO rfl rfl rfl ?_
  refine goK (H (fun (y2 : Int32) => xEx G mX12_certifyIt 14 [(0, .ref (q_b G + 139))] [.int y2] (hS G s1) z 0 0 (yQi G z Q)) (fun y2 H => ?_)) (fun H => ?_)
  · show xEx G mX12_certifyIt 14 [(0, .ref (q_b G + 139))] [.int y2] (hS G s1) z 0 0 (yQi G z Q)
    refine s_istore_n (nx := 15) (l' := [(2, .int y2), (0, .ref (q_b G + 139))]) hO rfl (by decide) rfl rfl ?_
    refine s_aload_n (nx := 16) hO rfl rfl rfl ?_
    refine s_getf (v := .ref (q_b G + 177)) (nx := 19) hO rfl rfl (hs_o12 kc139) rfl rfl ?_
    refine s_iload_n (nx := 20) hO rfl rfl rfl ?_
    obtain ⟨b3, H⟩ := H
    refine s_zald (nx := 21) hO rfl (hs_Z kc177) b3 rfl ?_
    refine s_if_ne (nx := 24) hO rfl rfl (fun c21 => ?_) (fun c21 => ?_)
    · replace H := H.1 c21
      refine s_aload_n (nx := 27) hO rfl rfl rfl ?_
      refine s_iload_n (nx := 28) hO rfl rfl rfl ?_
      refine s_callV [.int y2] (ci := 12) (F := TX12) (N := 116) (nx := 31) hO rfl kX12_certifyIt_595 (by rw [hcl]; rfl) (hs_o12 kc139) (w_X12_makeMay hG H) rfl rfl (Nat.le_of_ble_eq_true rfl) (Nat.zero_le _) (Nat.zero_le _) rfl (k_Qv (fun s4 H => ?_))
      refine s_iconst (x := 0) (nx := 32) hO rfl (by decide) rfl ?_
      refine goK (H (fun (x5 : Int32) => xEx G mX12_certifyIt 33 [(0, .ref (q_b G + 139)), (2, .int y2), (3, .int x5)] [] (hS G s4) z 0 0 (yQi G z Q)) (fun x5 H => ?_)) (fun H => ?_)
      · show xEx G mX12_certifyIt 33 [(0, .ref (q_b G + 139)), (2, .int y2), (3, .int x5)] [] (hS G s4) z 0 0 (yQi G z Q)
        refine s_iload_n (nx := 34) hO rfl rfl rfl ?_
        refine s_aload_n (nx := 35) hO rfl rfl rfl ?_
        refine s_getf (v := .ref (q_b G + 178)) (nx := 38) hO rfl rfl (hs_o12 kc139) rfl rfl ?_
        refine s_iload_n (nx := 39) hO rfl rfl rfl ?_
        obtain ⟨b6, H⟩ := H
        refine s_iald (nx := 40) hO rfl (hs_I kc178) b6 rfl ?_
        refine s_icmp_ge (nx := 43) hO rfl rfl (fun c40 => ?_) (fun c40 => ?_)
        · replace H := H.1 c40
          refine s_iconst (x := 0) (nx := 219) hO rfl (by decide) rfl ?_
          exact s_iret hO rfl rfl rfl ⟨rfl, _, _, rfl, rfl, H⟩
        · replace H := H.2 c40
          refine s_iconst (x := 0) (nx := 44) hO rfl (by decide) rfl ?_
          refine goK (H (fun (x7 : Int32) => xEx G mX12_certifyIt 46 [(0, .ref (q_b G + 139)), (2, .int y2), (3, .int x5), (4, .int x7)] [] (hS G s4) z 0 0 (yQi G z Q)) (fun x7 H => ?_)) (fun H => ?_)
          · show xEx G mX12_certifyIt 46 [(0, .ref (q_b G + 139)), (2, .int y2), (3, .int x5), (4, .int x7)] [] (hS G s4) z 0 0 (yQi G z Q)
            refine s_iload (nx := 48) hO rfl rfl rfl ?_
            refine s_aload_n (nx := 49) hO rfl rfl rfl ?_
            refine s_getf (v := .ref (q_b G + 184)) (nx := 52) hO rfl rfl (hs_o12 kc139) rfl rfl ?_
            refine s_bipush (x := (nI 12)) (nx := 54) hO rfl (by decide) rfl ?_
            refine s_iload_n (nx := 55) hO rfl rfl rfl ?_
            refine s_imul (nx := 56) hO rfl rfl ?_
            refine s_iload_n (nx := 57) hO rfl rfl rfl ?_
            refine s_iadd (nx := 58) hO rfl rfl ?_
            obtain ⟨b8, H⟩ := H
            refine s_iald (nx := 59) hO rfl (hs_I kc184) b8 rfl ?_
            refine s_icmp_ge (nx := 62) hO rfl rfl (fun c59 => ?_) (fun c59 => ?_)
            · replace H := H.1 c59
              refine goV ((x5 + 1)) (fun x9 ex9 => ?_)
              replace H := H x9 ex9
              refine e_iinc (nx := 215) (l' := [(3, .int x9), (0, .ref (q_b G + 139)), (2, .int y2), (4, .int x7)]) ex9 hO rfl (by decide) rfl rfl rfl rfl ?_
              refine s_goto hO rfl ?_
              exact xEx.loc (x_sub1 (List.Mem.tail _ (List.Mem.head _)) (x_sub1 (List.Mem.tail _ (List.Mem.tail _ (List.Mem.head _))) (x_sub1 (List.Mem.head _) x_sub0))) H
            · replace H := H.2 c59
              refine s_sipush (x := (nI 4800)) (nx := 65) hO rfl (by decide) rfl ?_
              refine s_iload_n (nx := 66) hO rfl rfl rfl ?_
              refine s_imul (nx := 67) hO rfl rfl ?_
              refine s_sipush (x := (nI 400)) (nx := 70) hO rfl (by decide) rfl ?_
              refine s_iload_n (nx := 71) hO rfl rfl rfl ?_
              refine s_imul (nx := 72) hO rfl rfl ?_
              refine s_iadd (nx := 73) hO rfl rfl ?_
              refine s_iload (nx := 75) hO rfl rfl rfl ?_
              refine s_iadd (nx := 76) hO rfl rfl ?_
              refine goV (((((nI 4800) * y2) + ((nI 400) * x5)) + x7)) (fun x10 ex10 => ?_)
              replace H := H x10 ex10
              refine e_istore (nx := 78) (l' := [(5, .int x10), (0, .ref (q_b G + 139)), (2, .int y2), (3, .int x5), (4, .int x7)]) ex10 hO rfl (by decide) rfl rfl ?_
              refine s_iload (nx := 80) hO rfl rfl rfl ?_
              refine s_iconst (x := 1) (nx := 81) hO rfl (by decide) rfl ?_
              refine s_iadd (nx := 82) hO rfl rfl ?_
              refine s_aload_n (nx := 83) hO rfl rfl rfl ?_
              refine s_getf (v := .ref (q_b G + 184)) (nx := 86) hO rfl rfl (hs_o12 kc139) rfl rfl ?_
              refine s_bipush (x := (nI 12)) (nx := 88) hO rfl (by decide) rfl ?_
              refine s_iload_n (nx := 89) hO rfl rfl rfl ?_
              refine s_imul (nx := 90) hO rfl rfl ?_
              refine s_iload_n (nx := 91) hO rfl rfl rfl ?_
              refine s_iadd (nx := 92) hO rfl rfl ?_
              obtain ⟨b11, H⟩ := H
              refine s_iald (nx := 93) hO rfl (hs_I kc184) b11 rfl ?_
              refine goK (H (fun (y12 : Int32) => xEx G mX12_certifyIt 101 [(0, .ref (q_b G + 139)), (2, .int y2), (3, .int x5), (4, .int x7), (5, .int x10)] [.int y12] (hS G s4) z 0 0 (yQi G z Q)) (fun y12 H => ?_)) (fun H => ?_)
              · show xEx G mX12_certifyIt 101 [(0, .ref (q_b G + 139)), (2, .int y2), (3, .int x5), (4, .int x7), (5, .int x10)] [.int y12] (hS G s4) z 0 0 (yQi G z Q)
                refine s_istore (nx := 103) (l' := [(6, .int y12), (0, .ref (q_b G + 139)), (2, .int y2), (3, .int x5), (4, .int x7), (5, .int x10)]) hO rfl (by decide) rfl rfl ?_
                refine s_aload_n (nx := 104) hO rfl rfl rfl ?_
                refine s_getf (v := .ref (q_b G + 186)) (nx := 107) hO rfl rfl (hs_o12 kc139) rfl rfl ?_
                refine s_iload (nx := 109) hO rfl rfl rfl ?_
                obtain ⟨b13, H⟩ := H
                refine s_iald (nx := 110) hO rfl (hs_I kc186) b13 rfl ?_
                refine s_bipush (x := (nI 29)) (nx := 112) hO rfl (by decide) rfl ?_
                refine goK (H (fun (y14 : Int32) => xEx G mX12_certifyIt 166 [(0, .ref (q_b G + 139)), (2, .int y2), (3, .int x5), (4, .int x7)] [.int y14] (hS G s4) z 0 0 (yQi G z Q)) (fun y14 H => ?_)) (fun H => ?_)
                · show xEx G mX12_certifyIt 166 [(0, .ref (q_b G + 139)), (2, .int y2), (3, .int x5), (4, .int x7)] [.int y14] (hS G s4) z 0 0 (yQi G z Q)
                  refine s_istore (nx := 168) (l' := [(7, .int y14), (0, .ref (q_b G + 139)), (2, .int y2), (3, .int x5), (4, .int x7)]) hO rfl (by decide) rfl rfl ?_
                  refine s_iload (nx := 170) hO rfl rfl rfl ?_
                  refine s_if_ne (nx := 173) hO rfl rfl (fun c170 => ?_) (fun c170 => ?_)
                  · replace H := H.1 c170
                    refine s_iconst (x := 1) (nx := 196) hO rfl (by decide) rfl ?_
                    refine s_sipush (x := (nI 512)) (nx := 199) hO rfl (by decide) rfl ?_
                    refine s_iload_n (nx := 200) hO rfl rfl rfl ?_
                    refine s_imul (nx := 201) hO rfl rfl ?_
                    refine s_iadd (nx := 202) hO rfl rfl ?_
                    refine s_iload (nx := 204) hO rfl rfl rfl ?_
                    refine s_iadd (nx := 205) hO rfl rfl ?_
                    exact s_iret hO rfl rfl rfl ⟨rfl, _, _, rfl, rfl, H⟩
                  · replace H := H.2 c170
                    refine s_aload_n (nx := 174) hO rfl rfl rfl ?_
                    refine s_iload_n (nx := 175) hO rfl rfl rfl ?_
                    refine s_iload_n (nx := 176) hO rfl rfl rfl ?_
                    refine s_iload (nx := 178) hO rfl rfl rfl ?_
                    refine s_callV [.int y2, .int x5, .int x7] (ci := 12) (F := TX12) (N := 116) (nx := 181) hO rfl kX12_certifyIt_598 (by rw [hcl]; rfl) (hs_o12 kc139) (w_X12_needs hG H) rfl rfl (Nat.le_of_ble_eq_true rfl) (Nat.zero_le _) (Nat.zero_le _) rfl (k_Pi (fun r15 H => ?_))
                    refine goK (H (xEx G mX12_certifyIt 206 [(0, .ref (q_b G + 139)), (2, .int y2), (3, .int x5), (4, .int x7)] [] (hS G s4) z 0 0 (yQi G z Q)) (fun H => ?_)) (fun H => ?_)
                    · show xEx G mX12_certifyIt 206 [(0, .ref (q_b G + 139)), (2, .int y2), (3, .int x5), (4, .int x7)] [] (hS G s4) z 0 0 (yQi G z Q)
                      refine goV ((x7 + 1)) (fun x16 ex16 => ?_)
                      replace H := H x16 ex16
                      refine e_iinc (nx := 209) (l' := [(4, .int x16), (0, .ref (q_b G + 139)), (2, .int y2), (3, .int x5)]) ex16 hO rfl (by decide) rfl rfl rfl rfl ?_
                      refine s_goto hO rfl ?_
                      exact xEx.loc (x_sub1 (List.Mem.tail _ (List.Mem.head _)) (x_sub1 (List.Mem.tail _ (List.Mem.tail _ (List.Mem.head _))) (x_sub1 (List.Mem.tail _ (List.Mem.tail _ (List.Mem.tail _ (List.Mem.head _)))) (x_sub1 (List.Mem.head _) x_sub0)))) H
                    refine s_if_eq (nx := 184) hO rfl rfl (fun c181 => ?_) (fun c181 => ?_)
                    · replace H := H.1 c181
                      exact xEx.loc (x_sub1 (List.Mem.tail _ (List.Mem.head _)) (x_sub1 (List.Mem.tail _ (List.Mem.tail _ (List.Mem.head _))) (x_sub1 (List.Mem.tail _ (List.Mem.tail _ (List.Mem.tail _ (List.Mem.head _)))) (x_sub1 (List.Mem.tail _ (List.Mem.tail _ (List.Mem.tail _ (List.Mem.tail _ (List.Mem.head _))))) x_sub0)))) H
                    · replace H := H.2 c181
                      refine s_aload_n (nx := 185) hO rfl rfl rfl ?_
                      refine s_iload_n (nx := 186) hO rfl rfl rfl ?_
                      refine s_iload_n (nx := 187) hO rfl rfl rfl ?_
                      refine s_iload (nx := 189) hO rfl rfl rfl ?_
                      refine s_callV [.int y2, .int x5, .int x7] (ci := 12) (F := TX12) (N := 116) (nx := 192) hO rfl kX12_certifyIt_585 (by rw [hcl]; rfl) (hs_o12 kc139) (w_X12_isGuarded hG H) rfl rfl (Nat.le_of_ble_eq_true rfl) (Nat.zero_le _) (Nat.zero_le _) rfl (k_Pi (fun r17 H => ?_))
                      refine s_if_ne (nx := 195) hO rfl rfl (fun c192 => ?_) (fun c192 => ?_)
                      · replace H := H.1 c192
                        exact xEx.loc (x_sub1 (List.Mem.tail _ (List.Mem.head _)) (x_sub1 (List.Mem.tail _ (List.Mem.tail _ (List.Mem.head _))) (x_sub1 (List.Mem.tail _ (List.Mem.tail _ (List.Mem.tail _ (List.Mem.head _)))) (x_sub1 (List.Mem.tail _ (List.Mem.tail _ (List.Mem.tail _ (List.Mem.tail _ (List.Mem.head _))))) x_sub0)))) H
                      · replace H := H.2 c192
                        refine s_iconst (x := 1) (nx := 196) hO rfl (by decide) rfl ?_
                        refine s_sipush (x := (nI 512)) (nx := 199) hO rfl (by decide) rfl ?_
                        refine s_iload_n (nx := 200) hO rfl rfl rfl ?_
                        refine s_imul (nx := 201) hO rfl rfl ?_
                        refine s_iadd (nx := 202) hO rfl rfl ?_
                        refine s_iload (nx := 204) hO rfl rfl rfl ?_
                        refine s_iadd (nx := 205) hO rfl rfl ?_
                        exact s_iret hO rfl rfl rfl ⟨rfl, _, _, rfl, rfl, H⟩
                refine s_icmp_ne (nx := 115) hO rfl rfl (fun c112 => ?_) (fun c112 => ?_)
                · replace H := H.1 c112
                  refine s_iconst (x := 0) (nx := 166) hO rfl (by decide) rfl ?_
                  exact xEx.loc (x_sub1 (List.Mem.tail _ (List.Mem.head _)) (x_sub1 (List.Mem.tail _ (List.Mem.tail _ (List.Mem.head _))) (x_sub1 (List.Mem.tail _ (List.Mem.tail _ (List.Mem.tail _ (List.Mem.head _)))) (x_sub1 (List.Mem.tail _ (List.Mem.tail _ (List.Mem.tail _ (List.Mem.tail _ (List.Mem.head _))))) x_sub0)))) H
                · replace H := H.2 c112
                  refine s_iload (nx := 117) hO rfl rfl rfl ?_
                  refine s_if_ne (nx := 120) hO rfl rfl (fun c117 => ?_) (fun c117 => ?_)
                  · replace H := H.1 c117
                    refine s_iconst (x := 1) (nx := 162) hO rfl (by decide) rfl ?_
                    refine s_goto hO rfl ?_
                    exact xEx.loc (x_sub1 (List.Mem.tail _ (List.Mem.head _)) (x_sub1 (List.Mem.tail _ (List.Mem.tail _ (List.Mem.head _))) (x_sub1 (List.Mem.tail _ (List.Mem.tail _ (List.Mem.tail _ (List.Mem.head _)))) (x_sub1 (List.Mem.tail _ (List.Mem.tail _ (List.Mem.tail _ (List.Mem.tail _ (List.Mem.head _))))) x_sub0)))) H
                  · replace H := H.2 c117
                    refine s_aload_n (nx := 121) hO rfl rfl rfl ?_
                    refine s_getf (v := .ref (q_b G + 187)) (nx := 124) hO rfl rfl (hs_o12 kc139) rfl rfl ?_
                    refine s_iload (nx := 126) hO rfl rfl rfl ?_
                    refine s_iload (nx := 128) hO rfl rfl rfl ?_
                    refine goK (H (fun (y18 : Int32) => xEx G mX12_certifyIt 136 [(0, .ref (q_b G + 139)), (2, .int y2), (3, .int x5), (4, .int x7), (5, .int x10)] [.int y18, .int x10, .ref (q_b G + 187)] (hS G s4) z 0 0 (yQi G z Q)) (fun y18 H => ?_)) (fun H => ?_)
                    · show xEx G mX12_certifyIt 136 [(0, .ref (q_b G + 139)), (2, .int y2), (3, .int x5), (4, .int x7), (5, .int x10)] [.int y18, .int x10, .ref (q_b G + 187)] (hS G s4) z 0 0 (yQi G z Q)
                      refine s_iadd (nx := 137) hO rfl rfl ?_
                      obtain ⟨b19, H⟩ := H
                      refine s_iald (nx := 138) hO rfl (hs_I kc187) b19 rfl ?_
                      refine s_aload_n (nx := 139) hO rfl rfl rfl ?_
                      refine s_getf (v := .ref (q_b G + 187)) (nx := 142) hO rfl rfl (hs_o12 kc139) rfl rfl ?_
                      refine s_iload (nx := 144) hO rfl rfl rfl ?_
                      obtain ⟨b20, H⟩ := H
                      refine s_iald (nx := 145) hO rfl (hs_I kc187) b20 rfl ?_
                      refine s_icmp_ne (nx := 148) hO rfl rfl (fun c145 => ?_) (fun c145 => ?_)
                      · replace H := H.1 c145
                        refine s_iconst (x := 1) (nx := 162) hO rfl (by decide) rfl ?_
                        refine s_goto hO rfl ?_
                        exact xEx.loc (x_sub1 (List.Mem.head _) (x_sub1 (List.Mem.tail _ (List.Mem.head _)) (x_sub1 (List.Mem.tail _ (List.Mem.tail _ (List.Mem.head _))) (x_sub1 (List.Mem.tail _ (List.Mem.tail _ (List.Mem.tail _ (List.Mem.head _)))) x_sub0)))) H
                      · replace H := H.2 c145
                        refine s_aload_n (nx := 149) hO rfl rfl rfl ?_
                        refine s_iload_n (nx := 150) hO rfl rfl rfl ?_
                        refine s_iload_n (nx := 151) hO rfl rfl rfl ?_
                        refine s_iload (nx := 153) hO rfl rfl rfl ?_
                        refine s_iconst (x := 1) (nx := 154) hO rfl (by decide) rfl ?_
                        refine s_iadd (nx := 155) hO rfl rfl ?_
                        refine s_callV [.int y2, .int x5, .int (x7 + 1)] (ci := 12) (F := TX12) (N := 116) (nx := 158) hO rfl kX12_certifyIt_585 (by rw [hcl]; rfl) (hs_o12 kc139) (w_X12_isGuarded hG H) rfl rfl (Nat.le_of_ble_eq_true rfl) (Nat.zero_le _) (Nat.zero_le _) rfl (k_Pi (fun r21 H => ?_))
                        refine s_if_ne (nx := 161) hO rfl rfl (fun c158 => ?_) (fun c158 => ?_)
                        · replace H := H.1 c158
                          refine s_iconst (x := 0) (nx := 166) hO rfl (by decide) rfl ?_
                          exact xEx.loc (x_sub1 (List.Mem.head _) (x_sub1 (List.Mem.tail _ (List.Mem.head _)) (x_sub1 (List.Mem.tail _ (List.Mem.tail _ (List.Mem.head _))) (x_sub1 (List.Mem.tail _ (List.Mem.tail _ (List.Mem.tail _ (List.Mem.head _)))) x_sub0)))) H
                        · replace H := H.2 c158
                          refine s_iconst (x := 1) (nx := 162) hO rfl (by decide) rfl ?_
                          refine s_goto hO rfl ?_
                          exact xEx.loc (x_sub1 (List.Mem.head _) (x_sub1 (List.Mem.tail _ (List.Mem.head _)) (x_sub1 (List.Mem.tail _ (List.Mem.tail _ (List.Mem.head _))) (x_sub1 (List.Mem.tail _ (List.Mem.tail _ (List.Mem.tail _ (List.Mem.head _)))) x_sub0)))) H
                    refine s_if_eq (nx := 131) hO rfl rfl (fun c128 => ?_) (fun c128 => ?_)
                    · replace H := H.1 c128
                      refine s_iconst (x := 1) (nx := 136) hO rfl (by decide) rfl ?_
                      exact xEx.loc (x_sub1 (List.Mem.tail _ (List.Mem.head _)) (x_sub1 (List.Mem.tail _ (List.Mem.tail _ (List.Mem.head _))) (x_sub1 (List.Mem.tail _ (List.Mem.tail _ (List.Mem.tail _ (List.Mem.head _)))) (x_sub1 (List.Mem.tail _ (List.Mem.tail _ (List.Mem.tail _ (List.Mem.tail _ (List.Mem.head _))))) (x_sub1 (List.Mem.tail _ (List.Mem.tail _ (List.Mem.tail _ (List.Mem.tail _ (List.Mem.tail _ (List.Mem.head _)))))) x_sub0))))) H
                    · replace H := H.2 c128
                      refine s_iconst (x := 0) (nx := 132) hO rfl (by decide) rfl ?_
                      refine s_goto hO rfl ?_
                      exact xEx.loc (x_sub1 (List.Mem.tail _ (List.Mem.head _)) (x_sub1 (List.Mem.tail _ (List.Mem.tail _ (List.Mem.head _))) (x_sub1 (List.Mem.tail _ (List.Mem.tail _ (List.Mem.tail _ (List.Mem.head _)))) (x_sub1 (List.Mem.tail _ (List.Mem.tail _ (List.Mem.tail _ (List.Mem.tail _ (List.Mem.head _))))) (x_sub1 (List.Mem.tail _ (List.Mem.tail _ (List.Mem.tail _ (List.Mem.tail _ (List.Mem.tail _ (List.Mem.head _)))))) x_sub0))))) H
              refine s_icmp_ne (nx := 96) hO rfl rfl (fun c93 => ?_) (fun c93 => ?_)
              · replace H := H.1 c93
                refine s_iconst (x := 0) (nx := 101) hO rfl (by decide) rfl ?_
                exact xEx.loc (x_sub1 (List.Mem.tail _ (List.Mem.head _)) (x_sub1 (List.Mem.tail _ (List.Mem.tail _ (List.Mem.head _))) (x_sub1 (List.Mem.tail _ (List.Mem.tail _ (List.Mem.tail _ (List.Mem.head _)))) (x_sub1 (List.Mem.tail _ (List.Mem.tail _ (List.Mem.tail _ (List.Mem.tail _ (List.Mem.head _))))) (x_sub1 (List.Mem.head _) x_sub0))))) H
              · replace H := H.2 c93
                refine s_iconst (x := 1) (nx := 97) hO rfl (by decide) rfl ?_
                refine s_goto hO rfl ?_
                exact xEx.loc (x_sub1 (List.Mem.tail _ (List.Mem.head _)) (x_sub1 (List.Mem.tail _ (List.Mem.tail _ (List.Mem.head _))) (x_sub1 (List.Mem.tail _ (List.Mem.tail _ (List.Mem.tail _ (List.Mem.head _)))) (x_sub1 (List.Mem.tail _ (List.Mem.tail _ (List.Mem.tail _ (List.Mem.tail _ (List.Mem.head _))))) (x_sub1 (List.Mem.head _) x_sub0))))) H
          refine s_istore (nx := 46) (l' := [(4, .int 0), (0, .ref (q_b G + 139)), (2, .int y2), (3, .int x5)]) hO rfl (by decide) rfl rfl ?_
          exact xEx.loc (x_sub1 (List.Mem.tail _ (List.Mem.head _)) (x_sub1 (List.Mem.tail _ (List.Mem.tail _ (List.Mem.head _))) (x_sub1 (List.Mem.tail _ (List.Mem.tail _ (List.Mem.tail _ (List.Mem.head _)))) (x_sub1 (List.Mem.head _) x_sub0)))) H
      refine s_istore_n (nx := 33) (l' := [(3, .int 0), (2, .int y2), (0, .ref (q_b G + 139))]) hO rfl (by decide) rfl rfl ?_
      exact xEx.loc (x_sub1 (List.Mem.tail _ (List.Mem.tail _ (List.Mem.head _))) (x_sub1 (List.Mem.tail _ (List.Mem.head _)) (x_sub1 (List.Mem.head _) x_sub0))) H
    · replace H := H.2 c21
      refine s_iconst (x := (-1)) (nx := 25) hO rfl (by decide) rfl ?_
      exact s_iret hO rfl rfl rfl ⟨rfl, _, _, rfl, rfl, H⟩
  refine s_if_eq (nx := 9) hO rfl rfl (fun c6 => ?_) (fun c6 => ?_)
  · replace H := H.1 c6
    refine s_iconst (x := 0) (nx := 14) hO rfl (by decide) rfl ?_
    exact xEx.loc (x_sub1 (List.Mem.head _) x_sub0) H
  · replace H := H.2 c6
    refine s_iconst (x := 1) (nx := 10) hO rfl (by decide) rfl ?_
    refine s_goto hO rfl ?_
    exact xEx.loc (x_sub1 (List.Mem.head _) x_sub0) H
def W_X12_behind (s : yS) (v1 : Int32) (Q : Int32 → Prop) : Prop :=
 ((¬ v1 = 0 → ∀ P24 : Prop, ((((v1 = (nI 4) → Q 1)
   ∧ (¬ v1 = (nI 4) → ((v1 = (nI 5) → Q 1)
    ∧ (¬ v1 = (nI 5) → ((v1 = (nI 25) → Q 1)
     ∧ (¬ v1 = (nI 25) → ((v1 = (nI 26) → Q 1)
      ∧ (¬ v1 = (nI 26) → ((¬ v1 = (nI 29) → Q 0)
       ∧ (v1 = (nI 29) → Q 1))))))))))) → P24) → 
  ((v1 ≤ (nI 17) → P24)
  ∧ (¬ v1 ≤ (nI 17) → (((nI 21) ≤ v1 → P24)
   ∧ (¬ (nI 21) ≤ v1 → Q (nI 2))))))
 ∧ (v1 = 0 → Q (nI 4)))
set_option maxRecDepth 100000 in
set_option maxHeartbeats 40000000 in
theorem w_X12_behind {G : xG} (hG : yG G) {z : Nat} {s : yS} {v1 : Int32} {Q : Int32 → Prop} (H : W_X12_behind s v1 Q) : xC G mX12_behind [.int v1] (hS G s) z 0 0 (yPi G z s Q) := by
  have hW := hG.1
  have hcl := hG.2.1
  have hty := hG.2.2.1
  have hO : xO G mX12_behind tbX12_behind ptX12_behind := ⟨tkX12_behind, pkX12_behind hcl⟩
  unfold W_X12_behind at H
  refine xC.of hW (by decide) rfl (Nat.le_of_ble_eq_true rfl) ?_
  refine s_iload_n (nx := 1) hO rfl rfl rfl ?_
  refine s_if_ne (nx := 4) hO rfl rfl (fun c1 => ?_) (fun c1 => ?_)
  · replace H := H.1 c1
    refine s_iload_n (nx := 9) hO rfl rfl rfl ?_
    refine s_bipush (x := (nI 17)) (nx := 11) hO rfl (by decide) rfl ?_
    refine goK (H (xEx G mX12_behind 24 [(0, .int v1)] [] (hS G s) z 0 0 (yPi G z s Q)) (fun H => ?_)) (fun H => ?_)
    · show xEx G mX12_behind 24 [(0, .int v1)] [] (hS G s) z 0 0 (yPi G z s Q)
      refine s_iload_n (nx := 25) hO rfl rfl rfl ?_
      refine s_iconst (x := (nI 4)) (nx := 26) hO rfl (by decide) rfl ?_
      refine s_icmp_eq (nx := 29) hO rfl rfl (fun c26 => ?_) (fun c26 => ?_)
      · replace H := H.1 c26
        refine s_iconst (x := 1) (nx := 53) hO rfl (by decide) rfl ?_
        refine s_goto hO rfl ?_
        exact s_iret hO rfl rfl rfl ⟨rfl, _, rfl, rfl, H⟩
      · replace H := H.2 c26
        refine s_iload_n (nx := 30) hO rfl rfl rfl ?_
        refine s_iconst (x := (nI 5)) (nx := 31) hO rfl (by decide) rfl ?_
        refine s_icmp_eq (nx := 34) hO rfl rfl (fun c31 => ?_) (fun c31 => ?_)
        · replace H := H.1 c31
          refine s_iconst (x := 1) (nx := 53) hO rfl (by decide) rfl ?_
          refine s_goto hO rfl ?_
          exact s_iret hO rfl rfl rfl ⟨rfl, _, rfl, rfl, H⟩
        · replace H := H.2 c31
          refine s_iload_n (nx := 35) hO rfl rfl rfl ?_
          refine s_bipush (x := (nI 25)) (nx := 37) hO rfl (by decide) rfl ?_
          refine s_icmp_eq (nx := 40) hO rfl rfl (fun c37 => ?_) (fun c37 => ?_)
          · replace H := H.1 c37
            refine s_iconst (x := 1) (nx := 53) hO rfl (by decide) rfl ?_
            refine s_goto hO rfl ?_
            exact s_iret hO rfl rfl rfl ⟨rfl, _, rfl, rfl, H⟩
          · replace H := H.2 c37
            refine s_iload_n (nx := 41) hO rfl rfl rfl ?_
            refine s_bipush (x := (nI 26)) (nx := 43) hO rfl (by decide) rfl ?_
            refine s_icmp_eq (nx := 46) hO rfl rfl (fun c43 => ?_) (fun c43 => ?_)
            · replace H := H.1 c43
              refine s_iconst (x := 1) (nx := 53) hO rfl (by decide) rfl ?_
              refine s_goto hO rfl ?_
              exact s_iret hO rfl rfl rfl ⟨rfl, _, rfl, rfl, H⟩
            · replace H := H.2 c43
              refine s_iload_n (nx := 47) hO rfl rfl rfl ?_
              refine s_bipush (x := (nI 29)) (nx := 49) hO rfl (by decide) rfl ?_
              refine s_icmp_ne (nx := 52) hO rfl rfl (fun c49 => ?_) (fun c49 => ?_)
              · replace H := H.1 c49
                refine s_iconst (x := 0) (nx := 57) hO rfl (by decide) rfl ?_
                exact s_iret hO rfl rfl rfl ⟨rfl, _, rfl, rfl, H⟩
              · replace H := H.2 c49
                refine s_iconst (x := 1) (nx := 53) hO rfl (by decide) rfl ?_
                refine s_goto hO rfl ?_
                exact s_iret hO rfl rfl rfl ⟨rfl, _, rfl, rfl, H⟩
    refine s_icmp_le (nx := 14) hO rfl rfl (fun c11 => ?_) (fun c11 => ?_)
    · replace H := H.1 c11
      exact xEx.loc (x_sub1 (List.Mem.head _) x_sub0) H
    · replace H := H.2 c11
      refine s_iload_n (nx := 15) hO rfl rfl rfl ?_
      refine s_bipush (x := (nI 21)) (nx := 17) hO rfl (by decide) rfl ?_
      refine s_icmp_ge (nx := 20) hO rfl rfl (fun c17 => ?_) (fun c17 => ?_)
      · replace H := H.1 c17
        exact xEx.loc (x_sub1 (List.Mem.head _) x_sub0) H
      · replace H := H.2 c17
        refine s_iconst (x := (nI 2)) (nx := 21) hO rfl (by decide) rfl ?_
        refine s_goto hO rfl ?_
        exact s_iret hO rfl rfl rfl ⟨rfl, _, rfl, rfl, H⟩
  · replace H := H.2 c1
    refine s_iconst (x := (nI 4)) (nx := 5) hO rfl (by decide) rfl ?_
    refine s_goto hO rfl ?_
    exact s_iret hO rfl rfl rfl ⟨rfl, _, rfl, rfl, H⟩
def W_X12_sizeOf (s : yS) (v1 : Int32) (Q : Int32 → Prop) : Prop :=
 ∀ P4 : Int32 → Int32 → Prop, (∀ (x1 : Int32) (x2 : Int32), (vp_in v1 3 ∧ 
  (((sI s 178 (ix v1)) ≤ x2 → Q x1)
  ∧ (¬ (sI s 178 (ix v1)) ≤ x2 → ∀ x4 : Int32, x4 = (x1 + (nI 8)) → 
   ∀ P20 : Int32 → Int32 → Prop, (∀ (x5 : Int32) (x6 : Int32), (vp_in (((nI 12) * v1) + x2) 36 ∧ 
    (((sI s 184 (ix (((nI 12) * v1) + x2))) ≤ x6 → ∀ P80 : Int32 → Int32 → Prop, (∀ (x8 : Int32) (x9 : Int32), (vp_in (((nI 12) * v1) + x2) 36 ∧ 
      ((((((nI 72) * v1) + ((nI 6) * x2)) + (sI s 185 (ix (((nI 12) * v1) + x2)))) ≤ x9 → ∀ x11 : Int32, x11 = (x2 + 1) → 
       P4 x8 x11)
      ∧ (¬ ((((nI 72) * v1) + ((nI 6) * x2)) + (sI s 185 (ix (((nI 12) * v1) + x2)))) ≤ x9 → vp_in x9 216 ∧ 
       ∀ P124 : Int32 → Prop, (∀ (y13 : Int32), (∀ x14 : Int32, x14 = (x8 + y13) → 
        ∀ x15 : Int32, x15 = (x9 + 1) → 
        P80 x14 x15) → P124 y13) → 
       (((sI s 191 (ix x9)) = 0 → P124 (nI 11))
       ∧ (¬ (sI s 191 (ix x9)) = 0 → P124 (nI 7)))))) → P80 x8 x9) → 
     ∀ x16 : Int32, x16 = (((nI 72) * v1) + ((nI 6) * x2)) → 
     P80 x5 x16)
    ∧ (¬ (sI s 184 (ix (((nI 12) * v1) + x2))) ≤ x6 → vp_in ((((nI 4800) * v1) + ((nI 400) * x2)) + x6) 14400 ∧ 
     W_X12_behind s (sI s 186 (ix ((((nI 4800) * v1) + ((nI 400) * x2)) + x6))) 
     (fun r18 => ∀ x19 : Int32, x19 = (x5 + (1 + r18)) → 
     ∀ x20 : Int32, x20 = (x6 + 1) → 
     P20 x19 x20)))) → P20 x5 x6) → 
   P20 x4 0))) → P4 x1 x2) → 
 P4 (nI 4) 0
set_option maxRecDepth 100000 in
set_option maxHeartbeats 40000000 in
theorem w_X12_sizeOf {G : xG} (hG : yG G) {z : Nat} {s : yS} {v1 : Int32} {Q : Int32 → Prop} (H : W_X12_sizeOf s v1 Q) : xC G mX12_sizeOf [.ref (q_b G + 139), .int v1] (hS G s) z 0 0 (yPi G z s Q) := by
  have hW := hG.1
  have hcl := hG.2.1
  have hty := hG.2.2.1
  have hO : xO G mX12_sizeOf tbX12_sizeOf ptX12_sizeOf := ⟨tkX12_sizeOf, pkX12_sizeOf hcl⟩
  unfold W_X12_sizeOf at H
  refine xC.of hW (by decide) rfl (Nat.le_of_ble_eq_true rfl) ?_
  refine s_iconst (x := (nI 4)) (nx := 1) hO rfl (by decide) rfl ?_
  refine s_istore_n (nx := 2) (l' := [(2, .int (nI 4)), (0, .ref (q_b G + 139)), (1, .int v1)]) hO rfl (by decide) rfl rfl ?_
  refine s_iconst (x := 0) (nx := 3) hO rfl (by decide) rfl ?_
  refine goK (H (fun (x1 : Int32) (x2 : Int32) => xEx G mX12_sizeOf 4 [(0, .ref (q_b G + 139)), (1, .int v1), (2, .int x1), (3, .int x2)] [] (hS G s) z 0 0 (yPi G z s Q)) (fun x1 x2 H => ?_)) (fun H => ?_)
  · show xEx G mX12_sizeOf 4 [(0, .ref (q_b G + 139)), (1, .int v1), (2, .int x1), (3, .int x2)] [] (hS G s) z 0 0 (yPi G z s Q)
    refine s_iload_n (nx := 5) hO rfl rfl rfl ?_
    refine s_aload_n (nx := 6) hO rfl rfl rfl ?_
    refine s_getf (v := .ref (q_b G + 178)) (nx := 9) hO rfl rfl (hs_o12 kc139) rfl rfl ?_
    refine s_iload_n (nx := 10) hO rfl rfl rfl ?_
    obtain ⟨b3, H⟩ := H
    refine s_iald (nx := 11) hO rfl (hs_I kc178) b3 rfl ?_
    refine s_icmp_ge (nx := 14) hO rfl rfl (fun c11 => ?_) (fun c11 => ?_)
    · replace H := H.1 c11
      refine s_iload_n (nx := 139) hO rfl rfl rfl ?_
      exact s_iret hO rfl rfl rfl ⟨rfl, _, rfl, rfl, H⟩
    · replace H := H.2 c11
      refine goV ((x1 + (nI 8))) (fun x4 ex4 => ?_)
      replace H := H x4 ex4
      refine e_iinc (nx := 17) (l' := [(2, .int x4), (0, .ref (q_b G + 139)), (1, .int v1), (3, .int x2)]) ex4 hO rfl (by decide) rfl rfl rfl rfl ?_
      refine s_iconst (x := 0) (nx := 18) hO rfl (by decide) rfl ?_
      refine goK (H (fun (x5 : Int32) (x6 : Int32) => xEx G mX12_sizeOf 20 [(0, .ref (q_b G + 139)), (1, .int v1), (2, .int x5), (3, .int x2), (4, .int x6)] [] (hS G s) z 0 0 (yPi G z s Q)) (fun x5 x6 H => ?_)) (fun H => ?_)
      · show xEx G mX12_sizeOf 20 [(0, .ref (q_b G + 139)), (1, .int v1), (2, .int x5), (3, .int x2), (4, .int x6)] [] (hS G s) z 0 0 (yPi G z s Q)
        refine s_iload (nx := 22) hO rfl rfl rfl ?_
        refine s_aload_n (nx := 23) hO rfl rfl rfl ?_
        refine s_getf (v := .ref (q_b G + 184)) (nx := 26) hO rfl rfl (hs_o12 kc139) rfl rfl ?_
        refine s_bipush (x := (nI 12)) (nx := 28) hO rfl (by decide) rfl ?_
        refine s_iload_n (nx := 29) hO rfl rfl rfl ?_
        refine s_imul (nx := 30) hO rfl rfl ?_
        refine s_iload_n (nx := 31) hO rfl rfl rfl ?_
        refine s_iadd (nx := 32) hO rfl rfl ?_
        obtain ⟨b7, H⟩ := H
        refine s_iald (nx := 33) hO rfl (hs_I kc184) b7 rfl ?_
        refine s_icmp_ge (nx := 36) hO rfl rfl (fun c33 => ?_) (fun c33 => ?_)
        · replace H := H.1 c33
          refine s_bipush (x := (nI 72)) (nx := 71) hO rfl (by decide) rfl ?_
          refine s_iload_n (nx := 72) hO rfl rfl rfl ?_
          refine s_imul (nx := 73) hO rfl rfl ?_
          refine s_bipush (x := (nI 6)) (nx := 75) hO rfl (by decide) rfl ?_
          refine s_iload_n (nx := 76) hO rfl rfl rfl ?_
          refine s_imul (nx := 77) hO rfl rfl ?_
          refine s_iadd (nx := 78) hO rfl rfl ?_
          refine goK (H (fun (x8 : Int32) (x9 : Int32) => xEx G mX12_sizeOf 80 [(0, .ref (q_b G + 139)), (1, .int v1), (2, .int x8), (3, .int x2), (4, .int x9)] [] (hS G s) z 0 0 (yPi G z s Q)) (fun x8 x9 H => ?_)) (fun H => ?_)
          · show xEx G mX12_sizeOf 80 [(0, .ref (q_b G + 139)), (1, .int v1), (2, .int x8), (3, .int x2), (4, .int x9)] [] (hS G s) z 0 0 (yPi G z s Q)
            refine s_iload (nx := 82) hO rfl rfl rfl ?_
            refine s_bipush (x := (nI 72)) (nx := 84) hO rfl (by decide) rfl ?_
            refine s_iload_n (nx := 85) hO rfl rfl rfl ?_
            refine s_imul (nx := 86) hO rfl rfl ?_
            refine s_bipush (x := (nI 6)) (nx := 88) hO rfl (by decide) rfl ?_
            refine s_iload_n (nx := 89) hO rfl rfl rfl ?_
            refine s_imul (nx := 90) hO rfl rfl ?_
            refine s_iadd (nx := 91) hO rfl rfl ?_
            refine s_aload_n (nx := 92) hO rfl rfl rfl ?_
            refine s_getf (v := .ref (q_b G + 185)) (nx := 95) hO rfl rfl (hs_o12 kc139) rfl rfl ?_
            refine s_bipush (x := (nI 12)) (nx := 97) hO rfl (by decide) rfl ?_
            refine s_iload_n (nx := 98) hO rfl rfl rfl ?_
            refine s_imul (nx := 99) hO rfl rfl ?_
            refine s_iload_n (nx := 100) hO rfl rfl rfl ?_
            refine s_iadd (nx := 101) hO rfl rfl ?_
            obtain ⟨b10, H⟩ := H
            refine s_iald (nx := 102) hO rfl (hs_I kc185) b10 rfl ?_
            refine s_iadd (nx := 103) hO rfl rfl ?_
            refine s_icmp_ge (nx := 106) hO rfl rfl (fun c103 => ?_) (fun c103 => ?_)
            · replace H := H.1 c103
              refine goV ((x2 + 1)) (fun x11 ex11 => ?_)
              replace H := H x11 ex11
              refine e_iinc (nx := 135) (l' := [(3, .int x11), (0, .ref (q_b G + 139)), (1, .int v1), (2, .int x8), (4, .int x9)]) ex11 hO rfl (by decide) rfl rfl rfl rfl ?_
              refine s_goto hO rfl ?_
              exact xEx.loc (x_sub1 (List.Mem.tail _ (List.Mem.head _)) (x_sub1 (List.Mem.tail _ (List.Mem.tail _ (List.Mem.head _))) (x_sub1 (List.Mem.tail _ (List.Mem.tail _ (List.Mem.tail _ (List.Mem.head _)))) (x_sub1 (List.Mem.head _) x_sub0)))) H
            · replace H := H.2 c103
              refine s_iload_n (nx := 107) hO rfl rfl rfl ?_
              refine s_aload_n (nx := 108) hO rfl rfl rfl ?_
              refine s_getf (v := .ref (q_b G + 191)) (nx := 111) hO rfl rfl (hs_o12 kc139) rfl rfl ?_
              refine s_iload (nx := 113) hO rfl rfl rfl ?_
              obtain ⟨b12, H⟩ := H
              refine s_zald (nx := 114) hO rfl (hs_Z kc191) b12 rfl ?_
              refine goK (H (fun (y13 : Int32) => xEx G mX12_sizeOf 124 [(0, .ref (q_b G + 139)), (1, .int v1), (3, .int x2), (4, .int x9)] [.int y13, .int x8] (hS G s) z 0 0 (yPi G z s Q)) (fun y13 H => ?_)) (fun H => ?_)
              · show xEx G mX12_sizeOf 124 [(0, .ref (q_b G + 139)), (1, .int v1), (3, .int x2), (4, .int x9)] [.int y13, .int x8] (hS G s) z 0 0 (yPi G z s Q)
                refine s_iadd (nx := 125) hO rfl rfl ?_
                refine goV ((x8 + y13)) (fun x14 ex14 => ?_)
                replace H := H x14 ex14
                refine e_istore_n (nx := 126) (l' := [(2, .int x14), (0, .ref (q_b G + 139)), (1, .int v1), (3, .int x2), (4, .int x9)]) ex14 hO rfl (by decide) rfl rfl ?_
                refine goV ((x9 + 1)) (fun x15 ex15 => ?_)
                replace H := H x15 ex15
                refine e_iinc (nx := 129) (l' := [(4, .int x15), (2, .int x14), (0, .ref (q_b G + 139)), (1, .int v1), (3, .int x2)]) ex15 hO rfl (by decide) rfl rfl rfl rfl ?_
                refine s_goto hO rfl ?_
                exact xEx.loc (x_sub1 (List.Mem.tail _ (List.Mem.tail _ (List.Mem.head _))) (x_sub1 (List.Mem.tail _ (List.Mem.tail _ (List.Mem.tail _ (List.Mem.head _)))) (x_sub1 (List.Mem.tail _ (List.Mem.head _)) (x_sub1 (List.Mem.tail _ (List.Mem.tail _ (List.Mem.tail _ (List.Mem.tail _ (List.Mem.head _))))) (x_sub1 (List.Mem.head _) x_sub0))))) H
              refine s_if_eq (nx := 117) hO rfl rfl (fun c114 => ?_) (fun c114 => ?_)
              · replace H := H.1 c114
                refine s_bipush (x := (nI 11)) (nx := 124) hO rfl (by decide) rfl ?_
                exact xEx.loc (x_sub1 (List.Mem.head _) (x_sub1 (List.Mem.tail _ (List.Mem.head _)) (x_sub1 (List.Mem.tail _ (List.Mem.tail _ (List.Mem.tail _ (List.Mem.head _)))) (x_sub1 (List.Mem.tail _ (List.Mem.tail _ (List.Mem.tail _ (List.Mem.tail _ (List.Mem.head _))))) x_sub0)))) H
              · replace H := H.2 c114
                refine s_bipush (x := (nI 7)) (nx := 119) hO rfl (by decide) rfl ?_
                refine s_goto hO rfl ?_
                exact xEx.loc (x_sub1 (List.Mem.head _) (x_sub1 (List.Mem.tail _ (List.Mem.head _)) (x_sub1 (List.Mem.tail _ (List.Mem.tail _ (List.Mem.tail _ (List.Mem.head _)))) (x_sub1 (List.Mem.tail _ (List.Mem.tail _ (List.Mem.tail _ (List.Mem.tail _ (List.Mem.head _))))) x_sub0)))) H
          refine goV ((((nI 72) * v1) + ((nI 6) * x2))) (fun x16 ex16 => ?_)
          replace H := H x16 ex16
          refine e_istore (nx := 80) (l' := [(4, .int x16), (0, .ref (q_b G + 139)), (1, .int v1), (2, .int x5), (3, .int x2)]) ex16 hO rfl (by decide) rfl rfl ?_
          exact xEx.loc (x_sub1 (List.Mem.tail _ (List.Mem.head _)) (x_sub1 (List.Mem.tail _ (List.Mem.tail _ (List.Mem.head _))) (x_sub1 (List.Mem.tail _ (List.Mem.tail _ (List.Mem.tail _ (List.Mem.head _)))) (x_sub1 (List.Mem.tail _ (List.Mem.tail _ (List.Mem.tail _ (List.Mem.tail _ (List.Mem.head _))))) (x_sub1 (List.Mem.head _) x_sub0))))) H
        · replace H := H.2 c33
          refine s_iload_n (nx := 37) hO rfl rfl rfl ?_
          refine s_iconst (x := 1) (nx := 38) hO rfl (by decide) rfl ?_
          refine s_aload_n (nx := 39) hO rfl rfl rfl ?_
          refine s_getf (v := .ref (q_b G + 186)) (nx := 42) hO rfl rfl (hs_o12 kc139) rfl rfl ?_
          refine s_sipush (x := (nI 4800)) (nx := 45) hO rfl (by decide) rfl ?_
          refine s_iload_n (nx := 46) hO rfl rfl rfl ?_
          refine s_imul (nx := 47) hO rfl rfl ?_
          refine s_sipush (x := (nI 400)) (nx := 50) hO rfl (by decide) rfl ?_
          refine s_iload_n (nx := 51) hO rfl rfl rfl ?_
          refine s_imul (nx := 52) hO rfl rfl ?_
          refine s_iadd (nx := 53) hO rfl rfl ?_
          refine s_iload (nx := 55) hO rfl rfl rfl ?_
          refine s_iadd (nx := 56) hO rfl rfl ?_
          obtain ⟨b17, H⟩ := H
          refine s_iald (nx := 57) hO rfl (hs_I kc186) b17 rfl ?_
          refine s_callS [.int (sI s 186 (ix ((((nI 4800) * v1) + ((nI 400) * x2)) + x6)))] (nx := 60) hO rfl kX12_sizeOf_607 (w_X12_behind hG H) rfl rfl (Nat.le_of_ble_eq_true rfl) (Nat.zero_le _) (Nat.zero_le _) rfl (k_Pi (fun r18 H => ?_))
          refine s_iadd (nx := 61) hO rfl rfl ?_
          refine s_iadd (nx := 62) hO rfl rfl ?_
          refine goV ((x5 + (1 + r18))) (fun x19 ex19 => ?_)
          replace H := H x19 ex19
          refine e_istore_n (nx := 63) (l' := [(2, .int x19), (0, .ref (q_b G + 139)), (1, .int v1), (3, .int x2), (4, .int x6)]) ex19 hO rfl (by decide) rfl rfl ?_
          refine goV ((x6 + 1)) (fun x20 ex20 => ?_)
          replace H := H x20 ex20
          refine e_iinc (nx := 66) (l' := [(4, .int x20), (2, .int x19), (0, .ref (q_b G + 139)), (1, .int v1), (3, .int x2)]) ex20 hO rfl (by decide) rfl rfl rfl rfl ?_
          refine s_goto hO rfl ?_
          exact xEx.loc (x_sub1 (List.Mem.tail _ (List.Mem.tail _ (List.Mem.head _))) (x_sub1 (List.Mem.tail _ (List.Mem.tail _ (List.Mem.tail _ (List.Mem.head _)))) (x_sub1 (List.Mem.tail _ (List.Mem.head _)) (x_sub1 (List.Mem.tail _ (List.Mem.tail _ (List.Mem.tail _ (List.Mem.tail _ (List.Mem.head _))))) (x_sub1 (List.Mem.head _) x_sub0))))) H
      refine s_istore (nx := 20) (l' := [(4, .int 0), (2, .int x4), (0, .ref (q_b G + 139)), (1, .int v1), (3, .int x2)]) hO rfl (by decide) rfl rfl ?_
      exact xEx.loc (x_sub1 (List.Mem.tail _ (List.Mem.tail _ (List.Mem.head _))) (x_sub1 (List.Mem.tail _ (List.Mem.tail _ (List.Mem.tail _ (List.Mem.head _)))) (x_sub1 (List.Mem.tail _ (List.Mem.head _)) (x_sub1 (List.Mem.tail _ (List.Mem.tail _ (List.Mem.tail _ (List.Mem.tail _ (List.Mem.head _))))) (x_sub1 (List.Mem.head _) x_sub0))))) H
  refine s_istore_n (nx := 4) (l' := [(3, .int 0), (2, .int (nI 4)), (0, .ref (q_b G + 139)), (1, .int v1)]) hO rfl (by decide) rfl rfl ?_
  exact xEx.loc (x_sub1 (List.Mem.tail _ (List.Mem.tail _ (List.Mem.head _))) (x_sub1 (List.Mem.tail _ (List.Mem.tail _ (List.Mem.tail _ (List.Mem.head _)))) (x_sub1 (List.Mem.tail _ (List.Mem.head _)) (x_sub1 (List.Mem.head _) x_sub0)))) H
def W_X12_forge (s : yS) (v1 : Int32) (Q : Int32 → yS → Prop) : Prop :=
 ∀ P4 : Int32 → Int32 → yS → Prop, (∀ (x1 : Int32) (x2 : Int32) (s3 : yS), (vp_in v1 36 ∧ 
  (((sI s3 184 (ix v1)) ≤ x2 → vp_in v1 36 ∧ 
   vp_in (sI s3 184 (ix v1)) 401 ∧ ∀ s7 : yS, s7 = wI s3 203 (ix (sI s3 184 (ix v1))) x1 → 
   vp_in ((nI 12) + v1) 36 ∧ ∀ s9 : yS, s9 = wI s7 184 (ix ((nI 12) + v1)) x1 → 
   ∀ P69 : Int32 → yS → Prop, (∀ (x10 : Int32) (s11 : yS), (vp_in v1 36 ∧ 
    (((sI s11 184 (ix v1)) ≤ x10 → ∀ P214 : Int32 → yS → Prop, (∀ (x13 : Int32) (s14 : yS), (vp_in v1 36 ∧ 
      (((((nI 6) * v1) + (sI s14 185 (ix v1))) ≤ x13 → vp_in v1 36 ∧ 
       Q (x1 - (sI s14 184 (ix v1))) s14)
      ∧ (¬ (((nI 6) * v1) + (sI s14 185 (ix v1))) ≤ x13 → vp_in x13 216 ∧ 
       vp_in (sI s14 188 (ix x13)) 401 ∧ 
       vp_in ((nI 72) + x13) 216 ∧ ∀ s20 : yS, s20 = wI s14 188 (ix ((nI 72) + x13)) (sI s14 203 (ix (sI s14 188 (ix x13)))) → 
       vp_in x13 216 ∧ 
       vp_in (sI s20 189 (ix x13)) 401 ∧ 
       vp_in ((nI 72) + x13) 216 ∧ ∀ s24 : yS, s24 = wI s20 189 (ix ((nI 72) + x13)) (sI s20 203 (ix (sI s20 189 (ix x13)))) → 
       vp_in x13 216 ∧ 
       vp_in (sI s24 190 (ix x13)) 401 ∧ 
       vp_in ((nI 72) + x13) 216 ∧ ∀ s28 : yS, s28 = wI s24 190 (ix ((nI 72) + x13)) (sI s24 203 (ix (sI s24 190 (ix x13)))) → 
       ∀ x29 : Int32, x29 = (x13 + 1) → 
       P214 x29 s28))) → P214 x13 s14) → 
     ∀ x30 : Int32, x30 = ((nI 6) * v1) → 
     P214 x30 s11)
    ∧ (¬ (sI s11 184 (ix v1)) ≤ x10 → ∀ x31 : Int32, x31 = (((nI 400) * v1) + x10) → 
     vp_in x10 401 ∧ 
     ∀ x33 : Int32, x33 = (((nI 4800) + ((nI 400) * v1)) + (sI s11 203 (ix x10))) → 
     W_X12_needs s11 0 v1 x10 
     (fun r34 => ∀ P142 : Int32 → yS → Prop, (∀ (x35 : Int32) (s36 : yS), (vp_in x31 14400 ∧ 
      ∀ x38 : Int32, x38 = (sI s36 186 (ix x31)) → 
      vp_in x35 14400 ∧ ∀ s40 : yS, s40 = wI s36 186 (ix x35) x38 → 
      ∀ P202 : Int32 → Prop, (∀ (y41 : Int32), (vp_in x35 14400 ∧ ∀ s43 : yS, s43 = wI s40 187 (ix x35) y41 → 
       ∀ x44 : Int32, x44 = (x10 + 1) → 
       P69 x44 s43) → P202 y41) → 
      ∀ P195 : Prop, ((vp_in x31 14400 ∧ 
       P202 (sI s40 187 (ix x31))) → P195) → 
      ((x38 ≤ (nI 17) → P195)
      ∧ (¬ x38 ≤ (nI 17) → (((nI 21) ≤ x38 → P195)
       ∧ (¬ (nI 21) ≤ x38 → vp_in x31 14400 ∧ 
        vp_in (sI s40 187 (ix x31)) 401 ∧ 
        P202 (sI s40 203 (ix (sI s40 187 (ix x31))))))))) → P142 x35 s36) → 
     ((r34 = 0 → P142 x33 s11)
     ∧ (¬ r34 = 0 → vp_in x33 14400 ∧ ∀ s49 : yS, s49 = wI s11 186 (ix x33) (nI 29) → 
      vp_in x31 14400 ∧ 
      vp_in x33 14400 ∧ ∀ s52 : yS, s52 = wI s49 187 (ix x33) (sI s49 187 (ix x31)) → 
      ∀ x53 : Int32, x53 = (x33 + 1) → 
      P142 x53 s52)))))) → P69 x10 s11) → 
   P69 0 s9)
  ∧ (¬ (sI s3 184 (ix v1)) ≤ x2 → vp_in x2 401 ∧ ∀ s55 : yS, s55 = wI s3 203 (ix x2) x1 → 
   W_X12_needs s55 0 v1 x2 
   (fun r56 => ∀ P37 : Int32 → Prop, (∀ (y57 : Int32), (∀ x58 : Int32, x58 = (x1 + y57) → 
    ∀ x59 : Int32, x59 = (x2 + 1) → 
    P4 x58 x59 s55) → P37 y57) → 
   ((r56 = 0 → P37 1)
   ∧ (¬ r56 = 0 → P37 (nI 2))))))) → P4 x1 x2 s3) → 
 P4 0 0 s
set_option maxRecDepth 100000 in
set_option maxHeartbeats 40000000 in
theorem w_X12_forge {G : xG} (hG : yG G) {z : Nat} {s : yS} {v1 : Int32} {Q : Int32 → yS → Prop} (H : W_X12_forge s v1 Q) : xC G mX12_forge [.ref (q_b G + 139), .int v1] (hS G s) z 0 0 (yQi G z Q) := by
  have hW := hG.1
  have hcl := hG.2.1
  have hty := hG.2.2.1
  have hO : xO G mX12_forge tbX12_forge ptX12_forge := ⟨tkX12_forge, pkX12_forge hcl⟩
  unfold W_X12_forge at H
  refine xC.of hW (by decide) rfl (Nat.le_of_ble_eq_true rfl) ?_
  refine s_iconst (x := 0) (nx := 1) hO rfl (by decide) rfl ?_
  refine s_istore_n (nx := 2) (l' := [(2, .int 0), (0, .ref (q_b G + 139)), (1, .int v1)]) hO rfl (by decide) rfl rfl ?_
  refine s_iconst (x := 0) (nx := 3) hO rfl (by decide) rfl ?_
  refine goK (H (fun (x1 : Int32) (x2 : Int32) (s3 : yS) => xEx G mX12_forge 4 [(0, .ref (q_b G + 139)), (1, .int v1), (2, .int x1), (3, .int x2)] [] (hS G s3) z 0 0 (yQi G z Q)) (fun x1 x2 s3 H => ?_)) (fun H => ?_)
  · show xEx G mX12_forge 4 [(0, .ref (q_b G + 139)), (1, .int v1), (2, .int x1), (3, .int x2)] [] (hS G s3) z 0 0 (yQi G z Q)
    refine s_iload_n (nx := 5) hO rfl rfl rfl ?_
    refine s_aload_n (nx := 6) hO rfl rfl rfl ?_
    refine s_getf (v := .ref (q_b G + 184)) (nx := 9) hO rfl rfl (hs_o12 kc139) rfl rfl ?_
    refine s_iload_n (nx := 10) hO rfl rfl rfl ?_
    obtain ⟨b4, H⟩ := H
    refine s_iald (nx := 11) hO rfl (hs_I kc184) b4 rfl ?_
    refine s_icmp_ge (nx := 14) hO rfl rfl (fun c11 => ?_) (fun c11 => ?_)
    · replace H := H.1 c11
      refine s_aload_n (nx := 46) hO rfl rfl rfl ?_
      refine s_getf (v := .ref (q_b G + 203)) (nx := 49) hO rfl rfl (hs_o12 kc139) rfl rfl ?_
      refine s_aload_n (nx := 50) hO rfl rfl rfl ?_
      refine s_getf (v := .ref (q_b G + 184)) (nx := 53) hO rfl rfl (hs_o12 kc139) rfl rfl ?_
      refine s_iload_n (nx := 54) hO rfl rfl rfl ?_
      obtain ⟨b5, H⟩ := H
      refine s_iald (nx := 55) hO rfl (hs_I kc184) b5 rfl ?_
      refine s_iload_n (nx := 56) hO rfl rfl rfl ?_
      obtain ⟨b6, H⟩ := H
      refine goV (wI s3 203 (ix (sI s3 184 (ix v1))) x1) (fun s7 es7 => ?_)
      replace H := H s7 es7
      refine s_iast (nx := 57) hO rfl (hs_I kc203) b6 rfl ?_
      refine xEx.at (up_I kc203 es7) ?_
      refine s_aload_n (nx := 58) hO rfl rfl rfl ?_
      refine s_getf (v := .ref (q_b G + 184)) (nx := 61) hO rfl rfl (hs_o12 kc139) rfl rfl ?_
      refine s_bipush (x := (nI 12)) (nx := 63) hO rfl (by decide) rfl ?_
      refine s_iload_n (nx := 64) hO rfl rfl rfl ?_
      refine s_iadd (nx := 65) hO rfl rfl ?_
      refine s_iload_n (nx := 66) hO rfl rfl rfl ?_
      obtain ⟨b8, H⟩ := H
      refine goV (wI s7 184 (ix ((nI 12) + v1)) x1) (fun s9 es9 => ?_)
      replace H := H s9 es9
      refine s_iast (nx := 67) hO rfl (hs_I kc184) b8 rfl ?_
      refine xEx.at (up_I kc184 es9) ?_
      refine s_iconst (x := 0) (nx := 68) hO rfl (by decide) rfl ?_
      refine goK (H (fun (x10 : Int32) (s11 : yS) => xEx G mX12_forge 69 [(0, .ref (q_b G + 139)), (1, .int v1), (2, .int x1), (3, .int x10)] [] (hS G s11) z 0 0 (yQi G z Q)) (fun x10 s11 H => ?_)) (fun H => ?_)
      · show xEx G mX12_forge 69 [(0, .ref (q_b G + 139)), (1, .int v1), (2, .int x1), (3, .int x10)] [] (hS G s11) z 0 0 (yQi G z Q)
        refine s_iload_n (nx := 70) hO rfl rfl rfl ?_
        refine s_aload_n (nx := 71) hO rfl rfl rfl ?_
        refine s_getf (v := .ref (q_b G + 184)) (nx := 74) hO rfl rfl (hs_o12 kc139) rfl rfl ?_
        refine s_iload_n (nx := 75) hO rfl rfl rfl ?_
        obtain ⟨b12, H⟩ := H
        refine s_iald (nx := 76) hO rfl (hs_I kc184) b12 rfl ?_
        refine s_icmp_ge (nx := 79) hO rfl rfl (fun c76 => ?_) (fun c76 => ?_)
        · replace H := H.1 c76
          refine s_bipush (x := (nI 6)) (nx := 211) hO rfl (by decide) rfl ?_
          refine s_iload_n (nx := 212) hO rfl rfl rfl ?_
          refine s_imul (nx := 213) hO rfl rfl ?_
          refine goK (H (fun (x13 : Int32) (s14 : yS) => xEx G mX12_forge 214 [(0, .ref (q_b G + 139)), (1, .int v1), (2, .int x1), (3, .int x13)] [] (hS G s14) z 0 0 (yQi G z Q)) (fun x13 s14 H => ?_)) (fun H => ?_)
          · show xEx G mX12_forge 214 [(0, .ref (q_b G + 139)), (1, .int v1), (2, .int x1), (3, .int x13)] [] (hS G s14) z 0 0 (yQi G z Q)
            refine s_iload_n (nx := 215) hO rfl rfl rfl ?_
            refine s_bipush (x := (nI 6)) (nx := 217) hO rfl (by decide) rfl ?_
            refine s_iload_n (nx := 218) hO rfl rfl rfl ?_
            refine s_imul (nx := 219) hO rfl rfl ?_
            refine s_aload_n (nx := 220) hO rfl rfl rfl ?_
            refine s_getf (v := .ref (q_b G + 185)) (nx := 223) hO rfl rfl (hs_o12 kc139) rfl rfl ?_
            refine s_iload_n (nx := 224) hO rfl rfl rfl ?_
            obtain ⟨b15, H⟩ := H
            refine s_iald (nx := 225) hO rfl (hs_I kc185) b15 rfl ?_
            refine s_iadd (nx := 226) hO rfl rfl ?_
            refine s_icmp_ge (nx := 229) hO rfl rfl (fun c226 => ?_) (fun c226 => ?_)
            · replace H := H.1 c226
              refine s_iload_n (nx := 296) hO rfl rfl rfl ?_
              refine s_aload_n (nx := 297) hO rfl rfl rfl ?_
              refine s_getf (v := .ref (q_b G + 184)) (nx := 300) hO rfl rfl (hs_o12 kc139) rfl rfl ?_
              refine s_iload_n (nx := 301) hO rfl rfl rfl ?_
              obtain ⟨b16, H⟩ := H
              refine s_iald (nx := 302) hO rfl (hs_I kc184) b16 rfl ?_
              refine s_isub (nx := 303) hO rfl rfl ?_
              exact s_iret hO rfl rfl rfl ⟨rfl, _, _, rfl, rfl, H⟩
            · replace H := H.2 c226
              refine s_aload_n (nx := 230) hO rfl rfl rfl ?_
              refine s_getf (v := .ref (q_b G + 188)) (nx := 233) hO rfl rfl (hs_o12 kc139) rfl rfl ?_
              refine s_bipush (x := (nI 72)) (nx := 235) hO rfl (by decide) rfl ?_
              refine s_iload_n (nx := 236) hO rfl rfl rfl ?_
              refine s_iadd (nx := 237) hO rfl rfl ?_
              refine s_aload_n (nx := 238) hO rfl rfl rfl ?_
              refine s_getf (v := .ref (q_b G + 203)) (nx := 241) hO rfl rfl (hs_o12 kc139) rfl rfl ?_
              refine s_aload_n (nx := 242) hO rfl rfl rfl ?_
              refine s_getf (v := .ref (q_b G + 188)) (nx := 245) hO rfl rfl (hs_o12 kc139) rfl rfl ?_
              refine s_iload_n (nx := 246) hO rfl rfl rfl ?_
              obtain ⟨b17, H⟩ := H
              refine s_iald (nx := 247) hO rfl (hs_I kc188) b17 rfl ?_
              obtain ⟨b18, H⟩ := H
              refine s_iald (nx := 248) hO rfl (hs_I kc203) b18 rfl ?_
              obtain ⟨b19, H⟩ := H
              refine goV (wI s14 188 (ix ((nI 72) + x13)) (sI s14 203 (ix (sI s14 188 (ix x13))))) (fun s20 es20 => ?_)
              replace H := H s20 es20
              refine s_iast (nx := 249) hO rfl (hs_I kc188) b19 rfl ?_
              refine xEx.at (up_I kc188 es20) ?_
              refine s_aload_n (nx := 250) hO rfl rfl rfl ?_
              refine s_getf (v := .ref (q_b G + 189)) (nx := 253) hO rfl rfl (hs_o12 kc139) rfl rfl ?_
              refine s_bipush (x := (nI 72)) (nx := 255) hO rfl (by decide) rfl ?_
              refine s_iload_n (nx := 256) hO rfl rfl rfl ?_
              refine s_iadd (nx := 257) hO rfl rfl ?_
              refine s_aload_n (nx := 258) hO rfl rfl rfl ?_
              refine s_getf (v := .ref (q_b G + 203)) (nx := 261) hO rfl rfl (hs_o12 kc139) rfl rfl ?_
              refine s_aload_n (nx := 262) hO rfl rfl rfl ?_
              refine s_getf (v := .ref (q_b G + 189)) (nx := 265) hO rfl rfl (hs_o12 kc139) rfl rfl ?_
              refine s_iload_n (nx := 266) hO rfl rfl rfl ?_
              obtain ⟨b21, H⟩ := H
              refine s_iald (nx := 267) hO rfl (hs_I kc189) b21 rfl ?_
              obtain ⟨b22, H⟩ := H
              refine s_iald (nx := 268) hO rfl (hs_I kc203) b22 rfl ?_
              obtain ⟨b23, H⟩ := H
              refine goV (wI s20 189 (ix ((nI 72) + x13)) (sI s20 203 (ix (sI s20 189 (ix x13))))) (fun s24 es24 => ?_)
              replace H := H s24 es24
              refine s_iast (nx := 269) hO rfl (hs_I kc189) b23 rfl ?_
              refine xEx.at (up_I kc189 es24) ?_
              refine s_aload_n (nx := 270) hO rfl rfl rfl ?_
              refine s_getf (v := .ref (q_b G + 190)) (nx := 273) hO rfl rfl (hs_o12 kc139) rfl rfl ?_
              refine s_bipush (x := (nI 72)) (nx := 275) hO rfl (by decide) rfl ?_
              refine s_iload_n (nx := 276) hO rfl rfl rfl ?_
              refine s_iadd (nx := 277) hO rfl rfl ?_
              refine s_aload_n (nx := 278) hO rfl rfl rfl ?_
              refine s_getf (v := .ref (q_b G + 203)) (nx := 281) hO rfl rfl (hs_o12 kc139) rfl rfl ?_
              refine s_aload_n (nx := 282) hO rfl rfl rfl ?_
              refine s_getf (v := .ref (q_b G + 190)) (nx := 285) hO rfl rfl (hs_o12 kc139) rfl rfl ?_
              refine s_iload_n (nx := 286) hO rfl rfl rfl ?_
              obtain ⟨b25, H⟩ := H
              refine s_iald (nx := 287) hO rfl (hs_I kc190) b25 rfl ?_
              obtain ⟨b26, H⟩ := H
              refine s_iald (nx := 288) hO rfl (hs_I kc203) b26 rfl ?_
              obtain ⟨b27, H⟩ := H
              refine goV (wI s24 190 (ix ((nI 72) + x13)) (sI s24 203 (ix (sI s24 190 (ix x13))))) (fun s28 es28 => ?_)
              replace H := H s28 es28
              refine s_iast (nx := 289) hO rfl (hs_I kc190) b27 rfl ?_
              refine xEx.at (up_I kc190 es28) ?_
              refine goV ((x13 + 1)) (fun x29 ex29 => ?_)
              replace H := H x29 ex29
              refine e_iinc (nx := 292) (l' := [(3, .int x29), (0, .ref (q_b G + 139)), (1, .int v1), (2, .int x1)]) ex29 hO rfl (by decide) rfl rfl rfl rfl ?_
              refine s_goto hO rfl ?_
              exact xEx.loc (x_sub1 (List.Mem.tail _ (List.Mem.head _)) (x_sub1 (List.Mem.tail _ (List.Mem.tail _ (List.Mem.head _))) (x_sub1 (List.Mem.tail _ (List.Mem.tail _ (List.Mem.tail _ (List.Mem.head _)))) (x_sub1 (List.Mem.head _) x_sub0)))) H
          refine goV (((nI 6) * v1)) (fun x30 ex30 => ?_)
          replace H := H x30 ex30
          refine e_istore_n (nx := 214) (l' := [(3, .int x30), (0, .ref (q_b G + 139)), (1, .int v1), (2, .int x1)]) ex30 hO rfl (by decide) rfl rfl ?_
          exact xEx.loc (x_sub1 (List.Mem.tail _ (List.Mem.head _)) (x_sub1 (List.Mem.tail _ (List.Mem.tail _ (List.Mem.head _))) (x_sub1 (List.Mem.tail _ (List.Mem.tail _ (List.Mem.tail _ (List.Mem.head _)))) (x_sub1 (List.Mem.head _) x_sub0)))) H
        · replace H := H.2 c76
          refine s_sipush (x := (nI 400)) (nx := 82) hO rfl (by decide) rfl ?_
          refine s_iload_n (nx := 83) hO rfl rfl rfl ?_
          refine s_imul (nx := 84) hO rfl rfl ?_
          refine s_iload_n (nx := 85) hO rfl rfl rfl ?_
          refine s_iadd (nx := 86) hO rfl rfl ?_
          refine goV ((((nI 400) * v1) + x10)) (fun x31 ex31 => ?_)
          replace H := H x31 ex31
          refine e_istore (nx := 88) (l' := [(4, .int x31), (0, .ref (q_b G + 139)), (1, .int v1), (2, .int x1), (3, .int x10)]) ex31 hO rfl (by decide) rfl rfl ?_
          refine s_sipush (x := (nI 4800)) (nx := 91) hO rfl (by decide) rfl ?_
          refine s_sipush (x := (nI 400)) (nx := 94) hO rfl (by decide) rfl ?_
          refine s_iload_n (nx := 95) hO rfl rfl rfl ?_
          refine s_imul (nx := 96) hO rfl rfl ?_
          refine s_iadd (nx := 97) hO rfl rfl ?_
          refine s_aload_n (nx := 98) hO rfl rfl rfl ?_
          refine s_getf (v := .ref (q_b G + 203)) (nx := 101) hO rfl rfl (hs_o12 kc139) rfl rfl ?_
          refine s_iload_n (nx := 102) hO rfl rfl rfl ?_
          obtain ⟨b32, H⟩ := H
          refine s_iald (nx := 103) hO rfl (hs_I kc203) b32 rfl ?_
          refine s_iadd (nx := 104) hO rfl rfl ?_
          refine goV ((((nI 4800) + ((nI 400) * v1)) + (sI s11 203 (ix x10)))) (fun x33 ex33 => ?_)
          replace H := H x33 ex33
          refine e_istore (nx := 106) (l' := [(5, .int x33), (4, .int x31), (0, .ref (q_b G + 139)), (1, .int v1), (2, .int x1), (3, .int x10)]) ex33 hO rfl (by decide) rfl rfl ?_
          refine s_aload_n (nx := 107) hO rfl rfl rfl ?_
          refine s_iconst (x := 0) (nx := 108) hO rfl (by decide) rfl ?_
          refine s_iload_n (nx := 109) hO rfl rfl rfl ?_
          refine s_iload_n (nx := 110) hO rfl rfl rfl ?_
          refine s_callV [.int 0, .int v1, .int x10] (ci := 12) (F := TX12) (N := 116) (nx := 113) hO rfl kX12_forge_598 (by rw [hcl]; rfl) (hs_o12 kc139) (w_X12_needs hG H) rfl rfl (Nat.le_of_ble_eq_true rfl) (Nat.zero_le _) (Nat.zero_le _) rfl (k_Pi (fun r34 H => ?_))
          refine goK (H (fun (x35 : Int32) (s36 : yS) => xEx G mX12_forge 142 [(0, .ref (q_b G + 139)), (1, .int v1), (2, .int x1), (3, .int x10), (4, .int x31), (5, .int x35)] [] (hS G s36) z 0 0 (yQi G z Q)) (fun x35 s36 H => ?_)) (fun H => ?_)
          · show xEx G mX12_forge 142 [(0, .ref (q_b G + 139)), (1, .int v1), (2, .int x1), (3, .int x10), (4, .int x31), (5, .int x35)] [] (hS G s36) z 0 0 (yQi G z Q)
            refine s_aload_n (nx := 143) hO rfl rfl rfl ?_
            refine s_getf (v := .ref (q_b G + 186)) (nx := 146) hO rfl rfl (hs_o12 kc139) rfl rfl ?_
            refine s_iload (nx := 148) hO rfl rfl rfl ?_
            obtain ⟨b37, H⟩ := H
            refine s_iald (nx := 149) hO rfl (hs_I kc186) b37 rfl ?_
            refine goV ((sI s36 186 (ix x31))) (fun x38 ex38 => ?_)
            replace H := H x38 ex38
            refine e_istore (nx := 151) (l' := [(6, .int x38), (0, .ref (q_b G + 139)), (1, .int v1), (2, .int x1), (3, .int x10), (4, .int x31), (5, .int x35)]) ex38 hO rfl (by decide) rfl rfl ?_
            refine s_aload_n (nx := 152) hO rfl rfl rfl ?_
            refine s_getf (v := .ref (q_b G + 186)) (nx := 155) hO rfl rfl (hs_o12 kc139) rfl rfl ?_
            refine s_iload (nx := 157) hO rfl rfl rfl ?_
            refine s_iload (nx := 159) hO rfl rfl rfl ?_
            obtain ⟨b39, H⟩ := H
            refine goV (wI s36 186 (ix x35) x38) (fun s40 es40 => ?_)
            replace H := H s40 es40
            refine s_iast (nx := 160) hO rfl (hs_I kc186) b39 rfl ?_
            refine xEx.at (up_I kc186 es40) ?_
            refine s_aload_n (nx := 161) hO rfl rfl rfl ?_
            refine s_getf (v := .ref (q_b G + 187)) (nx := 164) hO rfl rfl (hs_o12 kc139) rfl rfl ?_
            refine s_iload (nx := 166) hO rfl rfl rfl ?_
            refine s_iload (nx := 168) hO rfl rfl rfl ?_
            refine s_bipush (x := (nI 17)) (nx := 170) hO rfl (by decide) rfl ?_
            refine goK (H (fun (y41 : Int32) => xEx G mX12_forge 202 [(0, .ref (q_b G + 139)), (1, .int v1), (2, .int x1), (3, .int x10)] [.int y41, .int x35, .ref (q_b G + 187)] (hS G s40) z 0 0 (yQi G z Q)) (fun y41 H => ?_)) (fun H => ?_)
            · show xEx G mX12_forge 202 [(0, .ref (q_b G + 139)), (1, .int v1), (2, .int x1), (3, .int x10)] [.int y41, .int x35, .ref (q_b G + 187)] (hS G s40) z 0 0 (yQi G z Q)
              obtain ⟨b42, H⟩ := H
              refine goV (wI s40 187 (ix x35) y41) (fun s43 es43 => ?_)
              replace H := H s43 es43
              refine s_iast (nx := 203) hO rfl (hs_I kc187) b42 rfl ?_
              refine xEx.at (up_I kc187 es43) ?_
              refine goV ((x10 + 1)) (fun x44 ex44 => ?_)
              replace H := H x44 ex44
              refine e_iinc (nx := 206) (l' := [(3, .int x44), (0, .ref (q_b G + 139)), (1, .int v1), (2, .int x1)]) ex44 hO rfl (by decide) rfl rfl rfl rfl ?_
              refine s_goto hO rfl ?_
              exact xEx.loc (x_sub1 (List.Mem.tail _ (List.Mem.head _)) (x_sub1 (List.Mem.tail _ (List.Mem.tail _ (List.Mem.head _))) (x_sub1 (List.Mem.tail _ (List.Mem.tail _ (List.Mem.tail _ (List.Mem.head _)))) (x_sub1 (List.Mem.head _) x_sub0)))) H
            refine goK (H (xEx G mX12_forge 195 [(0, .ref (q_b G + 139)), (1, .int v1), (2, .int x1), (3, .int x10), (4, .int x31)] [.int x35, .ref (q_b G + 187)] (hS G s40) z 0 0 (yQi G z Q)) (fun H => ?_)) (fun H => ?_)
            · show xEx G mX12_forge 195 [(0, .ref (q_b G + 139)), (1, .int v1), (2, .int x1), (3, .int x10), (4, .int x31)] [.int x35, .ref (q_b G + 187)] (hS G s40) z 0 0 (yQi G z Q)
              refine s_aload_n (nx := 196) hO rfl rfl rfl ?_
              refine s_getf (v := .ref (q_b G + 187)) (nx := 199) hO rfl rfl (hs_o12 kc139) rfl rfl ?_
              refine s_iload (nx := 201) hO rfl rfl rfl ?_
              obtain ⟨b45, H⟩ := H
              refine s_iald (nx := 202) hO rfl (hs_I kc187) b45 rfl ?_
              exact xEx.loc (x_sub1 (List.Mem.head _) (x_sub1 (List.Mem.tail _ (List.Mem.head _)) (x_sub1 (List.Mem.tail _ (List.Mem.tail _ (List.Mem.head _))) (x_sub1 (List.Mem.tail _ (List.Mem.tail _ (List.Mem.tail _ (List.Mem.head _)))) x_sub0)))) H
            refine s_icmp_le (nx := 173) hO rfl rfl (fun c170 => ?_) (fun c170 => ?_)
            · replace H := H.1 c170
              exact xEx.loc (x_sub1 (List.Mem.tail _ (List.Mem.head _)) (x_sub1 (List.Mem.tail _ (List.Mem.tail _ (List.Mem.head _))) (x_sub1 (List.Mem.tail _ (List.Mem.tail _ (List.Mem.tail _ (List.Mem.head _)))) (x_sub1 (List.Mem.tail _ (List.Mem.tail _ (List.Mem.tail _ (List.Mem.tail _ (List.Mem.head _))))) (x_sub1 (List.Mem.tail _ (List.Mem.tail _ (List.Mem.tail _ (List.Mem.tail _ (List.Mem.tail _ (List.Mem.head _)))))) x_sub0))))) H
            · replace H := H.2 c170
              refine s_iload (nx := 175) hO rfl rfl rfl ?_
              refine s_bipush (x := (nI 21)) (nx := 177) hO rfl (by decide) rfl ?_
              refine s_icmp_ge (nx := 180) hO rfl rfl (fun c177 => ?_) (fun c177 => ?_)
              · replace H := H.1 c177
                exact xEx.loc (x_sub1 (List.Mem.tail _ (List.Mem.head _)) (x_sub1 (List.Mem.tail _ (List.Mem.tail _ (List.Mem.head _))) (x_sub1 (List.Mem.tail _ (List.Mem.tail _ (List.Mem.tail _ (List.Mem.head _)))) (x_sub1 (List.Mem.tail _ (List.Mem.tail _ (List.Mem.tail _ (List.Mem.tail _ (List.Mem.head _))))) (x_sub1 (List.Mem.tail _ (List.Mem.tail _ (List.Mem.tail _ (List.Mem.tail _ (List.Mem.tail _ (List.Mem.head _)))))) x_sub0))))) H
              · replace H := H.2 c177
                refine s_aload_n (nx := 181) hO rfl rfl rfl ?_
                refine s_getf (v := .ref (q_b G + 203)) (nx := 184) hO rfl rfl (hs_o12 kc139) rfl rfl ?_
                refine s_aload_n (nx := 185) hO rfl rfl rfl ?_
                refine s_getf (v := .ref (q_b G + 187)) (nx := 188) hO rfl rfl (hs_o12 kc139) rfl rfl ?_
                refine s_iload (nx := 190) hO rfl rfl rfl ?_
                obtain ⟨b46, H⟩ := H
                refine s_iald (nx := 191) hO rfl (hs_I kc187) b46 rfl ?_
                obtain ⟨b47, H⟩ := H
                refine s_iald (nx := 192) hO rfl (hs_I kc203) b47 rfl ?_
                refine s_goto hO rfl ?_
                exact xEx.loc (x_sub1 (List.Mem.tail _ (List.Mem.head _)) (x_sub1 (List.Mem.tail _ (List.Mem.tail _ (List.Mem.head _))) (x_sub1 (List.Mem.tail _ (List.Mem.tail _ (List.Mem.tail _ (List.Mem.head _)))) (x_sub1 (List.Mem.tail _ (List.Mem.tail _ (List.Mem.tail _ (List.Mem.tail _ (List.Mem.head _))))) x_sub0)))) H
          refine s_if_eq (nx := 116) hO rfl rfl (fun c113 => ?_) (fun c113 => ?_)
          · replace H := H.1 c113
            exact xEx.loc (x_sub1 (List.Mem.tail _ (List.Mem.tail _ (List.Mem.head _))) (x_sub1 (List.Mem.tail _ (List.Mem.tail _ (List.Mem.tail _ (List.Mem.head _)))) (x_sub1 (List.Mem.tail _ (List.Mem.tail _ (List.Mem.tail _ (List.Mem.tail _ (List.Mem.head _))))) (x_sub1 (List.Mem.tail _ (List.Mem.tail _ (List.Mem.tail _ (List.Mem.tail _ (List.Mem.tail _ (List.Mem.head _)))))) (x_sub1 (List.Mem.tail _ (List.Mem.head _)) (x_sub1 (List.Mem.head _) x_sub0)))))) H
          · replace H := H.2 c113
            refine s_aload_n (nx := 117) hO rfl rfl rfl ?_
            refine s_getf (v := .ref (q_b G + 186)) (nx := 120) hO rfl rfl (hs_o12 kc139) rfl rfl ?_
            refine s_iload (nx := 122) hO rfl rfl rfl ?_
            refine s_bipush (x := (nI 29)) (nx := 124) hO rfl (by decide) rfl ?_
            obtain ⟨b48, H⟩ := H
            refine goV (wI s11 186 (ix x33) (nI 29)) (fun s49 es49 => ?_)
            replace H := H s49 es49
            refine s_iast (nx := 125) hO rfl (hs_I kc186) b48 rfl ?_
            refine xEx.at (up_I kc186 es49) ?_
            refine s_aload_n (nx := 126) hO rfl rfl rfl ?_
            refine s_getf (v := .ref (q_b G + 187)) (nx := 129) hO rfl rfl (hs_o12 kc139) rfl rfl ?_
            refine s_iload (nx := 131) hO rfl rfl rfl ?_
            refine s_aload_n (nx := 132) hO rfl rfl rfl ?_
            refine s_getf (v := .ref (q_b G + 187)) (nx := 135) hO rfl rfl (hs_o12 kc139) rfl rfl ?_
            refine s_iload (nx := 137) hO rfl rfl rfl ?_
            obtain ⟨b50, H⟩ := H
            refine s_iald (nx := 138) hO rfl (hs_I kc187) b50 rfl ?_
            obtain ⟨b51, H⟩ := H
            refine goV (wI s49 187 (ix x33) (sI s49 187 (ix x31))) (fun s52 es52 => ?_)
            replace H := H s52 es52
            refine s_iast (nx := 139) hO rfl (hs_I kc187) b51 rfl ?_
            refine xEx.at (up_I kc187 es52) ?_
            refine goV ((x33 + 1)) (fun x53 ex53 => ?_)
            replace H := H x53 ex53
            refine e_iinc (nx := 142) (l' := [(5, .int x53), (4, .int x31), (0, .ref (q_b G + 139)), (1, .int v1), (2, .int x1), (3, .int x10)]) ex53 hO rfl (by decide) rfl rfl rfl rfl ?_
            exact xEx.loc (x_sub1 (List.Mem.tail _ (List.Mem.tail _ (List.Mem.head _))) (x_sub1 (List.Mem.tail _ (List.Mem.tail _ (List.Mem.tail _ (List.Mem.head _)))) (x_sub1 (List.Mem.tail _ (List.Mem.tail _ (List.Mem.tail _ (List.Mem.tail _ (List.Mem.head _))))) (x_sub1 (List.Mem.tail _ (List.Mem.tail _ (List.Mem.tail _ (List.Mem.tail _ (List.Mem.tail _ (List.Mem.head _)))))) (x_sub1 (List.Mem.tail _ (List.Mem.head _)) (x_sub1 (List.Mem.head _) x_sub0)))))) H
      refine s_istore_n (nx := 69) (l' := [(3, .int 0), (0, .ref (q_b G + 139)), (1, .int v1), (2, .int x1)]) hO rfl (by decide) rfl rfl ?_
      exact xEx.loc (x_sub1 (List.Mem.tail _ (List.Mem.head _)) (x_sub1 (List.Mem.tail _ (List.Mem.tail _ (List.Mem.head _))) (x_sub1 (List.Mem.tail _ (List.Mem.tail _ (List.Mem.tail _ (List.Mem.head _)))) (x_sub1 (List.Mem.head _) x_sub0)))) H
    · replace H := H.2 c11
      refine s_aload_n (nx := 15) hO rfl rfl rfl ?_
      refine s_getf (v := .ref (q_b G + 203)) (nx := 18) hO rfl rfl (hs_o12 kc139) rfl rfl ?_
      refine s_iload_n (nx := 19) hO rfl rfl rfl ?_
      refine s_iload_n (nx := 20) hO rfl rfl rfl ?_
      obtain ⟨b54, H⟩ := H
      refine goV (wI s3 203 (ix x2) x1) (fun s55 es55 => ?_)
      replace H := H s55 es55
      refine s_iast (nx := 21) hO rfl (hs_I kc203) b54 rfl ?_
      refine xEx.at (up_I kc203 es55) ?_
      refine s_iload_n (nx := 22) hO rfl rfl rfl ?_
      refine s_aload_n (nx := 23) hO rfl rfl rfl ?_
      refine s_iconst (x := 0) (nx := 24) hO rfl (by decide) rfl ?_
      refine s_iload_n (nx := 25) hO rfl rfl rfl ?_
      refine s_iload_n (nx := 26) hO rfl rfl rfl ?_
      refine s_callV [.int 0, .int v1, .int x2] (ci := 12) (F := TX12) (N := 116) (nx := 29) hO rfl kX12_forge_598 (by rw [hcl]; rfl) (hs_o12 kc139) (w_X12_needs hG H) rfl rfl (Nat.le_of_ble_eq_true rfl) (Nat.zero_le _) (Nat.zero_le _) rfl (k_Pi (fun r56 H => ?_))
      refine goK (H (fun (y57 : Int32) => xEx G mX12_forge 37 [(0, .ref (q_b G + 139)), (1, .int v1), (3, .int x2)] [.int y57, .int x1] (hS G s55) z 0 0 (yQi G z Q)) (fun y57 H => ?_)) (fun H => ?_)
      · show xEx G mX12_forge 37 [(0, .ref (q_b G + 139)), (1, .int v1), (3, .int x2)] [.int y57, .int x1] (hS G s55) z 0 0 (yQi G z Q)
        refine s_iadd (nx := 38) hO rfl rfl ?_
        refine goV ((x1 + y57)) (fun x58 ex58 => ?_)
        replace H := H x58 ex58
        refine e_istore_n (nx := 39) (l' := [(2, .int x58), (0, .ref (q_b G + 139)), (1, .int v1), (3, .int x2)]) ex58 hO rfl (by decide) rfl rfl ?_
        refine goV ((x2 + 1)) (fun x59 ex59 => ?_)
        replace H := H x59 ex59
        refine e_iinc (nx := 42) (l' := [(3, .int x59), (2, .int x58), (0, .ref (q_b G + 139)), (1, .int v1)]) ex59 hO rfl (by decide) rfl rfl rfl rfl ?_
        refine s_goto hO rfl ?_
        exact xEx.loc (x_sub1 (List.Mem.tail _ (List.Mem.tail _ (List.Mem.head _))) (x_sub1 (List.Mem.tail _ (List.Mem.tail _ (List.Mem.tail _ (List.Mem.head _)))) (x_sub1 (List.Mem.tail _ (List.Mem.head _)) (x_sub1 (List.Mem.head _) x_sub0)))) H
      refine s_if_eq (nx := 32) hO rfl rfl (fun c29 => ?_) (fun c29 => ?_)
      · replace H := H.1 c29
        refine s_iconst (x := 1) (nx := 37) hO rfl (by decide) rfl ?_
        exact xEx.loc (x_sub1 (List.Mem.head _) (x_sub1 (List.Mem.tail _ (List.Mem.head _)) (x_sub1 (List.Mem.tail _ (List.Mem.tail _ (List.Mem.tail _ (List.Mem.head _)))) x_sub0))) H
      · replace H := H.2 c29
        refine s_iconst (x := (nI 2)) (nx := 33) hO rfl (by decide) rfl ?_
        refine s_goto hO rfl ?_
        exact xEx.loc (x_sub1 (List.Mem.head _) (x_sub1 (List.Mem.tail _ (List.Mem.head _)) (x_sub1 (List.Mem.tail _ (List.Mem.tail _ (List.Mem.tail _ (List.Mem.head _)))) x_sub0))) H
  refine s_istore_n (nx := 4) (l' := [(3, .int 0), (2, .int 0), (0, .ref (q_b G + 139)), (1, .int v1)]) hO rfl (by decide) rfl rfl ?_
  exact xEx.loc (x_sub1 (List.Mem.tail _ (List.Mem.tail _ (List.Mem.head _))) (x_sub1 (List.Mem.tail _ (List.Mem.tail _ (List.Mem.tail _ (List.Mem.head _)))) (x_sub1 (List.Mem.tail _ (List.Mem.head _)) (x_sub1 (List.Mem.head _) x_sub0)))) H

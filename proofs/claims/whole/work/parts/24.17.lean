def W_L_law (s : yS) (L : Nat) (xs : Nat → Int32) (Q : Int32 → yS → Prop) : Prop :=
 ∀ P18 : Int32 → yS → Prop, (∀ (x1 : Int32) (s2 : yS), (((((nI L) - (nI 5)) < x1 → Q 1 s2)
  ∧ (¬ ((nI L) - (nI 5)) < x1 → vp_in x1 L ∧ 
   ∀ P969 : yS → Prop, (∀ (s4 : yS), (∀ x5 : Int32, x5 = (x1 + (nI 5)) → 
    P18 x5 s4) → P969 s4) → 
   ((((((xs (ix x1)) &&& (nI 31))).toInt < 0 ∨ 23 < (((xs (ix x1)) &&& (nI 31))).toInt) → P969 s2)
   ∧ ((((xs (ix x1)) &&& (nI 31))).toInt = 0 → vp_in (x1 + 1) L ∧ 
     vp_in (x1 + (nI 2)) L ∧ 
     vp_in (x1 + (nI 3)) L ∧ 
     W_X11_giveBytes s2 ((((xs (ix (x1 + 1)))).toInt64 <<< (((nI 32)).toInt64 &&& 63)) ||| (((xs (ix (x1 + (nI 2))))).toInt64 &&& (4294967295))) (xs (ix (x1 + (nI 3)))) 
     (fun r9 s10 => vp_in (x1 + 1) L ∧ 
     vp_in (x1 + (nI 2)) L ∧ 
     vp_in (x1 + (nI 3)) L ∧ 
     W_X12_giveBytes s10 ((((xs (ix (x1 + 1)))).toInt64 <<< (((nI 32)).toInt64 &&& 63)) ||| (((xs (ix (x1 + (nI 2))))).toInt64 &&& (4294967295))) (xs (ix (x1 + (nI 3)))) 
     (fun r14 s15 => ((r9 = r14 → P969 s15)
     ∧ (¬ r9 = r14 → Q 0 s15)))))
   ∧ ((((xs (ix x1)) &&& (nI 31))).toInt = 1 → vp_in (x1 + 1) L ∧ 
     W_X11_cutBytes s2 (xs (ix (x1 + 1))) 
     (fun r17 s18 => vp_in (x1 + 1) L ∧ 
     W_X12_cutBytes s18 (xs (ix (x1 + 1))) 
     (fun r20 s21 => ((r17 = r20 → P969 s21)
     ∧ (¬ r17 = r20 → Q 0 s21)))))
   ∧ ((((xs (ix x1)) &&& (nI 31))).toInt = 2 → vp_in (x1 + 1) L ∧ 
     vp_in (x1 + (nI 2)) L ∧ 
     W_X11_pokeByte s2 (xs (ix (x1 + 1))) (xs (ix (x1 + (nI 2)))) 
     (fun r24 s25 => vp_in (x1 + 1) L ∧ 
     vp_in (x1 + (nI 2)) L ∧ 
     W_X12_pokeByte s25 (xs (ix (x1 + 1))) (xs (ix (x1 + (nI 2)))) 
     (fun r28 s29 => ((r24 = r28 → P969 s29)
     ∧ (¬ r24 = r28 → Q 0 s29)))))
   ∧ ((((xs (ix x1)) &&& (nI 31))).toInt = 3 → W_X11_turnBytes s2 
     (fun s30 => W_X12_turnBytes s30 
     (fun s31 => P969 s31)))
   ∧ ((((xs (ix x1)) &&& (nI 31))).toInt = 4 → W_X11_loadPolicy s2 
     (fun r32 s33 => W_X12_loadPolicy s33 
     (fun r34 s35 => ((r32 = r34 → P969 s35)
     ∧ (¬ r32 = r34 → Q 0 s35)))))
   ∧ ((((xs (ix x1)) &&& (nI 31))).toInt = 5 → W_X11_loadProgram s2 
     (fun r36 s37 => W_X12_loadProgram s37 
     (fun r38 s39 => ((r36 = r38 → P969 s39)
     ∧ (¬ r36 = r38 → Q 0 s39)))))
   ∧ ((((xs (ix x1)) &&& (nI 31))).toInt = 6 → vp_in (x1 + 1) L ∧ 
     ∀ P314 : Int32 → Prop, (∀ (y41 : Int32), (W_X11_saveProgram s2 y41 
      (fun r42 s43 => vp_in (x1 + 1) L ∧ 
      ∀ P331 : Int32 → Prop, (∀ (y45 : Int32), (W_X12_saveProgram s43 y45 
       (fun r46 s47 => ((r42 = r46 → P969 s47)
       ∧ (¬ r42 = r46 → Q 0 s47)))) → P331 y45) → 
      (((xs (ix (x1 + 1))) = 0 → P331 0)
      ∧ (¬ (xs (ix (x1 + 1))) = 0 → P331 1)))) → P314 y41) → 
     (((xs (ix (x1 + 1))) = 0 → P314 0)
     ∧ (¬ (xs (ix (x1 + 1))) = 0 → P314 1)))
   ∧ ((((xs (ix x1)) &&& (nI 31))).toInt = 7 → W_X11_forgeIt s2 
     (fun r48 s49 => W_X12_forgeIt s49 
     (fun r50 s51 => ((r48 = r50 → P969 s51)
     ∧ (¬ r48 = r50 → Q 0 s51)))))
   ∧ ((((xs (ix x1)) &&& (nI 31))).toInt = 8 → vp_in (x1 + 1) L ∧ 
     ∀ P366 : Int32 → Prop, (∀ (y53 : Int32), (W_X11_certifyIt s2 y53 
      (fun r54 s55 => vp_in (x1 + 1) L ∧ 
      ∀ P383 : Int32 → Prop, (∀ (y57 : Int32), (W_X12_certifyIt s55 y57 
       (fun r58 s59 => ((r54 = r58 → P969 s59)
       ∧ (¬ r54 = r58 → Q 0 s59)))) → P383 y57) → 
      (((xs (ix (x1 + 1))) = 0 → P383 0)
      ∧ (¬ (xs (ix (x1 + 1))) = 0 → P383 1)))) → P366 y53) → 
     (((xs (ix (x1 + 1))) = 0 → P366 0)
     ∧ (¬ (xs (ix (x1 + 1))) = 0 → P366 1)))
   ∧ ((((xs (ix x1)) &&& (nI 31))).toInt = 9 → vp_in (x1 + 1) L ∧ 
     W_X11_addAnswer s2 (xs (ix (x1 + 1))) 
     (fun r61 s62 => vp_in (x1 + 1) L ∧ 
     W_X12_addAnswer s62 (xs (ix (x1 + 1))) 
     (fun r64 s65 => ((r61 = r64 → P969 s65)
     ∧ (¬ r61 = r64 → Q 0 s65)))))
   ∧ ((((xs (ix x1)) &&& (nI 31))).toInt = 10 → W_X11_dropAnswers s2 
     (fun s66 => W_X12_dropAnswers s66 
     (fun s67 => P969 s67)))
   ∧ ((((xs (ix x1)) &&& (nI 31))).toInt = 11 → vp_in (x1 + 1) L ∧ 
     ∀ P439 : Int32 → Prop, (∀ (y69 : Int32), (vp_in (x1 + (nI 2)) L ∧ 
      W_X11_runIt s2 y69 (xs (ix (x1 + (nI 2)))) 
      (fun r71 s72 => vp_in (x1 + 1) L ∧ 
      ∀ P461 : Int32 → Prop, (∀ (y74 : Int32), (vp_in (x1 + (nI 2)) L ∧ 
       W_X12_runIt s72 y74 (xs (ix (x1 + (nI 2)))) 
       (fun r76 s77 => ((r71 = r76 → P969 s77)
       ∧ (¬ r71 = r76 → Q 0 s77)))) → P461 y74) → 
      (((xs (ix (x1 + 1))) = 0 → P461 0)
      ∧ (¬ (xs (ix (x1 + 1))) = 0 → P461 1)))) → P439 y69) → 
     (((xs (ix (x1 + 1))) = 0 → P439 0)
     ∧ (¬ (xs (ix (x1 + 1))) = 0 → P439 1)))
   ∧ ((((xs (ix x1)) &&& (nI 31))).toInt = 12 → vp_in (x1 + 1) L ∧ 
     W_X11_endOf s2 (xs (ix (x1 + 1))) 
     (fun r79 => vp_in (x1 + 1) L ∧ 
     W_X12_endOf s2 (xs (ix (x1 + 1))) 
     (fun r81 s82 => ((r79 = r81 → P969 s82)
     ∧ (¬ r79 = r81 → Q 0 s82)))))
   ∧ ((((xs (ix x1)) &&& (nI 31))).toInt = 13 → vp_in (x1 + 1) L ∧ 
     vp_in (x1 + (nI 2)) L ∧ 
     W_X11_traceAt s2 (xs (ix (x1 + 1))) (xs (ix (x1 + (nI 2)))) 
     (fun r85 => vp_in (x1 + 1) L ∧ 
     vp_in (x1 + (nI 2)) L ∧ 
     W_X12_traceAt s2 (xs (ix (x1 + 1))) (xs (ix (x1 + (nI 2)))) 
     (fun r88 s89 => ((r85 = r88 → P969 s89)
     ∧ (¬ r85 = r88 → Q 0 s89)))))
   ∧ ((((xs (ix x1)) &&& (nI 31))).toInt = 14 → vp_in (x1 + 1) L ∧ 
     vp_in (x1 + (nI 2)) L ∧ 
     ∀ P549 : Int32 → Prop, (∀ (y92 : Int32), (W_X11_counterOf s2 (xs (ix (x1 + 1))) y92 
      (fun r93 => vp_in (x1 + 1) L ∧ 
      vp_in (x1 + (nI 2)) L ∧ 
      ∀ P571 : Int32 → Prop, (∀ (y96 : Int32), (W_X12_counterOf s2 (xs (ix (x1 + 1))) y96 
       (fun r97 s98 => ((r93 = r97 → P969 s98)
       ∧ (¬ r93 = r97 → Q 0 s98)))) → P571 y96) → 
      (((xs (ix (x1 + (nI 2)))) = 0 → P571 0)
      ∧ (¬ (xs (ix (x1 + (nI 2)))) = 0 → P571 1)))) → P549 y92) → 
     (((xs (ix (x1 + (nI 2)))) = 0 → P549 0)
     ∧ (¬ (xs (ix (x1 + (nI 2)))) = 0 → P549 1)))
   ∧ ((((xs (ix x1)) &&& (nI 31))).toInt = 15 → W_X11_resetWatch s2 
     (fun s99 => W_X12_resetWatch s99 
     (fun s100 => P969 s100)))
   ∧ ((((xs (ix x1)) &&& (nI 31))).toInt = 16 → vp_in (x1 + 1) L ∧ 
     vp_in (x1 + (nI 2)) L ∧ 
     vp_in (x1 + (nI 3)) L ∧ 
     vp_in (x1 + (nI 4)) L ∧ 
     W_X11_watchCall s2 (xs (ix (x1 + 1))) (xs (ix (x1 + (nI 2)))) (xs (ix (x1 + (nI 3)))) (xs (ix (x1 + (nI 4)))) 
     (fun r105 s106 => vp_in (x1 + 1) L ∧ 
     vp_in (x1 + (nI 2)) L ∧ 
     vp_in (x1 + (nI 3)) L ∧ 
     vp_in (x1 + (nI 4)) L ∧ 
     W_X12_watchCall s106 (xs (ix (x1 + 1))) (xs (ix (x1 + (nI 2)))) (xs (ix (x1 + (nI 3)))) (xs (ix (x1 + (nI 4)))) 
     (fun r111 s112 => ((r105 = r111 → P969 s112)
     ∧ (¬ r105 = r111 → Q 0 s112)))))
   ∧ ((((xs (ix x1)) &&& (nI 31))).toInt = 17 → vp_in (x1 + 1) L ∧ 
     vp_in (x1 + (nI 2)) L ∧ 
     W_X11_wayOf s2 (xs (ix (x1 + 1))) (xs (ix (x1 + (nI 2)))) 
     (fun r115 => vp_in (x1 + 1) L ∧ 
     vp_in (x1 + (nI 2)) L ∧ 
     W_X12_wayOf s2 (xs (ix (x1 + 1))) (xs (ix (x1 + (nI 2)))) 
     (fun r118 s119 => ((r115 = r118 → P969 s119)
     ∧ (¬ r115 = r118 → Q 0 s119)))))
   ∧ ((((xs (ix x1)) &&& (nI 31))).toInt = 18 → vp_in (x1 + 1) L ∧ 
     vp_in (x1 + (nI 2)) L ∧ 
     W_X11_letterOf s2 (xs (ix (x1 + 1))) (xs (ix (x1 + (nI 2)))) 
     (fun r122 => vp_in (x1 + 1) L ∧ 
     vp_in (x1 + (nI 2)) L ∧ 
     W_X12_letterOf s2 (xs (ix (x1 + 1))) (xs (ix (x1 + (nI 2)))) 
     (fun r125 s126 => ((r122 = r125 → P969 s126)
     ∧ (¬ r122 = r125 → Q 0 s126)))))
   ∧ ((((xs (ix x1)) &&& (nI 31))).toInt = 19 → vp_in (x1 + 1) L ∧ 
     ∀ P723 : Int32 → Prop, (∀ (y128 : Int32), (vp_in (x1 + (nI 2)) L ∧ 
      vp_in (x1 + (nI 3)) L ∧ 
      vp_in (x1 + (nI 4)) L ∧ 
      W_X11_codeOf s2 y128 (xs (ix (x1 + (nI 2)))) (xs (ix (x1 + (nI 3)))) (xs (ix (x1 + (nI 4)))) 
      (fun r132 s133 => vp_in (x1 + 1) L ∧ 
      ∀ P755 : Int32 → Prop, (∀ (y135 : Int32), (vp_in (x1 + (nI 2)) L ∧ 
       vp_in (x1 + (nI 3)) L ∧ 
       vp_in (x1 + (nI 4)) L ∧ 
       W_X12_codeOf s133 y135 (xs (ix (x1 + (nI 2)))) (xs (ix (x1 + (nI 3)))) (xs (ix (x1 + (nI 4)))) 
       (fun r139 s140 => ((r132 = r139 → P969 s140)
       ∧ (¬ r132 = r139 → Q 0 s140)))) → P755 y135) → 
      (((xs (ix (x1 + 1))) = 0 → P755 0)
      ∧ (¬ (xs (ix (x1 + 1))) = 0 → P755 1)))) → P723 y128) → 
     (((xs (ix (x1 + 1))) = 0 → P723 0)
     ∧ (¬ (xs (ix (x1 + 1))) = 0 → P723 1)))
   ∧ ((((xs (ix x1)) &&& (nI 31))).toInt = 20 → vp_in (x1 + 1) L ∧ 
     ∀ P792 : Int32 → Prop, (∀ (y142 : Int32), (vp_in (x1 + (nI 2)) L ∧ 
      vp_in (x1 + (nI 3)) L ∧ 
      W_X11_mayOf s2 y142 (xs (ix (x1 + (nI 2)))) (xs (ix (x1 + (nI 3)))) 
      (fun r145 s146 => vp_in (x1 + 1) L ∧ 
      ∀ P819 : Int32 → Prop, (∀ (y148 : Int32), (vp_in (x1 + (nI 2)) L ∧ 
       vp_in (x1 + (nI 3)) L ∧ 
       W_X12_mayOf s146 y148 (xs (ix (x1 + (nI 2)))) (xs (ix (x1 + (nI 3)))) 
       (fun r151 s152 => (((lg_cmp r145 r151) = 0 → P969 s152)
       ∧ (¬ (lg_cmp r145 r151) = 0 → Q 0 s152)))) → P819 y148) → 
      (((xs (ix (x1 + 1))) = 0 → P819 0)
      ∧ (¬ (xs (ix (x1 + 1))) = 0 → P819 1)))) → P792 y142) → 
     (((xs (ix (x1 + 1))) = 0 → P792 0)
     ∧ (¬ (xs (ix (x1 + 1))) = 0 → P792 1)))
   ∧ ((((xs (ix x1)) &&& (nI 31))).toInt = 21 → vp_in (x1 + 1) L ∧ 
     ∀ P852 : Int32 → Prop, (∀ (y154 : Int32), (vp_in (x1 + (nI 2)) L ∧ 
      vp_in (x1 + (nI 3)) L ∧ 
      W_X11_functionOf s2 y154 (xs (ix (x1 + (nI 2)))) (xs (ix (x1 + (nI 3)))) 
      (fun r157 => vp_in (x1 + 1) L ∧ 
      ∀ P879 : Int32 → Prop, (∀ (y159 : Int32), (vp_in (x1 + (nI 2)) L ∧ 
       vp_in (x1 + (nI 3)) L ∧ 
       W_X12_functionOf s2 y159 (xs (ix (x1 + (nI 2)))) (xs (ix (x1 + (nI 3)))) 
       (fun r162 s163 => ((r157 = r162 → P969 s163)
       ∧ (¬ r157 = r162 → Q 0 s163)))) → P879 y159) → 
      (((xs (ix (x1 + 1))) = 0 → P879 0)
      ∧ (¬ (xs (ix (x1 + 1))) = 0 → P879 1)))) → P852 y154) → 
     (((xs (ix (x1 + 1))) = 0 → P852 0)
     ∧ (¬ (xs (ix (x1 + 1))) = 0 → P852 1)))
   ∧ ((((xs (ix x1)) &&& (nI 31))).toInt = 22 → vp_in (x1 + 1) L ∧ 
     vp_in (x1 + (nI 2)) L ∧ 
     ∀ P916 : Int32 → Prop, (∀ (y166 : Int32), (W_X11_byteOf s2 (xs (ix (x1 + 1))) y166 
      (fun r167 => vp_in (x1 + 1) L ∧ 
      vp_in (x1 + (nI 2)) L ∧ 
      ∀ P938 : Int32 → Prop, (∀ (y170 : Int32), (W_X12_byteOf s2 (xs (ix (x1 + 1))) y170 
       (fun r171 s172 => ((r167 = r171 → P969 s172)
       ∧ (¬ r167 = r171 → Q 0 s172)))) → P938 y170) → 
      (((xs (ix (x1 + (nI 2)))) = 0 → P938 0)
      ∧ (¬ (xs (ix (x1 + (nI 2)))) = 0 → P938 1)))) → P916 y166) → 
     (((xs (ix (x1 + (nI 2)))) = 0 → P916 0)
     ∧ (¬ (xs (ix (x1 + (nI 2)))) = 0 → P916 1)))
   ∧ ((((xs (ix x1)) &&& (nI 31))).toInt = 23 → vp_in (x1 + 1) L ∧ 
     W_X11_lookAt s2 (xs (ix (x1 + 1))) 
     (fun r174 => vp_in (x1 + 1) L ∧ 
     W_X12_lookAt s2 (xs (ix (x1 + 1))) 
     (fun r176 s177 => ((r174 = r176 → P969 s177)
     ∧ (¬ r174 = r176 → Q 0 s177))))))))) → P18 x1 s2) → 
 P18 0 s
set_option maxRecDepth 100000 in
set_option maxHeartbeats 40000000 in
theorem w_L_law {G : xG} (hG : yG G) {b L : Nat} {xs : Nat → Int32} (hr0 : q_ro G 0 = some (b, .int, L, fun j => .int (xs j))) {z : Nat} {s : yS} {Q : Int32 → yS → Prop} (H : W_L_law s L xs Q) : xEx G mL_law 16 [(2, .ref (q_b G + 139)), (1, .ref (q_b G + 0)), (0, .ref b)] [] (hS G s) z 0 0 (yQi G z Q) := by
  have hcl := hG.2.1
  have hO : xO G mL_law tbL_law ptL_law := ⟨tkL_law, pkL_law hcl⟩
  unfold W_L_law at H
  refine s_iconst (x := 0) (nx := 17) hO rfl (by decide) rfl ?_
  refine goK (H (fun (x1 : Int32) (s2 : yS) => xEx G mL_law 18 [(0, .ref b), (1, .ref (q_b G + 0)), (2, .ref (q_b G + 139)), (3, .int x1)] [] (hS G s2) z 0 0 (yQi G z Q)) (fun x1 s2 H => ?_)) (fun H => ?_)
  · show xEx G mL_law 18 [(0, .ref b), (1, .ref (q_b G + 0)), (2, .ref (q_b G + 139)), (3, .int x1)] [] (hS G s2) z 0 0 (yQi G z Q)
    refine s_iload_n (nx := 19) hO rfl rfl rfl ?_
    refine s_aload_n (nx := 20) hO rfl rfl rfl ?_
    refine s_rolen (nx := 21) hO rfl hr0 rfl ?_
    refine s_iconst (x := (nI 5)) (nx := 22) hO rfl (by decide) rfl ?_
    refine s_isub (nx := 23) hO rfl rfl ?_
    refine s_icmp_gt (nx := 26) hO rfl rfl (fun c23 => ?_) (fun c23 => ?_)
    · replace H := H.1 c23
      refine s_iconst (x := 1) (nx := 976) hO rfl (by decide) rfl ?_
      exact s_iret hO rfl rfl rfl ⟨rfl, _, _, rfl, rfl, H⟩
    · replace H := H.2 c23
      refine s_aload_n (nx := 27) hO rfl rfl rfl ?_
      refine s_iload_n (nx := 28) hO rfl rfl rfl ?_
      obtain ⟨b3, H⟩ := H
      refine s_roI (v := .int (xs (ix x1))) (nx := 29) hO rfl hr0 b3 rfl rfl ?_
      refine s_bipush (x := (nI 31)) (nx := 31) hO rfl (by decide) rfl ?_
      refine s_iand (nx := 32) hO rfl rfl ?_
      refine goK (H (fun (s4 : yS) => xEx G mL_law 969 [(0, .ref b), (1, .ref (q_b G + 0)), (2, .ref (q_b G + 139)), (3, .int x1)] [] (hS G s4) z 0 0 (yQi G z Q)) (fun s4 H => ?_)) (fun H => ?_)
      · show xEx G mL_law 969 [(0, .ref b), (1, .ref (q_b G + 0)), (2, .ref (q_b G + 139)), (3, .int x1)] [] (hS G s4) z 0 0 (yQi G z Q)
        refine goV ((x1 + (nI 5))) (fun x5 ex5 => ?_)
        replace H := H x5 ex5
        refine e_iinc (nx := 972) (l' := [(3, .int x5), (0, .ref b), (1, .ref (q_b G + 0)), (2, .ref (q_b G + 139))]) ex5 hO rfl (by decide) rfl rfl rfl rfl ?_
        refine s_goto hO rfl ?_
        exact xEx.loc (x_sub1 (List.Mem.tail _ (List.Mem.head _)) (x_sub1 (List.Mem.tail _ (List.Mem.tail _ (List.Mem.head _))) (x_sub1 (List.Mem.tail _ (List.Mem.tail _ (List.Mem.tail _ (List.Mem.head _)))) (x_sub1 (List.Mem.head _) x_sub0)))) H
      refine s_switch hO rfl (fun c32 => ?_) (fun dc32 fc32 => ?_)
      · replace H := H.1 c32
        exact xEx.loc (x_sub1 (List.Mem.head _) (x_sub1 (List.Mem.tail _ (List.Mem.head _)) (x_sub1 (List.Mem.tail _ (List.Mem.tail _ (List.Mem.head _))) (x_sub1 (List.Mem.tail _ (List.Mem.tail _ (List.Mem.tail _ (List.Mem.head _)))) x_sub0)))) H
      · obtain c32 | c32 | c32 | c32 | c32 | c32 | c32 | c32 | c32 | c32 | c32 | c32 | c32 | c32 | c32 | c32 | c32 | c32 | c32 | c32 | c32 | c32 | c32 | c32 : (((xs (ix x1)) &&& (nI 31))).toInt = 0 ∨ (((xs (ix x1)) &&& (nI 31))).toInt = 1 ∨ (((xs (ix x1)) &&& (nI 31))).toInt = 2 ∨ (((xs (ix x1)) &&& (nI 31))).toInt = 3 ∨ (((xs (ix x1)) &&& (nI 31))).toInt = 4 ∨ (((xs (ix x1)) &&& (nI 31))).toInt = 5 ∨ (((xs (ix x1)) &&& (nI 31))).toInt = 6 ∨ (((xs (ix x1)) &&& (nI 31))).toInt = 7 ∨ (((xs (ix x1)) &&& (nI 31))).toInt = 8 ∨ (((xs (ix x1)) &&& (nI 31))).toInt = 9 ∨ (((xs (ix x1)) &&& (nI 31))).toInt = 10 ∨ (((xs (ix x1)) &&& (nI 31))).toInt = 11 ∨ (((xs (ix x1)) &&& (nI 31))).toInt = 12 ∨ (((xs (ix x1)) &&& (nI 31))).toInt = 13 ∨ (((xs (ix x1)) &&& (nI 31))).toInt = 14 ∨ (((xs (ix x1)) &&& (nI 31))).toInt = 15 ∨ (((xs (ix x1)) &&& (nI 31))).toInt = 16 ∨ (((xs (ix x1)) &&& (nI 31))).toInt = 17 ∨ (((xs (ix x1)) &&& (nI 31))).toInt = 18 ∨ (((xs (ix x1)) &&& (nI 31))).toInt = 19 ∨ (((xs (ix x1)) &&& (nI 31))).toInt = 20 ∨ (((xs (ix x1)) &&& (nI 31))).toInt = 21 ∨ (((xs (ix x1)) &&& (nI 31))).toInt = 22 ∨ (((xs (ix x1)) &&& (nI 31))).toInt = 23 := by omega
        · replace H := H.2.1 c32
          refine ⟨144, by rw [c32]; rfl, ?_⟩
          refine s_aload_n (nx := 145) hO rfl rfl rfl ?_
          refine s_aload_n (nx := 146) hO rfl rfl rfl ?_
          refine s_iload_n (nx := 147) hO rfl rfl rfl ?_
          refine s_iconst (x := 1) (nx := 148) hO rfl (by decide) rfl ?_
          refine s_iadd (nx := 149) hO rfl rfl ?_
          obtain ⟨b6, H⟩ := H
          refine s_roI (v := .int (xs (ix (x1 + 1)))) (nx := 150) hO rfl hr0 b6 rfl rfl ?_
          refine s_i2l (nx := 151) hO rfl rfl ?_
          refine s_bipush (x := (nI 32)) (nx := 153) hO rfl (by decide) rfl ?_
          refine s_lshl (nx := 154) hO rfl rfl ?_
          refine s_aload_n (nx := 155) hO rfl rfl rfl ?_
          refine s_iload_n (nx := 156) hO rfl rfl rfl ?_
          refine s_iconst (x := (nI 2)) (nx := 157) hO rfl (by decide) rfl ?_
          refine s_iadd (nx := 158) hO rfl rfl ?_
          obtain ⟨b7, H⟩ := H
          refine s_roI (v := .int (xs (ix (x1 + (nI 2))))) (nx := 159) hO rfl hr0 b7 rfl rfl ?_
          refine s_i2l (nx := 160) hO rfl rfl ?_
          refine s_ldc2_w (x := (4294967295)) (nx := 163) hO rfl rfl rfl ?_
          refine s_land (nx := 164) hO rfl rfl ?_
          refine s_lor (nx := 165) hO rfl rfl ?_
          refine s_aload_n (nx := 166) hO rfl rfl rfl ?_
          refine s_iload_n (nx := 167) hO rfl rfl rfl ?_
          refine s_iconst (x := (nI 3)) (nx := 168) hO rfl (by decide) rfl ?_
          refine s_iadd (nx := 169) hO rfl rfl ?_
          obtain ⟨b8, H⟩ := H
          refine s_roI (v := .int (xs (ix (x1 + (nI 3))))) (nx := 170) hO rfl hr0 b8 rfl rfl ?_
          refine s_callV [.long ((((xs (ix (x1 + 1)))).toInt64 <<< (((nI 32)).toInt64 &&& 63)) ||| (((xs (ix (x1 + (nI 2))))).toInt64 &&& (4294967295))), .int (xs (ix (x1 + (nI 3))))] (ci := 11) (F := TX11) (N := 20) (nx := 173) hO rfl kL_law_15 (by rw [hcl]; rfl) (hs_o11 kc0) (w_X11_giveBytes hG H) rfl rfl (Nat.le_of_ble_eq_true rfl) (Nat.zero_le _) (Nat.zero_le _) rfl (k_Qi (fun r9 s10 H => ?_))
          refine s_aload_n (nx := 174) hO rfl rfl rfl ?_
          refine s_aload_n (nx := 175) hO rfl rfl rfl ?_
          refine s_iload_n (nx := 176) hO rfl rfl rfl ?_
          refine s_iconst (x := 1) (nx := 177) hO rfl (by decide) rfl ?_
          refine s_iadd (nx := 178) hO rfl rfl ?_
          obtain ⟨b11, H⟩ := H
          refine s_roI (v := .int (xs (ix (x1 + 1)))) (nx := 179) hO rfl hr0 b11 rfl rfl ?_
          refine s_i2l (nx := 180) hO rfl rfl ?_
          refine s_bipush (x := (nI 32)) (nx := 182) hO rfl (by decide) rfl ?_
          refine s_lshl (nx := 183) hO rfl rfl ?_
          refine s_aload_n (nx := 184) hO rfl rfl rfl ?_
          refine s_iload_n (nx := 185) hO rfl rfl rfl ?_
          refine s_iconst (x := (nI 2)) (nx := 186) hO rfl (by decide) rfl ?_
          refine s_iadd (nx := 187) hO rfl rfl ?_
          obtain ⟨b12, H⟩ := H
          refine s_roI (v := .int (xs (ix (x1 + (nI 2))))) (nx := 188) hO rfl hr0 b12 rfl rfl ?_
          refine s_i2l (nx := 189) hO rfl rfl ?_
          refine s_ldc2_w (x := (4294967295)) (nx := 192) hO rfl rfl rfl ?_
          refine s_land (nx := 193) hO rfl rfl ?_
          refine s_lor (nx := 194) hO rfl rfl ?_
          refine s_aload_n (nx := 195) hO rfl rfl rfl ?_
          refine s_iload_n (nx := 196) hO rfl rfl rfl ?_
          refine s_iconst (x := (nI 3)) (nx := 197) hO rfl (by decide) rfl ?_
          refine s_iadd (nx := 198) hO rfl rfl ?_
          obtain ⟨b13, H⟩ := H
          refine s_roI (v := .int (xs (ix (x1 + (nI 3))))) (nx := 199) hO rfl hr0 b13 rfl rfl ?_
          refine s_callV [.long ((((xs (ix (x1 + 1)))).toInt64 <<< (((nI 32)).toInt64 &&& 63)) ||| (((xs (ix (x1 + (nI 2))))).toInt64 &&& (4294967295))), .int (xs (ix (x1 + (nI 3))))] (ci := 12) (F := TX12) (N := 116) (nx := 202) hO rfl kL_law_19 (by rw [hcl]; rfl) (hs_o12 kc139) (w_X12_giveBytes hG H) rfl rfl (Nat.le_of_ble_eq_true rfl) (Nat.zero_le _) (Nat.zero_le _) rfl (k_Qi (fun r14 s15 H => ?_))
          refine s_icmp_eq (nx := 205) hO rfl rfl (fun c202 => ?_) (fun c202 => ?_)
          · replace H := H.1 c202
            exact xEx.loc (x_sub1 (List.Mem.head _) (x_sub1 (List.Mem.tail _ (List.Mem.head _)) (x_sub1 (List.Mem.tail _ (List.Mem.tail _ (List.Mem.head _))) (x_sub1 (List.Mem.tail _ (List.Mem.tail _ (List.Mem.tail _ (List.Mem.head _)))) x_sub0)))) H
          · replace H := H.2 c202
            refine s_iconst (x := 0) (nx := 206) hO rfl (by decide) rfl ?_
            exact s_iret hO rfl rfl rfl ⟨rfl, _, _, rfl, rfl, H⟩
        · replace H := H.2.2.1 c32
          refine ⟨207, by rw [c32]; rfl, ?_⟩
          refine s_aload_n (nx := 208) hO rfl rfl rfl ?_
          refine s_aload_n (nx := 209) hO rfl rfl rfl ?_
          refine s_iload_n (nx := 210) hO rfl rfl rfl ?_
          refine s_iconst (x := 1) (nx := 211) hO rfl (by decide) rfl ?_
          refine s_iadd (nx := 212) hO rfl rfl ?_
          obtain ⟨b16, H⟩ := H
          refine s_roI (v := .int (xs (ix (x1 + 1)))) (nx := 213) hO rfl hr0 b16 rfl rfl ?_
          refine s_callV [.int (xs (ix (x1 + 1)))] (ci := 11) (F := TX11) (N := 20) (nx := 216) hO rfl kL_law_20 (by rw [hcl]; rfl) (hs_o11 kc0) (w_X11_cutBytes hG H) rfl rfl (Nat.le_of_ble_eq_true rfl) (Nat.zero_le _) (Nat.zero_le _) rfl (k_Qi (fun r17 s18 H => ?_))
          refine s_aload_n (nx := 217) hO rfl rfl rfl ?_
          refine s_aload_n (nx := 218) hO rfl rfl rfl ?_
          refine s_iload_n (nx := 219) hO rfl rfl rfl ?_
          refine s_iconst (x := 1) (nx := 220) hO rfl (by decide) rfl ?_
          refine s_iadd (nx := 221) hO rfl rfl ?_
          obtain ⟨b19, H⟩ := H
          refine s_roI (v := .int (xs (ix (x1 + 1)))) (nx := 222) hO rfl hr0 b19 rfl rfl ?_
          refine s_callV [.int (xs (ix (x1 + 1)))] (ci := 12) (F := TX12) (N := 116) (nx := 225) hO rfl kL_law_24 (by rw [hcl]; rfl) (hs_o12 kc139) (w_X12_cutBytes hG H) rfl rfl (Nat.le_of_ble_eq_true rfl) (Nat.zero_le _) (Nat.zero_le _) rfl (k_Qi (fun r20 s21 H => ?_))
          refine s_icmp_eq (nx := 228) hO rfl rfl (fun c225 => ?_) (fun c225 => ?_)
          · replace H := H.1 c225
            exact xEx.loc (x_sub1 (List.Mem.head _) (x_sub1 (List.Mem.tail _ (List.Mem.head _)) (x_sub1 (List.Mem.tail _ (List.Mem.tail _ (List.Mem.head _))) (x_sub1 (List.Mem.tail _ (List.Mem.tail _ (List.Mem.tail _ (List.Mem.head _)))) x_sub0)))) H
          · replace H := H.2 c225
            refine s_iconst (x := 0) (nx := 229) hO rfl (by decide) rfl ?_
            exact s_iret hO rfl rfl rfl ⟨rfl, _, _, rfl, rfl, H⟩
        · replace H := H.2.2.2.1 c32
          refine ⟨230, by rw [c32]; rfl, ?_⟩
          refine s_aload_n (nx := 231) hO rfl rfl rfl ?_
          refine s_aload_n (nx := 232) hO rfl rfl rfl ?_
          refine s_iload_n (nx := 233) hO rfl rfl rfl ?_
          refine s_iconst (x := 1) (nx := 234) hO rfl (by decide) rfl ?_
          refine s_iadd (nx := 235) hO rfl rfl ?_
          obtain ⟨b22, H⟩ := H
          refine s_roI (v := .int (xs (ix (x1 + 1)))) (nx := 236) hO rfl hr0 b22 rfl rfl ?_
          refine s_aload_n (nx := 237) hO rfl rfl rfl ?_
          refine s_iload_n (nx := 238) hO rfl rfl rfl ?_
          refine s_iconst (x := (nI 2)) (nx := 239) hO rfl (by decide) rfl ?_
          refine s_iadd (nx := 240) hO rfl rfl ?_
          obtain ⟨b23, H⟩ := H
          refine s_roI (v := .int (xs (ix (x1 + (nI 2))))) (nx := 241) hO rfl hr0 b23 rfl rfl ?_
          refine s_callV [.int (xs (ix (x1 + 1))), .int (xs (ix (x1 + (nI 2))))] (ci := 11) (F := TX11) (N := 20) (nx := 244) hO rfl kL_law_25 (by rw [hcl]; rfl) (hs_o11 kc0) (w_X11_pokeByte hG H) rfl rfl (Nat.le_of_ble_eq_true rfl) (Nat.zero_le _) (Nat.zero_le _) rfl (k_Qi (fun r24 s25 H => ?_))
          refine s_aload_n (nx := 245) hO rfl rfl rfl ?_
          refine s_aload_n (nx := 246) hO rfl rfl rfl ?_
          refine s_iload_n (nx := 247) hO rfl rfl rfl ?_
          refine s_iconst (x := 1) (nx := 248) hO rfl (by decide) rfl ?_
          refine s_iadd (nx := 249) hO rfl rfl ?_
          obtain ⟨b26, H⟩ := H
          refine s_roI (v := .int (xs (ix (x1 + 1)))) (nx := 250) hO rfl hr0 b26 rfl rfl ?_
          refine s_aload_n (nx := 251) hO rfl rfl rfl ?_
          refine s_iload_n (nx := 252) hO rfl rfl rfl ?_
          refine s_iconst (x := (nI 2)) (nx := 253) hO rfl (by decide) rfl ?_
          refine s_iadd (nx := 254) hO rfl rfl ?_
          obtain ⟨b27, H⟩ := H
          refine s_roI (v := .int (xs (ix (x1 + (nI 2))))) (nx := 255) hO rfl hr0 b27 rfl rfl ?_
          refine s_callV [.int (xs (ix (x1 + 1))), .int (xs (ix (x1 + (nI 2))))] (ci := 12) (F := TX12) (N := 116) (nx := 258) hO rfl kL_law_29 (by rw [hcl]; rfl) (hs_o12 kc139) (w_X12_pokeByte hG H) rfl rfl (Nat.le_of_ble_eq_true rfl) (Nat.zero_le _) (Nat.zero_le _) rfl (k_Qi (fun r28 s29 H => ?_))
          refine s_icmp_eq (nx := 261) hO rfl rfl (fun c258 => ?_) (fun c258 => ?_)
          · replace H := H.1 c258
            exact xEx.loc (x_sub1 (List.Mem.head _) (x_sub1 (List.Mem.tail _ (List.Mem.head _)) (x_sub1 (List.Mem.tail _ (List.Mem.tail _ (List.Mem.head _))) (x_sub1 (List.Mem.tail _ (List.Mem.tail _ (List.Mem.tail _ (List.Mem.head _)))) x_sub0)))) H
          · replace H := H.2 c258
            refine s_iconst (x := 0) (nx := 262) hO rfl (by decide) rfl ?_
            exact s_iret hO rfl rfl rfl ⟨rfl, _, _, rfl, rfl, H⟩
        · replace H := H.2.2.2.2.1 c32
          refine ⟨263, by rw [c32]; rfl, ?_⟩
          refine s_aload_n (nx := 264) hO rfl rfl rfl ?_
          refine s_callV [] (ci := 11) (F := TX11) (N := 20) (nx := 267) hO rfl kL_law_30 (by rw [hcl]; rfl) (hs_o11 kc0) (w_X11_turnBytes hG H) rfl rfl (Nat.le_of_ble_eq_true rfl) (Nat.zero_le _) (Nat.zero_le _) rfl (k_Qv (fun s30 H => ?_))
          refine s_aload_n (nx := 268) hO rfl rfl rfl ?_
          refine s_callV [] (ci := 12) (F := TX12) (N := 116) (nx := 271) hO rfl kL_law_33 (by rw [hcl]; rfl) (hs_o12 kc139) (w_X12_turnBytes hG H) rfl rfl (Nat.le_of_ble_eq_true rfl) (Nat.zero_le _) (Nat.zero_le _) rfl (k_Qv (fun s31 H => ?_))
          refine s_goto hO rfl ?_
          exact xEx.loc (x_sub1 (List.Mem.head _) (x_sub1 (List.Mem.tail _ (List.Mem.head _)) (x_sub1 (List.Mem.tail _ (List.Mem.tail _ (List.Mem.head _))) (x_sub1 (List.Mem.tail _ (List.Mem.tail _ (List.Mem.tail _ (List.Mem.head _)))) x_sub0)))) H
        · replace H := H.2.2.2.2.2.1 c32
          refine ⟨274, by rw [c32]; rfl, ?_⟩
          refine s_aload_n (nx := 275) hO rfl rfl rfl ?_
          refine s_callV [] (ci := 11) (F := TX11) (N := 20) (nx := 278) hO rfl kL_law_34 (by rw [hcl]; rfl) (hs_o11 kc0) (w_X11_loadPolicy hG H) rfl rfl (Nat.le_of_ble_eq_true rfl) (Nat.zero_le _) (Nat.zero_le _) rfl (k_Qi (fun r32 s33 H => ?_))
          refine s_aload_n (nx := 279) hO rfl rfl rfl ?_
          refine s_callV [] (ci := 12) (F := TX12) (N := 116) (nx := 282) hO rfl kL_law_38 (by rw [hcl]; rfl) (hs_o12 kc139) (w_X12_loadPolicy hG H) rfl rfl (Nat.le_of_ble_eq_true rfl) (Nat.zero_le _) (Nat.zero_le _) rfl (k_Qi (fun r34 s35 H => ?_))
          refine s_icmp_eq (nx := 285) hO rfl rfl (fun c282 => ?_) (fun c282 => ?_)
          · replace H := H.1 c282
            exact xEx.loc (x_sub1 (List.Mem.head _) (x_sub1 (List.Mem.tail _ (List.Mem.head _)) (x_sub1 (List.Mem.tail _ (List.Mem.tail _ (List.Mem.head _))) (x_sub1 (List.Mem.tail _ (List.Mem.tail _ (List.Mem.tail _ (List.Mem.head _)))) x_sub0)))) H
          · replace H := H.2 c282
            refine s_iconst (x := 0) (nx := 286) hO rfl (by decide) rfl ?_
            exact s_iret hO rfl rfl rfl ⟨rfl, _, _, rfl, rfl, H⟩
        · replace H := H.2.2.2.2.2.2.1 c32
          refine ⟨287, by rw [c32]; rfl, ?_⟩
          refine s_aload_n (nx := 288) hO rfl rfl rfl ?_
          refine s_callV [] (ci := 11) (F := TX11) (N := 20) (nx := 291) hO rfl kL_law_39 (by rw [hcl]; rfl) (hs_o11 kc0) (w_X11_loadProgram hG H) rfl rfl (Nat.le_of_ble_eq_true rfl) (Nat.zero_le _) (Nat.zero_le _) rfl (k_Qi (fun r36 s37 H => ?_))
          refine s_aload_n (nx := 292) hO rfl rfl rfl ?_
          refine s_callV [] (ci := 12) (F := TX12) (N := 116) (nx := 295) hO rfl kL_law_42 (by rw [hcl]; rfl) (hs_o12 kc139) (w_X12_loadProgram hG H) rfl rfl (Nat.le_of_ble_eq_true rfl) (Nat.zero_le _) (Nat.zero_le _) rfl (k_Qi (fun r38 s39 H => ?_))
          refine s_icmp_eq (nx := 298) hO rfl rfl (fun c295 => ?_) (fun c295 => ?_)
          · replace H := H.1 c295
            exact xEx.loc (x_sub1 (List.Mem.head _) (x_sub1 (List.Mem.tail _ (List.Mem.head _)) (x_sub1 (List.Mem.tail _ (List.Mem.tail _ (List.Mem.head _))) (x_sub1 (List.Mem.tail _ (List.Mem.tail _ (List.Mem.tail _ (List.Mem.head _)))) x_sub0)))) H
          · replace H := H.2 c295
            refine s_iconst (x := 0) (nx := 299) hO rfl (by decide) rfl ?_
            exact s_iret hO rfl rfl rfl ⟨rfl, _, _, rfl, rfl, H⟩
        · replace H := H.2.2.2.2.2.2.2.1 c32
          refine ⟨300, by rw [c32]; rfl, ?_⟩
          refine s_aload_n (nx := 301) hO rfl rfl rfl ?_
          refine s_aload_n (nx := 302) hO rfl rfl rfl ?_
          refine s_iload_n (nx := 303) hO rfl rfl rfl ?_
          refine s_iconst (x := 1) (nx := 304) hO rfl (by decide) rfl ?_
          refine s_iadd (nx := 305) hO rfl rfl ?_
          obtain ⟨b40, H⟩ := H
          refine s_roI (v := .int (xs (ix (x1 + 1)))) (nx := 306) hO rfl hr0 b40 rfl rfl ?_
          refine goK (H (fun (y41 : Int32) => xEx G mL_law 314 [(0, .ref b), (1, .ref (q_b G + 0)), (2, .ref (q_b G + 139)), (3, .int x1)] [.int y41, .ref (q_b G + 0)] (hS G s2) z 0 0 (yQi G z Q)) (fun y41 H => ?_)) (fun H => ?_)
          · show xEx G mL_law 314 [(0, .ref b), (1, .ref (q_b G + 0)), (2, .ref (q_b G + 139)), (3, .int x1)] [.int y41, .ref (q_b G + 0)] (hS G s2) z 0 0 (yQi G z Q)
            refine s_callV [.int y41] (ci := 11) (F := TX11) (N := 20) (nx := 317) hO rfl kL_law_43 (by rw [hcl]; rfl) (hs_o11 kc0) (w_X11_saveProgram hG H) rfl rfl (Nat.le_of_ble_eq_true rfl) (Nat.zero_le _) (Nat.zero_le _) rfl (k_Qi (fun r42 s43 H => ?_))
            refine s_aload_n (nx := 318) hO rfl rfl rfl ?_
            refine s_aload_n (nx := 319) hO rfl rfl rfl ?_
            refine s_iload_n (nx := 320) hO rfl rfl rfl ?_
            refine s_iconst (x := 1) (nx := 321) hO rfl (by decide) rfl ?_
            refine s_iadd (nx := 322) hO rfl rfl ?_
            obtain ⟨b44, H⟩ := H
            refine s_roI (v := .int (xs (ix (x1 + 1)))) (nx := 323) hO rfl hr0 b44 rfl rfl ?_
            refine goK (H (fun (y45 : Int32) => xEx G mL_law 331 [(0, .ref b), (1, .ref (q_b G + 0)), (2, .ref (q_b G + 139)), (3, .int x1)] [.int y45, .ref (q_b G + 139), .int r42] (hS G s43) z 0 0 (yQi G z Q)) (fun y45 H => ?_)) (fun H => ?_)
            · show xEx G mL_law 331 [(0, .ref b), (1, .ref (q_b G + 0)), (2, .ref (q_b G + 139)), (3, .int x1)] [.int y45, .ref (q_b G + 139), .int r42] (hS G s43) z 0 0 (yQi G z Q)
              refine s_callV [.int y45] (ci := 12) (F := TX12) (N := 116) (nx := 334) hO rfl kL_law_47 (by rw [hcl]; rfl) (hs_o12 kc139) (w_X12_saveProgram hG H) rfl rfl (Nat.le_of_ble_eq_true rfl) (Nat.zero_le _) (Nat.zero_le _) rfl (k_Qi (fun r46 s47 H => ?_))
              refine s_icmp_eq (nx := 337) hO rfl rfl (fun c334 => ?_) (fun c334 => ?_)
              · replace H := H.1 c334
                exact xEx.loc (x_sub1 (List.Mem.head _) (x_sub1 (List.Mem.tail _ (List.Mem.head _)) (x_sub1 (List.Mem.tail _ (List.Mem.tail _ (List.Mem.head _))) (x_sub1 (List.Mem.tail _ (List.Mem.tail _ (List.Mem.tail _ (List.Mem.head _)))) x_sub0)))) H
              · replace H := H.2 c334
                refine s_iconst (x := 0) (nx := 338) hO rfl (by decide) rfl ?_
                exact s_iret hO rfl rfl rfl ⟨rfl, _, _, rfl, rfl, H⟩
            refine s_if_eq (nx := 326) hO rfl rfl (fun c323 => ?_) (fun c323 => ?_)
            · replace H := H.1 c323
              refine s_iconst (x := 0) (nx := 331) hO rfl (by decide) rfl ?_
              exact xEx.loc (x_sub1 (List.Mem.head _) (x_sub1 (List.Mem.tail _ (List.Mem.head _)) (x_sub1 (List.Mem.tail _ (List.Mem.tail _ (List.Mem.head _))) (x_sub1 (List.Mem.tail _ (List.Mem.tail _ (List.Mem.tail _ (List.Mem.head _)))) x_sub0)))) H
            · replace H := H.2 c323
              refine s_iconst (x := 1) (nx := 327) hO rfl (by decide) rfl ?_
              refine s_goto hO rfl ?_
              exact xEx.loc (x_sub1 (List.Mem.head _) (x_sub1 (List.Mem.tail _ (List.Mem.head _)) (x_sub1 (List.Mem.tail _ (List.Mem.tail _ (List.Mem.head _))) (x_sub1 (List.Mem.tail _ (List.Mem.tail _ (List.Mem.tail _ (List.Mem.head _)))) x_sub0)))) H
          refine s_if_eq (nx := 309) hO rfl rfl (fun c306 => ?_) (fun c306 => ?_)
          · replace H := H.1 c306
            refine s_iconst (x := 0) (nx := 314) hO rfl (by decide) rfl ?_
            exact xEx.loc (x_sub1 (List.Mem.head _) (x_sub1 (List.Mem.tail _ (List.Mem.head _)) (x_sub1 (List.Mem.tail _ (List.Mem.tail _ (List.Mem.head _))) (x_sub1 (List.Mem.tail _ (List.Mem.tail _ (List.Mem.tail _ (List.Mem.head _)))) x_sub0)))) H
          · replace H := H.2 c306
            refine s_iconst (x := 1) (nx := 310) hO rfl (by decide) rfl ?_
            refine s_goto hO rfl ?_
            exact xEx.loc (x_sub1 (List.Mem.head _) (x_sub1 (List.Mem.tail _ (List.Mem.head _)) (x_sub1 (List.Mem.tail _ (List.Mem.tail _ (List.Mem.head _))) (x_sub1 (List.Mem.tail _ (List.Mem.tail _ (List.Mem.tail _ (List.Mem.head _)))) x_sub0)))) H
        · replace H := H.2.2.2.2.2.2.2.2.1 c32
          refine ⟨339, by rw [c32]; rfl, ?_⟩
          refine s_aload_n (nx := 340) hO rfl rfl rfl ?_
          refine s_callV [] (ci := 11) (F := TX11) (N := 20) (nx := 343) hO rfl kL_law_48 (by rw [hcl]; rfl) (hs_o11 kc0) (w_X11_forgeIt hG H) rfl rfl (Nat.le_of_ble_eq_true rfl) (Nat.zero_le _) (Nat.zero_le _) rfl (k_Qi (fun r48 s49 H => ?_))
          refine s_aload_n (nx := 344) hO rfl rfl rfl ?_
          refine s_callV [] (ci := 12) (F := TX12) (N := 116) (nx := 347) hO rfl kL_law_51 (by rw [hcl]; rfl) (hs_o12 kc139) (w_X12_forgeIt hG H) rfl rfl (Nat.le_of_ble_eq_true rfl) (Nat.zero_le _) (Nat.zero_le _) rfl (k_Qi (fun r50 s51 H => ?_))
          refine s_icmp_eq (nx := 350) hO rfl rfl (fun c347 => ?_) (fun c347 => ?_)
          · replace H := H.1 c347
            exact xEx.loc (x_sub1 (List.Mem.head _) (x_sub1 (List.Mem.tail _ (List.Mem.head _)) (x_sub1 (List.Mem.tail _ (List.Mem.tail _ (List.Mem.head _))) (x_sub1 (List.Mem.tail _ (List.Mem.tail _ (List.Mem.tail _ (List.Mem.head _)))) x_sub0)))) H
          · replace H := H.2 c347
            refine s_iconst (x := 0) (nx := 351) hO rfl (by decide) rfl ?_
            exact s_iret hO rfl rfl rfl ⟨rfl, _, _, rfl, rfl, H⟩
        · replace H := H.2.2.2.2.2.2.2.2.2.1 c32
          refine ⟨352, by rw [c32]; rfl, ?_⟩
          refine s_aload_n (nx := 353) hO rfl rfl rfl ?_
          refine s_aload_n (nx := 354) hO rfl rfl rfl ?_
          refine s_iload_n (nx := 355) hO rfl rfl rfl ?_
          refine s_iconst (x := 1) (nx := 356) hO rfl (by decide) rfl ?_
          refine s_iadd (nx := 357) hO rfl rfl ?_
          obtain ⟨b52, H⟩ := H
          refine s_roI (v := .int (xs (ix (x1 + 1)))) (nx := 358) hO rfl hr0 b52 rfl rfl ?_
          refine goK (H (fun (y53 : Int32) => xEx G mL_law 366 [(0, .ref b), (1, .ref (q_b G + 0)), (2, .ref (q_b G + 139)), (3, .int x1)] [.int y53, .ref (q_b G + 0)] (hS G s2) z 0 0 (yQi G z Q)) (fun y53 H => ?_)) (fun H => ?_)
          · show xEx G mL_law 366 [(0, .ref b), (1, .ref (q_b G + 0)), (2, .ref (q_b G + 139)), (3, .int x1)] [.int y53, .ref (q_b G + 0)] (hS G s2) z 0 0 (yQi G z Q)
            refine s_callV [.int y53] (ci := 11) (F := TX11) (N := 20) (nx := 369) hO rfl kL_law_52 (by rw [hcl]; rfl) (hs_o11 kc0) (w_X11_certifyIt hG H) rfl rfl (Nat.le_of_ble_eq_true rfl) (Nat.zero_le _) (Nat.zero_le _) rfl (k_Qi (fun r54 s55 H => ?_))
            refine s_aload_n (nx := 370) hO rfl rfl rfl ?_
            refine s_aload_n (nx := 371) hO rfl rfl rfl ?_
            refine s_iload_n (nx := 372) hO rfl rfl rfl ?_
            refine s_iconst (x := 1) (nx := 373) hO rfl (by decide) rfl ?_
            refine s_iadd (nx := 374) hO rfl rfl ?_
            obtain ⟨b56, H⟩ := H
            refine s_roI (v := .int (xs (ix (x1 + 1)))) (nx := 375) hO rfl hr0 b56 rfl rfl ?_
            refine goK (H (fun (y57 : Int32) => xEx G mL_law 383 [(0, .ref b), (1, .ref (q_b G + 0)), (2, .ref (q_b G + 139)), (3, .int x1)] [.int y57, .ref (q_b G + 139), .int r54] (hS G s55) z 0 0 (yQi G z Q)) (fun y57 H => ?_)) (fun H => ?_)
            · show xEx G mL_law 383 [(0, .ref b), (1, .ref (q_b G + 0)), (2, .ref (q_b G + 139)), (3, .int x1)] [.int y57, .ref (q_b G + 139), .int r54] (hS G s55) z 0 0 (yQi G z Q)
              refine s_callV [.int y57] (ci := 12) (F := TX12) (N := 116) (nx := 386) hO rfl kL_law_55 (by rw [hcl]; rfl) (hs_o12 kc139) (w_X12_certifyIt hG H) rfl rfl (Nat.le_of_ble_eq_true rfl) (Nat.zero_le _) (Nat.zero_le _) rfl (k_Qi (fun r58 s59 H => ?_))
              refine s_icmp_eq (nx := 389) hO rfl rfl (fun c386 => ?_) (fun c386 => ?_)
              · replace H := H.1 c386
                exact xEx.loc (x_sub1 (List.Mem.head _) (x_sub1 (List.Mem.tail _ (List.Mem.head _)) (x_sub1 (List.Mem.tail _ (List.Mem.tail _ (List.Mem.head _))) (x_sub1 (List.Mem.tail _ (List.Mem.tail _ (List.Mem.tail _ (List.Mem.head _)))) x_sub0)))) H
              · replace H := H.2 c386
                refine s_iconst (x := 0) (nx := 390) hO rfl (by decide) rfl ?_
                exact s_iret hO rfl rfl rfl ⟨rfl, _, _, rfl, rfl, H⟩
            refine s_if_eq (nx := 378) hO rfl rfl (fun c375 => ?_) (fun c375 => ?_)
            · replace H := H.1 c375
              refine s_iconst (x := 0) (nx := 383) hO rfl (by decide) rfl ?_
              exact xEx.loc (x_sub1 (List.Mem.head _) (x_sub1 (List.Mem.tail _ (List.Mem.head _)) (x_sub1 (List.Mem.tail _ (List.Mem.tail _ (List.Mem.head _))) (x_sub1 (List.Mem.tail _ (List.Mem.tail _ (List.Mem.tail _ (List.Mem.head _)))) x_sub0)))) H
            · replace H := H.2 c375
              refine s_iconst (x := 1) (nx := 379) hO rfl (by decide) rfl ?_
              refine s_goto hO rfl ?_
              exact xEx.loc (x_sub1 (List.Mem.head _) (x_sub1 (List.Mem.tail _ (List.Mem.head _)) (x_sub1 (List.Mem.tail _ (List.Mem.tail _ (List.Mem.head _))) (x_sub1 (List.Mem.tail _ (List.Mem.tail _ (List.Mem.tail _ (List.Mem.head _)))) x_sub0)))) H
          refine s_if_eq (nx := 361) hO rfl rfl (fun c358 => ?_) (fun c358 => ?_)
          · replace H := H.1 c358
            refine s_iconst (x := 0) (nx := 366) hO rfl (by decide) rfl ?_
            exact xEx.loc (x_sub1 (List.Mem.head _) (x_sub1 (List.Mem.tail _ (List.Mem.head _)) (x_sub1 (List.Mem.tail _ (List.Mem.tail _ (List.Mem.head _))) (x_sub1 (List.Mem.tail _ (List.Mem.tail _ (List.Mem.tail _ (List.Mem.head _)))) x_sub0)))) H
          · replace H := H.2 c358
            refine s_iconst (x := 1) (nx := 362) hO rfl (by decide) rfl ?_
            refine s_goto hO rfl ?_
            exact xEx.loc (x_sub1 (List.Mem.head _) (x_sub1 (List.Mem.tail _ (List.Mem.head _)) (x_sub1 (List.Mem.tail _ (List.Mem.tail _ (List.Mem.head _))) (x_sub1 (List.Mem.tail _ (List.Mem.tail _ (List.Mem.tail _ (List.Mem.head _)))) x_sub0)))) H
        · replace H := H.2.2.2.2.2.2.2.2.2.2.1 c32
          refine ⟨391, by rw [c32]; rfl, ?_⟩
          refine s_aload_n (nx := 392) hO rfl rfl rfl ?_
          refine s_aload_n (nx := 393) hO rfl rfl rfl ?_
          refine s_iload_n (nx := 394) hO rfl rfl rfl ?_
          refine s_iconst (x := 1) (nx := 395) hO rfl (by decide) rfl ?_
          refine s_iadd (nx := 396) hO rfl rfl ?_
          obtain ⟨b60, H⟩ := H
          refine s_roI (v := .int (xs (ix (x1 + 1)))) (nx := 397) hO rfl hr0 b60 rfl rfl ?_
          refine s_callV [.int (xs (ix (x1 + 1)))] (ci := 11) (F := TX11) (N := 20) (nx := 400) hO rfl kL_law_56 (by rw [hcl]; rfl) (hs_o11 kc0) (w_X11_addAnswer hG H) rfl rfl (Nat.le_of_ble_eq_true rfl) (Nat.zero_le _) (Nat.zero_le _) rfl (k_Qi (fun r61 s62 H => ?_))
          refine s_aload_n (nx := 401) hO rfl rfl rfl ?_
          refine s_aload_n (nx := 402) hO rfl rfl rfl ?_
          refine s_iload_n (nx := 403) hO rfl rfl rfl ?_
          refine s_iconst (x := 1) (nx := 404) hO rfl (by decide) rfl ?_
          refine s_iadd (nx := 405) hO rfl rfl ?_
          obtain ⟨b63, H⟩ := H
          refine s_roI (v := .int (xs (ix (x1 + 1)))) (nx := 406) hO rfl hr0 b63 rfl rfl ?_
          refine s_callV [.int (xs (ix (x1 + 1)))] (ci := 12) (F := TX12) (N := 116) (nx := 409) hO rfl kL_law_60 (by rw [hcl]; rfl) (hs_o12 kc139) (w_X12_addAnswer hG H) rfl rfl (Nat.le_of_ble_eq_true rfl) (Nat.zero_le _) (Nat.zero_le _) rfl (k_Qi (fun r64 s65 H => ?_))
          refine s_icmp_eq (nx := 412) hO rfl rfl (fun c409 => ?_) (fun c409 => ?_)
          · replace H := H.1 c409
            exact xEx.loc (x_sub1 (List.Mem.head _) (x_sub1 (List.Mem.tail _ (List.Mem.head _)) (x_sub1 (List.Mem.tail _ (List.Mem.tail _ (List.Mem.head _))) (x_sub1 (List.Mem.tail _ (List.Mem.tail _ (List.Mem.tail _ (List.Mem.head _)))) x_sub0)))) H
          · replace H := H.2 c409
            refine s_iconst (x := 0) (nx := 413) hO rfl (by decide) rfl ?_
            exact s_iret hO rfl rfl rfl ⟨rfl, _, _, rfl, rfl, H⟩
        · replace H := H.2.2.2.2.2.2.2.2.2.2.2.1 c32
          refine ⟨414, by rw [c32]; rfl, ?_⟩
          refine s_aload_n (nx := 415) hO rfl rfl rfl ?_
          refine s_callV [] (ci := 11) (F := TX11) (N := 20) (nx := 418) hO rfl kL_law_61 (by rw [hcl]; rfl) (hs_o11 kc0) (w_X11_dropAnswers hG H) rfl rfl (Nat.le_of_ble_eq_true rfl) (Nat.zero_le _) (Nat.zero_le _) rfl (k_Qv (fun s66 H => ?_))
          refine s_aload_n (nx := 419) hO rfl rfl rfl ?_
          refine s_callV [] (ci := 12) (F := TX12) (N := 116) (nx := 422) hO rfl kL_law_64 (by rw [hcl]; rfl) (hs_o12 kc139) (w_X12_dropAnswers hG H) rfl rfl (Nat.le_of_ble_eq_true rfl) (Nat.zero_le _) (Nat.zero_le _) rfl (k_Qv (fun s67 H => ?_))
          refine s_goto hO rfl ?_
          exact xEx.loc (x_sub1 (List.Mem.head _) (x_sub1 (List.Mem.tail _ (List.Mem.head _)) (x_sub1 (List.Mem.tail _ (List.Mem.tail _ (List.Mem.head _))) (x_sub1 (List.Mem.tail _ (List.Mem.tail _ (List.Mem.tail _ (List.Mem.head _)))) x_sub0)))) H
        · replace H := H.2.2.2.2.2.2.2.2.2.2.2.2.1 c32
          refine ⟨425, by rw [c32]; rfl, ?_⟩
          refine s_aload_n (nx := 426) hO rfl rfl rfl ?_
          refine s_aload_n (nx := 427) hO rfl rfl rfl ?_
          refine s_iload_n (nx := 428) hO rfl rfl rfl ?_
          refine s_iconst (x := 1) (nx := 429) hO rfl (by decide) rfl ?_
          refine s_iadd (nx := 430) hO rfl rfl ?_
          obtain ⟨b68, H⟩ := H
          refine s_roI (v := .int (xs (ix (x1 + 1)))) (nx := 431) hO rfl hr0 b68 rfl rfl ?_
          refine goK (H (fun (y69 : Int32) => xEx G mL_law 439 [(0, .ref b), (1, .ref (q_b G + 0)), (2, .ref (q_b G + 139)), (3, .int x1)] [.int y69, .ref (q_b G + 0)] (hS G s2) z 0 0 (yQi G z Q)) (fun y69 H => ?_)) (fun H => ?_)
          · show xEx G mL_law 439 [(0, .ref b), (1, .ref (q_b G + 0)), (2, .ref (q_b G + 139)), (3, .int x1)] [.int y69, .ref (q_b G + 0)] (hS G s2) z 0 0 (yQi G z Q)
            refine s_aload_n (nx := 440) hO rfl rfl rfl ?_
            refine s_iload_n (nx := 441) hO rfl rfl rfl ?_
            refine s_iconst (x := (nI 2)) (nx := 442) hO rfl (by decide) rfl ?_
            refine s_iadd (nx := 443) hO rfl rfl ?_
            obtain ⟨b70, H⟩ := H
            refine s_roI (v := .int (xs (ix (x1 + (nI 2))))) (nx := 444) hO rfl hr0 b70 rfl rfl ?_
            refine s_callV [.int y69, .int (xs (ix (x1 + (nI 2))))] (ci := 11) (F := TX11) (N := 20) (nx := 447) hO rfl kL_law_65 (by rw [hcl]; rfl) (hs_o11 kc0) (w_X11_runIt hG H) rfl rfl (Nat.le_of_ble_eq_true rfl) (Nat.zero_le _) (Nat.zero_le _) rfl (k_Qi (fun r71 s72 H => ?_))
            refine s_aload_n (nx := 448) hO rfl rfl rfl ?_
            refine s_aload_n (nx := 449) hO rfl rfl rfl ?_
            refine s_iload_n (nx := 450) hO rfl rfl rfl ?_
            refine s_iconst (x := 1) (nx := 451) hO rfl (by decide) rfl ?_
            refine s_iadd (nx := 452) hO rfl rfl ?_
            obtain ⟨b73, H⟩ := H
            refine s_roI (v := .int (xs (ix (x1 + 1)))) (nx := 453) hO rfl hr0 b73 rfl rfl ?_
            refine goK (H (fun (y74 : Int32) => xEx G mL_law 461 [(0, .ref b), (1, .ref (q_b G + 0)), (2, .ref (q_b G + 139)), (3, .int x1)] [.int y74, .ref (q_b G + 139), .int r71] (hS G s72) z 0 0 (yQi G z Q)) (fun y74 H => ?_)) (fun H => ?_)
            · show xEx G mL_law 461 [(0, .ref b), (1, .ref (q_b G + 0)), (2, .ref (q_b G + 139)), (3, .int x1)] [.int y74, .ref (q_b G + 139), .int r71] (hS G s72) z 0 0 (yQi G z Q)
              refine s_aload_n (nx := 462) hO rfl rfl rfl ?_
              refine s_iload_n (nx := 463) hO rfl rfl rfl ?_
              refine s_iconst (x := (nI 2)) (nx := 464) hO rfl (by decide) rfl ?_
              refine s_iadd (nx := 465) hO rfl rfl ?_
              obtain ⟨b75, H⟩ := H
              refine s_roI (v := .int (xs (ix (x1 + (nI 2))))) (nx := 466) hO rfl hr0 b75 rfl rfl ?_
              refine s_callV [.int y74, .int (xs (ix (x1 + (nI 2))))] (ci := 12) (F := TX12) (N := 116) (nx := 469) hO rfl kL_law_69 (by rw [hcl]; rfl) (hs_o12 kc139) (w_X12_runIt hG H) rfl rfl (Nat.le_of_ble_eq_true rfl) (Nat.zero_le _) (Nat.zero_le _) rfl (k_Qi (fun r76 s77 H => ?_))
              refine s_icmp_eq (nx := 472) hO rfl rfl (fun c469 => ?_) (fun c469 => ?_)
              · replace H := H.1 c469
                exact xEx.loc (x_sub1 (List.Mem.head _) (x_sub1 (List.Mem.tail _ (List.Mem.head _)) (x_sub1 (List.Mem.tail _ (List.Mem.tail _ (List.Mem.head _))) (x_sub1 (List.Mem.tail _ (List.Mem.tail _ (List.Mem.tail _ (List.Mem.head _)))) x_sub0)))) H
              · replace H := H.2 c469
                refine s_iconst (x := 0) (nx := 473) hO rfl (by decide) rfl ?_
                exact s_iret hO rfl rfl rfl ⟨rfl, _, _, rfl, rfl, H⟩
            refine s_if_eq (nx := 456) hO rfl rfl (fun c453 => ?_) (fun c453 => ?_)
            · replace H := H.1 c453
              refine s_iconst (x := 0) (nx := 461) hO rfl (by decide) rfl ?_
              exact xEx.loc (x_sub1 (List.Mem.head _) (x_sub1 (List.Mem.tail _ (List.Mem.head _)) (x_sub1 (List.Mem.tail _ (List.Mem.tail _ (List.Mem.head _))) (x_sub1 (List.Mem.tail _ (List.Mem.tail _ (List.Mem.tail _ (List.Mem.head _)))) x_sub0)))) H
            · replace H := H.2 c453
              refine s_iconst (x := 1) (nx := 457) hO rfl (by decide) rfl ?_
              refine s_goto hO rfl ?_
              exact xEx.loc (x_sub1 (List.Mem.head _) (x_sub1 (List.Mem.tail _ (List.Mem.head _)) (x_sub1 (List.Mem.tail _ (List.Mem.tail _ (List.Mem.head _))) (x_sub1 (List.Mem.tail _ (List.Mem.tail _ (List.Mem.tail _ (List.Mem.head _)))) x_sub0)))) H
          refine s_if_eq (nx := 434) hO rfl rfl (fun c431 => ?_) (fun c431 => ?_)
          · replace H := H.1 c431
            refine s_iconst (x := 0) (nx := 439) hO rfl (by decide) rfl ?_
            exact xEx.loc (x_sub1 (List.Mem.head _) (x_sub1 (List.Mem.tail _ (List.Mem.head _)) (x_sub1 (List.Mem.tail _ (List.Mem.tail _ (List.Mem.head _))) (x_sub1 (List.Mem.tail _ (List.Mem.tail _ (List.Mem.tail _ (List.Mem.head _)))) x_sub0)))) H
          · replace H := H.2 c431
            refine s_iconst (x := 1) (nx := 435) hO rfl (by decide) rfl ?_
            refine s_goto hO rfl ?_
            exact xEx.loc (x_sub1 (List.Mem.head _) (x_sub1 (List.Mem.tail _ (List.Mem.head _)) (x_sub1 (List.Mem.tail _ (List.Mem.tail _ (List.Mem.head _))) (x_sub1 (List.Mem.tail _ (List.Mem.tail _ (List.Mem.tail _ (List.Mem.head _)))) x_sub0)))) H
        · replace H := H.2.2.2.2.2.2.2.2.2.2.2.2.2.1 c32
          refine ⟨474, by rw [c32]; rfl, ?_⟩
          refine s_aload_n (nx := 475) hO rfl rfl rfl ?_
          refine s_aload_n (nx := 476) hO rfl rfl rfl ?_
          refine s_iload_n (nx := 477) hO rfl rfl rfl ?_
          refine s_iconst (x := 1) (nx := 478) hO rfl (by decide) rfl ?_
          refine s_iadd (nx := 479) hO rfl rfl ?_
          obtain ⟨b78, H⟩ := H
          refine s_roI (v := .int (xs (ix (x1 + 1)))) (nx := 480) hO rfl hr0 b78 rfl rfl ?_
          refine s_callV [.int (xs (ix (x1 + 1)))] (ci := 11) (F := TX11) (N := 20) (nx := 483) hO rfl kL_law_70 (by rw [hcl]; rfl) (hs_o11 kc0) (w_X11_endOf hG H) rfl rfl (Nat.le_of_ble_eq_true rfl) (Nat.zero_le _) (Nat.zero_le _) rfl (k_Pi (fun r79 H => ?_))
          refine s_aload_n (nx := 484) hO rfl rfl rfl ?_
          refine s_aload_n (nx := 485) hO rfl rfl rfl ?_
          refine s_iload_n (nx := 486) hO rfl rfl rfl ?_
          refine s_iconst (x := 1) (nx := 487) hO rfl (by decide) rfl ?_
          refine s_iadd (nx := 488) hO rfl rfl ?_
          obtain ⟨b80, H⟩ := H
          refine s_roI (v := .int (xs (ix (x1 + 1)))) (nx := 489) hO rfl hr0 b80 rfl rfl ?_
          refine s_callV [.int (xs (ix (x1 + 1)))] (ci := 12) (F := TX12) (N := 116) (nx := 492) hO rfl kL_law_73 (by rw [hcl]; rfl) (hs_o12 kc139) (w_X12_endOf hG H) rfl rfl (Nat.le_of_ble_eq_true rfl) (Nat.zero_le _) (Nat.zero_le _) rfl (k_Qi (fun r81 s82 H => ?_))
          refine s_icmp_eq (nx := 495) hO rfl rfl (fun c492 => ?_) (fun c492 => ?_)
          · replace H := H.1 c492
            exact xEx.loc (x_sub1 (List.Mem.head _) (x_sub1 (List.Mem.tail _ (List.Mem.head _)) (x_sub1 (List.Mem.tail _ (List.Mem.tail _ (List.Mem.head _))) (x_sub1 (List.Mem.tail _ (List.Mem.tail _ (List.Mem.tail _ (List.Mem.head _)))) x_sub0)))) H
          · replace H := H.2 c492
            refine s_iconst (x := 0) (nx := 496) hO rfl (by decide) rfl ?_
            exact s_iret hO rfl rfl rfl ⟨rfl, _, _, rfl, rfl, H⟩
        · replace H := H.2.2.2.2.2.2.2.2.2.2.2.2.2.2.1 c32
          refine ⟨497, by rw [c32]; rfl, ?_⟩
          refine s_aload_n (nx := 498) hO rfl rfl rfl ?_
          refine s_aload_n (nx := 499) hO rfl rfl rfl ?_
          refine s_iload_n (nx := 500) hO rfl rfl rfl ?_
          refine s_iconst (x := 1) (nx := 501) hO rfl (by decide) rfl ?_
          refine s_iadd (nx := 502) hO rfl rfl ?_
          obtain ⟨b83, H⟩ := H
          refine s_roI (v := .int (xs (ix (x1 + 1)))) (nx := 503) hO rfl hr0 b83 rfl rfl ?_
          refine s_aload_n (nx := 504) hO rfl rfl rfl ?_
          refine s_iload_n (nx := 505) hO rfl rfl rfl ?_
          refine s_iconst (x := (nI 2)) (nx := 506) hO rfl (by decide) rfl ?_
          refine s_iadd (nx := 507) hO rfl rfl ?_
          obtain ⟨b84, H⟩ := H
          refine s_roI (v := .int (xs (ix (x1 + (nI 2))))) (nx := 508) hO rfl hr0 b84 rfl rfl ?_
          refine s_callV [.int (xs (ix (x1 + 1))), .int (xs (ix (x1 + (nI 2))))] (ci := 11) (F := TX11) (N := 20) (nx := 511) hO rfl kL_law_74 (by rw [hcl]; rfl) (hs_o11 kc0) (w_X11_traceAt hG H) rfl rfl (Nat.le_of_ble_eq_true rfl) (Nat.zero_le _) (Nat.zero_le _) rfl (k_Pi (fun r85 H => ?_))
          refine s_aload_n (nx := 512) hO rfl rfl rfl ?_
          refine s_aload_n (nx := 513) hO rfl rfl rfl ?_
          refine s_iload_n (nx := 514) hO rfl rfl rfl ?_
          refine s_iconst (x := 1) (nx := 515) hO rfl (by decide) rfl ?_
          refine s_iadd (nx := 516) hO rfl rfl ?_
          obtain ⟨b86, H⟩ := H
          refine s_roI (v := .int (xs (ix (x1 + 1)))) (nx := 517) hO rfl hr0 b86 rfl rfl ?_
          refine s_aload_n (nx := 518) hO rfl rfl rfl ?_
          refine s_iload_n (nx := 519) hO rfl rfl rfl ?_
          refine s_iconst (x := (nI 2)) (nx := 520) hO rfl (by decide) rfl ?_
          refine s_iadd (nx := 521) hO rfl rfl ?_
          obtain ⟨b87, H⟩ := H
          refine s_roI (v := .int (xs (ix (x1 + (nI 2))))) (nx := 522) hO rfl hr0 b87 rfl rfl ?_
          refine s_callV [.int (xs (ix (x1 + 1))), .int (xs (ix (x1 + (nI 2))))] (ci := 12) (F := TX12) (N := 116) (nx := 525) hO rfl kL_law_78 (by rw [hcl]; rfl) (hs_o12 kc139) (w_X12_traceAt hG H) rfl rfl (Nat.le_of_ble_eq_true rfl) (Nat.zero_le _) (Nat.zero_le _) rfl (k_Qi (fun r88 s89 H => ?_))
          refine s_icmp_eq (nx := 528) hO rfl rfl (fun c525 => ?_) (fun c525 => ?_)
          · replace H := H.1 c525
            exact xEx.loc (x_sub1 (List.Mem.head _) (x_sub1 (List.Mem.tail _ (List.Mem.head _)) (x_sub1 (List.Mem.tail _ (List.Mem.tail _ (List.Mem.head _))) (x_sub1 (List.Mem.tail _ (List.Mem.tail _ (List.Mem.tail _ (List.Mem.head _)))) x_sub0)))) H
          · replace H := H.2 c525
            refine s_iconst (x := 0) (nx := 529) hO rfl (by decide) rfl ?_
            exact s_iret hO rfl rfl rfl ⟨rfl, _, _, rfl, rfl, H⟩
        · replace H := H.2.2.2.2.2.2.2.2.2.2.2.2.2.2.2.1 c32
          refine ⟨530, by rw [c32]; rfl, ?_⟩
          refine s_aload_n (nx := 531) hO rfl rfl rfl ?_
          refine s_aload_n (nx := 532) hO rfl rfl rfl ?_
          refine s_iload_n (nx := 533) hO rfl rfl rfl ?_
          refine s_iconst (x := 1) (nx := 534) hO rfl (by decide) rfl ?_
          refine s_iadd (nx := 535) hO rfl rfl ?_
          obtain ⟨b90, H⟩ := H
          refine s_roI (v := .int (xs (ix (x1 + 1)))) (nx := 536) hO rfl hr0 b90 rfl rfl ?_
          refine s_aload_n (nx := 537) hO rfl rfl rfl ?_
          refine s_iload_n (nx := 538) hO rfl rfl rfl ?_
          refine s_iconst (x := (nI 2)) (nx := 539) hO rfl (by decide) rfl ?_
          refine s_iadd (nx := 540) hO rfl rfl ?_
          obtain ⟨b91, H⟩ := H
          refine s_roI (v := .int (xs (ix (x1 + (nI 2))))) (nx := 541) hO rfl hr0 b91 rfl rfl ?_
          refine goK (H (fun (y92 : Int32) => xEx G mL_law 549 [(0, .ref b), (1, .ref (q_b G + 0)), (2, .ref (q_b G + 139)), (3, .int x1)] [.int y92, .int (xs (ix (x1 + 1))), .ref (q_b G + 0)] (hS G s2) z 0 0 (yQi G z Q)) (fun y92 H => ?_)) (fun H => ?_)
          · show xEx G mL_law 549 [(0, .ref b), (1, .ref (q_b G + 0)), (2, .ref (q_b G + 139)), (3, .int x1)] [.int y92, .int (xs (ix (x1 + 1))), .ref (q_b G + 0)] (hS G s2) z 0 0 (yQi G z Q)
            refine s_callV [.int (xs (ix (x1 + 1))), .int y92] (ci := 11) (F := TX11) (N := 20) (nx := 552) hO rfl kL_law_79 (by rw [hcl]; rfl) (hs_o11 kc0) (w_X11_counterOf hG H) rfl rfl (Nat.le_of_ble_eq_true rfl) (Nat.zero_le _) (Nat.zero_le _) rfl (k_Pi (fun r93 H => ?_))
            refine s_aload_n (nx := 553) hO rfl rfl rfl ?_
            refine s_aload_n (nx := 554) hO rfl rfl rfl ?_
            refine s_iload_n (nx := 555) hO rfl rfl rfl ?_
            refine s_iconst (x := 1) (nx := 556) hO rfl (by decide) rfl ?_
            refine s_iadd (nx := 557) hO rfl rfl ?_
            obtain ⟨b94, H⟩ := H
            refine s_roI (v := .int (xs (ix (x1 + 1)))) (nx := 558) hO rfl hr0 b94 rfl rfl ?_
            refine s_aload_n (nx := 559) hO rfl rfl rfl ?_
            refine s_iload_n (nx := 560) hO rfl rfl rfl ?_
            refine s_iconst (x := (nI 2)) (nx := 561) hO rfl (by decide) rfl ?_
            refine s_iadd (nx := 562) hO rfl rfl ?_
            obtain ⟨b95, H⟩ := H
            refine s_roI (v := .int (xs (ix (x1 + (nI 2))))) (nx := 563) hO rfl hr0 b95 rfl rfl ?_
            refine goK (H (fun (y96 : Int32) => xEx G mL_law 571 [(0, .ref b), (1, .ref (q_b G + 0)), (2, .ref (q_b G + 139)), (3, .int x1)] [.int y96, .int (xs (ix (x1 + 1))), .ref (q_b G + 139), .int r93] (hS G s2) z 0 0 (yQi G z Q)) (fun y96 H => ?_)) (fun H => ?_)
            · show xEx G mL_law 571 [(0, .ref b), (1, .ref (q_b G + 0)), (2, .ref (q_b G + 139)), (3, .int x1)] [.int y96, .int (xs (ix (x1 + 1))), .ref (q_b G + 139), .int r93] (hS G s2) z 0 0 (yQi G z Q)
              refine s_callV [.int (xs (ix (x1 + 1))), .int y96] (ci := 12) (F := TX12) (N := 116) (nx := 574) hO rfl kL_law_83 (by rw [hcl]; rfl) (hs_o12 kc139) (w_X12_counterOf hG H) rfl rfl (Nat.le_of_ble_eq_true rfl) (Nat.zero_le _) (Nat.zero_le _) rfl (k_Qi (fun r97 s98 H => ?_))
              refine s_icmp_eq (nx := 577) hO rfl rfl (fun c574 => ?_) (fun c574 => ?_)
              · replace H := H.1 c574
                exact xEx.loc (x_sub1 (List.Mem.head _) (x_sub1 (List.Mem.tail _ (List.Mem.head _)) (x_sub1 (List.Mem.tail _ (List.Mem.tail _ (List.Mem.head _))) (x_sub1 (List.Mem.tail _ (List.Mem.tail _ (List.Mem.tail _ (List.Mem.head _)))) x_sub0)))) H
              · replace H := H.2 c574
                refine s_iconst (x := 0) (nx := 578) hO rfl (by decide) rfl ?_
                exact s_iret hO rfl rfl rfl ⟨rfl, _, _, rfl, rfl, H⟩
            refine s_if_eq (nx := 566) hO rfl rfl (fun c563 => ?_) (fun c563 => ?_)
            · replace H := H.1 c563
              refine s_iconst (x := 0) (nx := 571) hO rfl (by decide) rfl ?_
              exact xEx.loc (x_sub1 (List.Mem.head _) (x_sub1 (List.Mem.tail _ (List.Mem.head _)) (x_sub1 (List.Mem.tail _ (List.Mem.tail _ (List.Mem.head _))) (x_sub1 (List.Mem.tail _ (List.Mem.tail _ (List.Mem.tail _ (List.Mem.head _)))) x_sub0)))) H
            · replace H := H.2 c563
              refine s_iconst (x := 1) (nx := 567) hO rfl (by decide) rfl ?_
              refine s_goto hO rfl ?_
              exact xEx.loc (x_sub1 (List.Mem.head _) (x_sub1 (List.Mem.tail _ (List.Mem.head _)) (x_sub1 (List.Mem.tail _ (List.Mem.tail _ (List.Mem.head _))) (x_sub1 (List.Mem.tail _ (List.Mem.tail _ (List.Mem.tail _ (List.Mem.head _)))) x_sub0)))) H
          refine s_if_eq (nx := 544) hO rfl rfl (fun c541 => ?_) (fun c541 => ?_)
          · replace H := H.1 c541
            refine s_iconst (x := 0) (nx := 549) hO rfl (by decide) rfl ?_
            exact xEx.loc (x_sub1 (List.Mem.head _) (x_sub1 (List.Mem.tail _ (List.Mem.head _)) (x_sub1 (List.Mem.tail _ (List.Mem.tail _ (List.Mem.head _))) (x_sub1 (List.Mem.tail _ (List.Mem.tail _ (List.Mem.tail _ (List.Mem.head _)))) x_sub0)))) H
          · replace H := H.2 c541
            refine s_iconst (x := 1) (nx := 545) hO rfl (by decide) rfl ?_
            refine s_goto hO rfl ?_
            exact xEx.loc (x_sub1 (List.Mem.head _) (x_sub1 (List.Mem.tail _ (List.Mem.head _)) (x_sub1 (List.Mem.tail _ (List.Mem.tail _ (List.Mem.head _))) (x_sub1 (List.Mem.tail _ (List.Mem.tail _ (List.Mem.tail _ (List.Mem.head _)))) x_sub0)))) H
        · replace H := H.2.2.2.2.2.2.2.2.2.2.2.2.2.2.2.2.1 c32
          refine ⟨579, by rw [c32]; rfl, ?_⟩
          refine s_aload_n (nx := 580) hO rfl rfl rfl ?_
          refine s_callV [] (ci := 11) (F := TX11) (N := 20) (nx := 583) hO rfl kL_law_84 (by rw [hcl]; rfl) (hs_o11 kc0) (w_X11_resetWatch hG H) rfl rfl (Nat.le_of_ble_eq_true rfl) (Nat.zero_le _) (Nat.zero_le _) rfl (k_Qv (fun s99 H => ?_))
          refine s_aload_n (nx := 584) hO rfl rfl rfl ?_
          refine s_callV [] (ci := 12) (F := TX12) (N := 116) (nx := 587) hO rfl kL_law_87 (by rw [hcl]; rfl) (hs_o12 kc139) (w_X12_resetWatch hG H) rfl rfl (Nat.le_of_ble_eq_true rfl) (Nat.zero_le _) (Nat.zero_le _) rfl (k_Qv (fun s100 H => ?_))
          refine s_goto hO rfl ?_
          exact xEx.loc (x_sub1 (List.Mem.head _) (x_sub1 (List.Mem.tail _ (List.Mem.head _)) (x_sub1 (List.Mem.tail _ (List.Mem.tail _ (List.Mem.head _))) (x_sub1 (List.Mem.tail _ (List.Mem.tail _ (List.Mem.tail _ (List.Mem.head _)))) x_sub0)))) H
        · replace H := H.2.2.2.2.2.2.2.2.2.2.2.2.2.2.2.2.2.1 c32
          refine ⟨590, by rw [c32]; rfl, ?_⟩
          refine s_aload_n (nx := 591) hO rfl rfl rfl ?_
          refine s_aload_n (nx := 592) hO rfl rfl rfl ?_
          refine s_iload_n (nx := 593) hO rfl rfl rfl ?_
          refine s_iconst (x := 1) (nx := 594) hO rfl (by decide) rfl ?_
          refine s_iadd (nx := 595) hO rfl rfl ?_
          obtain ⟨b101, H⟩ := H
          refine s_roI (v := .int (xs (ix (x1 + 1)))) (nx := 596) hO rfl hr0 b101 rfl rfl ?_
          refine s_aload_n (nx := 597) hO rfl rfl rfl ?_
          refine s_iload_n (nx := 598) hO rfl rfl rfl ?_
          refine s_iconst (x := (nI 2)) (nx := 599) hO rfl (by decide) rfl ?_
          refine s_iadd (nx := 600) hO rfl rfl ?_
          obtain ⟨b102, H⟩ := H
          refine s_roI (v := .int (xs (ix (x1 + (nI 2))))) (nx := 601) hO rfl hr0 b102 rfl rfl ?_
          refine s_aload_n (nx := 602) hO rfl rfl rfl ?_
          refine s_iload_n (nx := 603) hO rfl rfl rfl ?_
          refine s_iconst (x := (nI 3)) (nx := 604) hO rfl (by decide) rfl ?_
          refine s_iadd (nx := 605) hO rfl rfl ?_
          obtain ⟨b103, H⟩ := H
          refine s_roI (v := .int (xs (ix (x1 + (nI 3))))) (nx := 606) hO rfl hr0 b103 rfl rfl ?_
          refine s_aload_n (nx := 607) hO rfl rfl rfl ?_
          refine s_iload_n (nx := 608) hO rfl rfl rfl ?_
          refine s_iconst (x := (nI 4)) (nx := 609) hO rfl (by decide) rfl ?_
          refine s_iadd (nx := 610) hO rfl rfl ?_
          obtain ⟨b104, H⟩ := H
          refine s_roI (v := .int (xs (ix (x1 + (nI 4))))) (nx := 611) hO rfl hr0 b104 rfl rfl ?_
          refine s_callV [.int (xs (ix (x1 + 1))), .int (xs (ix (x1 + (nI 2)))), .int (xs (ix (x1 + (nI 3)))), .int (xs (ix (x1 + (nI 4))))] (ci := 11) (F := TX11) (N := 20) (nx := 614) hO rfl kL_law_88 (by rw [hcl]; rfl) (hs_o11 kc0) (w_X11_watchCall hG H) rfl rfl (Nat.le_of_ble_eq_true rfl) (Nat.zero_le _) (Nat.zero_le _) rfl (k_Qi (fun r105 s106 H => ?_))
          refine s_aload_n (nx := 615) hO rfl rfl rfl ?_
          refine s_aload_n (nx := 616) hO rfl rfl rfl ?_
          refine s_iload_n (nx := 617) hO rfl rfl rfl ?_
          refine s_iconst (x := 1) (nx := 618) hO rfl (by decide) rfl ?_
          refine s_iadd (nx := 619) hO rfl rfl ?_
          obtain ⟨b107, H⟩ := H
          refine s_roI (v := .int (xs (ix (x1 + 1)))) (nx := 620) hO rfl hr0 b107 rfl rfl ?_
          refine s_aload_n (nx := 621) hO rfl rfl rfl ?_
          refine s_iload_n (nx := 622) hO rfl rfl rfl ?_
          refine s_iconst (x := (nI 2)) (nx := 623) hO rfl (by decide) rfl ?_
          refine s_iadd (nx := 624) hO rfl rfl ?_
          obtain ⟨b108, H⟩ := H
          refine s_roI (v := .int (xs (ix (x1 + (nI 2))))) (nx := 625) hO rfl hr0 b108 rfl rfl ?_
          refine s_aload_n (nx := 626) hO rfl rfl rfl ?_
          refine s_iload_n (nx := 627) hO rfl rfl rfl ?_
          refine s_iconst (x := (nI 3)) (nx := 628) hO rfl (by decide) rfl ?_
          refine s_iadd (nx := 629) hO rfl rfl ?_
          obtain ⟨b109, H⟩ := H
          refine s_roI (v := .int (xs (ix (x1 + (nI 3))))) (nx := 630) hO rfl hr0 b109 rfl rfl ?_
          refine s_aload_n (nx := 631) hO rfl rfl rfl ?_
          refine s_iload_n (nx := 632) hO rfl rfl rfl ?_
          refine s_iconst (x := (nI 4)) (nx := 633) hO rfl (by decide) rfl ?_
          refine s_iadd (nx := 634) hO rfl rfl ?_
          obtain ⟨b110, H⟩ := H
          refine s_roI (v := .int (xs (ix (x1 + (nI 4))))) (nx := 635) hO rfl hr0 b110 rfl rfl ?_
          refine s_callV [.int (xs (ix (x1 + 1))), .int (xs (ix (x1 + (nI 2)))), .int (xs (ix (x1 + (nI 3)))), .int (xs (ix (x1 + (nI 4))))] (ci := 12) (F := TX12) (N := 116) (nx := 638) hO rfl kL_law_92 (by rw [hcl]; rfl) (hs_o12 kc139) (w_X12_watchCall hG H) rfl rfl (Nat.le_of_ble_eq_true rfl) (Nat.zero_le _) (Nat.zero_le _) rfl (k_Qi (fun r111 s112 H => ?_))
          refine s_icmp_eq (nx := 641) hO rfl rfl (fun c638 => ?_) (fun c638 => ?_)
          · replace H := H.1 c638
            exact xEx.loc (x_sub1 (List.Mem.head _) (x_sub1 (List.Mem.tail _ (List.Mem.head _)) (x_sub1 (List.Mem.tail _ (List.Mem.tail _ (List.Mem.head _))) (x_sub1 (List.Mem.tail _ (List.Mem.tail _ (List.Mem.tail _ (List.Mem.head _)))) x_sub0)))) H
          · replace H := H.2 c638
            refine s_iconst (x := 0) (nx := 642) hO rfl (by decide) rfl ?_
            exact s_iret hO rfl rfl rfl ⟨rfl, _, _, rfl, rfl, H⟩
        · replace H := H.2.2.2.2.2.2.2.2.2.2.2.2.2.2.2.2.2.2.1 c32
          refine ⟨643, by rw [c32]; rfl, ?_⟩
          refine s_aload_n (nx := 644) hO rfl rfl rfl ?_
          refine s_aload_n (nx := 645) hO rfl rfl rfl ?_
          refine s_iload_n (nx := 646) hO rfl rfl rfl ?_
          refine s_iconst (x := 1) (nx := 647) hO rfl (by decide) rfl ?_
          refine s_iadd (nx := 648) hO rfl rfl ?_
          obtain ⟨b113, H⟩ := H
          refine s_roI (v := .int (xs (ix (x1 + 1)))) (nx := 649) hO rfl hr0 b113 rfl rfl ?_
          refine s_aload_n (nx := 650) hO rfl rfl rfl ?_
          refine s_iload_n (nx := 651) hO rfl rfl rfl ?_
          refine s_iconst (x := (nI 2)) (nx := 652) hO rfl (by decide) rfl ?_
          refine s_iadd (nx := 653) hO rfl rfl ?_
          obtain ⟨b114, H⟩ := H
          refine s_roI (v := .int (xs (ix (x1 + (nI 2))))) (nx := 654) hO rfl hr0 b114 rfl rfl ?_
          refine s_callV [.int (xs (ix (x1 + 1))), .int (xs (ix (x1 + (nI 2))))] (ci := 11) (F := TX11) (N := 20) (nx := 657) hO rfl kL_law_93 (by rw [hcl]; rfl) (hs_o11 kc0) (w_X11_wayOf hG H) rfl rfl (Nat.le_of_ble_eq_true rfl) (Nat.zero_le _) (Nat.zero_le _) rfl (k_Pi (fun r115 H => ?_))
          refine s_aload_n (nx := 658) hO rfl rfl rfl ?_
          refine s_aload_n (nx := 659) hO rfl rfl rfl ?_
          refine s_iload_n (nx := 660) hO rfl rfl rfl ?_
          refine s_iconst (x := 1) (nx := 661) hO rfl (by decide) rfl ?_
          refine s_iadd (nx := 662) hO rfl rfl ?_
          obtain ⟨b116, H⟩ := H
          refine s_roI (v := .int (xs (ix (x1 + 1)))) (nx := 663) hO rfl hr0 b116 rfl rfl ?_
          refine s_aload_n (nx := 664) hO rfl rfl rfl ?_
          refine s_iload_n (nx := 665) hO rfl rfl rfl ?_
          refine s_iconst (x := (nI 2)) (nx := 666) hO rfl (by decide) rfl ?_
          refine s_iadd (nx := 667) hO rfl rfl ?_
          obtain ⟨b117, H⟩ := H
          refine s_roI (v := .int (xs (ix (x1 + (nI 2))))) (nx := 668) hO rfl hr0 b117 rfl rfl ?_
          refine s_callV [.int (xs (ix (x1 + 1))), .int (xs (ix (x1 + (nI 2))))] (ci := 12) (F := TX12) (N := 116) (nx := 671) hO rfl kL_law_96 (by rw [hcl]; rfl) (hs_o12 kc139) (w_X12_wayOf hG H) rfl rfl (Nat.le_of_ble_eq_true rfl) (Nat.zero_le _) (Nat.zero_le _) rfl (k_Qi (fun r118 s119 H => ?_))
          refine s_icmp_eq (nx := 674) hO rfl rfl (fun c671 => ?_) (fun c671 => ?_)
          · replace H := H.1 c671
            exact xEx.loc (x_sub1 (List.Mem.head _) (x_sub1 (List.Mem.tail _ (List.Mem.head _)) (x_sub1 (List.Mem.tail _ (List.Mem.tail _ (List.Mem.head _))) (x_sub1 (List.Mem.tail _ (List.Mem.tail _ (List.Mem.tail _ (List.Mem.head _)))) x_sub0)))) H
          · replace H := H.2 c671
            refine s_iconst (x := 0) (nx := 675) hO rfl (by decide) rfl ?_
            exact s_iret hO rfl rfl rfl ⟨rfl, _, _, rfl, rfl, H⟩
        · replace H := H.2.2.2.2.2.2.2.2.2.2.2.2.2.2.2.2.2.2.2.1 c32
          refine ⟨676, by rw [c32]; rfl, ?_⟩
          refine s_aload_n (nx := 677) hO rfl rfl rfl ?_
          refine s_aload_n (nx := 678) hO rfl rfl rfl ?_
          refine s_iload_n (nx := 679) hO rfl rfl rfl ?_
          refine s_iconst (x := 1) (nx := 680) hO rfl (by decide) rfl ?_
          refine s_iadd (nx := 681) hO rfl rfl ?_
          obtain ⟨b120, H⟩ := H
          refine s_roI (v := .int (xs (ix (x1 + 1)))) (nx := 682) hO rfl hr0 b120 rfl rfl ?_
          refine s_aload_n (nx := 683) hO rfl rfl rfl ?_
          refine s_iload_n (nx := 684) hO rfl rfl rfl ?_
          refine s_iconst (x := (nI 2)) (nx := 685) hO rfl (by decide) rfl ?_
          refine s_iadd (nx := 686) hO rfl rfl ?_
          obtain ⟨b121, H⟩ := H
          refine s_roI (v := .int (xs (ix (x1 + (nI 2))))) (nx := 687) hO rfl hr0 b121 rfl rfl ?_
          refine s_callV [.int (xs (ix (x1 + 1))), .int (xs (ix (x1 + (nI 2))))] (ci := 11) (F := TX11) (N := 20) (nx := 690) hO rfl kL_law_97 (by rw [hcl]; rfl) (hs_o11 kc0) (w_X11_letterOf hG H) rfl rfl (Nat.le_of_ble_eq_true rfl) (Nat.zero_le _) (Nat.zero_le _) rfl (k_Pi (fun r122 H => ?_))
          refine s_aload_n (nx := 691) hO rfl rfl rfl ?_
          refine s_aload_n (nx := 692) hO rfl rfl rfl ?_
          refine s_iload_n (nx := 693) hO rfl rfl rfl ?_
          refine s_iconst (x := 1) (nx := 694) hO rfl (by decide) rfl ?_
          refine s_iadd (nx := 695) hO rfl rfl ?_
          obtain ⟨b123, H⟩ := H
          refine s_roI (v := .int (xs (ix (x1 + 1)))) (nx := 696) hO rfl hr0 b123 rfl rfl ?_
          refine s_aload_n (nx := 697) hO rfl rfl rfl ?_
          refine s_iload_n (nx := 698) hO rfl rfl rfl ?_
          refine s_iconst (x := (nI 2)) (nx := 699) hO rfl (by decide) rfl ?_
          refine s_iadd (nx := 700) hO rfl rfl ?_
          obtain ⟨b124, H⟩ := H
          refine s_roI (v := .int (xs (ix (x1 + (nI 2))))) (nx := 701) hO rfl hr0 b124 rfl rfl ?_
          refine s_callV [.int (xs (ix (x1 + 1))), .int (xs (ix (x1 + (nI 2))))] (ci := 12) (F := TX12) (N := 116) (nx := 704) hO rfl kL_law_100 (by rw [hcl]; rfl) (hs_o12 kc139) (w_X12_letterOf hG H) rfl rfl (Nat.le_of_ble_eq_true rfl) (Nat.zero_le _) (Nat.zero_le _) rfl (k_Qi (fun r125 s126 H => ?_))
          refine s_icmp_eq (nx := 707) hO rfl rfl (fun c704 => ?_) (fun c704 => ?_)
          · replace H := H.1 c704
            exact xEx.loc (x_sub1 (List.Mem.head _) (x_sub1 (List.Mem.tail _ (List.Mem.head _)) (x_sub1 (List.Mem.tail _ (List.Mem.tail _ (List.Mem.head _))) (x_sub1 (List.Mem.tail _ (List.Mem.tail _ (List.Mem.tail _ (List.Mem.head _)))) x_sub0)))) H
          · replace H := H.2 c704
            refine s_iconst (x := 0) (nx := 708) hO rfl (by decide) rfl ?_
            exact s_iret hO rfl rfl rfl ⟨rfl, _, _, rfl, rfl, H⟩
        · replace H := H.2.2.2.2.2.2.2.2.2.2.2.2.2.2.2.2.2.2.2.2.1 c32
          refine ⟨709, by rw [c32]; rfl, ?_⟩
          refine s_aload_n (nx := 710) hO rfl rfl rfl ?_
          refine s_aload_n (nx := 711) hO rfl rfl rfl ?_
          refine s_iload_n (nx := 712) hO rfl rfl rfl ?_
          refine s_iconst (x := 1) (nx := 713) hO rfl (by decide) rfl ?_
          refine s_iadd (nx := 714) hO rfl rfl ?_
          obtain ⟨b127, H⟩ := H
          refine s_roI (v := .int (xs (ix (x1 + 1)))) (nx := 715) hO rfl hr0 b127 rfl rfl ?_
          refine goK (H (fun (y128 : Int32) => xEx G mL_law 723 [(0, .ref b), (1, .ref (q_b G + 0)), (2, .ref (q_b G + 139)), (3, .int x1)] [.int y128, .ref (q_b G + 0)] (hS G s2) z 0 0 (yQi G z Q)) (fun y128 H => ?_)) (fun H => ?_)
          · show xEx G mL_law 723 [(0, .ref b), (1, .ref (q_b G + 0)), (2, .ref (q_b G + 139)), (3, .int x1)] [.int y128, .ref (q_b G + 0)] (hS G s2) z 0 0 (yQi G z Q)
            refine s_aload_n (nx := 724) hO rfl rfl rfl ?_
            refine s_iload_n (nx := 725) hO rfl rfl rfl ?_
            refine s_iconst (x := (nI 2)) (nx := 726) hO rfl (by decide) rfl ?_
            refine s_iadd (nx := 727) hO rfl rfl ?_
            obtain ⟨b129, H⟩ := H
            refine s_roI (v := .int (xs (ix (x1 + (nI 2))))) (nx := 728) hO rfl hr0 b129 rfl rfl ?_
            refine s_aload_n (nx := 729) hO rfl rfl rfl ?_
            refine s_iload_n (nx := 730) hO rfl rfl rfl ?_
            refine s_iconst (x := (nI 3)) (nx := 731) hO rfl (by decide) rfl ?_
            refine s_iadd (nx := 732) hO rfl rfl ?_
            obtain ⟨b130, H⟩ := H
            refine s_roI (v := .int (xs (ix (x1 + (nI 3))))) (nx := 733) hO rfl hr0 b130 rfl rfl ?_
            refine s_aload_n (nx := 734) hO rfl rfl rfl ?_
            refine s_iload_n (nx := 735) hO rfl rfl rfl ?_
            refine s_iconst (x := (nI 4)) (nx := 736) hO rfl (by decide) rfl ?_
            refine s_iadd (nx := 737) hO rfl rfl ?_
            obtain ⟨b131, H⟩ := H
            refine s_roI (v := .int (xs (ix (x1 + (nI 4))))) (nx := 738) hO rfl hr0 b131 rfl rfl ?_
            refine s_callV [.int y128, .int (xs (ix (x1 + (nI 2)))), .int (xs (ix (x1 + (nI 3)))), .int (xs (ix (x1 + (nI 4))))] (ci := 11) (F := TX11) (N := 20) (nx := 741) hO rfl kL_law_101 (by rw [hcl]; rfl) (hs_o11 kc0) (w_X11_codeOf hG H) rfl rfl (Nat.le_of_ble_eq_true rfl) (Nat.zero_le _) (Nat.zero_le _) rfl (k_Qi (fun r132 s133 H => ?_))
            refine s_aload_n (nx := 742) hO rfl rfl rfl ?_
            refine s_aload_n (nx := 743) hO rfl rfl rfl ?_
            refine s_iload_n (nx := 744) hO rfl rfl rfl ?_
            refine s_iconst (x := 1) (nx := 745) hO rfl (by decide) rfl ?_
            refine s_iadd (nx := 746) hO rfl rfl ?_
            obtain ⟨b134, H⟩ := H
            refine s_roI (v := .int (xs (ix (x1 + 1)))) (nx := 747) hO rfl hr0 b134 rfl rfl ?_
            refine goK (H (fun (y135 : Int32) => xEx G mL_law 755 [(0, .ref b), (1, .ref (q_b G + 0)), (2, .ref (q_b G + 139)), (3, .int x1)] [.int y135, .ref (q_b G + 139), .int r132] (hS G s133) z 0 0 (yQi G z Q)) (fun y135 H => ?_)) (fun H => ?_)
            · show xEx G mL_law 755 [(0, .ref b), (1, .ref (q_b G + 0)), (2, .ref (q_b G + 139)), (3, .int x1)] [.int y135, .ref (q_b G + 139), .int r132] (hS G s133) z 0 0 (yQi G z Q)
              refine s_aload_n (nx := 756) hO rfl rfl rfl ?_
              refine s_iload_n (nx := 757) hO rfl rfl rfl ?_
              refine s_iconst (x := (nI 2)) (nx := 758) hO rfl (by decide) rfl ?_
              refine s_iadd (nx := 759) hO rfl rfl ?_
              obtain ⟨b136, H⟩ := H
              refine s_roI (v := .int (xs (ix (x1 + (nI 2))))) (nx := 760) hO rfl hr0 b136 rfl rfl ?_
              refine s_aload_n (nx := 761) hO rfl rfl rfl ?_
              refine s_iload_n (nx := 762) hO rfl rfl rfl ?_
              refine s_iconst (x := (nI 3)) (nx := 763) hO rfl (by decide) rfl ?_
              refine s_iadd (nx := 764) hO rfl rfl ?_
              obtain ⟨b137, H⟩ := H
              refine s_roI (v := .int (xs (ix (x1 + (nI 3))))) (nx := 765) hO rfl hr0 b137 rfl rfl ?_
              refine s_aload_n (nx := 766) hO rfl rfl rfl ?_
              refine s_iload_n (nx := 767) hO rfl rfl rfl ?_
              refine s_iconst (x := (nI 4)) (nx := 768) hO rfl (by decide) rfl ?_
              refine s_iadd (nx := 769) hO rfl rfl ?_
              obtain ⟨b138, H⟩ := H
              refine s_roI (v := .int (xs (ix (x1 + (nI 4))))) (nx := 770) hO rfl hr0 b138 rfl rfl ?_
              refine s_callV [.int y135, .int (xs (ix (x1 + (nI 2)))), .int (xs (ix (x1 + (nI 3)))), .int (xs (ix (x1 + (nI 4))))] (ci := 12) (F := TX12) (N := 116) (nx := 773) hO rfl kL_law_105 (by rw [hcl]; rfl) (hs_o12 kc139) (w_X12_codeOf hG H) rfl rfl (Nat.le_of_ble_eq_true rfl) (Nat.zero_le _) (Nat.zero_le _) rfl (k_Qi (fun r139 s140 H => ?_))
              refine s_icmp_eq (nx := 776) hO rfl rfl (fun c773 => ?_) (fun c773 => ?_)
              · replace H := H.1 c773
                exact xEx.loc (x_sub1 (List.Mem.head _) (x_sub1 (List.Mem.tail _ (List.Mem.head _)) (x_sub1 (List.Mem.tail _ (List.Mem.tail _ (List.Mem.head _))) (x_sub1 (List.Mem.tail _ (List.Mem.tail _ (List.Mem.tail _ (List.Mem.head _)))) x_sub0)))) H
              · replace H := H.2 c773
                refine s_iconst (x := 0) (nx := 777) hO rfl (by decide) rfl ?_
                exact s_iret hO rfl rfl rfl ⟨rfl, _, _, rfl, rfl, H⟩
            refine s_if_eq (nx := 750) hO rfl rfl (fun c747 => ?_) (fun c747 => ?_)
            · replace H := H.1 c747
              refine s_iconst (x := 0) (nx := 755) hO rfl (by decide) rfl ?_
              exact xEx.loc (x_sub1 (List.Mem.head _) (x_sub1 (List.Mem.tail _ (List.Mem.head _)) (x_sub1 (List.Mem.tail _ (List.Mem.tail _ (List.Mem.head _))) (x_sub1 (List.Mem.tail _ (List.Mem.tail _ (List.Mem.tail _ (List.Mem.head _)))) x_sub0)))) H
            · replace H := H.2 c747
              refine s_iconst (x := 1) (nx := 751) hO rfl (by decide) rfl ?_
              refine s_goto hO rfl ?_
              exact xEx.loc (x_sub1 (List.Mem.head _) (x_sub1 (List.Mem.tail _ (List.Mem.head _)) (x_sub1 (List.Mem.tail _ (List.Mem.tail _ (List.Mem.head _))) (x_sub1 (List.Mem.tail _ (List.Mem.tail _ (List.Mem.tail _ (List.Mem.head _)))) x_sub0)))) H
          refine s_if_eq (nx := 718) hO rfl rfl (fun c715 => ?_) (fun c715 => ?_)
          · replace H := H.1 c715
            refine s_iconst (x := 0) (nx := 723) hO rfl (by decide) rfl ?_
            exact xEx.loc (x_sub1 (List.Mem.head _) (x_sub1 (List.Mem.tail _ (List.Mem.head _)) (x_sub1 (List.Mem.tail _ (List.Mem.tail _ (List.Mem.head _))) (x_sub1 (List.Mem.tail _ (List.Mem.tail _ (List.Mem.tail _ (List.Mem.head _)))) x_sub0)))) H
          · replace H := H.2 c715
            refine s_iconst (x := 1) (nx := 719) hO rfl (by decide) rfl ?_
            refine s_goto hO rfl ?_
            exact xEx.loc (x_sub1 (List.Mem.head _) (x_sub1 (List.Mem.tail _ (List.Mem.head _)) (x_sub1 (List.Mem.tail _ (List.Mem.tail _ (List.Mem.head _))) (x_sub1 (List.Mem.tail _ (List.Mem.tail _ (List.Mem.tail _ (List.Mem.head _)))) x_sub0)))) H
        · replace H := H.2.2.2.2.2.2.2.2.2.2.2.2.2.2.2.2.2.2.2.2.2.1 c32
          refine ⟨778, by rw [c32]; rfl, ?_⟩
          refine s_aload_n (nx := 779) hO rfl rfl rfl ?_
          refine s_aload_n (nx := 780) hO rfl rfl rfl ?_
          refine s_iload_n (nx := 781) hO rfl rfl rfl ?_
          refine s_iconst (x := 1) (nx := 782) hO rfl (by decide) rfl ?_
          refine s_iadd (nx := 783) hO rfl rfl ?_
          obtain ⟨b141, H⟩ := H
          refine s_roI (v := .int (xs (ix (x1 + 1)))) (nx := 784) hO rfl hr0 b141 rfl rfl ?_
          refine goK (H (fun (y142 : Int32) => xEx G mL_law 792 [(0, .ref b), (1, .ref (q_b G + 0)), (2, .ref (q_b G + 139)), (3, .int x1)] [.int y142, .ref (q_b G + 0)] (hS G s2) z 0 0 (yQi G z Q)) (fun y142 H => ?_)) (fun H => ?_)
          · show xEx G mL_law 792 [(0, .ref b), (1, .ref (q_b G + 0)), (2, .ref (q_b G + 139)), (3, .int x1)] [.int y142, .ref (q_b G + 0)] (hS G s2) z 0 0 (yQi G z Q)
            refine s_aload_n (nx := 793) hO rfl rfl rfl ?_
            refine s_iload_n (nx := 794) hO rfl rfl rfl ?_
            refine s_iconst (x := (nI 2)) (nx := 795) hO rfl (by decide) rfl ?_
            refine s_iadd (nx := 796) hO rfl rfl ?_
            obtain ⟨b143, H⟩ := H
            refine s_roI (v := .int (xs (ix (x1 + (nI 2))))) (nx := 797) hO rfl hr0 b143 rfl rfl ?_
            refine s_aload_n (nx := 798) hO rfl rfl rfl ?_
            refine s_iload_n (nx := 799) hO rfl rfl rfl ?_
            refine s_iconst (x := (nI 3)) (nx := 800) hO rfl (by decide) rfl ?_
            refine s_iadd (nx := 801) hO rfl rfl ?_
            obtain ⟨b144, H⟩ := H
            refine s_roI (v := .int (xs (ix (x1 + (nI 3))))) (nx := 802) hO rfl hr0 b144 rfl rfl ?_
            refine s_callV [.int y142, .int (xs (ix (x1 + (nI 2)))), .int (xs (ix (x1 + (nI 3))))] (ci := 11) (F := TX11) (N := 20) (nx := 805) hO rfl kL_law_106 (by rw [hcl]; rfl) (hs_o11 kc0) (w_X11_mayOf hG H) rfl rfl (Nat.le_of_ble_eq_true rfl) (Nat.zero_le _) (Nat.zero_le _) rfl (k_Ql (fun r145 s146 H => ?_))
            refine s_aload_n (nx := 806) hO rfl rfl rfl ?_
            refine s_aload_n (nx := 807) hO rfl rfl rfl ?_
            refine s_iload_n (nx := 808) hO rfl rfl rfl ?_
            refine s_iconst (x := 1) (nx := 809) hO rfl (by decide) rfl ?_
            refine s_iadd (nx := 810) hO rfl rfl ?_
            obtain ⟨b147, H⟩ := H
            refine s_roI (v := .int (xs (ix (x1 + 1)))) (nx := 811) hO rfl hr0 b147 rfl rfl ?_
            refine goK (H (fun (y148 : Int32) => xEx G mL_law 819 [(0, .ref b), (1, .ref (q_b G + 0)), (2, .ref (q_b G + 139)), (3, .int x1)] [.int y148, .ref (q_b G + 139), .long r145] (hS G s146) z 0 0 (yQi G z Q)) (fun y148 H => ?_)) (fun H => ?_)
            · show xEx G mL_law 819 [(0, .ref b), (1, .ref (q_b G + 0)), (2, .ref (q_b G + 139)), (3, .int x1)] [.int y148, .ref (q_b G + 139), .long r145] (hS G s146) z 0 0 (yQi G z Q)
              refine s_aload_n (nx := 820) hO rfl rfl rfl ?_
              refine s_iload_n (nx := 821) hO rfl rfl rfl ?_
              refine s_iconst (x := (nI 2)) (nx := 822) hO rfl (by decide) rfl ?_
              refine s_iadd (nx := 823) hO rfl rfl ?_
              obtain ⟨b149, H⟩ := H
              refine s_roI (v := .int (xs (ix (x1 + (nI 2))))) (nx := 824) hO rfl hr0 b149 rfl rfl ?_
              refine s_aload_n (nx := 825) hO rfl rfl rfl ?_
              refine s_iload_n (nx := 826) hO rfl rfl rfl ?_
              refine s_iconst (x := (nI 3)) (nx := 827) hO rfl (by decide) rfl ?_
              refine s_iadd (nx := 828) hO rfl rfl ?_
              obtain ⟨b150, H⟩ := H
              refine s_roI (v := .int (xs (ix (x1 + (nI 3))))) (nx := 829) hO rfl hr0 b150 rfl rfl ?_
              refine s_callV [.int y148, .int (xs (ix (x1 + (nI 2)))), .int (xs (ix (x1 + (nI 3))))] (ci := 12) (F := TX12) (N := 116) (nx := 832) hO rfl kL_law_110 (by rw [hcl]; rfl) (hs_o12 kc139) (w_X12_mayOf hG H) rfl rfl (Nat.le_of_ble_eq_true rfl) (Nat.zero_le _) (Nat.zero_le _) rfl (k_Ql (fun r151 s152 H => ?_))
              refine s_lcmp (nx := 833) hO rfl rfl ?_
              refine s_if_eq (nx := 836) hO rfl rfl (fun c833 => ?_) (fun c833 => ?_)
              · replace H := H.1 c833
                exact xEx.loc (x_sub1 (List.Mem.head _) (x_sub1 (List.Mem.tail _ (List.Mem.head _)) (x_sub1 (List.Mem.tail _ (List.Mem.tail _ (List.Mem.head _))) (x_sub1 (List.Mem.tail _ (List.Mem.tail _ (List.Mem.tail _ (List.Mem.head _)))) x_sub0)))) H
              · replace H := H.2 c833
                refine s_iconst (x := 0) (nx := 837) hO rfl (by decide) rfl ?_
                exact s_iret hO rfl rfl rfl ⟨rfl, _, _, rfl, rfl, H⟩
            refine s_if_eq (nx := 814) hO rfl rfl (fun c811 => ?_) (fun c811 => ?_)
            · replace H := H.1 c811
              refine s_iconst (x := 0) (nx := 819) hO rfl (by decide) rfl ?_
              exact xEx.loc (x_sub1 (List.Mem.head _) (x_sub1 (List.Mem.tail _ (List.Mem.head _)) (x_sub1 (List.Mem.tail _ (List.Mem.tail _ (List.Mem.head _))) (x_sub1 (List.Mem.tail _ (List.Mem.tail _ (List.Mem.tail _ (List.Mem.head _)))) x_sub0)))) H
            · replace H := H.2 c811
              refine s_iconst (x := 1) (nx := 815) hO rfl (by decide) rfl ?_
              refine s_goto hO rfl ?_
              exact xEx.loc (x_sub1 (List.Mem.head _) (x_sub1 (List.Mem.tail _ (List.Mem.head _)) (x_sub1 (List.Mem.tail _ (List.Mem.tail _ (List.Mem.head _))) (x_sub1 (List.Mem.tail _ (List.Mem.tail _ (List.Mem.tail _ (List.Mem.head _)))) x_sub0)))) H
          refine s_if_eq (nx := 787) hO rfl rfl (fun c784 => ?_) (fun c784 => ?_)
          · replace H := H.1 c784
            refine s_iconst (x := 0) (nx := 792) hO rfl (by decide) rfl ?_
            exact xEx.loc (x_sub1 (List.Mem.head _) (x_sub1 (List.Mem.tail _ (List.Mem.head _)) (x_sub1 (List.Mem.tail _ (List.Mem.tail _ (List.Mem.head _))) (x_sub1 (List.Mem.tail _ (List.Mem.tail _ (List.Mem.tail _ (List.Mem.head _)))) x_sub0)))) H
          · replace H := H.2 c784
            refine s_iconst (x := 1) (nx := 788) hO rfl (by decide) rfl ?_
            refine s_goto hO rfl ?_
            exact xEx.loc (x_sub1 (List.Mem.head _) (x_sub1 (List.Mem.tail _ (List.Mem.head _)) (x_sub1 (List.Mem.tail _ (List.Mem.tail _ (List.Mem.head _))) (x_sub1 (List.Mem.tail _ (List.Mem.tail _ (List.Mem.tail _ (List.Mem.head _)))) x_sub0)))) H
        · replace H := H.2.2.2.2.2.2.2.2.2.2.2.2.2.2.2.2.2.2.2.2.2.2.1 c32
          refine ⟨838, by rw [c32]; rfl, ?_⟩
          refine s_aload_n (nx := 839) hO rfl rfl rfl ?_
          refine s_aload_n (nx := 840) hO rfl rfl rfl ?_
          refine s_iload_n (nx := 841) hO rfl rfl rfl ?_
          refine s_iconst (x := 1) (nx := 842) hO rfl (by decide) rfl ?_
          refine s_iadd (nx := 843) hO rfl rfl ?_
          obtain ⟨b153, H⟩ := H
          refine s_roI (v := .int (xs (ix (x1 + 1)))) (nx := 844) hO rfl hr0 b153 rfl rfl ?_
          refine goK (H (fun (y154 : Int32) => xEx G mL_law 852 [(0, .ref b), (1, .ref (q_b G + 0)), (2, .ref (q_b G + 139)), (3, .int x1)] [.int y154, .ref (q_b G + 0)] (hS G s2) z 0 0 (yQi G z Q)) (fun y154 H => ?_)) (fun H => ?_)
          · show xEx G mL_law 852 [(0, .ref b), (1, .ref (q_b G + 0)), (2, .ref (q_b G + 139)), (3, .int x1)] [.int y154, .ref (q_b G + 0)] (hS G s2) z 0 0 (yQi G z Q)
            refine s_aload_n (nx := 853) hO rfl rfl rfl ?_
            refine s_iload_n (nx := 854) hO rfl rfl rfl ?_
            refine s_iconst (x := (nI 2)) (nx := 855) hO rfl (by decide) rfl ?_
            refine s_iadd (nx := 856) hO rfl rfl ?_
            obtain ⟨b155, H⟩ := H
            refine s_roI (v := .int (xs (ix (x1 + (nI 2))))) (nx := 857) hO rfl hr0 b155 rfl rfl ?_
            refine s_aload_n (nx := 858) hO rfl rfl rfl ?_
            refine s_iload_n (nx := 859) hO rfl rfl rfl ?_
            refine s_iconst (x := (nI 3)) (nx := 860) hO rfl (by decide) rfl ?_
            refine s_iadd (nx := 861) hO rfl rfl ?_
            obtain ⟨b156, H⟩ := H
            refine s_roI (v := .int (xs (ix (x1 + (nI 3))))) (nx := 862) hO rfl hr0 b156 rfl rfl ?_
            refine s_callV [.int y154, .int (xs (ix (x1 + (nI 2)))), .int (xs (ix (x1 + (nI 3))))] (ci := 11) (F := TX11) (N := 20) (nx := 865) hO rfl kL_law_111 (by rw [hcl]; rfl) (hs_o11 kc0) (w_X11_functionOf hG H) rfl rfl (Nat.le_of_ble_eq_true rfl) (Nat.zero_le _) (Nat.zero_le _) rfl (k_Pi (fun r157 H => ?_))
            refine s_aload_n (nx := 866) hO rfl rfl rfl ?_
            refine s_aload_n (nx := 867) hO rfl rfl rfl ?_
            refine s_iload_n (nx := 868) hO rfl rfl rfl ?_
            refine s_iconst (x := 1) (nx := 869) hO rfl (by decide) rfl ?_
            refine s_iadd (nx := 870) hO rfl rfl ?_
            obtain ⟨b158, H⟩ := H
            refine s_roI (v := .int (xs (ix (x1 + 1)))) (nx := 871) hO rfl hr0 b158 rfl rfl ?_
            refine goK (H (fun (y159 : Int32) => xEx G mL_law 879 [(0, .ref b), (1, .ref (q_b G + 0)), (2, .ref (q_b G + 139)), (3, .int x1)] [.int y159, .ref (q_b G + 139), .int r157] (hS G s2) z 0 0 (yQi G z Q)) (fun y159 H => ?_)) (fun H => ?_)
            · show xEx G mL_law 879 [(0, .ref b), (1, .ref (q_b G + 0)), (2, .ref (q_b G + 139)), (3, .int x1)] [.int y159, .ref (q_b G + 139), .int r157] (hS G s2) z 0 0 (yQi G z Q)
              refine s_aload_n (nx := 880) hO rfl rfl rfl ?_
              refine s_iload_n (nx := 881) hO rfl rfl rfl ?_
              refine s_iconst (x := (nI 2)) (nx := 882) hO rfl (by decide) rfl ?_
              refine s_iadd (nx := 883) hO rfl rfl ?_
              obtain ⟨b160, H⟩ := H
              refine s_roI (v := .int (xs (ix (x1 + (nI 2))))) (nx := 884) hO rfl hr0 b160 rfl rfl ?_
              refine s_aload_n (nx := 885) hO rfl rfl rfl ?_
              refine s_iload_n (nx := 886) hO rfl rfl rfl ?_
              refine s_iconst (x := (nI 3)) (nx := 887) hO rfl (by decide) rfl ?_
              refine s_iadd (nx := 888) hO rfl rfl ?_
              obtain ⟨b161, H⟩ := H
              refine s_roI (v := .int (xs (ix (x1 + (nI 3))))) (nx := 889) hO rfl hr0 b161 rfl rfl ?_
              refine s_callV [.int y159, .int (xs (ix (x1 + (nI 2)))), .int (xs (ix (x1 + (nI 3))))] (ci := 12) (F := TX12) (N := 116) (nx := 892) hO rfl kL_law_115 (by rw [hcl]; rfl) (hs_o12 kc139) (w_X12_functionOf hG H) rfl rfl (Nat.le_of_ble_eq_true rfl) (Nat.zero_le _) (Nat.zero_le _) rfl (k_Qi (fun r162 s163 H => ?_))
              refine s_icmp_eq (nx := 895) hO rfl rfl (fun c892 => ?_) (fun c892 => ?_)
              · replace H := H.1 c892
                exact xEx.loc (x_sub1 (List.Mem.head _) (x_sub1 (List.Mem.tail _ (List.Mem.head _)) (x_sub1 (List.Mem.tail _ (List.Mem.tail _ (List.Mem.head _))) (x_sub1 (List.Mem.tail _ (List.Mem.tail _ (List.Mem.tail _ (List.Mem.head _)))) x_sub0)))) H
              · replace H := H.2 c892
                refine s_iconst (x := 0) (nx := 896) hO rfl (by decide) rfl ?_
                exact s_iret hO rfl rfl rfl ⟨rfl, _, _, rfl, rfl, H⟩
            refine s_if_eq (nx := 874) hO rfl rfl (fun c871 => ?_) (fun c871 => ?_)
            · replace H := H.1 c871
              refine s_iconst (x := 0) (nx := 879) hO rfl (by decide) rfl ?_
              exact xEx.loc (x_sub1 (List.Mem.head _) (x_sub1 (List.Mem.tail _ (List.Mem.head _)) (x_sub1 (List.Mem.tail _ (List.Mem.tail _ (List.Mem.head _))) (x_sub1 (List.Mem.tail _ (List.Mem.tail _ (List.Mem.tail _ (List.Mem.head _)))) x_sub0)))) H
            · replace H := H.2 c871
              refine s_iconst (x := 1) (nx := 875) hO rfl (by decide) rfl ?_
              refine s_goto hO rfl ?_
              exact xEx.loc (x_sub1 (List.Mem.head _) (x_sub1 (List.Mem.tail _ (List.Mem.head _)) (x_sub1 (List.Mem.tail _ (List.Mem.tail _ (List.Mem.head _))) (x_sub1 (List.Mem.tail _ (List.Mem.tail _ (List.Mem.tail _ (List.Mem.head _)))) x_sub0)))) H
          refine s_if_eq (nx := 847) hO rfl rfl (fun c844 => ?_) (fun c844 => ?_)
          · replace H := H.1 c844
            refine s_iconst (x := 0) (nx := 852) hO rfl (by decide) rfl ?_
            exact xEx.loc (x_sub1 (List.Mem.head _) (x_sub1 (List.Mem.tail _ (List.Mem.head _)) (x_sub1 (List.Mem.tail _ (List.Mem.tail _ (List.Mem.head _))) (x_sub1 (List.Mem.tail _ (List.Mem.tail _ (List.Mem.tail _ (List.Mem.head _)))) x_sub0)))) H
          · replace H := H.2 c844
            refine s_iconst (x := 1) (nx := 848) hO rfl (by decide) rfl ?_
            refine s_goto hO rfl ?_
            exact xEx.loc (x_sub1 (List.Mem.head _) (x_sub1 (List.Mem.tail _ (List.Mem.head _)) (x_sub1 (List.Mem.tail _ (List.Mem.tail _ (List.Mem.head _))) (x_sub1 (List.Mem.tail _ (List.Mem.tail _ (List.Mem.tail _ (List.Mem.head _)))) x_sub0)))) H
        · replace H := H.2.2.2.2.2.2.2.2.2.2.2.2.2.2.2.2.2.2.2.2.2.2.2.1 c32
          refine ⟨897, by rw [c32]; rfl, ?_⟩
          refine s_aload_n (nx := 898) hO rfl rfl rfl ?_
          refine s_aload_n (nx := 899) hO rfl rfl rfl ?_
          refine s_iload_n (nx := 900) hO rfl rfl rfl ?_
          refine s_iconst (x := 1) (nx := 901) hO rfl (by decide) rfl ?_
          refine s_iadd (nx := 902) hO rfl rfl ?_
          obtain ⟨b164, H⟩ := H
          refine s_roI (v := .int (xs (ix (x1 + 1)))) (nx := 903) hO rfl hr0 b164 rfl rfl ?_
          refine s_aload_n (nx := 904) hO rfl rfl rfl ?_
          refine s_iload_n (nx := 905) hO rfl rfl rfl ?_
          refine s_iconst (x := (nI 2)) (nx := 906) hO rfl (by decide) rfl ?_
          refine s_iadd (nx := 907) hO rfl rfl ?_
          obtain ⟨b165, H⟩ := H
          refine s_roI (v := .int (xs (ix (x1 + (nI 2))))) (nx := 908) hO rfl hr0 b165 rfl rfl ?_
          refine goK (H (fun (y166 : Int32) => xEx G mL_law 916 [(0, .ref b), (1, .ref (q_b G + 0)), (2, .ref (q_b G + 139)), (3, .int x1)] [.int y166, .int (xs (ix (x1 + 1))), .ref (q_b G + 0)] (hS G s2) z 0 0 (yQi G z Q)) (fun y166 H => ?_)) (fun H => ?_)
          · show xEx G mL_law 916 [(0, .ref b), (1, .ref (q_b G + 0)), (2, .ref (q_b G + 139)), (3, .int x1)] [.int y166, .int (xs (ix (x1 + 1))), .ref (q_b G + 0)] (hS G s2) z 0 0 (yQi G z Q)
            refine s_callV [.int (xs (ix (x1 + 1))), .int y166] (ci := 11) (F := TX11) (N := 20) (nx := 919) hO rfl kL_law_116 (by rw [hcl]; rfl) (hs_o11 kc0) (w_X11_byteOf hG H) rfl rfl (Nat.le_of_ble_eq_true rfl) (Nat.zero_le _) (Nat.zero_le _) rfl (k_Pi (fun r167 H => ?_))
            refine s_aload_n (nx := 920) hO rfl rfl rfl ?_
            refine s_aload_n (nx := 921) hO rfl rfl rfl ?_
            refine s_iload_n (nx := 922) hO rfl rfl rfl ?_
            refine s_iconst (x := 1) (nx := 923) hO rfl (by decide) rfl ?_
            refine s_iadd (nx := 924) hO rfl rfl ?_
            obtain ⟨b168, H⟩ := H
            refine s_roI (v := .int (xs (ix (x1 + 1)))) (nx := 925) hO rfl hr0 b168 rfl rfl ?_
            refine s_aload_n (nx := 926) hO rfl rfl rfl ?_
            refine s_iload_n (nx := 927) hO rfl rfl rfl ?_
            refine s_iconst (x := (nI 2)) (nx := 928) hO rfl (by decide) rfl ?_
            refine s_iadd (nx := 929) hO rfl rfl ?_
            obtain ⟨b169, H⟩ := H
            refine s_roI (v := .int (xs (ix (x1 + (nI 2))))) (nx := 930) hO rfl hr0 b169 rfl rfl ?_
            refine goK (H (fun (y170 : Int32) => xEx G mL_law 938 [(0, .ref b), (1, .ref (q_b G + 0)), (2, .ref (q_b G + 139)), (3, .int x1)] [.int y170, .int (xs (ix (x1 + 1))), .ref (q_b G + 139), .int r167] (hS G s2) z 0 0 (yQi G z Q)) (fun y170 H => ?_)) (fun H => ?_)
            · show xEx G mL_law 938 [(0, .ref b), (1, .ref (q_b G + 0)), (2, .ref (q_b G + 139)), (3, .int x1)] [.int y170, .int (xs (ix (x1 + 1))), .ref (q_b G + 139), .int r167] (hS G s2) z 0 0 (yQi G z Q)
              refine s_callV [.int (xs (ix (x1 + 1))), .int y170] (ci := 12) (F := TX12) (N := 116) (nx := 941) hO rfl kL_law_119 (by rw [hcl]; rfl) (hs_o12 kc139) (w_X12_byteOf hG H) rfl rfl (Nat.le_of_ble_eq_true rfl) (Nat.zero_le _) (Nat.zero_le _) rfl (k_Qi (fun r171 s172 H => ?_))
              refine s_icmp_eq (nx := 944) hO rfl rfl (fun c941 => ?_) (fun c941 => ?_)
              · replace H := H.1 c941
                exact xEx.loc (x_sub1 (List.Mem.head _) (x_sub1 (List.Mem.tail _ (List.Mem.head _)) (x_sub1 (List.Mem.tail _ (List.Mem.tail _ (List.Mem.head _))) (x_sub1 (List.Mem.tail _ (List.Mem.tail _ (List.Mem.tail _ (List.Mem.head _)))) x_sub0)))) H
              · replace H := H.2 c941
                refine s_iconst (x := 0) (nx := 945) hO rfl (by decide) rfl ?_
                exact s_iret hO rfl rfl rfl ⟨rfl, _, _, rfl, rfl, H⟩
            refine s_if_eq (nx := 933) hO rfl rfl (fun c930 => ?_) (fun c930 => ?_)
            · replace H := H.1 c930
              refine s_iconst (x := 0) (nx := 938) hO rfl (by decide) rfl ?_
              exact xEx.loc (x_sub1 (List.Mem.head _) (x_sub1 (List.Mem.tail _ (List.Mem.head _)) (x_sub1 (List.Mem.tail _ (List.Mem.tail _ (List.Mem.head _))) (x_sub1 (List.Mem.tail _ (List.Mem.tail _ (List.Mem.tail _ (List.Mem.head _)))) x_sub0)))) H
            · replace H := H.2 c930
              refine s_iconst (x := 1) (nx := 934) hO rfl (by decide) rfl ?_
              refine s_goto hO rfl ?_
              exact xEx.loc (x_sub1 (List.Mem.head _) (x_sub1 (List.Mem.tail _ (List.Mem.head _)) (x_sub1 (List.Mem.tail _ (List.Mem.tail _ (List.Mem.head _))) (x_sub1 (List.Mem.tail _ (List.Mem.tail _ (List.Mem.tail _ (List.Mem.head _)))) x_sub0)))) H
          refine s_if_eq (nx := 911) hO rfl rfl (fun c908 => ?_) (fun c908 => ?_)
          · replace H := H.1 c908
            refine s_iconst (x := 0) (nx := 916) hO rfl (by decide) rfl ?_
            exact xEx.loc (x_sub1 (List.Mem.head _) (x_sub1 (List.Mem.tail _ (List.Mem.head _)) (x_sub1 (List.Mem.tail _ (List.Mem.tail _ (List.Mem.head _))) (x_sub1 (List.Mem.tail _ (List.Mem.tail _ (List.Mem.tail _ (List.Mem.head _)))) x_sub0)))) H
          · replace H := H.2 c908
            refine s_iconst (x := 1) (nx := 912) hO rfl (by decide) rfl ?_
            refine s_goto hO rfl ?_
            exact xEx.loc (x_sub1 (List.Mem.head _) (x_sub1 (List.Mem.tail _ (List.Mem.head _)) (x_sub1 (List.Mem.tail _ (List.Mem.tail _ (List.Mem.head _))) (x_sub1 (List.Mem.tail _ (List.Mem.tail _ (List.Mem.tail _ (List.Mem.head _)))) x_sub0)))) H
        · replace H := H.2.2.2.2.2.2.2.2.2.2.2.2.2.2.2.2.2.2.2.2.2.2.2.2 c32
          refine ⟨946, by rw [c32]; rfl, ?_⟩
          refine s_aload_n (nx := 947) hO rfl rfl rfl ?_
          refine s_aload_n (nx := 948) hO rfl rfl rfl ?_
          refine s_iload_n (nx := 949) hO rfl rfl rfl ?_
          refine s_iconst (x := 1) (nx := 950) hO rfl (by decide) rfl ?_
          refine s_iadd (nx := 951) hO rfl rfl ?_
          obtain ⟨b173, H⟩ := H
          refine s_roI (v := .int (xs (ix (x1 + 1)))) (nx := 952) hO rfl hr0 b173 rfl rfl ?_
          refine s_callV [.int (xs (ix (x1 + 1)))] (ci := 11) (F := TX11) (N := 20) (nx := 955) hO rfl kL_law_120 (by rw [hcl]; rfl) (hs_o11 kc0) (w_X11_lookAt hG H) rfl rfl (Nat.le_of_ble_eq_true rfl) (Nat.zero_le _) (Nat.zero_le _) rfl (k_Pi (fun r174 H => ?_))
          refine s_aload_n (nx := 956) hO rfl rfl rfl ?_
          refine s_aload_n (nx := 957) hO rfl rfl rfl ?_
          refine s_iload_n (nx := 958) hO rfl rfl rfl ?_
          refine s_iconst (x := 1) (nx := 959) hO rfl (by decide) rfl ?_
          refine s_iadd (nx := 960) hO rfl rfl ?_
          obtain ⟨b175, H⟩ := H
          refine s_roI (v := .int (xs (ix (x1 + 1)))) (nx := 961) hO rfl hr0 b175 rfl rfl ?_
          refine s_callV [.int (xs (ix (x1 + 1)))] (ci := 12) (F := TX12) (N := 116) (nx := 964) hO rfl kL_law_123 (by rw [hcl]; rfl) (hs_o12 kc139) (w_X12_lookAt hG H) rfl rfl (Nat.le_of_ble_eq_true rfl) (Nat.zero_le _) (Nat.zero_le _) rfl (k_Qi (fun r176 s177 H => ?_))
          refine s_icmp_eq (nx := 967) hO rfl rfl (fun c964 => ?_) (fun c964 => ?_)
          · replace H := H.1 c964
            exact xEx.loc (x_sub1 (List.Mem.head _) (x_sub1 (List.Mem.tail _ (List.Mem.head _)) (x_sub1 (List.Mem.tail _ (List.Mem.tail _ (List.Mem.head _))) (x_sub1 (List.Mem.tail _ (List.Mem.tail _ (List.Mem.tail _ (List.Mem.head _)))) x_sub0)))) H
          · replace H := H.2 c964
            refine s_iconst (x := 0) (nx := 968) hO rfl (by decide) rfl ?_
            exact s_iret hO rfl rfl rfl ⟨rfl, _, _, rfl, rfl, H⟩
  refine s_istore_n (nx := 18) (l' := [(3, .int 0), (2, .ref (q_b G + 139)), (1, .ref (q_b G + 0)), (0, .ref b)]) hO rfl (by decide) rfl rfl ?_
  exact xEx.loc (x_sub1 (List.Mem.tail _ (List.Mem.tail _ (List.Mem.tail _ (List.Mem.head _)))) (x_sub1 (List.Mem.tail _ (List.Mem.tail _ (List.Mem.head _))) (x_sub1 (List.Mem.tail _ (List.Mem.head _)) (x_sub1 (List.Mem.head _) x_sub0)))) H

def tbJ7_fill_d0a16 : xT := [(0, .iconst 0, 1, []), (1, .istore_n 3, 1, []), (2, .aload_n 0, 1, []), (3, .arraylength, 1, []), (4, .istore 4, 2, []), (6, .iload_n 3, 1, []), (7, .iload 4, 2, []), (9, .if_icmp .ge 13, 3, [22]), (12, .aload_n 0, 1, []), (13, .iload_n 3, 1, []), (14, .lload_n 1, 1, []), (15, .lastore, 1, []), (16, .iinc 3 1, 3, []), (19, .goto (-13), 3, [6]), (22, .return_, 1, [])]
def ptJ7_fill_d0a16 : xP := (fun j => List.lookup j [], fun j => List.lookup j [], fun j => List.lookup j [], fun j => List.lookup j [], fun j => List.lookup j [], fun j => List.lookup j [])
set_option maxRecDepth 100000 in
theorem tkJ7_fill_d0a16 : xTok mJ7_fill_d0a16 tbJ7_fill_d0a16 := x_tok (by decide +kernel)
set_option maxRecDepth 100000 in
theorem pkJ7_fill_d0a16 {G : xG} (hcl : q_cl G = vwCl) : xPok G mJ7_fill_d0a16 ptJ7_fill_d0a16 := ⟨x_pkF (fun _ h => absurd h List.not_mem_nil), x_pkI (fun _ h => absurd h List.not_mem_nil), x_pkJ (fun _ h => absurd h List.not_mem_nil), x_pkN (fun _ h => absurd h List.not_mem_nil), x_pkS (fun _ h => absurd h List.not_mem_nil), x_pkD (fun _ h => absurd h List.not_mem_nil)⟩
def tbJ7_fill_53178 : xT := [(0, .iconst 0, 1, []), (1, .istore_n 2, 1, []), (2, .aload_n 0, 1, []), (3, .arraylength, 1, []), (4, .istore_n 3, 1, []), (5, .iload_n 2, 1, []), (6, .iload_n 3, 1, []), (7, .if_icmp .ge 13, 3, [20]), (10, .aload_n 0, 1, []), (11, .iload_n 2, 1, []), (12, .iload_n 1, 1, []), (13, .iastore, 1, []), (14, .iinc 2 1, 3, []), (17, .goto (-12), 3, [5]), (20, .return_, 1, [])]
def ptJ7_fill_53178 : xP := (fun j => List.lookup j [], fun j => List.lookup j [], fun j => List.lookup j [], fun j => List.lookup j [], fun j => List.lookup j [], fun j => List.lookup j [])
set_option maxRecDepth 100000 in
theorem tkJ7_fill_53178 : xTok mJ7_fill_53178 tbJ7_fill_53178 := x_tok (by decide +kernel)
set_option maxRecDepth 100000 in
theorem pkJ7_fill_53178 {G : xG} (hcl : q_cl G = vwCl) : xPok G mJ7_fill_53178 ptJ7_fill_53178 := ⟨x_pkF (fun _ h => absurd h List.not_mem_nil), x_pkI (fun _ h => absurd h List.not_mem_nil), x_pkJ (fun _ h => absurd h List.not_mem_nil), x_pkN (fun _ h => absurd h List.not_mem_nil), x_pkS (fun _ h => absurd h List.not_mem_nil), x_pkD (fun _ h => absurd h List.not_mem_nil)⟩
def tbJ0_coder_7d493 : xT := [(0, .getstatic 38, 3, []), (3, .ifCond .eq 10, 3, [13]), (6, .aload_n 0, 1, []), (7, .getfield 15, 3, []), (10, .goto 4, 3, [14]), (13, .iconst 1, 1, []), (14, .ireturn, 1, [])]
def ptJ0_coder_7d493 : xP := (fun j => List.lookup j [], fun j => List.lookup j [], fun j => List.lookup j [], fun j => List.lookup j [], fun j => List.lookup j [], fun j => List.lookup j [])
set_option maxRecDepth 100000 in
theorem tkJ0_coder_7d493 : xTok mJ0_coder_7d493 tbJ0_coder_7d493 := x_tok (by decide +kernel)
set_option maxRecDepth 100000 in
theorem pkJ0_coder_7d493 {G : xG} (hcl : q_cl G = vwCl) : xPok G mJ0_coder_7d493 ptJ0_coder_7d493 := ⟨x_pkF (fun _ h => absurd h List.not_mem_nil), x_pkI (fun _ h => absurd h List.not_mem_nil), x_pkJ (fun _ h => absurd h List.not_mem_nil), x_pkN (fun _ h => absurd h List.not_mem_nil), x_pkS (fun _ h => absurd h List.not_mem_nil), x_pkD (fun _ h => absurd h List.not_mem_nil)⟩
def tbJ0_length_8abf5 : xT := [(0, .aload_n 0, 1, []), (1, .getfield 9, 3, []), (4, .arraylength, 1, []), (5, .aload_n 0, 1, []), (6, .invokevirtual 335, 3, []), (9, .ishr, 1, []), (10, .ireturn, 1, [])]
def ptJ0_length_8abf5 : xP := (fun j => List.lookup j [], fun j => List.lookup j [], fun j => List.lookup j [], fun j => List.lookup j [], fun j => List.lookup j [], fun j => List.lookup j [])
set_option maxRecDepth 100000 in
theorem tkJ0_length_8abf5 : xTok mJ0_length_8abf5 tbJ0_length_8abf5 := x_tok (by decide +kernel)
set_option maxRecDepth 100000 in
theorem pkJ0_length_8abf5 {G : xG} (hcl : q_cl G = vwCl) : xPok G mJ0_length_8abf5 ptJ0_length_8abf5 := ⟨x_pkF (fun _ h => absurd h List.not_mem_nil), x_pkI (fun _ h => absurd h List.not_mem_nil), x_pkJ (fun _ h => absurd h List.not_mem_nil), x_pkN (fun _ h => absurd h List.not_mem_nil), x_pkS (fun _ h => absurd h List.not_mem_nil), x_pkD (fun _ h => absurd h List.not_mem_nil)⟩
theorem kJ0_length_8abf5_335 : xCv mJ0_length_8abf5 335 mJ0_coder_7d493 0 := x_mkV (ir6 _ (List.mem_of_getElem? (i := 17) rfl)) (ir6 _ (List.mem_of_getElem? (i := 18) rfl)) (ir6 _ (List.mem_of_getElem? (i := 19) rfl)) (ir6 _ (List.mem_of_getElem? (i := 14) rfl)) (ir6 _ (List.mem_of_getElem? (i := 20) rfl)) (by decide +kernel) (by decide) (by decide)
def tbJ0_isLatin1_aae02 : xT := [(0, .getstatic 38, 3, []), (3, .ifCond .eq 14, 3, [17]), (6, .aload_n 0, 1, []), (7, .getfield 15, 3, []), (10, .ifCond .ne 7, 3, [17]), (13, .iconst 1, 1, []), (14, .goto 4, 3, [18]), (17, .iconst 0, 1, []), (18, .ireturn, 1, [])]
def ptJ0_isLatin1_aae02 : xP := (fun j => List.lookup j [], fun j => List.lookup j [], fun j => List.lookup j [], fun j => List.lookup j [], fun j => List.lookup j [], fun j => List.lookup j [])
set_option maxRecDepth 100000 in
theorem tkJ0_isLatin1_aae02 : xTok mJ0_isLatin1_aae02 tbJ0_isLatin1_aae02 := x_tok (by decide +kernel)
set_option maxRecDepth 100000 in
theorem pkJ0_isLatin1_aae02 {G : xG} (hcl : q_cl G = vwCl) : xPok G mJ0_isLatin1_aae02 ptJ0_isLatin1_aae02 := ⟨x_pkF (fun _ h => absurd h List.not_mem_nil), x_pkI (fun _ h => absurd h List.not_mem_nil), x_pkJ (fun _ h => absurd h List.not_mem_nil), x_pkN (fun _ h => absurd h List.not_mem_nil), x_pkS (fun _ h => absurd h List.not_mem_nil), x_pkD (fun _ h => absurd h List.not_mem_nil)⟩
def tbJ3_checkIndex_8e157 : xT := [(0, .iload_n 0, 1, []), (1, .ifCond .lt 8, 3, [9]), (4, .iload_n 0, 1, []), (5, .iload_n 1, 1, []), (6, .if_icmp .lt 10, 3, [16]), (9, .aload_n 2, 1, []), (10, .iload_n 0, 1, []), (11, .iload_n 1, 1, []), (12, .invokestatic 95, 3, []), (15, .athrow, 1, []), (16, .iload_n 0, 1, []), (17, .ireturn, 1, [])]
def ptJ3_checkIndex_8e157 : xP := (fun j => List.lookup j [], fun j => List.lookup j [], fun j => List.lookup j [], fun j => List.lookup j [], fun j => List.lookup j [], fun j => List.lookup j [])
set_option maxRecDepth 100000 in
theorem tkJ3_checkIndex_8e157 : xTok mJ3_checkIndex_8e157 tbJ3_checkIndex_8e157 := x_tok (by decide +kernel)
set_option maxRecDepth 100000 in
theorem pkJ3_checkIndex_8e157 {G : xG} (hcl : q_cl G = vwCl) : xPok G mJ3_checkIndex_8e157 ptJ3_checkIndex_8e157 := ⟨x_pkF (fun _ h => absurd h List.not_mem_nil), x_pkI (fun _ h => absurd h List.not_mem_nil), x_pkJ (fun _ h => absurd h List.not_mem_nil), x_pkN (fun _ h => absurd h List.not_mem_nil), x_pkS (fun _ h => absurd h List.not_mem_nil), x_pkD (fun _ h => absurd h List.not_mem_nil)⟩
def tbJ0_checkIndex_df160 : xT := [(0, .iload_n 0, 1, []), (1, .iload_n 1, 1, []), (2, .getstatic 1053, 3, []), (5, .invokestatic 1059, 3, []), (8, .pop, 1, []), (9, .return_, 1, [])]
def ptJ0_checkIndex_df160 : xP := (fun j => List.lookup j [], fun j => List.lookup j [], fun j => List.lookup j [], fun j => List.lookup j [], fun j => List.lookup j [], fun j => List.lookup j [])
set_option maxRecDepth 100000 in
theorem tkJ0_checkIndex_df160 : xTok mJ0_checkIndex_df160 tbJ0_checkIndex_df160 := x_tok (by decide +kernel)
set_option maxRecDepth 100000 in
theorem pkJ0_checkIndex_df160 {G : xG} (hcl : q_cl G = vwCl) : xPok G mJ0_checkIndex_df160 ptJ0_checkIndex_df160 := ⟨x_pkF (fun _ h => absurd h List.not_mem_nil), x_pkI (fun _ h => absurd h List.not_mem_nil), x_pkJ (fun _ h => absurd h List.not_mem_nil), x_pkN (fun _ h => absurd h List.not_mem_nil), x_pkS (fun _ h => absurd h List.not_mem_nil), x_pkD (fun _ h => absurd h List.not_mem_nil)⟩
theorem kJ0_checkIndex_df160_1059 : xCs mJ0_checkIndex_df160 1059 mJ3_checkIndex_8e157 3 := x_mkS (ir7 _ (List.mem_of_getElem? (i := 15) rfl)) (ir7 _ (List.mem_of_getElem? (i := 16) rfl)) (ir7 _ (List.mem_of_getElem? (i := 17) rfl)) (ir7 _ (List.mem_of_getElem? (i := 18) rfl)) (by decide +kernel) (by decide) (by decide)
def tbJ1_charAt_3b067 : xT := [(0, .iload_n 1, 1, []), (1, .aload_n 0, 1, []), (2, .arraylength, 1, []), (3, .invokestatic 9, 3, []), (6, .aload_n 0, 1, []), (7, .iload_n 1, 1, []), (8, .baload, 1, []), (9, .sipush 255, 3, []), (12, .iand, 1, []), (13, .i2c, 1, []), (14, .ireturn, 1, [])]
def ptJ1_charAt_3b067 : xP := (fun j => List.lookup j [], fun j => List.lookup j [], fun j => List.lookup j [], fun j => List.lookup j [], fun j => List.lookup j [], fun j => List.lookup j [])
set_option maxRecDepth 100000 in
theorem tkJ1_charAt_3b067 : xTok mJ1_charAt_3b067 tbJ1_charAt_3b067 := x_tok (by decide +kernel)
set_option maxRecDepth 100000 in
theorem pkJ1_charAt_3b067 {G : xG} (hcl : q_cl G = vwCl) : xPok G mJ1_charAt_3b067 ptJ1_charAt_3b067 := ⟨x_pkF (fun _ h => absurd h List.not_mem_nil), x_pkI (fun _ h => absurd h List.not_mem_nil), x_pkJ (fun _ h => absurd h List.not_mem_nil), x_pkN (fun _ h => absurd h List.not_mem_nil), x_pkS (fun _ h => absurd h List.not_mem_nil), x_pkD (fun _ h => absurd h List.not_mem_nil)⟩
theorem kJ1_charAt_3b067_9 : xCs mJ1_charAt_3b067 9 mJ0_checkIndex_df160 2 := x_mkS (ir7 _ (List.mem_of_getElem? (i := 11) rfl)) (ir7 _ (List.mem_of_getElem? (i := 12) rfl)) (ir6 _ (List.mem_of_getElem? (i := 14) rfl)) (ir7 _ (List.mem_of_getElem? (i := 13) rfl)) (by decide +kernel) (by decide) (by decide)
def tbJ2_length_9d52b : xT := [(0, .aload_n 0, 1, []), (1, .arraylength, 1, []), (2, .iconst 1, 1, []), (3, .ishr, 1, []), (4, .ireturn, 1, [])]
def ptJ2_length_9d52b : xP := (fun j => List.lookup j [], fun j => List.lookup j [], fun j => List.lookup j [], fun j => List.lookup j [], fun j => List.lookup j [], fun j => List.lookup j [])
set_option maxRecDepth 100000 in
theorem tkJ2_length_9d52b : xTok mJ2_length_9d52b tbJ2_length_9d52b := x_tok (by decide +kernel)
set_option maxRecDepth 100000 in
theorem pkJ2_length_9d52b {G : xG} (hcl : q_cl G = vwCl) : xPok G mJ2_length_9d52b ptJ2_length_9d52b := ⟨x_pkF (fun _ h => absurd h List.not_mem_nil), x_pkI (fun _ h => absurd h List.not_mem_nil), x_pkJ (fun _ h => absurd h List.not_mem_nil), x_pkN (fun _ h => absurd h List.not_mem_nil), x_pkS (fun _ h => absurd h List.not_mem_nil), x_pkD (fun _ h => absurd h List.not_mem_nil)⟩
def tbJ2_checkIndex_2214a : xT := [(0, .iload_n 0, 1, []), (1, .aload_n 1, 1, []), (2, .invokestatic 48, 3, []), (5, .invokestatic 414, 3, []), (8, .return_, 1, [])]
def ptJ2_checkIndex_2214a : xP := (fun j => List.lookup j [], fun j => List.lookup j [], fun j => List.lookup j [], fun j => List.lookup j [], fun j => List.lookup j [], fun j => List.lookup j [])
set_option maxRecDepth 100000 in
theorem tkJ2_checkIndex_2214a : xTok mJ2_checkIndex_2214a tbJ2_checkIndex_2214a := x_tok (by decide +kernel)
set_option maxRecDepth 100000 in
theorem pkJ2_checkIndex_2214a {G : xG} (hcl : q_cl G = vwCl) : xPok G mJ2_checkIndex_2214a ptJ2_checkIndex_2214a := ⟨x_pkF (fun _ h => absurd h List.not_mem_nil), x_pkI (fun _ h => absurd h List.not_mem_nil), x_pkJ (fun _ h => absurd h List.not_mem_nil), x_pkN (fun _ h => absurd h List.not_mem_nil), x_pkS (fun _ h => absurd h List.not_mem_nil), x_pkD (fun _ h => absurd h List.not_mem_nil)⟩
theorem kJ2_checkIndex_2214a_48 : xCs mJ2_checkIndex_2214a 48 mJ2_length_9d52b 1 := x_mkS (ir8 _ (List.mem_of_getElem? (i := 2) rfl)) (ir8 _ (List.mem_of_getElem? (i := 3) rfl)) (ir7 _ (List.mem_of_getElem? (i := 21) rfl)) (ir8 _ (List.mem_of_getElem? (i := 4) rfl)) (by decide +kernel) (by decide) (by decide)
theorem kJ2_checkIndex_2214a_414 : xCs mJ2_checkIndex_2214a 414 mJ0_checkIndex_df160 2 := x_mkS (ir8 _ (List.mem_of_getElem? (i := 5) rfl)) (ir7 _ (List.mem_of_getElem? (i := 12) rfl)) (ir6 _ (List.mem_of_getElem? (i := 14) rfl)) (ir7 _ (List.mem_of_getElem? (i := 13) rfl)) (by decide +kernel) (by decide) (by decide)
def tbJ2_charAt_3b067 : xT := [(0, .iload_n 1, 1, []), (1, .aload_n 0, 1, []), (2, .invokestatic 67, 3, []), (5, .aload_n 0, 1, []), (6, .iload_n 1, 1, []), (7, .invokestatic 71, 3, []), (10, .ireturn, 1, [])]
def ptJ2_charAt_3b067 : xP := (fun j => List.lookup j [], fun j => List.lookup j [], fun j => List.lookup j [], fun j => List.lookup j [], fun j => List.lookup j [], fun j => List.lookup j [])
set_option maxRecDepth 100000 in
theorem tkJ2_charAt_3b067 : xTok mJ2_charAt_3b067 tbJ2_charAt_3b067 := x_tok (by decide +kernel)
set_option maxRecDepth 100000 in
theorem pkJ2_charAt_3b067 {G : xG} (hcl : q_cl G = vwCl) : xPok G mJ2_charAt_3b067 ptJ2_charAt_3b067 := ⟨x_pkF (fun _ h => absurd h List.not_mem_nil), x_pkI (fun _ h => absurd h List.not_mem_nil), x_pkJ (fun _ h => absurd h List.not_mem_nil), x_pkN (fun _ h => absurd h List.not_mem_nil), x_pkS (fun _ h => absurd h List.not_mem_nil), x_pkD (fun _ h => absurd h List.not_mem_nil)⟩
theorem kJ2_charAt_3b067_67 : xCs mJ2_charAt_3b067 67 mJ2_checkIndex_2214a 2 := x_mkS (ir7 _ (List.mem_of_getElem? (i := 23) rfl)) (ir8 _ (List.mem_of_getElem? (i := 0) rfl)) (ir7 _ (List.mem_of_getElem? (i := 21) rfl)) (ir8 _ (List.mem_of_getElem? (i := 1) rfl)) (by decide +kernel) (by decide) (by decide)
theorem kJ2_charAt_3b067_71 : xCs mJ2_charAt_3b067 71 mJ2_getChar_3b067 2 := x_mkS (ir8 _ (List.mem_of_getElem? (i := 6) rfl)) (ir8 _ (List.mem_of_getElem? (i := 7) rfl)) (ir7 _ (List.mem_of_getElem? (i := 21) rfl)) (ir8 _ (List.mem_of_getElem? (i := 8) rfl)) (by decide +kernel) (by decide) (by decide)
def tbJ0_charAt_5068e : xT := [(0, .aload_n 0, 1, []), (1, .invokevirtual 492, 3, []), (4, .ifCond .eq 12, 3, [16]), (7, .aload_n 0, 1, []), (8, .getfield 9, 3, []), (11, .iload_n 1, 1, []), (12, .invokestatic 495, 3, []), (15, .ireturn, 1, []), (16, .aload_n 0, 1, []), (17, .getfield 9, 3, []), (20, .iload_n 1, 1, []), (21, .invokestatic 498, 3, []), (24, .ireturn, 1, [])]
def ptJ0_charAt_5068e : xP := (fun j => List.lookup j [], fun j => List.lookup j [], fun j => List.lookup j [], fun j => List.lookup j [], fun j => List.lookup j [], fun j => List.lookup j [])
set_option maxRecDepth 100000 in
theorem tkJ0_charAt_5068e : xTok mJ0_charAt_5068e tbJ0_charAt_5068e := x_tok (by decide +kernel)
set_option maxRecDepth 100000 in
theorem pkJ0_charAt_5068e {G : xG} (hcl : q_cl G = vwCl) : xPok G mJ0_charAt_5068e ptJ0_charAt_5068e := ⟨x_pkF (fun _ h => absurd h List.not_mem_nil), x_pkI (fun _ h => absurd h List.not_mem_nil), x_pkJ (fun _ h => absurd h List.not_mem_nil), x_pkN (fun _ h => absurd h List.not_mem_nil), x_pkS (fun _ h => absurd h List.not_mem_nil), x_pkD (fun _ h => absurd h List.not_mem_nil)⟩
theorem kJ0_charAt_5068e_492 : xCv mJ0_charAt_5068e 492 mJ0_isLatin1_aae02 0 := x_mkV (ir7 _ (List.mem_of_getElem? (i := 3) rfl)) (ir7 _ (List.mem_of_getElem? (i := 4) rfl)) (ir7 _ (List.mem_of_getElem? (i := 5) rfl)) (ir6 _ (List.mem_of_getElem? (i := 14) rfl)) (ir7 _ (List.mem_of_getElem? (i := 6) rfl)) (by decide +kernel) (by decide) (by decide)
theorem kJ0_charAt_5068e_495 : xCs mJ0_charAt_5068e 495 mJ1_charAt_3b067 2 := x_mkS (ir7 _ (List.mem_of_getElem? (i := 7) rfl)) (ir7 _ (List.mem_of_getElem? (i := 8) rfl)) (ir7 _ (List.mem_of_getElem? (i := 9) rfl)) (ir7 _ (List.mem_of_getElem? (i := 10) rfl)) (by decide +kernel) (by decide) (by decide)
theorem kJ0_charAt_5068e_498 : xCs mJ0_charAt_5068e 498 mJ2_charAt_3b067 2 := x_mkS (ir7 _ (List.mem_of_getElem? (i := 19) rfl)) (ir7 _ (List.mem_of_getElem? (i := 20) rfl)) (ir7 _ (List.mem_of_getElem? (i := 21) rfl)) (ir7 _ (List.mem_of_getElem? (i := 22) rfl)) (by decide +kernel) (by decide) (by decide)
def tbJ9_max_7cf53 : xT := [(0, .iload_n 0, 1, []), (1, .iload_n 1, 1, []), (2, .if_icmp .lt 7, 3, [9]), (5, .iload_n 0, 1, []), (6, .goto 4, 3, [10]), (9, .iload_n 1, 1, []), (10, .ireturn, 1, [])]
def ptJ9_max_7cf53 : xP := (fun j => List.lookup j [], fun j => List.lookup j [], fun j => List.lookup j [], fun j => List.lookup j [], fun j => List.lookup j [], fun j => List.lookup j [])
set_option maxRecDepth 100000 in
theorem tkJ9_max_7cf53 : xTok mJ9_max_7cf53 tbJ9_max_7cf53 := x_tok (by decide +kernel)
set_option maxRecDepth 100000 in
theorem pkJ9_max_7cf53 {G : xG} (hcl : q_cl G = vwCl) : xPok G mJ9_max_7cf53 ptJ9_max_7cf53 := ⟨x_pkF (fun _ h => absurd h List.not_mem_nil), x_pkI (fun _ h => absurd h List.not_mem_nil), x_pkJ (fun _ h => absurd h List.not_mem_nil), x_pkN (fun _ h => absurd h List.not_mem_nil), x_pkS (fun _ h => absurd h List.not_mem_nil), x_pkD (fun _ h => absurd h List.not_mem_nil)⟩
def tbJ9_min_7cf53 : xT := [(0, .iload_n 0, 1, []), (1, .iload_n 1, 1, []), (2, .if_icmp .gt 7, 3, [9]), (5, .iload_n 0, 1, []), (6, .goto 4, 3, [10]), (9, .iload_n 1, 1, []), (10, .ireturn, 1, [])]
def ptJ9_min_7cf53 : xP := (fun j => List.lookup j [], fun j => List.lookup j [], fun j => List.lookup j [], fun j => List.lookup j [], fun j => List.lookup j [], fun j => List.lookup j [])
set_option maxRecDepth 100000 in
theorem tkJ9_min_7cf53 : xTok mJ9_min_7cf53 tbJ9_min_7cf53 := x_tok (by decide +kernel)
set_option maxRecDepth 100000 in
theorem pkJ9_min_7cf53 {G : xG} (hcl : q_cl G = vwCl) : xPok G mJ9_min_7cf53 ptJ9_min_7cf53 := ⟨x_pkF (fun _ h => absurd h List.not_mem_nil), x_pkI (fun _ h => absurd h List.not_mem_nil), x_pkJ (fun _ h => absurd h List.not_mem_nil), x_pkN (fun _ h => absurd h List.not_mem_nil), x_pkS (fun _ h => absurd h List.not_mem_nil), x_pkD (fun _ h => absurd h List.not_mem_nil)⟩
def tbJ9_min_f86c9 : xT := [(0, .lload_n 0, 1, []), (1, .lload_n 2, 1, []), (2, .lcmp, 1, []), (3, .ifCond .gt 7, 3, [10]), (6, .lload_n 0, 1, []), (7, .goto 4, 3, [11]), (10, .lload_n 2, 1, []), (11, .lreturn, 1, [])]
def ptJ9_min_f86c9 : xP := (fun j => List.lookup j [], fun j => List.lookup j [], fun j => List.lookup j [], fun j => List.lookup j [], fun j => List.lookup j [], fun j => List.lookup j [])
set_option maxRecDepth 100000 in
theorem tkJ9_min_f86c9 : xTok mJ9_min_f86c9 tbJ9_min_f86c9 := x_tok (by decide +kernel)
set_option maxRecDepth 100000 in
theorem pkJ9_min_f86c9 {G : xG} (hcl : q_cl G = vwCl) : xPok G mJ9_min_f86c9 ptJ9_min_f86c9 := ⟨x_pkF (fun _ h => absurd h List.not_mem_nil), x_pkI (fun _ h => absurd h List.not_mem_nil), x_pkJ (fun _ h => absurd h List.not_mem_nil), x_pkN (fun _ h => absurd h List.not_mem_nil), x_pkS (fun _ h => absurd h List.not_mem_nil), x_pkD (fun _ h => absurd h List.not_mem_nil)⟩

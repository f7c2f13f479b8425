/-! ===== GuardForgeModel() ===== -/
set_option maxRecDepth 100000 in
set_option maxHeartbeats 16000000 in
/-- GuardForgeModel() -/
theorem c_X12_init {G : xG} (hSt : xStart G) {h : xH} {z : Nat} (hz : q_b G + 139 < z) (ha : h (q_b G + 139) = some (.inr (12, [.int 0, .null, .int 0, .null, .null, .int 0, .int 0, .int 0, .null, .int 0, .int 0, .int 0, .int 0, .long 0, .long 0, .int 0, .int 0, .null, .null, .int 0, .null, .null, .null, .null, .null, .int 0, .null, .int 0, .null, .null, .null, .null, .null, .null, .int 0, .null, .null, .null, .null, .null, .null, .int 0, .null, .int 0, .null, .null, .null, .int 0, .null, .null, .null, .int 0, .null, .null, .null, .null, .int 0, .null, .null, .null, .null, .null, .null, .null, .null, .null, .null, .null, .null, .null, .null, .null, .null, .null, .null, .null, .null, .null, .null, .null, .null, .null, .int 0, .null, .null, .null, .null, .null, .int 0, .int 0, .int 0, .int 0, .int 0, .int 0, .int 0, .int 0, .int 0, .int 0, .null, .int 0, .null, .null, .null, .null, .null, .int 0, .null, .null, .null, .null, .null, .int 0, .int 0, .int 0, .int 0, .int 0]))) (hp : va_up (x_adds h z (L12 z)) (q_b G + 139) (some (o12 z)) = hS G st0) :
    xC G mX12_init [.ref (q_b G + 139)] h z 76 232663 (fun v h' z' => v = none ∧ ∃ s, h' = hS G s ∧ Iv s) := by
  have hG := hSt.1
  have hW := hSt.1.1
  have hcl := hSt.1.2.1
  have hty := hSt.1.2.2.1
  obtain ⟨qT, vT, qM, vM, -, hR, hq⟩ := hSt.2.2
  have hJ := hSt.1.2.2.2.2.1
  have haz := hz
  have hO : xO G mX12_init tbX12_init ptX12_init := ⟨tkX12_init, pkX12_init hcl⟩
  refine xC.of hW (by decide) rfl (Nat.le_of_ble_eq_true rfl) ?_
  refine s_aload_n (nx := 1) hO rfl rfl rfl ?_
  refine s_obj (nx := 4) hO rfl (List.mem_cons_of_mem _ (ir10 _ (List.mem_of_getElem? (i := 23) rfl))) (List.mem_cons_of_mem _ (ir1 _ (List.mem_of_getElem? (i := 11) rfl))) (List.mem_cons_of_mem _ (ir1 _ (List.mem_of_getElem? (i := 12) rfl))) (by decide) (by decide) rfl ?_
  refine x_start ha ?_
  refine e12_0 hty hO haz ?_
  refine e12_1 hty hO haz ?_
  refine e12_2 hty hO haz ?_
  refine e12_3 hty hO haz ?_
  refine e12_4 hty hO haz ?_
  refine e12_5 hty hO haz ?_
  refine e12_6 hty hO haz ?_
  refine e12_7 hty hO haz ?_
  refine e12_8 hty hO haz ?_
  refine e12_9 hty hO haz ?_
  refine e12_10 hty hO haz ?_
  refine e12_11 hty hO haz ?_
  refine e12_12 hty hO haz ?_
  refine xEx.at hp ?_
  refine s_ldcS (nx := 658) hR hO rfl rfl ?_
  refine s_astore_n (nx := 659) (l' := [(1, _), (0, _)]) hO rfl (by decide) rfl rfl ?_
  refine s_iconst (x := 0) (nx := 660) hO rfl (by decide) rfl ?_
  refine s_istore_n (nx := 661) (l' := [(2, _), (1, _), (0, _)]) hO rfl (by decide) rfl rfl ?_
  refine l_X12 hG hq hO (fun t Ft ht => ?_) 19 0 st0 rfl frM.rfl' (fun i hi => absurd hi (Nat.not_lt_zero _))
  refine s_aload_n (nx := 687) hO rfl rfl rfl ?_
  refine s_aload_n (nx := 688) hO rfl rfl rfl ?_
  refine s_callX [] (nx := 691) hq.1 hO rfl kX12_init_247 (c_J0_length hW hcl hJ hq) rfl rfl (Nat.le_of_ble_eq_true rfl) (Nat.zero_le _) (Nat.zero_le _) rfl (fun v9 h9 z9 q9 => ?_)
  obtain ⟨rfl, rfl, rfl⟩ := q9
  refine goV (wI t 139 2 (nI 19)) (fun t1 e1 => ?_)
  refine s_putf (nx := 694) hO rfl rfl (hs_o12 kc139) (Nat.le_of_ble_eq_true rfl) (by rw [hty]; rfl) (by rw [hty]; rfl) pX12_2 rfl ?_
  refine xEx.at (up_oI12 kc139 e1) ?_
  refine s_aload_n (nx := 695) hO rfl rfl rfl ?_
  have F1 : frM (fun a i => a = 140 ∨ (a = 139 ∧ i = 2)) st0 t1 := by subst e1; exact (Ft.mono (fun a i h => Or.inl h)).wI (Or.inr ⟨rfl, rfl⟩)
  have y1 : byM t1 B1 19 := ⟨by omega, by subst e1; rw [sI_w, if_pos ⟨rfl, rfl⟩], fun k hk => by subst e1; rw [sI_w, if_neg (by omega)]; exact ht k hk, B1_lt⟩
  refine s_callV [] (nx := 698) hO rfl kX12_init_260 (by rw [hcl]; rfl) (hs_o12 kc139) (w_X12_loadPolicy hG (init_ok (Q := fun _ s' => Iv (wI s' 139 2 0)) (st0_ok.fr F1) y1 (fun r s' h => h))) rfl rfl (Nat.le_of_ble_eq_true rfl) (Nat.zero_le _) (Nat.zero_le _) rfl (k_Qi (fun r s2 H => ?_))
  refine s_istore_n (nx := 699) (l' := [(2, _), (1, _), (0, _)]) hO rfl (by decide) rfl rfl ?_
  refine s_aload_n (nx := 700) hO rfl rfl rfl ?_
  refine s_iconst (x := 0) (nx := 701) hO rfl (by decide) rfl ?_
  refine goV (wI s2 139 2 0) (fun s3 e3 => ?_)
  refine s_putf (nx := 704) hO rfl rfl (hs_o12 kc139) (Nat.le_of_ble_eq_true rfl) (by rw [hty]; rfl) (by rw [hty]; rfl) pX12_2 rfl ?_
  refine xEx.at (up_oI12 kc139 e3) ?_
  exact s_vret hO rfl rfl ⟨rfl, s3, rfl, by subst e3; exact H⟩

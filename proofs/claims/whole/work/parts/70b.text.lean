/-! ===== the reference's first text ===== -/
set_option maxRecDepth 100000 in
set_option maxHeartbeats 8000000 in
theorem l_X12 {G : xG} (hG : yG G) {qM vM : Nat} (hq : y_S G qM vM y_w245) {z kc ks : Nat} {Q : xQ} (hO : xO G mX12_init tbX12_init ptX12_init)
    (K : ∀ t : yS, frM (fun a _ => a = 140) st0 t → (∀ i, i < 19 → sI t 140 i = nI (B1 i)) → xEx G mX12_init 686 [(1, .ref qM), (0, .ref (q_b G + 139))] [] (hS G t) z kc ks Q) : ∀ (r k : Nat) (t : yS), k + r = 19 → frM (fun a _ => a = 140) st0 t → (∀ i, i < k → sI t 140 i = nI (B1 i)) → xEx G mX12_init 661 [(2, .int (nI k)), (1, .ref qM), (0, .ref (q_b G + 139))] [] (hS G t) z kc ks Q := by
  have hW := hG.1
  have hcl := hG.2.1
  have hJ := hG.2.2.2.2.1
  intro r
  induction r with
  | zero =>
    intro k t hk Ft ht
    obtain rfl : k = 19 := by omega
    refine s_iload_n (nx := 662) hO rfl rfl rfl ?_
    refine s_aload_n (nx := 663) hO rfl rfl rfl ?_
    refine s_callX [] (nx := 666) hq.1 hO rfl kX12_init_247 (c_J0_length hW hcl hJ hq) rfl rfl (Nat.le_of_ble_eq_true rfl) (Nat.zero_le _) (Nat.zero_le _) rfl (fun v9 h9 z9 q9 => ?_)
    obtain ⟨rfl, rfl, rfl⟩ := q9
    refine s_icmp_ge (nx := 669) hO rfl rfl (fun c => ?_) (fun c => absurd (by decide) c)
    refine xEx.loc (fun q hq => ?_) (K t Ft ht)
    exact List.mem_cons_of_mem _ hq
  | succ r ih =>
    intro k t hk Ft ht
    have hk19 : k < 19 := by omega
    refine s_iload_n (nx := 662) hO rfl rfl rfl ?_
    refine s_aload_n (nx := 663) hO rfl rfl rfl ?_
    refine s_callX [] (nx := 666) hq.1 hO rfl kX12_init_247 (c_J0_length hW hcl hJ hq) rfl rfl (Nat.le_of_ble_eq_true rfl) (Nat.zero_le _) (Nat.zero_le _) rfl (fun v9 h9 z9 q9 => ?_)
    obtain ⟨rfl, rfl, rfl⟩ := q9
    refine s_icmp_ge (nx := 669) hO rfl rfl (fun c => absurd c (nI_ge (show k < 19 from hk19) (by decide))) (fun c => ?_)
    refine s_aload_n (nx := 670) hO rfl rfl rfl ?_
    refine s_getf (v := .ref (q_b G + 140)) (nx := 673) hO rfl rfl (hs_o12 kc139) rfl rfl ?_
    refine s_iload_n (nx := 674) hO rfl rfl rfl ?_
    refine s_aload_n (nx := 675) hO rfl rfl rfl ?_
    refine s_iload_n (nx := 676) hO rfl rfl rfl ?_
    refine s_callX [.int (nI k)] (nx := 679) hq.1 hO rfl kX12_init_253 (c_J0_charAt hW hcl hJ hq (i := k) hk19) rfl rfl (Nat.le_of_ble_eq_true rfl) (Nat.zero_le _) (Nat.zero_le _) rfl (fun v9 h9 z9 q9 => ?_)
    obtain ⟨rfl, rfl, rfl⟩ := q9
    refine goV (wI t 140 k (nI (B1 k))) (fun t1 e1 => ?_)
    refine s_iast (nx := 680) hO rfl (hs_I kc140) (vp_in_nI (by omega) (by decide)) rfl ?_
    rw [nI_clamp (show k < 2 ^ 31 by omega), B1_at k hk19]
    refine xEx.at (up_I kc140 e1) ?_
    refine s_iinc (nx := 683) (y := nI (k + 1)) (l' := [(2, _), (1, _), (0, _)]) hO rfl (by decide) rfl (nI_succ k).symm rfl rfl ?_
    refine s_goto hO rfl ?_
    refine ih (k + 1) t1 (by omega) (by subst e1; exact Ft.wI rfl) (fun i hi => ?_)
    subst e1
    by_cases c : i = k
    · subst c; rw [sI_w, if_pos ⟨rfl, rfl⟩]
    · rw [sI_w, if_neg (by omega)]; exact ht i (by omega)


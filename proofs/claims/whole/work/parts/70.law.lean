/-! ===== the reference is made; the law's run ===== -/
theorem xEx.post {G : xG} {M : xM} {pc : Nat} {l : List (Nat × Value)} {st : List Value} {h : xH} {z kc ks : Nat} {Q Q' : xQ} (hQ : ∀ v h' z', Q v h' z' → Q' v h' z') (k : xEx G M pc l st h z kc ks Q) : xEx G M pc l st h z kc ks Q' := by
  intro p la e R s m args below meth c H locs cells slots mc ms ls F a1 a2 a3 a4 a5 a6 hv hR hS
  intro T hT X
  obtain ⟨t, b0, oc, b1, b2, ⟨⟨v, h', z', hv', hq, hr⟩, hf⟩, hrest⟩ := k p la e R s m args below meth c H locs cells slots mc ms ls F a1 a2 a3 a4 a5 a6 hv hR hS T hT X
  exact ⟨t, b0, oc, b1, b2, ⟨⟨v, h', z', hv', hQ _ _ _ hq, hr⟩, hf⟩, hrest⟩
theorem x_one {h : xH} {z : Nat} {L : List xE} {e0 e1 : xE} : va_up (x_adds (va_up h z (some e0)) (z + 1) L) z (some e1) = x_adds h z (e1 :: L) := by
  funext q
  by_cases h1 : q = z
  · subst h1
    rw [va_up_self]
    exact (x_adds_at (i := 0) (e := e1) rfl).symm
  · rw [va_up_ne _ _ h1]
    unfold x_adds
    by_cases h2 : z ≤ q
    · rw [if_pos h2, if_pos (show z + 1 ≤ q by omega), show q - z = (q - (z + 1)) + 1 by omega, List.getElem?_cons_succ, va_up_ne _ _ h1]
    · rw [if_neg h2, if_neg (by omega), va_up_ne _ _ h1]
theorem x_app {h : xH} {z y : Nat} {L M : List xE} (hy : y = z + L.length) : x_adds (x_adds h z L) y M = x_adds h z (L ++ M) := by
  subst hy
  funext q
  unfold x_adds
  by_cases h2 : z ≤ q
  · rw [if_pos h2, if_pos h2]
    by_cases h3 : z + L.length ≤ q
    · rw [if_pos h3, List.getElem?_append_right (by omega), show q - z - L.length = q - (z + L.length) by omega, List.getElem?_eq_none (l := L) (by omega)]
    · rw [if_neg h3, List.getElem?_append_left (by omega)]
  · rw [if_neg h2, if_neg h2, if_neg (by omega)]
theorem x_all {G : xG} {s : yS} {L : List xE} (hL : ∀ i, L[i]? = ce G s i) : x_adds (fun _ => none) (q_b G) L = hS G s := by
  funext q
  unfold x_adds hS
  by_cases h : q_b G ≤ q
  · rw [if_pos h, if_pos h, hL]
    cases ce G s (q - q_b G) <;> rfl
  · rw [if_neg h, if_neg h]
theorem I0.fr {s t : yS} (h : I0 s) (F : frM (fun a i => a = 140 ∨ (a = 139 ∧ i = 2)) s t) : I0 t := by
  obtain ⟨hA, hw, hk, hp3, hp20, ⟨d0, d1, d2, d3, d6, d11, d12, d13, d14, d15, d16⟩, c2, c3, c4, c5, c11, c12, c124, c123, c136, c137, m5, m9, m88, m177, m178, m1781⟩ := h
  have K : ∀ {a i : Nat} {x : Int32}, sI s a i = x → ¬ (a = 140 ∨ (a = 139 ∧ i = 2)) → sI t a i = x := fun e n => (F.1 _ _ n).trans e
  exact ⟨hA.fr (fun i _ _ => F.2.2 _ _), fun w hw' => (F.2.1 _ _ (by omega)).trans (hw w hw'), fun k hk' => K (hk k hk') (by omega), ⟨K hp3.1 (by omega), K hp3.2 (by omega)⟩, ⟨K hp20.1 (by omega), K hp20.2 (by omega)⟩, ⟨K d0 (by omega), K d1 (by omega), K d2 (by omega), K d3 (by omega), K d6 (by omega), fun i hi => K (d11 i hi) (by omega), fun i hi => K (d12 i hi) (by omega), fun i hi => K (d13 i hi) (by omega), fun i hi => K (d14 i hi) (by omega), fun c hc => (F.2.1 _ _ (by omega)).trans (d15 c hc), fun c hc => (F.2.1 _ _ (by omega)).trans (d16 c hc)⟩, K c2 (by omega), K c3 (by omega), K c4 (by omega), K c5 (by omega), K c11 (by omega), K c12 (by omega), K c124 (by omega), K c123 (by omega), K c136 (by omega), fun k hk => K (c137 k hk) (by omega), K m5 (by omega), K m9 (by omega), K m88 (by omega), K m177 (by omega), K m178 (by omega), K m1781 (by omega)⟩
theorem st0_pol : pol0 st0 3 := by
  refine ⟨rfl, rfl, rfl, rfl, rfl, fun i hi => ?_, fun i hi => ?_, fun i hi => ?_, fun i hi => rfl, fun c hc => ?_, fun c hc => ?_⟩
  · show fL1 144 i = _
    unfold fL1; rw [if_pos hi]; rfl
  · show fL2 144 i = _
    unfold fL2; rw [if_pos hi]
  · show fL2 16 i = _
    unfold fL2; rw [if_pos hi]
  · show gP1 16 (c * 63) = 1
    unfold gP1; rw [if_pos (by omega)]
  · show gP2 16 c = 1
    unfold gP2; rw [if_pos hc]
theorem st0_ok : I0 st0 := by
  refine ⟨⟨Or.inl ⟨rfl, rfl⟩, rfl, rfl, rfl, rfl, rfl, Or.inl rfl, Or.inr (Or.inl rfl), Or.inr (Or.inr rfl), by decide, by decide, by decide⟩, fun w hw => tkF_ok w hw, fun k hk => ?_, ⟨rfl, rfl⟩, ⟨rfl, rfl⟩, st0_pol, rfl, rfl, rfl, rfl, rfl, rfl, rfl, rfl, rfl, fun k hk => rfl, rfl, rfl, rfl, rfl, rfl, rfl⟩
  show fK7 k = -1
  unfold fK7; rw [if_pos hk]
theorem B1_at : ∀ k, k < 19 → y_w245.getD k 0 = nI (B1 k) := by
  intro k hk
  have : ∀ k ∈ List.range 19, y_w245.getD k 0 = nI (B1 k) := by decide +kernel
  exact this k (List.mem_range.mpr hk)
theorem B1_lt (k : Nat) : B1 k < 256 := by
  unfold B1
  by_cases c : k < 19
  · have : ∀ k ∈ List.range 19, bs1.getD k 0 < 256 := by decide
    exact this k (List.mem_range.mpr c)
  · rw [List.getD_eq_getElem?_getD, List.getElem?_eq_none (by show 19 ≤ k; omega)]; decide
set_option maxRecDepth 100000 in
set_option maxHeartbeats 8000000 in
theorem l_X12 {G : xG} (hG : yG G) {qM vM : Nat} (hq : y_S G qM vM y_w245) {z kc ks : Nat} {Q : xQ} (hO : xO G mX12_init tbX12_init ptX12_init)
    (K : ∀ t : yS, frM (fun a _ => a = 140) st0 t → (∀ i, i < 19 → sI t 140 i = nI (B1 i)) → xEx G mX12_init 686 [(1, .ref qM), (0, .ref (q_b G + 139))] [] (hS G t) z kc ks Q) : ∀ (r k : Nat) (t : yS), k + r = 19 → frM (fun a _ => a = 140) st0 t → (∀ i, i < k → sI t 140 i = nI (B1 i)) → xEx G mX12_init 661 [(2, .int (nI k)), (1, .ref qM), (0, .ref (q_b G + 139))] [] (hS G t) z kc ks Q := by
  have hW := hG.1
  have hcl := hG.2.1
  have hJ := hG.2.2.2.2.1
  intro r
  induction r with
  | zero =>
    intro k t hk Ft ht
    obtain rfl : k = 19 := by omega
    refine s_iload_n (nx := 662) hO rfl rfl rfl ?_
    refine s_aload_n (nx := 663) hO rfl rfl rfl ?_
    refine s_callX [] (nx := 666) hq.1 hO rfl kX12_init_247 (c_J0_length hW hcl hJ hq) rfl rfl (Nat.le_of_ble_eq_true rfl) (Nat.zero_le _) (Nat.zero_le _) rfl (fun v9 h9 z9 q9 => ?_)
    obtain ⟨rfl, rfl, rfl⟩ := q9
    refine s_icmp_ge (nx := 669) hO rfl rfl (fun c => ?_) (fun c => absurd (by decide) c)
    refine xEx.loc (fun q hq => ?_) (K t Ft ht)
    exact List.mem_cons_of_mem _ hq
  | succ r ih =>
    intro k t hk Ft ht
    have hk19 : k < 19 := by omega
    refine s_iload_n (nx := 662) hO rfl rfl rfl ?_
    refine s_aload_n (nx := 663) hO rfl rfl rfl ?_
    refine s_callX [] (nx := 666) hq.1 hO rfl kX12_init_247 (c_J0_length hW hcl hJ hq) rfl rfl (Nat.le_of_ble_eq_true rfl) (Nat.zero_le _) (Nat.zero_le _) rfl (fun v9 h9 z9 q9 => ?_)
    obtain ⟨rfl, rfl, rfl⟩ := q9
    refine s_icmp_ge (nx := 669) hO rfl rfl (fun c => absurd c (nI_ge (show k < 19 from hk19) (by decide))) (fun c => ?_)
    refine s_aload_n (nx := 670) hO rfl rfl rfl ?_
    refine s_getf (v := .ref (q_b G + 140)) (nx := 673) hO rfl rfl (hs_o12 kc139) rfl rfl ?_
    refine s_iload_n (nx := 674) hO rfl rfl rfl ?_
    refine s_aload_n (nx := 675) hO rfl rfl rfl ?_
    refine s_iload_n (nx := 676) hO rfl rfl rfl ?_
    refine s_callX [.int (nI k)] (nx := 679) hq.1 hO rfl kX12_init_253 (c_J0_charAt hW hcl hJ hq (i := k) hk19) rfl rfl (Nat.le_of_ble_eq_true rfl) (Nat.zero_le _) (Nat.zero_le _) rfl (fun v9 h9 z9 q9 => ?_)
    obtain ⟨rfl, rfl, rfl⟩ := q9
    refine goV (wI t 140 k (nI (B1 k))) (fun t1 e1 => ?_)
    refine s_iast (nx := 680) hO rfl (hs_I kc140) (vp_in_nI (by omega) (by decide)) rfl ?_
    rw [nI_clamp (show k < 2 ^ 31 by omega), B1_at k hk19]
    refine xEx.at (up_I kc140 e1) ?_
    refine s_iinc (nx := 683) (y := nI (k + 1)) (l' := [(2, _), (1, _), (0, _)]) hO rfl (by decide) rfl (nI_succ k).symm rfl rfl ?_
    refine s_goto hO rfl ?_
    refine ih (k + 1) t1 (by omega) (by subst e1; exact Ft.wI rfl) (fun i hi => ?_)
    subst e1
    by_cases c : i = k
    · subst c; rw [sI_w, if_pos ⟨rfl, rfl⟩]
    · rw [sI_w, if_neg (by omega)]; exact ht i (by omega)
set_option maxRecDepth 100000 in
set_option maxHeartbeats 16000000 in
/-- GuardForgeModel() -/
theorem c_X12_init {G : xG} (hSt : xStart G) {h : xH} {z : Nat} (hz : q_b G + 139 < z) (ha : h (q_b G + 139) = some (.inr (12, [.int 0, .null, .int 0, .null, .null, .int 0, .int 0, .int 0, .null, .int 0, .int 0, .int 0, .int 0, .long 0, .long 0, .int 0, .int 0, .null, .null, .int 0, .null, .null, .null, .null, .null, .int 0, .null, .int 0, .null, .null, .null, .null, .null, .null, .int 0, .null, .null, .null, .null, .null, .null, .int 0, .null, .int 0, .null, .null, .null, .int 0, .null, .null, .null, .int 0, .null, .null, .null, .null, .int 0, .null, .null, .null, .null, .null, .null, .null, .null, .null, .null, .null, .null, .null, .null, .null, .null, .null, .null, .null, .null, .null, .null, .null, .null, .null, .int 0, .null, .null, .null, .null, .null, .int 0, .int 0, .int 0, .int 0, .int 0, .int 0, .int 0, .int 0, .int 0, .int 0, .null, .int 0, .null, .null, .null, .null, .null, .int 0, .null, .null, .null, .null, .null, .int 0, .int 0, .int 0, .int 0, .int 0]))) (hp : va_up (x_adds h z (L12 z)) (q_b G + 139) (some (o12 z)) = hS G st0) :
    xC G mX12_init [.ref (q_b G + 139)] h z 76 232663 (fun v h' z' => v = none ∧ ∃ s, h' = hS G s ∧ Iv s) := by
  have hG := hSt.1
  have hW := hSt.1.1
  have hcl := hSt.1.2.1
  have hty := hSt.1.2.2.1
  obtain ⟨qT, vT, qM, vM, -, hR, hq⟩ := hSt.2.2
  have hJ := hSt.1.2.2.2.2.1
  have haz := hz
  have hO : xO G mX12_init tbX12_init ptX12_init := ⟨tkX12_init, pkX12_init hcl⟩
  refine xC.of hW (by decide) rfl (Nat.le_of_ble_eq_true rfl) ?_
  refine s_aload_n (nx := 1) hO rfl rfl rfl ?_
  refine s_obj (nx := 4) hO rfl (List.mem_cons_of_mem _ (ir10 _ (List.mem_of_getElem? (i := 23) rfl))) (List.mem_cons_of_mem _ (ir1 _ (List.mem_of_getElem? (i := 11) rfl))) (List.mem_cons_of_mem _ (ir1 _ (List.mem_of_getElem? (i := 12) rfl))) (by decide) (by decide) rfl ?_
  refine x_start ha ?_
  refine s_aload_n (nx := 5) hO rfl rfl rfl ?_
  refine s_sipush (x := nI 8192) (nx := 8) hO rfl (by decide) rfl ?_
  refine g_arrI (nx := 13) hO rfl rfl rfl (Nat.le_of_ble_eq_true rfl) (Nat.le_of_ble_eq_true rfl) (Nat.le_of_ble_eq_true rfl) (Nat.le_of_ble_eq_true rfl) (by rw [hty]; rfl) (by rw [hty]; rfl) haz rfl rfl ?_
  refine s_aload_n (nx := 14) hO rfl rfl rfl ?_
  refine s_sipush (x := nI 8192) (nx := 17) hO rfl (by decide) rfl ?_
  refine g_arrI (nx := 22) hO rfl rfl rfl (Nat.le_of_ble_eq_true rfl) (Nat.le_of_ble_eq_true rfl) (Nat.le_of_ble_eq_true rfl) (Nat.le_of_ble_eq_true rfl) (by rw [hty]; rfl) (by rw [hty]; rfl) haz rfl rfl ?_
  refine s_aload_n (nx := 23) hO rfl rfl rfl ?_
  refine s_sipush (x := nI 8192) (nx := 26) hO rfl (by decide) rfl ?_
  refine g_arrI (nx := 31) hO rfl rfl rfl (Nat.le_of_ble_eq_true rfl) (Nat.le_of_ble_eq_true rfl) (Nat.le_of_ble_eq_true rfl) (Nat.le_of_ble_eq_true rfl) (by rw [hty]; rfl) (by rw [hty]; rfl) haz rfl rfl ?_
  refine s_aload_n (nx := 32) hO rfl rfl rfl ?_
  refine s_iconst (x := -1) (nx := 33) hO rfl (by decide) rfl ?_
  refine g_put (nx := 36) hO rfl rfl (Nat.le_of_ble_eq_true rfl) (by rw [hty]; rfl) (by rw [hty]; rfl) rfl ?_
  refine s_aload_n (nx := 37) hO rfl rfl rfl ?_
  refine s_sipush (x := nI 8192) (nx := 40) hO rfl (by decide) rfl ?_
  refine g_arrI (nx := 45) hO rfl rfl rfl (Nat.le_of_ble_eq_true rfl) (Nat.le_of_ble_eq_true rfl) (Nat.le_of_ble_eq_true rfl) (Nat.le_of_ble_eq_true rfl) (by rw [hty]; rfl) (by rw [hty]; rfl) haz rfl rfl ?_
  refine s_aload_n (nx := 46) hO rfl rfl rfl ?_
  refine s_bipush (x := nI 6) (nx := 48) hO rfl (by decide) rfl ?_
  refine g_arrJ (nx := 53) hO rfl rfl rfl (Nat.le_of_ble_eq_true rfl) (Nat.le_of_ble_eq_true rfl) (Nat.le_of_ble_eq_true rfl) (Nat.le_of_ble_eq_true rfl) (by rw [hty]; rfl) (by rw [hty]; rfl) haz rfl rfl ?_
  refine s_aload_n (nx := 54) hO rfl rfl rfl ?_
  refine s_bipush (x := nI 6) (nx := 56) hO rfl (by decide) rfl ?_
  refine g_arrI (nx := 61) hO rfl rfl rfl (Nat.le_of_ble_eq_true rfl) (Nat.le_of_ble_eq_true rfl) (Nat.le_of_ble_eq_true rfl) (Nat.le_of_ble_eq_true rfl) (by rw [hty]; rfl) (by rw [hty]; rfl) haz rfl rfl ?_
  refine s_aload_n (nx := 62) hO rfl rfl rfl ?_
  refine s_bipush (x := nI 24) (nx := 64) hO rfl (by decide) rfl ?_
  refine g_arrI (nx := 69) hO rfl rfl rfl (Nat.le_of_ble_eq_true rfl) (Nat.le_of_ble_eq_true rfl) (Nat.le_of_ble_eq_true rfl) (Nat.le_of_ble_eq_true rfl) (by rw [hty]; rfl) (by rw [hty]; rfl) haz rfl rfl ?_
  refine s_aload_n (nx := 70) hO rfl rfl rfl ?_
  refine s_bipush (x := nI 24) (nx := 72) hO rfl (by decide) rfl ?_
  refine g_arrZ (nx := 77) hO rfl rfl rfl (Nat.le_of_ble_eq_true rfl) (Nat.le_of_ble_eq_true rfl) (Nat.le_of_ble_eq_true rfl) (Nat.le_of_ble_eq_true rfl) (by rw [hty]; rfl) (by rw [hty]; rfl) haz rfl rfl ?_
  refine s_aload_n (nx := 78) hO rfl rfl rfl ?_
  refine s_bipush (x := nI 24) (nx := 80) hO rfl (by decide) rfl ?_
  refine g_arrI (nx := 85) hO rfl rfl rfl (Nat.le_of_ble_eq_true rfl) (Nat.le_of_ble_eq_true rfl) (Nat.le_of_ble_eq_true rfl) (Nat.le_of_ble_eq_true rfl) (by rw [hty]; rfl) (by rw [hty]; rfl) haz rfl rfl ?_
  refine s_aload_n (nx := 86) hO rfl rfl rfl ?_
  refine s_bipush (x := nI 24) (nx := 88) hO rfl (by decide) rfl ?_
  refine g_arrI (nx := 93) hO rfl rfl rfl (Nat.le_of_ble_eq_true rfl) (Nat.le_of_ble_eq_true rfl) (Nat.le_of_ble_eq_true rfl) (Nat.le_of_ble_eq_true rfl) (by rw [hty]; rfl) (by rw [hty]; rfl) haz rfl rfl ?_
  refine s_aload_n (nx := 94) hO rfl rfl rfl ?_
  refine s_bipush (x := nI 24) (nx := 96) hO rfl (by decide) rfl ?_
  refine g_arrI (nx := 101) hO rfl rfl rfl (Nat.le_of_ble_eq_true rfl) (Nat.le_of_ble_eq_true rfl) (Nat.le_of_ble_eq_true rfl) (Nat.le_of_ble_eq_true rfl) (by rw [hty]; rfl) (by rw [hty]; rfl) haz rfl rfl ?_
  refine s_aload_n (nx := 102) hO rfl rfl rfl ?_
  refine s_bipush (x := nI 24) (nx := 104) hO rfl (by decide) rfl ?_
  refine g_arrJ (nx := 109) hO rfl rfl rfl (Nat.le_of_ble_eq_true rfl) (Nat.le_of_ble_eq_true rfl) (Nat.le_of_ble_eq_true rfl) (Nat.le_of_ble_eq_true rfl) (by rw [hty]; rfl) (by rw [hty]; rfl) haz rfl rfl ?_
  refine s_aload_n (nx := 110) hO rfl rfl rfl ?_
  refine s_sipush (x := nI 192) (nx := 113) hO rfl (by decide) rfl ?_
  refine g_arrI (nx := 118) hO rfl rfl rfl (Nat.le_of_ble_eq_true rfl) (Nat.le_of_ble_eq_true rfl) (Nat.le_of_ble_eq_true rfl) (Nat.le_of_ble_eq_true rfl) (by rw [hty]; rfl) (by rw [hty]; rfl) haz rfl rfl ?_
  refine s_aload_n (nx := 119) hO rfl rfl rfl ?_
  refine s_sipush (x := nI 192) (nx := 122) hO rfl (by decide) rfl ?_
  refine g_arrI (nx := 127) hO rfl rfl rfl (Nat.le_of_ble_eq_true rfl) (Nat.le_of_ble_eq_true rfl) (Nat.le_of_ble_eq_true rfl) (Nat.le_of_ble_eq_true rfl) (by rw [hty]; rfl) (by rw [hty]; rfl) haz rfl rfl ?_
  refine s_aload_n (nx := 128) hO rfl rfl rfl ?_
  refine s_sipush (x := nI 192) (nx := 131) hO rfl (by decide) rfl ?_
  refine g_arrI (nx := 136) hO rfl rfl rfl (Nat.le_of_ble_eq_true rfl) (Nat.le_of_ble_eq_true rfl) (Nat.le_of_ble_eq_true rfl) (Nat.le_of_ble_eq_true rfl) (by rw [hty]; rfl) (by rw [hty]; rfl) haz rfl rfl ?_
  refine s_aload_n (nx := 137) hO rfl rfl rfl ?_
  refine s_sipush (x := nI 192) (nx := 140) hO rfl (by decide) rfl ?_
  refine g_arrI (nx := 145) hO rfl rfl rfl (Nat.le_of_ble_eq_true rfl) (Nat.le_of_ble_eq_true rfl) (Nat.le_of_ble_eq_true rfl) (Nat.le_of_ble_eq_true rfl) (by rw [hty]; rfl) (by rw [hty]; rfl) haz rfl rfl ?_
  refine s_aload_n (nx := 146) hO rfl rfl rfl ?_
  refine s_sipush (x := nI 192) (nx := 149) hO rfl (by decide) rfl ?_
  refine g_arrJ (nx := 154) hO rfl rfl rfl (Nat.le_of_ble_eq_true rfl) (Nat.le_of_ble_eq_true rfl) (Nat.le_of_ble_eq_true rfl) (Nat.le_of_ble_eq_true rfl) (by rw [hty]; rfl) (by rw [hty]; rfl) haz rfl rfl ?_
  refine s_aload_n (nx := 155) hO rfl rfl rfl ?_
  refine s_sipush (x := nI 192) (nx := 158) hO rfl (by decide) rfl ?_
  refine g_arrI (nx := 163) hO rfl rfl rfl (Nat.le_of_ble_eq_true rfl) (Nat.le_of_ble_eq_true rfl) (Nat.le_of_ble_eq_true rfl) (Nat.le_of_ble_eq_true rfl) (by rw [hty]; rfl) (by rw [hty]; rfl) haz rfl rfl ?_
  refine s_aload_n (nx := 164) hO rfl rfl rfl ?_
  refine s_sipush (x := nI 900) (nx := 167) hO rfl (by decide) rfl ?_
  refine g_arrZ (nx := 172) hO rfl rfl rfl (Nat.le_of_ble_eq_true rfl) (Nat.le_of_ble_eq_true rfl) (Nat.le_of_ble_eq_true rfl) (Nat.le_of_ble_eq_true rfl) (by rw [hty]; rfl) (by rw [hty]; rfl) haz rfl rfl ?_
  refine s_aload_n (nx := 173) hO rfl rfl rfl ?_
  refine s_sipush (x := nI 900) (nx := 176) hO rfl (by decide) rfl ?_
  refine g_arrI (nx := 181) hO rfl rfl rfl (Nat.le_of_ble_eq_true rfl) (Nat.le_of_ble_eq_true rfl) (Nat.le_of_ble_eq_true rfl) (Nat.le_of_ble_eq_true rfl) (by rw [hty]; rfl) (by rw [hty]; rfl) haz rfl rfl ?_
  refine s_aload_n (nx := 182) hO rfl rfl rfl ?_
  refine s_sipush (x := nI 900) (nx := 185) hO rfl (by decide) rfl ?_
  refine g_arrJ (nx := 190) hO rfl rfl rfl (Nat.le_of_ble_eq_true rfl) (Nat.le_of_ble_eq_true rfl) (Nat.le_of_ble_eq_true rfl) (Nat.le_of_ble_eq_true rfl) (by rw [hty]; rfl) (by rw [hty]; rfl) haz rfl rfl ?_
  refine s_aload_n (nx := 191) hO rfl rfl rfl ?_
  refine s_sipush (x := nI 900) (nx := 194) hO rfl (by decide) rfl ?_
  refine g_arrI (nx := 199) hO rfl rfl rfl (Nat.le_of_ble_eq_true rfl) (Nat.le_of_ble_eq_true rfl) (Nat.le_of_ble_eq_true rfl) (Nat.le_of_ble_eq_true rfl) (by rw [hty]; rfl) (by rw [hty]; rfl) haz rfl rfl ?_
  refine s_aload_n (nx := 200) hO rfl rfl rfl ?_
  refine s_sipush (x := nI 900) (nx := 203) hO rfl (by decide) rfl ?_
  refine g_arrI (nx := 208) hO rfl rfl rfl (Nat.le_of_ble_eq_true rfl) (Nat.le_of_ble_eq_true rfl) (Nat.le_of_ble_eq_true rfl) (Nat.le_of_ble_eq_true rfl) (by rw [hty]; rfl) (by rw [hty]; rfl) haz rfl rfl ?_
  refine s_aload_n (nx := 209) hO rfl rfl rfl ?_
  refine s_sipush (x := nI 900) (nx := 212) hO rfl (by decide) rfl ?_
  refine g_arrZ (nx := 217) hO rfl rfl rfl (Nat.le_of_ble_eq_true rfl) (Nat.le_of_ble_eq_true rfl) (Nat.le_of_ble_eq_true rfl) (Nat.le_of_ble_eq_true rfl) (by rw [hty]; rfl) (by rw [hty]; rfl) haz rfl rfl ?_
  refine s_aload_n (nx := 218) hO rfl rfl rfl ?_
  refine s_sipush (x := nI 5000) (nx := 221) hO rfl (by decide) rfl ?_
  refine g_arrI (nx := 226) hO rfl rfl rfl (Nat.le_of_ble_eq_true rfl) (Nat.le_of_ble_eq_true rfl) (Nat.le_of_ble_eq_true rfl) (Nat.le_of_ble_eq_true rfl) (by rw [hty]; rfl) (by rw [hty]; rfl) haz rfl rfl ?_
  refine s_aload_n (nx := 227) hO rfl rfl rfl ?_
  refine s_sipush (x := nI 512) (nx := 230) hO rfl (by decide) rfl ?_
  refine g_arrI (nx := 235) hO rfl rfl rfl (Nat.le_of_ble_eq_true rfl) (Nat.le_of_ble_eq_true rfl) (Nat.le_of_ble_eq_true rfl) (Nat.le_of_ble_eq_true rfl) (by rw [hty]; rfl) (by rw [hty]; rfl) haz rfl rfl ?_
  refine s_aload_n (nx := 236) hO rfl rfl rfl ?_
  refine s_sipush (x := nI 4608) (nx := 239) hO rfl (by decide) rfl ?_
  refine g_arrI (nx := 244) hO rfl rfl rfl (Nat.le_of_ble_eq_true rfl) (Nat.le_of_ble_eq_true rfl) (Nat.le_of_ble_eq_true rfl) (Nat.le_of_ble_eq_true rfl) (by rw [hty]; rfl) (by rw [hty]; rfl) haz rfl rfl ?_
  refine s_aload_n (nx := 245) hO rfl rfl rfl ?_
  refine s_sipush (x := nI 4608) (nx := 248) hO rfl (by decide) rfl ?_
  refine g_arrI (nx := 253) hO rfl rfl rfl (Nat.le_of_ble_eq_true rfl) (Nat.le_of_ble_eq_true rfl) (Nat.le_of_ble_eq_true rfl) (Nat.le_of_ble_eq_true rfl) (by rw [hty]; rfl) (by rw [hty]; rfl) haz rfl rfl ?_
  refine s_aload_n (nx := 254) hO rfl rfl rfl ?_
  refine s_sipush (x := nI 18000) (nx := 257) hO rfl (by decide) rfl ?_
  refine g_arrI (nx := 262) hO rfl rfl rfl (Nat.le_of_ble_eq_true rfl) (Nat.le_of_ble_eq_true rfl) (Nat.le_of_ble_eq_true rfl) (Nat.le_of_ble_eq_true rfl) (by rw [hty]; rfl) (by rw [hty]; rfl) haz rfl rfl ?_
  refine s_aload_n (nx := 263) hO rfl rfl rfl ?_
  refine s_bipush (x := nI 9) (nx := 265) hO rfl (by decide) rfl ?_
  refine g_arrI (nx := 270) hO rfl rfl rfl (Nat.le_of_ble_eq_true rfl) (Nat.le_of_ble_eq_true rfl) (Nat.le_of_ble_eq_true rfl) (Nat.le_of_ble_eq_true rfl) (by rw [hty]; rfl) (by rw [hty]; rfl) haz rfl rfl ?_
  refine s_aload_n (nx := 271) hO rfl rfl rfl ?_
  refine s_bipush (x := nI 64) (nx := 273) hO rfl (by decide) rfl ?_
  refine g_arrI (nx := 278) hO rfl rfl rfl (Nat.le_of_ble_eq_true rfl) (Nat.le_of_ble_eq_true rfl) (Nat.le_of_ble_eq_true rfl) (Nat.le_of_ble_eq_true rfl) (by rw [hty]; rfl) (by rw [hty]; rfl) haz rfl rfl ?_
  refine s_aload_n (nx := 279) hO rfl rfl rfl ?_
  refine s_ldc (x := nI 32768) (nx := 281) hO rfl rfl rfl ?_
  refine g_arrI (nx := 286) hO rfl rfl rfl (Nat.le_of_ble_eq_true rfl) (Nat.le_of_ble_eq_true rfl) (Nat.le_of_ble_eq_true rfl) (Nat.le_of_ble_eq_true rfl) (by rw [hty]; rfl) (by rw [hty]; rfl) haz rfl rfl ?_
  refine s_aload_n (nx := 287) hO rfl rfl rfl ?_
  refine s_sipush (x := nI 4096) (nx := 290) hO rfl (by decide) rfl ?_
  refine g_arrZ (nx := 295) hO rfl rfl rfl (Nat.le_of_ble_eq_true rfl) (Nat.le_of_ble_eq_true rfl) (Nat.le_of_ble_eq_true rfl) (Nat.le_of_ble_eq_true rfl) (by rw [hty]; rfl) (by rw [hty]; rfl) haz rfl rfl ?_
  refine s_aload_n (nx := 296) hO rfl rfl rfl ?_
  refine s_bipush (x := nI 64) (nx := 298) hO rfl (by decide) rfl ?_
  refine g_arrI (nx := 303) hO rfl rfl rfl (Nat.le_of_ble_eq_true rfl) (Nat.le_of_ble_eq_true rfl) (Nat.le_of_ble_eq_true rfl) (Nat.le_of_ble_eq_true rfl) (by rw [hty]; rfl) (by rw [hty]; rfl) haz rfl rfl ?_
  refine s_aload_n (nx := 304) hO rfl rfl rfl ?_
  refine s_bipush (x := nI 64) (nx := 306) hO rfl (by decide) rfl ?_
  refine g_arrI (nx := 311) hO rfl rfl rfl (Nat.le_of_ble_eq_true rfl) (Nat.le_of_ble_eq_true rfl) (Nat.le_of_ble_eq_true rfl) (Nat.le_of_ble_eq_true rfl) (by rw [hty]; rfl) (by rw [hty]; rfl) haz rfl rfl ?_
  refine s_aload_n (nx := 312) hO rfl rfl rfl ?_
  refine s_iconst (x := nI 3) (nx := 313) hO rfl (by decide) rfl ?_
  refine g_arrI (nx := 318) hO rfl rfl rfl (Nat.le_of_ble_eq_true rfl) (Nat.le_of_ble_eq_true rfl) (Nat.le_of_ble_eq_true rfl) (Nat.le_of_ble_eq_true rfl) (by rw [hty]; rfl) (by rw [hty]; rfl) haz rfl rfl ?_
  refine s_aload_n (nx := 319) hO rfl rfl rfl ?_
  refine s_bipush (x := nI 6) (nx := 321) hO rfl (by decide) rfl ?_
  refine g_arrI (nx := 326) hO rfl rfl rfl (Nat.le_of_ble_eq_true rfl) (Nat.le_of_ble_eq_true rfl) (Nat.le_of_ble_eq_true rfl) (Nat.le_of_ble_eq_true rfl) (by rw [hty]; rfl) (by rw [hty]; rfl) haz rfl rfl ?_
  refine s_aload_n (nx := 327) hO rfl rfl rfl ?_
  refine s_iconst (x := nI 3) (nx := 328) hO rfl (by decide) rfl ?_
  refine g_arrZ (nx := 333) hO rfl rfl rfl (Nat.le_of_ble_eq_true rfl) (Nat.le_of_ble_eq_true rfl) (Nat.le_of_ble_eq_true rfl) (Nat.le_of_ble_eq_true rfl) (by rw [hty]; rfl) (by rw [hty]; rfl) haz rfl rfl ?_
  refine s_aload_n (nx := 334) hO rfl rfl rfl ?_
  refine s_iconst (x := nI 3) (nx := 335) hO rfl (by decide) rfl ?_
  refine g_arrI (nx := 340) hO rfl rfl rfl (Nat.le_of_ble_eq_true rfl) (Nat.le_of_ble_eq_true rfl) (Nat.le_of_ble_eq_true rfl) (Nat.le_of_ble_eq_true rfl) (by rw [hty]; rfl) (by rw [hty]; rfl) haz rfl rfl ?_
  refine s_aload_n (nx := 341) hO rfl rfl rfl ?_
  refine s_bipush (x := nI 36) (nx := 343) hO rfl (by decide) rfl ?_
  refine g_arrI (nx := 348) hO rfl rfl rfl (Nat.le_of_ble_eq_true rfl) (Nat.le_of_ble_eq_true rfl) (Nat.le_of_ble_eq_true rfl) (Nat.le_of_ble_eq_true rfl) (by rw [hty]; rfl) (by rw [hty]; rfl) haz rfl rfl ?_
  refine s_aload_n (nx := 349) hO rfl rfl rfl ?_
  refine s_bipush (x := nI 36) (nx := 351) hO rfl (by decide) rfl ?_
  refine g_arrI (nx := 356) hO rfl rfl rfl (Nat.le_of_ble_eq_true rfl) (Nat.le_of_ble_eq_true rfl) (Nat.le_of_ble_eq_true rfl) (Nat.le_of_ble_eq_true rfl) (by rw [hty]; rfl) (by rw [hty]; rfl) haz rfl rfl ?_
  refine s_aload_n (nx := 357) hO rfl rfl rfl ?_
  refine s_bipush (x := nI 36) (nx := 359) hO rfl (by decide) rfl ?_
  refine g_arrI (nx := 364) hO rfl rfl rfl (Nat.le_of_ble_eq_true rfl) (Nat.le_of_ble_eq_true rfl) (Nat.le_of_ble_eq_true rfl) (Nat.le_of_ble_eq_true rfl) (by rw [hty]; rfl) (by rw [hty]; rfl) haz rfl rfl ?_
  refine s_aload_n (nx := 365) hO rfl rfl rfl ?_
  refine s_bipush (x := nI 36) (nx := 367) hO rfl (by decide) rfl ?_
  refine g_arrI (nx := 372) hO rfl rfl rfl (Nat.le_of_ble_eq_true rfl) (Nat.le_of_ble_eq_true rfl) (Nat.le_of_ble_eq_true rfl) (Nat.le_of_ble_eq_true rfl) (by rw [hty]; rfl) (by rw [hty]; rfl) haz rfl rfl ?_
  refine s_aload_n (nx := 373) hO rfl rfl rfl ?_
  refine s_bipush (x := nI 36) (nx := 375) hO rfl (by decide) rfl ?_
  refine g_arrI (nx := 380) hO rfl rfl rfl (Nat.le_of_ble_eq_true rfl) (Nat.le_of_ble_eq_true rfl) (Nat.le_of_ble_eq_true rfl) (Nat.le_of_ble_eq_true rfl) (by rw [hty]; rfl) (by rw [hty]; rfl) haz rfl rfl ?_
  refine s_aload_n (nx := 381) hO rfl rfl rfl ?_
  refine s_bipush (x := nI 36) (nx := 383) hO rfl (by decide) rfl ?_
  refine g_arrI (nx := 388) hO rfl rfl rfl (Nat.le_of_ble_eq_true rfl) (Nat.le_of_ble_eq_true rfl) (Nat.le_of_ble_eq_true rfl) (Nat.le_of_ble_eq_true rfl) (by rw [hty]; rfl) (by rw [hty]; rfl) haz rfl rfl ?_
  refine s_aload_n (nx := 389) hO rfl rfl rfl ?_
  refine s_bipush (x := nI 36) (nx := 391) hO rfl (by decide) rfl ?_
  refine g_arrI (nx := 396) hO rfl rfl rfl (Nat.le_of_ble_eq_true rfl) (Nat.le_of_ble_eq_true rfl) (Nat.le_of_ble_eq_true rfl) (Nat.le_of_ble_eq_true rfl) (by rw [hty]; rfl) (by rw [hty]; rfl) haz rfl rfl ?_
  refine s_aload_n (nx := 397) hO rfl rfl rfl ?_
  refine s_sipush (x := nI 14400) (nx := 400) hO rfl (by decide) rfl ?_
  refine g_arrI (nx := 405) hO rfl rfl rfl (Nat.le_of_ble_eq_true rfl) (Nat.le_of_ble_eq_true rfl) (Nat.le_of_ble_eq_true rfl) (Nat.le_of_ble_eq_true rfl) (by rw [hty]; rfl) (by rw [hty]; rfl) haz rfl rfl ?_
  refine s_aload_n (nx := 406) hO rfl rfl rfl ?_
  refine s_sipush (x := nI 14400) (nx := 409) hO rfl (by decide) rfl ?_
  refine g_arrI (nx := 414) hO rfl rfl rfl (Nat.le_of_ble_eq_true rfl) (Nat.le_of_ble_eq_true rfl) (Nat.le_of_ble_eq_true rfl) (Nat.le_of_ble_eq_true rfl) (by rw [hty]; rfl) (by rw [hty]; rfl) haz rfl rfl ?_
  refine s_aload_n (nx := 415) hO rfl rfl rfl ?_
  refine s_sipush (x := nI 216) (nx := 418) hO rfl (by decide) rfl ?_
  refine g_arrI (nx := 423) hO rfl rfl rfl (Nat.le_of_ble_eq_true rfl) (Nat.le_of_ble_eq_true rfl) (Nat.le_of_ble_eq_true rfl) (Nat.le_of_ble_eq_true rfl) (by rw [hty]; rfl) (by rw [hty]; rfl) haz rfl rfl ?_
  refine s_aload_n (nx := 424) hO rfl rfl rfl ?_
  refine s_sipush (x := nI 216) (nx := 427) hO rfl (by decide) rfl ?_
  refine g_arrI (nx := 432) hO rfl rfl rfl (Nat.le_of_ble_eq_true rfl) (Nat.le_of_ble_eq_true rfl) (Nat.le_of_ble_eq_true rfl) (Nat.le_of_ble_eq_true rfl) (by rw [hty]; rfl) (by rw [hty]; rfl) haz rfl rfl ?_
  refine s_aload_n (nx := 433) hO rfl rfl rfl ?_
  refine s_sipush (x := nI 216) (nx := 436) hO rfl (by decide) rfl ?_
  refine g_arrI (nx := 441) hO rfl rfl rfl (Nat.le_of_ble_eq_true rfl) (Nat.le_of_ble_eq_true rfl) (Nat.le_of_ble_eq_true rfl) (Nat.le_of_ble_eq_true rfl) (by rw [hty]; rfl) (by rw [hty]; rfl) haz rfl rfl ?_
  refine s_aload_n (nx := 442) hO rfl rfl rfl ?_
  refine s_sipush (x := nI 216) (nx := 445) hO rfl (by decide) rfl ?_
  refine g_arrZ (nx := 450) hO rfl rfl rfl (Nat.le_of_ble_eq_true rfl) (Nat.le_of_ble_eq_true rfl) (Nat.le_of_ble_eq_true rfl) (Nat.le_of_ble_eq_true rfl) (by rw [hty]; rfl) (by rw [hty]; rfl) haz rfl rfl ?_
  refine s_aload_n (nx := 451) hO rfl rfl rfl ?_
  refine s_sipush (x := nI 216) (nx := 454) hO rfl (by decide) rfl ?_
  refine g_arrI (nx := 459) hO rfl rfl rfl (Nat.le_of_ble_eq_true rfl) (Nat.le_of_ble_eq_true rfl) (Nat.le_of_ble_eq_true rfl) (Nat.le_of_ble_eq_true rfl) (by rw [hty]; rfl) (by rw [hty]; rfl) haz rfl rfl ?_
  refine s_aload_n (nx := 460) hO rfl rfl rfl ?_
  refine s_sipush (x := nI 14400) (nx := 463) hO rfl (by decide) rfl ?_
  refine g_arrI (nx := 468) hO rfl rfl rfl (Nat.le_of_ble_eq_true rfl) (Nat.le_of_ble_eq_true rfl) (Nat.le_of_ble_eq_true rfl) (Nat.le_of_ble_eq_true rfl) (by rw [hty]; rfl) (by rw [hty]; rfl) haz rfl rfl ?_
  refine s_aload_n (nx := 469) hO rfl rfl rfl ?_
  refine s_sipush (x := nI 14400) (nx := 472) hO rfl (by decide) rfl ?_
  refine g_arrI (nx := 477) hO rfl rfl rfl (Nat.le_of_ble_eq_true rfl) (Nat.le_of_ble_eq_true rfl) (Nat.le_of_ble_eq_true rfl) (Nat.le_of_ble_eq_true rfl) (by rw [hty]; rfl) (by rw [hty]; rfl) haz rfl rfl ?_
  refine s_aload_n (nx := 478) hO rfl rfl rfl ?_
  refine s_sipush (x := nI 400) (nx := 481) hO rfl (by decide) rfl ?_
  refine g_arrZ (nx := 486) hO rfl rfl rfl (Nat.le_of_ble_eq_true rfl) (Nat.le_of_ble_eq_true rfl) (Nat.le_of_ble_eq_true rfl) (Nat.le_of_ble_eq_true rfl) (by rw [hty]; rfl) (by rw [hty]; rfl) haz rfl rfl ?_
  refine s_aload_n (nx := 487) hO rfl rfl rfl ?_
  refine s_sipush (x := nI 14400) (nx := 490) hO rfl (by decide) rfl ?_
  refine g_arrJ (nx := 495) hO rfl rfl rfl (Nat.le_of_ble_eq_true rfl) (Nat.le_of_ble_eq_true rfl) (Nat.le_of_ble_eq_true rfl) (Nat.le_of_ble_eq_true rfl) (by rw [hty]; rfl) (by rw [hty]; rfl) haz rfl rfl ?_
  refine s_aload_n (nx := 496) hO rfl rfl rfl ?_
  refine s_bipush (x := nI 36) (nx := 498) hO rfl (by decide) rfl ?_
  refine g_arrJ (nx := 503) hO rfl rfl rfl (Nat.le_of_ble_eq_true rfl) (Nat.le_of_ble_eq_true rfl) (Nat.le_of_ble_eq_true rfl) (Nat.le_of_ble_eq_true rfl) (by rw [hty]; rfl) (by rw [hty]; rfl) haz rfl rfl ?_
  refine s_aload_n (nx := 504) hO rfl rfl rfl ?_
  refine s_bipush (x := nI 36) (nx := 506) hO rfl (by decide) rfl ?_
  refine g_arrJ (nx := 511) hO rfl rfl rfl (Nat.le_of_ble_eq_true rfl) (Nat.le_of_ble_eq_true rfl) (Nat.le_of_ble_eq_true rfl) (Nat.le_of_ble_eq_true rfl) (by rw [hty]; rfl) (by rw [hty]; rfl) haz rfl rfl ?_
  refine s_aload_n (nx := 512) hO rfl rfl rfl ?_
  refine s_bipush (x := nI 36) (nx := 514) hO rfl (by decide) rfl ?_
  refine g_arrJ (nx := 519) hO rfl rfl rfl (Nat.le_of_ble_eq_true rfl) (Nat.le_of_ble_eq_true rfl) (Nat.le_of_ble_eq_true rfl) (Nat.le_of_ble_eq_true rfl) (by rw [hty]; rfl) (by rw [hty]; rfl) haz rfl rfl ?_
  refine s_aload_n (nx := 520) hO rfl rfl rfl ?_
  refine s_iconst (x := nI 2) (nx := 521) hO rfl (by decide) rfl ?_
  refine g_arrZ (nx := 526) hO rfl rfl rfl (Nat.le_of_ble_eq_true rfl) (Nat.le_of_ble_eq_true rfl) (Nat.le_of_ble_eq_true rfl) (Nat.le_of_ble_eq_true rfl) (by rw [hty]; rfl) (by rw [hty]; rfl) haz rfl rfl ?_
  refine s_aload_n (nx := 527) hO rfl rfl rfl ?_
  refine s_sipush (x := nI 1024) (nx := 530) hO rfl (by decide) rfl ?_
  refine g_arrJ (nx := 535) hO rfl rfl rfl (Nat.le_of_ble_eq_true rfl) (Nat.le_of_ble_eq_true rfl) (Nat.le_of_ble_eq_true rfl) (Nat.le_of_ble_eq_true rfl) (by rw [hty]; rfl) (by rw [hty]; rfl) haz rfl rfl ?_
  refine s_aload_n (nx := 536) hO rfl rfl rfl ?_
  refine s_sipush (x := nI 1024) (nx := 539) hO rfl (by decide) rfl ?_
  refine g_arrZ (nx := 544) hO rfl rfl rfl (Nat.le_of_ble_eq_true rfl) (Nat.le_of_ble_eq_true rfl) (Nat.le_of_ble_eq_true rfl) (Nat.le_of_ble_eq_true rfl) (by rw [hty]; rfl) (by rw [hty]; rfl) haz rfl rfl ?_
  refine s_aload_n (nx := 545) hO rfl rfl rfl ?_
  refine s_sipush (x := nI 401) (nx := 548) hO rfl (by decide) rfl ?_
  refine g_arrI (nx := 553) hO rfl rfl rfl (Nat.le_of_ble_eq_true rfl) (Nat.le_of_ble_eq_true rfl) (Nat.le_of_ble_eq_true rfl) (Nat.le_of_ble_eq_true rfl) (by rw [hty]; rfl) (by rw [hty]; rfl) haz rfl rfl ?_
  refine s_aload_n (nx := 554) hO rfl rfl rfl ?_
  refine s_sipush (x := nI 256) (nx := 557) hO rfl (by decide) rfl ?_
  refine g_arrI (nx := 562) hO rfl rfl rfl (Nat.le_of_ble_eq_true rfl) (Nat.le_of_ble_eq_true rfl) (Nat.le_of_ble_eq_true rfl) (Nat.le_of_ble_eq_true rfl) (by rw [hty]; rfl) (by rw [hty]; rfl) haz rfl rfl ?_
  refine s_aload_n (nx := 563) hO rfl rfl rfl ?_
  refine s_bipush (x := nI 6) (nx := 565) hO rfl (by decide) rfl ?_
  refine g_arrI (nx := 570) hO rfl rfl rfl (Nat.le_of_ble_eq_true rfl) (Nat.le_of_ble_eq_true rfl) (Nat.le_of_ble_eq_true rfl) (Nat.le_of_ble_eq_true rfl) (by rw [hty]; rfl) (by rw [hty]; rfl) haz rfl rfl ?_
  refine s_aload_n (nx := 571) hO rfl rfl rfl ?_
  refine s_bipush (x := nI 6) (nx := 573) hO rfl (by decide) rfl ?_
  refine g_arrI (nx := 578) hO rfl rfl rfl (Nat.le_of_ble_eq_true rfl) (Nat.le_of_ble_eq_true rfl) (Nat.le_of_ble_eq_true rfl) (Nat.le_of_ble_eq_true rfl) (by rw [hty]; rfl) (by rw [hty]; rfl) haz rfl rfl ?_
  refine s_aload_n (nx := 579) hO rfl rfl rfl ?_
  refine s_sipush (x := nI 1280) (nx := 582) hO rfl (by decide) rfl ?_
  refine g_arrI (nx := 587) hO rfl rfl rfl (Nat.le_of_ble_eq_true rfl) (Nat.le_of_ble_eq_true rfl) (Nat.le_of_ble_eq_true rfl) (Nat.le_of_ble_eq_true rfl) (by rw [hty]; rfl) (by rw [hty]; rfl) haz rfl rfl ?_
  refine s_aload_n (nx := 588) hO rfl rfl rfl ?_
  refine s_sipush (x := nI 4100) (nx := 591) hO rfl (by decide) rfl ?_
  refine g_arrI (nx := 596) hO rfl rfl rfl (Nat.le_of_ble_eq_true rfl) (Nat.le_of_ble_eq_true rfl) (Nat.le_of_ble_eq_true rfl) (Nat.le_of_ble_eq_true rfl) (by rw [hty]; rfl) (by rw [hty]; rfl) haz rfl rfl ?_
  refine s_aload_n (nx := 597) hO rfl rfl rfl ?_
  refine s_sipush (x := nI 20100) (nx := 600) hO rfl (by decide) rfl ?_
  refine g_arrI (nx := 605) hO rfl rfl rfl (Nat.le_of_ble_eq_true rfl) (Nat.le_of_ble_eq_true rfl) (Nat.le_of_ble_eq_true rfl) (Nat.le_of_ble_eq_true rfl) (by rw [hty]; rfl) (by rw [hty]; rfl) haz rfl rfl ?_
  refine s_aload_n (nx := 606) hO rfl rfl rfl ?_
  refine s_sipush (x := nI 20100) (nx := 609) hO rfl (by decide) rfl ?_
  refine g_arrI (nx := 614) hO rfl rfl rfl (Nat.le_of_ble_eq_true rfl) (Nat.le_of_ble_eq_true rfl) (Nat.le_of_ble_eq_true rfl) (Nat.le_of_ble_eq_true rfl) (by rw [hty]; rfl) (by rw [hty]; rfl) haz rfl rfl ?_
  refine s_aload_n (nx := 615) hO rfl rfl rfl ?_
  refine s_bipush (x := nI 40) (nx := 617) hO rfl (by decide) rfl ?_
  refine g_arrI (nx := 622) hO rfl rfl rfl (Nat.le_of_ble_eq_true rfl) (Nat.le_of_ble_eq_true rfl) (Nat.le_of_ble_eq_true rfl) (Nat.le_of_ble_eq_true rfl) (by rw [hty]; rfl) (by rw [hty]; rfl) haz rfl rfl ?_
  refine s_aload_n (nx := 623) hO rfl rfl rfl ?_
  refine s_bipush (x := nI 40) (nx := 625) hO rfl (by decide) rfl ?_
  refine g_arrI (nx := 630) hO rfl rfl rfl (Nat.le_of_ble_eq_true rfl) (Nat.le_of_ble_eq_true rfl) (Nat.le_of_ble_eq_true rfl) (Nat.le_of_ble_eq_true rfl) (by rw [hty]; rfl) (by rw [hty]; rfl) haz rfl rfl ?_
  refine s_aload_n (nx := 631) hO rfl rfl rfl ?_
  refine s_bipush (x := nI 40) (nx := 633) hO rfl (by decide) rfl ?_
  refine g_arrI (nx := 638) hO rfl rfl rfl (Nat.le_of_ble_eq_true rfl) (Nat.le_of_ble_eq_true rfl) (Nat.le_of_ble_eq_true rfl) (Nat.le_of_ble_eq_true rfl) (by rw [hty]; rfl) (by rw [hty]; rfl) haz rfl rfl ?_
  refine s_aload_n (nx := 639) hO rfl rfl rfl ?_
  refine s_sipush (x := nI 480) (nx := 642) hO rfl (by decide) rfl ?_
  refine g_arrI (nx := 647) hO rfl rfl rfl (Nat.le_of_ble_eq_true rfl) (Nat.le_of_ble_eq_true rfl) (Nat.le_of_ble_eq_true rfl) (Nat.le_of_ble_eq_true rfl) (by rw [hty]; rfl) (by rw [hty]; rfl) haz rfl rfl ?_
  refine s_aload_n (nx := 648) hO rfl rfl rfl ?_
  refine s_sipush (x := nI 640) (nx := 651) hO rfl (by decide) rfl ?_
  refine g_arrI (nx := 656) hO rfl rfl rfl (Nat.le_of_ble_eq_true rfl) (Nat.le_of_ble_eq_true rfl) (Nat.le_of_ble_eq_true rfl) (Nat.le_of_ble_eq_true rfl) (by rw [hty]; rfl) (by rw [hty]; rfl) haz rfl rfl ?_
  refine xEx.at hp ?_
  refine s_ldcS (nx := 658) hR hO rfl rfl ?_
  refine s_astore_n (nx := 659) (l' := [(1, _), (0, _)]) hO rfl (by decide) rfl rfl ?_
  refine s_iconst (x := 0) (nx := 660) hO rfl (by decide) rfl ?_
  refine s_istore_n (nx := 661) (l' := [(2, _), (1, _), (0, _)]) hO rfl (by decide) rfl rfl ?_
  refine l_X12 hG hq hO (fun t Ft ht => ?_) 19 0 st0 rfl frM.rfl' (fun i hi => absurd hi (Nat.not_lt_zero _))
  refine s_aload_n (nx := 687) hO rfl rfl rfl ?_
  refine s_aload_n (nx := 688) hO rfl rfl rfl ?_
  refine s_callX [] (nx := 691) hq.1 hO rfl kX12_init_247 (c_J0_length hW hcl hJ hq) rfl rfl (Nat.le_of_ble_eq_true rfl) (Nat.zero_le _) (Nat.zero_le _) rfl (fun v9 h9 z9 q9 => ?_)
  obtain ⟨rfl, rfl, rfl⟩ := q9
  refine goV (wI t 139 2 (nI 19)) (fun t1 e1 => ?_)
  refine s_putf (nx := 694) hO rfl rfl (hs_o12 kc139) (Nat.le_of_ble_eq_true rfl) (by rw [hty]; rfl) (by rw [hty]; rfl) pX12_2 rfl ?_
  refine xEx.at (up_oI12 kc139 e1) ?_
  refine s_aload_n (nx := 695) hO rfl rfl rfl ?_
  have F1 : frM (fun a i => a = 140 ∨ (a = 139 ∧ i = 2)) st0 t1 := by subst e1; exact (Ft.mono (fun a i h => Or.inl h)).wI (Or.inr ⟨rfl, rfl⟩)
  have y1 : byM t1 B1 19 := ⟨by omega, by subst e1; rw [sI_w, if_pos ⟨rfl, rfl⟩], fun k hk => by subst e1; rw [sI_w, if_neg (by omega)]; exact ht k hk, B1_lt⟩
  refine s_callV [] (nx := 698) hO rfl kX12_init_260 (by rw [hcl]; rfl) (hs_o12 kc139) (w_X12_loadPolicy hG (init_ok (Q := fun _ s' => Iv (wI s' 139 2 0)) (st0_ok.fr F1) y1 (fun r s' h => h))) rfl rfl (Nat.le_of_ble_eq_true rfl) (Nat.zero_le _) (Nat.zero_le _) rfl (k_Qi (fun r s2 H => ?_))
  refine s_istore_n (nx := 699) (l' := [(2, _), (1, _), (0, _)]) hO rfl (by decide) rfl rfl ?_
  refine s_aload_n (nx := 700) hO rfl rfl rfl ?_
  refine s_iconst (x := 0) (nx := 701) hO rfl (by decide) rfl ?_
  refine goV (wI s2 139 2 0) (fun s3 e3 => ?_)
  refine s_putf (nx := 704) hO rfl rfl (hs_o12 kc139) (Nat.le_of_ble_eq_true rfl) (by rw [hty]; rfl) (by rw [hty]; rfl) pX12_2 rfl ?_
  refine xEx.at (up_oI12 kc139 e3) ?_
  exact s_vret hO rfl rfl ⟨rfl, s3, rfl, by subst e3; exact H⟩
set_option maxRecDepth 100000 in
set_option maxHeartbeats 16000000 in
theorem law_run (G : xG) (b L : Nat) (xs : Nat → Int32) (hGo : xGo G b L xs) (hSt : xStart G) (hL : L ≤ 2560) : xEx G mL_law 0 [(0, .ref b)] [] (fun _ => none) (q_b G) 600000 7302250 (fun v _ _ => v = some (.int 1)) := by
  have hG := hSt.1
  have hcl := hSt.1.2.1
  have hty := hSt.1.2.2.1
  have hO : xO G mL_law tbL_law ptL_law := ⟨tkL_law, pkL_law hcl⟩
  refine s_new (nx := 3) (fs := [.null, .null, .int 0, .int 0, .int 0, .int 0, .null, .null, .null, .null, .null, .int 0, .int 0, .null, .null, .null, .null, .null, .null, .null]) hO rfl rfl (by rw [hcl]; rfl) (Nat.le_of_ble_eq_true rfl) (Nat.le_of_ble_eq_true rfl) (fun j hj => by
    rw [hty]
    match j, hj with
    | 0, _ => rfl
    | 1, _ => rfl
    | 2, _ => rfl
    | 3, _ => rfl
    | 4, _ => rfl
    | 5, _ => rfl
    | 6, _ => rfl
    | 7, _ => rfl
    | 8, _ => rfl
    | 9, _ => rfl
    | 10, _ => rfl
    | 11, _ => rfl
    | 12, _ => rfl
    | 13, _ => rfl
    | 14, _ => rfl
    | 15, _ => rfl
    | 16, _ => rfl
    | 17, _ => rfl
    | 18, _ => rfl
    | 19, _ => rfl
    | k + 20, hk => exact absurd hk (by omega)) rfl ?_
  refine s_dup (nx := 4) hO rfl rfl rfl ?_
  refine s_callI [] (nx := 7) hO rfl kL_law_9 (c_X11_init hSt (Nat.lt_succ_self _) (va_up_self _ _ _)) rfl rfl (Nat.le_of_ble_eq_true rfl) (Nat.le_of_ble_eq_true rfl) (Nat.le_of_ble_eq_true rfl) rfl (fun v9 h9 z9 q9 => ?_)
  obtain ⟨rfl, rfl, rfl⟩ := q9
  refine xEx.at (h := x_adds (fun _ => none) (q_b G) (o11 (q_b G + 1) :: L11 (q_b G + 1))) x_one ?_
  refine s_astore_n (nx := 8) (l' := [(1, .ref (q_b G)), (0, .ref b)]) hO rfl (by decide) rfl rfl ?_
  refine s_new (nx := 11) (fs := [.int 0, .null, .int 0, .null, .null, .int 0, .int 0, .int 0, .null, .int 0, .int 0, .int 0, .int 0, .long 0, .long 0, .int 0, .int 0, .null, .null, .int 0, .null, .null, .null, .null, .null, .int 0, .null, .int 0, .null, .null, .null, .null, .null, .null, .int 0, .null, .null, .null, .null, .null, .null, .int 0, .null, .int 0, .null, .null, .null, .int 0, .null, .null, .null, .int 0, .null, .null, .null, .null, .int 0, .null, .null, .null, .null, .null, .null, .null, .null, .null, .null, .null, .null, .null, .null, .null, .null, .null, .null, .null, .null, .null, .null, .null, .null, .null, .int 0, .null, .null, .null, .null, .null, .int 0, .int 0, .int 0, .int 0, .int 0, .int 0, .int 0, .int 0, .int 0, .int 0, .null, .int 0, .null, .null, .null, .null, .null, .int 0, .null, .null, .null, .null, .null, .int 0, .int 0, .int 0, .int 0, .int 0]) hO rfl rfl (by rw [hcl]; rfl) (Nat.le_of_ble_eq_true rfl) (Nat.le_of_ble_eq_true rfl) (fun j hj => by
    rw [hty]
    match j, hj with
    | 0, _ => rfl
    | 1, _ => rfl
    | 2, _ => rfl
    | 3, _ => rfl
    | 4, _ => rfl
    | 5, _ => rfl
    | 6, _ => rfl
    | 7, _ => rfl
    | 8, _ => rfl
    | 9, _ => rfl
    | 10, _ => rfl
    | 11, _ => rfl
    | 12, _ => rfl
    | 13, _ => rfl
    | 14, _ => rfl
    | 15, _ => rfl
    | 16, _ => rfl
    | 17, _ => rfl
    | 18, _ => rfl
    | 19, _ => rfl
    | 20, _ => rfl
    | 21, _ => rfl
    | 22, _ => rfl
    | 23, _ => rfl
    | 24, _ => rfl
    | 25, _ => rfl
    | 26, _ => rfl
    | 27, _ => rfl
    | 28, _ => rfl
    | 29, _ => rfl
    | 30, _ => rfl
    | 31, _ => rfl
    | 32, _ => rfl
    | 33, _ => rfl
    | 34, _ => rfl
    | 35, _ => rfl
    | 36, _ => rfl
    | 37, _ => rfl
    | 38, _ => rfl
    | 39, _ => rfl
    | 40, _ => rfl
    | 41, _ => rfl
    | 42, _ => rfl
    | 43, _ => rfl
    | 44, _ => rfl
    | 45, _ => rfl
    | 46, _ => rfl
    | 47, _ => rfl
    | 48, _ => rfl
    | 49, _ => rfl
    | 50, _ => rfl
    | 51, _ => rfl
    | 52, _ => rfl
    | 53, _ => rfl
    | 54, _ => rfl
    | 55, _ => rfl
    | 56, _ => rfl
    | 57, _ => rfl
    | 58, _ => rfl
    | 59, _ => rfl
    | 60, _ => rfl
    | 61, _ => rfl
    | 62, _ => rfl
    | 63, _ => rfl
    | 64, _ => rfl
    | 65, _ => rfl
    | 66, _ => rfl
    | 67, _ => rfl
    | 68, _ => rfl
    | 69, _ => rfl
    | 70, _ => rfl
    | 71, _ => rfl
    | 72, _ => rfl
    | 73, _ => rfl
    | 74, _ => rfl
    | 75, _ => rfl
    | 76, _ => rfl
    | 77, _ => rfl
    | 78, _ => rfl
    | 79, _ => rfl
    | 80, _ => rfl
    | 81, _ => rfl
    | 82, _ => rfl
    | 83, _ => rfl
    | 84, _ => rfl
    | 85, _ => rfl
    | 86, _ => rfl
    | 87, _ => rfl
    | 88, _ => rfl
    | 89, _ => rfl
    | 90, _ => rfl
    | 91, _ => rfl
    | 92, _ => rfl
    | 93, _ => rfl
    | 94, _ => rfl
    | 95, _ => rfl
    | 96, _ => rfl
    | 97, _ => rfl
    | 98, _ => rfl
    | 99, _ => rfl
    | 100, _ => rfl
    | 101, _ => rfl
    | 102, _ => rfl
    | 103, _ => rfl
    | 104, _ => rfl
    | 105, _ => rfl
    | 106, _ => rfl
    | 107, _ => rfl
    | 108, _ => rfl
    | 109, _ => rfl
    | 110, _ => rfl
    | 111, _ => rfl
    | 112, _ => rfl
    | 113, _ => rfl
    | 114, _ => rfl
    | 115, _ => rfl
    | k + 116, hk => exact absurd hk (by omega)) rfl ?_
  refine s_dup (nx := 12) hO rfl rfl rfl ?_
  refine s_callI (b := q_b G + 139) [] (nx := 15) hO rfl kL_law_12 (c_X12_init (z := q_b G + 140) hSt (Nat.lt_succ_self _) (va_up_self _ _ _) ?_) rfl rfl (Nat.le_of_ble_eq_true rfl) (Nat.le_of_ble_eq_true rfl) (Nat.le_of_ble_eq_true rfl) rfl (fun v9 h9 z9 q9 => ?_)
  · refine Eq.trans (x_one (z := q_b G + 139)) ?_
    refine Eq.trans (x_app (z := q_b G) (y := q_b G + 139) rfl) ?_
    exact x_all (fun i => Lall_at i)
  · obtain ⟨rfl, s, rfl, hI⟩ := q9
    refine s_astore_n (nx := 16) (l' := [(2, .ref (q_b G + 139)), (1, .ref (q_b G)), (0, .ref b)]) hO rfl (by decide) rfl rfl ?_
    exact xEx.post (fun v h' z' hq => by
      obtain ⟨-, r, s', e1, -, e2⟩ := hq
      rw [e1, e2]) (xEx.room (Nat.zero_le _) (Nat.zero_le _) (w_L_law hG hGo.2.2.2.2.2.1 (law_ok hI hL)))

/-! ===== the BYTES, on: pokeByte, giveBytes ===== -/
theorem x_uu (f : Nat → Int32) (k : Nat) (x y : Int32) : upd (upd f k x) k y = upd f k y := by
  funext j
  unfold upd
  by_cases h : j = k
  · rw [if_pos h, if_pos h]
  · rw [if_neg h, if_neg h, if_neg h]
theorem x_inlt {k : Int32} {m N : Nat} (h0 : ¬ k < 0) (h1 : k < nI m) (hm : m ≤ N) (hN : N < 2 ^ 31) : ∃ j, j < m ∧ k = nI j ∧ vp_in k N := by
  obtain ⟨j, hj, rfl⟩ := nI_of h0
  have h2 : j < m := (nI_ltI hj (by omega)).mp h1
  exact ⟨j, h2, rfl, vp_in_nI (by omega) hN⟩
section XBytes
variable {G : xG} {h : xH} {z g : Nat} {A : Nat → Nat} {B : Nat → Value} {I : Nat → Int32} {J : Nat → Int64}
set_option maxRecDepth 100000 in
set_option maxHeartbeats 4000000 in
/-- GuardForge.pokeByte -/
theorem c_X11_pokeByte (hW : xW G) (hcl : q_cl G = vwCl) {m : Nat} {f : Nat → Int32} {k b : Int32} (hg : h g = some (.inr (11, oX11 A B I J))) (hb : h (A 0) = some (.inl (.byte, 8192, .inl f))) (hm : I 2 = nI m) (hm2 : m ≤ 8192) :
    xC G mX11_pokeByte [.ref g, .int k, .int b] h z 0 0 (fun v h' z' => z' = z ∧ ((∃ j, j < m ∧ k = nI j ∧ v = some (.int 1) ∧ h' = va_up h (A 0) (some (.inl (.byte, 8192, .inl (upd f j b.toInt8.toInt32))))) ∨ ((k < 0 ∨ nI m ≤ k) ∧ v = some (.int 0) ∧ h' = h))) := by
  have hO : xO G mX11_pokeByte tbX11_pokeByte ptX11_pokeByte := ⟨tkX11_pokeByte, pkX11_pokeByte hcl⟩
  refine xC.of hW (by decide) rfl (Nat.le_of_ble_eq_true rfl) ?_
  refine s_iload_n (nx := 1) hO rfl rfl rfl ?_
  refine s_if_lt (nx := 4) hO rfl rfl (fun c1 => ?_) (fun c1 => ?_)
  · refine s_iconst (x := 0) (nx := 13) hO rfl (by decide) rfl ?_
    exact s_iret hO rfl rfl rfl ⟨rfl, Or.inr ⟨Or.inl c1, rfl, rfl⟩⟩
  · refine s_iload_n (nx := 5) hO rfl rfl rfl ?_
    refine s_aload_n (nx := 6) hO rfl rfl rfl ?_
    refine s_getf (nx := 9) hO rfl rfl hg rfl rfl ?_
    rw [hm]
    refine s_icmp_lt (nx := 12) hO rfl rfl (fun c9 => ?_) (fun c9 => ?_)
    · obtain ⟨j, hj, rfl, hin⟩ := x_inlt c1 c9 hm2 (by decide)
      refine s_aload_n (nx := 15) hO rfl rfl rfl ?_
      refine s_getf (nx := 18) hO rfl rfl hg rfl rfl ?_
      refine s_iload_n (nx := 19) hO rfl rfl rfl ?_
      refine s_iload_n (nx := 20) hO rfl rfl rfl ?_
      refine s_i2b (nx := 21) hO rfl rfl ?_
      refine s_bast (nx := 22) hO rfl hb hin rfl ?_
      refine s_iconst (x := 1) (nx := 23) hO rfl (by decide) rfl ?_
      rw [nI_clamp (show j < 2 ^ 31 by omega), pk_vb]
      exact s_iret hO rfl rfl rfl ⟨rfl, Or.inl ⟨j, hj, rfl, rfl, rfl⟩⟩
    · refine s_iconst (x := 0) (nx := 13) hO rfl (by decide) rfl ?_
      exact s_iret hO rfl rfl rfl ⟨rfl, Or.inr ⟨Or.inr (Int32.not_lt.mp c9), rfl, rfl⟩⟩
set_option maxRecDepth 100000 in
set_option maxHeartbeats 4000000 in
/-- GuardForgeModel.pokeByte -/
theorem c_X12_pokeByte (hW : xW G) (hcl : q_cl G = vwCl) (hty : q_ty G = g_ty) {m : Nat} {f : Nat → Int32} {k b : Int32} (hne : A 1 ≠ g) (hg : h g = some (.inr (12, oX12 A B I J))) (hb : h (A 1) = some (.inl (.int, 8192, .inl f))) (hm : I 2 = nI m) (hm2 : m ≤ 8192) :
    xC G mX12_pokeByte [.ref g, .int k, .int b] h z 0 0 (fun v h' z' => z' = z ∧ ((∃ j, j < m ∧ k = nI j ∧ v = some (.int 1) ∧ h' = va_up (va_up h g (some (.inr (12, oX12 A B (upd I 0 0) J)))) (A 1) (some (.inl (.int, 8192, .inl (upd f j (b &&& nI 255)))))) ∨ ((k < 0 ∨ nI m ≤ k) ∧ v = some (.int 0) ∧ h' = va_up h g (some (.inr (12, oX12 A B (upd I 0 0) J)))))) := by
  have hO : xO G mX12_pokeByte tbX12_pokeByte ptX12_pokeByte := ⟨tkX12_pokeByte, pkX12_pokeByte hcl⟩
  refine xC.of hW (by decide) rfl (Nat.le_of_ble_eq_true rfl) ?_
  refine s_aload_n (nx := 1) hO rfl rfl rfl ?_
  refine s_iconst (x := 0) (nx := 2) hO rfl (by decide) rfl ?_
  refine s_putf (nx := 5) hO rfl rfl hg (Nat.le_of_ble_eq_true rfl) (by rw [hty]; rfl) (by rw [hty]; rfl) pX12_0 rfl ?_
  refine s_iload_n (nx := 6) hO rfl rfl rfl ?_
  refine s_if_lt (nx := 9) hO rfl rfl (fun c1 => ?_) (fun c1 => ?_)
  · refine s_iconst (x := 0) (nx := 18) hO rfl (by decide) rfl ?_
    exact s_iret hO rfl rfl rfl ⟨rfl, Or.inr ⟨Or.inl c1, rfl, rfl⟩⟩
  · refine s_iload_n (nx := 10) hO rfl rfl rfl ?_
    refine s_aload_n (nx := 11) hO rfl rfl rfl ?_
    refine s_getf (v := .int (I 2)) (nx := 14) hO rfl rfl (va_up_self _ _ _) rfl rfl ?_
    rw [hm]
    refine s_icmp_lt (nx := 17) hO rfl rfl (fun c9 => ?_) (fun c9 => ?_)
    · obtain ⟨j, hj, rfl, hin⟩ := x_inlt c1 c9 hm2 (by decide)
      refine s_aload_n (nx := 20) hO rfl rfl rfl ?_
      refine s_getf (nx := 23) hO rfl rfl (va_up_self _ _ _) rfl rfl ?_
      refine s_iload_n (nx := 24) hO rfl rfl rfl ?_
      refine s_iload_n (nx := 25) hO rfl rfl rfl ?_
      refine s_sipush (x := nI 255) (nx := 28) hO rfl (by decide) rfl ?_
      refine s_iand (nx := 29) hO rfl rfl ?_
      refine s_iast (nx := 30) hO rfl ((va_up_ne _ _ hne).trans hb) hin rfl ?_
      refine s_iconst (x := 1) (nx := 31) hO rfl (by decide) rfl ?_
      rw [nI_clamp (show j < 2 ^ 31 by omega)]
      exact s_iret hO rfl rfl rfl ⟨rfl, Or.inl ⟨j, hj, rfl, rfl, rfl⟩⟩
    · refine s_iconst (x := 0) (nx := 18) hO rfl (by decide) rfl ?_
      exact s_iret hO rfl rfl rfl ⟨rfl, Or.inr ⟨Or.inr (Int32.not_lt.mp c9), rfl, rfl⟩⟩
/-- what giveBytes writes: r bytes of v from place m on -/
def y_bC (v : Int64) (r : Nat) : Int32 := (v >>> ((nI 8 * nI r).toInt64 &&& 63)).toInt32.toInt8.toInt32
def y_gC (v : Int64) : Nat → (Nat → Int32) → Nat → (Nat → Int32)
  | 0, f, _ => f
  | r + 1, f, m => y_gC v r (upd f m (y_bC v r)) (m + 1)
set_option maxRecDepth 100000 in
set_option maxHeartbeats 4000000 in
theorem l_X11_giveBytes (hO : xO G mX11_giveBytes tbX11_giveBytes ptX11_giveBytes) (hty : q_ty G = g_ty) (hne : A 0 ≠ g) {v : Int64} {n : Int32} : ∀ (r m : Nat) (f : Nat → Int32), m + r ≤ 8192 →
    xEx G mX11_giveBytes 30 [(4, .int (nI r - 1)), (0, .ref g), (1, .long v), (3, .int n)] [] (va_up (va_up h (A 0) (some (.inl (.byte, 8192, .inl f)))) g (some (.inr (11, oX11 A B (upd I 2 (nI m)) J)))) z 0 0 (fun w h' z' => z' = z ∧ w = some (.int 1) ∧ h' = va_up (va_up h (A 0) (some (.inl (.byte, 8192, .inl (y_gC v r f m))))) g (some (.inr (11, oX11 A B (upd I 2 (nI (m + r))) J)))) := by
  intro r
  induction r with
  | zero =>
    intro m f hm
    refine s_iload (nx := 32) hO rfl rfl rfl ?_
    refine s_if_lt (nx := 35) hO rfl rfl (fun c32 => ?_) (fun c32 => ?_)
    · refine s_iconst (x := 1) (nx := 70) hO rfl (by decide) rfl ?_
      exact s_iret hO rfl rfl rfl ⟨rfl, rfl, rfl⟩
    · exact absurd (by decide) c32
  | succ r ih =>
    intro m f hm
    rw [nI_pred]
    refine s_iload (nx := 32) hO rfl rfl rfl ?_
    refine s_if_lt (nx := 35) hO rfl rfl (fun c32 => ?_) (fun c32 => ?_)
    · exact absurd c32 (nI_pos (by omega))
    · refine s_aload_n (nx := 36) hO rfl rfl rfl ?_
      refine s_getf (nx := 39) hO rfl rfl (va_up_self _ _ _) rfl rfl ?_
      refine s_aload_n (nx := 40) hO rfl rfl rfl ?_
      refine s_getf (v := .int (nI m)) (nx := 43) hO rfl rfl (va_up_self _ _ _) rfl rfl ?_
      refine s_lload_n (nx := 44) hO rfl rfl rfl ?_
      refine s_bipush (x := nI 8) (nx := 46) hO rfl (by decide) rfl ?_
      refine s_iload (nx := 48) hO rfl rfl rfl ?_
      refine s_imul (nx := 49) hO rfl rfl ?_
      refine s_lshr (nx := 50) hO rfl rfl ?_
      refine s_l2i (nx := 51) hO rfl rfl ?_
      refine s_i2b (nx := 52) hO rfl rfl ?_
      refine s_bast (n := 8192) (f := f) (nx := 53) hO rfl (by rw [va_up_ne _ _ hne, va_up_self]) (vp_in_nI (by omega) (by decide)) rfl ?_
      rw [x_upup _ _ _ (Ne.symm hne), bx_uu, nI_clamp (show m < 2 ^ 31 by omega), pk_vb]
      refine s_aload_n (nx := 54) hO rfl rfl rfl ?_
      refine s_dup (nx := 55) hO rfl rfl rfl ?_
      refine s_getf (v := .int (nI m)) (nx := 58) hO rfl rfl (va_up_self _ _ _) rfl rfl ?_
      refine s_iconst (x := 1) (nx := 59) hO rfl (by decide) rfl ?_
      refine s_iadd (nx := 60) hO rfl rfl ?_
      refine s_putf (nx := 63) hO rfl rfl (va_up_self _ _ _) (Nat.le_of_ble_eq_true rfl) (by rw [hty]; rfl) (by rw [hty]; rfl) pX11_2 rfl ?_
      rw [bx_uu, x_uu, nI_1]
      refine s_iinc (y := nI r - 1) (nx := 66) (l' := [(4, _), (0, _), (1, _), (3, _)]) hO rfl (by decide) rfl (by rw [Int32.sub_eq_add_neg]; rfl) rfl rfl ?_
      refine s_goto hO rfl ?_
      have k := ih (m + 1) (upd f m (y_bC v r)) (by omega)
      rw [show m + 1 + r = m + (r + 1) by omega] at k
      exact k
end XBytes

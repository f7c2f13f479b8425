/-! ===== the BYTES: class and reference ===== -/
theorem x_b01 : ∀ b : Bool, narrow .boolean (.int (if b = true then nI 1 else nI 0)) = .int (if b = true then nI 1 else nI 0) := by decide
set_option maxRecDepth 100000 in
set_option maxHeartbeats 4000000 in
/-- GuardForge.cutBytes -/
theorem c_X11_cutBytes {G : xG} (hW : xW G) (hcl : q_cl G = vwCl) (hty : q_ty G = g_ty) {h : xH} {z g : Nat} {A : Nat → Nat} {B : Nat → Value} {I : Nat → Int32} {J : Nat → Int64} {n : Int32} (hg : h g = some (.inr (11, oX11 A B I J))) :
    xC G mX11_cutBytes [.ref g, .int n] h z 0 0 (fun v h' z' => z' = z ∧ if n < 0 ∨ I 2 < n then v = some (.int 0) ∧ h' = h else v = some (.int 1) ∧ h' = va_up h g (some (.inr (11, oX11 A B (upd I 2 n) J)))) := by
  have hO : xO G mX11_cutBytes tbX11_cutBytes ptX11_cutBytes := ⟨tkX11_cutBytes, pkX11_cutBytes hcl⟩
  refine xC.of hW (by decide) rfl (Nat.le_of_ble_eq_true rfl) ?_
  refine s_iload_n (nx := 1) hO rfl rfl rfl ?_
  refine s_if_lt (nx := 4) hO rfl rfl (fun c1 => ?_) (fun c1 => ?_)
  · refine s_iconst (x := 0) (nx := 13) hO rfl (by decide) rfl ?_
    exact s_iret hO rfl rfl rfl ⟨rfl, by rw [if_pos (Or.inl c1)]; exact ⟨rfl, rfl⟩⟩
  · refine s_iload_n (nx := 5) hO rfl rfl rfl ?_
    refine s_aload_n (nx := 6) hO rfl rfl rfl ?_
    refine s_getf (nx := 9) hO rfl rfl hg rfl rfl ?_
    refine s_icmp_le (nx := 12) hO rfl rfl (fun c9 => ?_) (fun c9 => ?_)
    · refine s_aload_n (nx := 15) hO rfl rfl rfl ?_
      refine s_iload_n (nx := 16) hO rfl rfl rfl ?_
      refine s_putf (nx := 19) hO rfl rfl hg (Nat.le_of_ble_eq_true rfl) (by rw [hty]; rfl) (by rw [hty]; rfl) pX11_2 rfl ?_
      refine s_iconst (x := 1) (nx := 20) hO rfl (by decide) rfl ?_
      exact s_iret hO rfl rfl rfl ⟨rfl, by rw [if_neg (fun q => q.elim c1 (fun q => absurd c9 (Int32.not_le.mpr q)))]; exact ⟨rfl, rfl⟩⟩
    · refine s_iconst (x := 0) (nx := 13) hO rfl (by decide) rfl ?_
      exact s_iret hO rfl rfl rfl ⟨rfl, by rw [if_pos (Or.inr (Int32.not_le.mp c9))]; exact ⟨rfl, rfl⟩⟩
set_option maxRecDepth 100000 in
set_option maxHeartbeats 4000000 in
/-- GuardForgeModel.cutBytes -/
theorem c_X12_cutBytes {G : xG} (hW : xW G) (hcl : q_cl G = vwCl) (hty : q_ty G = g_ty) {h : xH} {z g : Nat} {A : Nat → Nat} {B : Nat → Value} {I : Nat → Int32} {J : Nat → Int64} {n : Int32} (hg : h g = some (.inr (12, oX12 A B I J))) :
    xC G mX12_cutBytes [.ref g, .int n] h z 0 0 (fun v h' z' => z' = z ∧ if n < 0 ∨ I 2 < n then v = some (.int 0) ∧ h' = va_up h g (some (.inr (12, oX12 A B (upd I 0 0) J))) else v = some (.int 1) ∧ h' = va_up h g (some (.inr (12, oX12 A B (upd (upd I 0 0) 2 n) J)))) := by
  have hO : xO G mX12_cutBytes tbX12_cutBytes ptX12_cutBytes := ⟨tkX12_cutBytes, pkX12_cutBytes hcl⟩
  refine xC.of hW (by decide) rfl (Nat.le_of_ble_eq_true rfl) ?_
  refine s_aload_n (nx := 1) hO rfl rfl rfl ?_
  refine s_iconst (x := 0) (nx := 2) hO rfl (by decide) rfl ?_
  refine s_putf (nx := 5) hO rfl rfl hg (Nat.le_of_ble_eq_true rfl) (by rw [hty]; rfl) (by rw [hty]; rfl) pX12_0 rfl ?_
  refine s_iload_n (nx := 6) hO rfl rfl rfl ?_
  refine s_if_lt (nx := 9) hO rfl rfl (fun c6 => ?_) (fun c6 => ?_)
  · refine s_iconst (x := 0) (nx := 18) hO rfl (by decide) rfl ?_
    exact s_iret hO rfl rfl rfl ⟨rfl, by rw [if_pos (Or.inl c6)]; exact ⟨rfl, rfl⟩⟩
  · refine s_iload_n (nx := 10) hO rfl rfl rfl ?_
    refine s_aload_n (nx := 11) hO rfl rfl rfl ?_
    refine s_getf (nx := 14) hO rfl rfl (va_up_self _ _ _) rfl rfl ?_
    refine s_icmp_le (nx := 17) hO rfl rfl (fun c14 => ?_) (fun c14 => ?_)
    · refine s_aload_n (nx := 20) hO rfl rfl rfl ?_
      refine s_iload_n (nx := 21) hO rfl rfl rfl ?_
      refine s_putf (nx := 24) hO rfl rfl (va_up_self _ _ _) (Nat.le_of_ble_eq_true rfl) (by rw [hty]; rfl) (by rw [hty]; rfl) pX12_2 rfl ?_
      rw [bx_uu]
      refine s_iconst (x := 1) (nx := 25) hO rfl (by decide) rfl ?_
      exact s_iret hO rfl rfl rfl ⟨rfl, by rw [if_neg (fun q => q.elim c6 (fun q => absurd (show n ≤ I 2 from c14) (Int32.not_le.mpr q)))]; exact ⟨rfl, rfl⟩⟩
    · refine s_iconst (x := 0) (nx := 18) hO rfl (by decide) rfl ?_
      exact s_iret hO rfl rfl rfl ⟨rfl, by rw [if_pos (Or.inr (Int32.not_le.mp (show ¬ n ≤ I 2 from c14)))]; exact ⟨rfl, rfl⟩⟩

/-! ===== the reference's giveBytes; byteOf on both sides ===== -/
section XBytes4
variable {G : xG} {h : xH} {z g : Nat} {A : Nat → Nat} {B : Nat → Value} {I : Nat → Int32} {J : Nat → Int64}
def y_bM (v : Int64) (r : Nat) : Int32 := ((v >>> ((nI 8 * nI r).toInt64 &&& 63)) &&& 255).toInt32
def y_gM (v : Int64) : Nat → (Nat → Int32) → Nat → (Nat → Int32)
  | 0, f, _ => f
  | r + 1, f, m => y_gM v r (upd f m (y_bM v r)) (m + 1)
set_option maxRecDepth 100000 in
set_option maxHeartbeats 4000000 in
theorem l_X12_giveBytes (hO : xO G mX12_giveBytes tbX12_giveBytes ptX12_giveBytes) (hty : q_ty G = g_ty) (hne : A 1 ≠ g) {v : Int64} {n : Int32} : ∀ (r m : Nat) (f : Nat → Int32), m + r ≤ 8192 →
    xEx G mX12_giveBytes 35 [(4, .int (nI r - 1)), (0, .ref g), (1, .long v), (3, .int n)] [] (va_up (va_up h (A 1) (some (.inl (.int, 8192, .inl f)))) g (some (.inr (12, oX12 A B (upd I 2 (nI m)) J)))) z 0 0 (fun w h' z' => z' = z ∧ w = some (.int 1) ∧ h' = va_up (va_up h (A 1) (some (.inl (.int, 8192, .inl (y_gM v r f m))))) g (some (.inr (12, oX12 A B (upd I 2 (nI (m + r))) J)))) := by
  intro r
  induction r with
  | zero =>
    intro m f hm
    refine s_iload (nx := 37) hO rfl rfl rfl ?_
    refine s_if_lt (nx := 40) hO rfl rfl (fun c32 => ?_) (fun c32 => ?_)
    · refine s_iconst (x := 1) (nx := 78) hO rfl (by decide) rfl ?_
      exact s_iret hO rfl rfl rfl ⟨rfl, rfl, rfl⟩
    · exact absurd (by decide) c32
  | succ r ih =>
    intro m f hm
    rw [nI_pred]
    refine s_iload (nx := 37) hO rfl rfl rfl ?_
    refine s_if_lt (nx := 40) hO rfl rfl (fun c32 => ?_) (fun c32 => ?_)
    · exact absurd c32 (nI_pos (by omega))
    · refine s_aload_n (nx := 41) hO rfl rfl rfl ?_
      refine s_getf (nx := 44) hO rfl rfl (va_up_self _ _ _) rfl rfl ?_
      refine s_aload_n (nx := 45) hO rfl rfl rfl ?_
      refine s_getf (v := .int (nI m)) (nx := 48) hO rfl rfl (va_up_self _ _ _) rfl rfl ?_
      refine s_lload_n (nx := 49) hO rfl rfl rfl ?_
      refine s_bipush (x := nI 8) (nx := 51) hO rfl (by decide) rfl ?_
      refine s_iload (nx := 53) hO rfl rfl rfl ?_
      refine s_imul (nx := 54) hO rfl rfl ?_
      refine s_lshr (nx := 55) hO rfl rfl ?_
      refine s_ldc2_w (nx := 58) hO rfl rfl rfl ?_
      refine s_land (nx := 59) hO rfl rfl ?_
      refine s_l2i (nx := 60) hO rfl rfl ?_
      refine s_iast (n := 8192) (f := f) (nx := 61) hO rfl (by rw [va_up_ne _ _ hne, va_up_self]) (vp_in_nI (by omega) (by decide)) rfl ?_
      rw [x_upup _ _ _ (Ne.symm hne), bx_uu, nI_clamp (show m < 2 ^ 31 by omega)]
      refine s_aload_n (nx := 62) hO rfl rfl rfl ?_
      refine s_dup (nx := 63) hO rfl rfl rfl ?_
      refine s_getf (v := .int (nI m)) (nx := 66) hO rfl rfl (va_up_self _ _ _) rfl rfl ?_
      refine s_iconst (x := 1) (nx := 67) hO rfl (by decide) rfl ?_
      refine s_iadd (nx := 68) hO rfl rfl ?_
      refine s_putf (nx := 71) hO rfl rfl (va_up_self _ _ _) (Nat.le_of_ble_eq_true rfl) (by rw [hty]; rfl) (by rw [hty]; rfl) pX12_2 rfl ?_
      rw [bx_uu, x_uu, nI_1]
      refine s_iinc (y := nI r - 1) (nx := 74) (l' := [(4, _), (0, _), (1, _), (3, _)]) hO rfl (by decide) rfl (by rw [Int32.sub_eq_add_neg]; rfl) rfl rfl ?_
      refine s_goto hO rfl ?_
      have k := ih (m + 1) (upd f m (y_bM v r)) (by omega)
      rw [show m + 1 + r = m + (r + 1) by omega] at k
      exact k
set_option maxRecDepth 100000 in
set_option maxHeartbeats 4000000 in
/-- GuardForgeModel.giveBytes -/
theorem c_X12_giveBytes (hW : xW G) (hcl : q_cl G = vwCl) (hty : q_ty G = g_ty) {m : Nat} {f : Nat → Int32} {v : Int64} {n : Int32} (hne : A 1 ≠ g) (hg : h g = some (.inr (12, oX12 A B I J))) (hb : h (A 1) = some (.inl (.int, 8192, .inl f))) (hm : I 2 = nI m) (hm2 : m ≤ 8192) :
    xC G mX12_giveBytes [.ref g, .long v, .int n] h z 0 0 (fun w h' z' => z' = z ∧ ((∃ r, 1 ≤ r ∧ r ≤ 8 ∧ n = nI r ∧ m + r ≤ 8192 ∧ w = some (.int 1) ∧ h' = va_up (va_up h (A 1) (some (.inl (.int, 8192, .inl (y_gM v r f m))))) g (some (.inr (12, oX12 A B (upd (upd I 0 0) 2 (nI (m + r))) J)))) ∨ ((∀ r, 1 ≤ r → r ≤ 8 → m + r ≤ 8192 → n ≠ nI r) ∧ w = some (.int 0) ∧ h' = va_up h g (some (.inr (12, oX12 A B (upd I 0 0) J)))))) := by
  have hO : xO G mX12_giveBytes tbX12_giveBytes ptX12_giveBytes := ⟨tkX12_giveBytes, pkX12_giveBytes hcl⟩
  refine xC.of hW (by decide) rfl (Nat.le_of_ble_eq_true rfl) ?_
  refine s_aload_n (nx := 1) hO rfl rfl rfl ?_
  refine s_iconst (x := 0) (nx := 2) hO rfl (by decide) rfl ?_
  refine s_putf (nx := 5) hO rfl rfl hg (Nat.le_of_ble_eq_true rfl) (by rw [hty]; rfl) (by rw [hty]; rfl) pX12_0 rfl ?_
  refine s_iload_n (nx := 6) hO rfl rfl rfl ?_
  refine s_iconst (x := 1) (nx := 7) hO rfl (by decide) rfl ?_
  refine s_icmp_lt (nx := 10) hO rfl rfl (fun c2 => ?_) (fun c2 => ?_)
  · refine s_iconst (x := 0) (nx := 29) hO rfl (by decide) rfl ?_
    exact s_iret hO rfl rfl rfl ⟨rfl, Or.inr ⟨fun r h1 h2 h3 e => by
      subst e
      exact absurd c2 (nI_nlt (a := r) (b := 1) h1 (by omega)), rfl, rfl⟩⟩
  · refine s_iload_n (nx := 11) hO rfl rfl rfl ?_
    refine s_bipush (x := nI 8) (nx := 13) hO rfl (by decide) rfl ?_
    refine s_icmp_gt (nx := 16) hO rfl rfl (fun c8 => ?_) (fun c8 => ?_)
    · refine s_iconst (x := 0) (nx := 29) hO rfl (by decide) rfl ?_
      exact s_iret hO rfl rfl rfl ⟨rfl, Or.inr ⟨fun r h1 h2 h3 e => by
        subst e
        exact absurd c8 (nI_nlt (a := 8) (b := r) h2 (by omega)), rfl, rfl⟩⟩
    · have h0 : ¬ n < 0 := fun q => c2 (by
        have h1 := Int32.lt_iff_toInt_lt.mp q
        refine Int32.lt_iff_toInt_lt.mpr ?_
        have e1 : (1 : Int32).toInt = 1 := by decide
        have e0 : (0 : Int32).toInt = 0 := by decide
        omega)
      obtain ⟨r, hr, rfl⟩ := nI_of h0
      have r1 : 1 ≤ r := by
        refine Nat.le_of_not_lt (fun q => c2 ?_)
        exact nI_lt (a := r) (b := 1) q (by decide)
      have r8 : r ≤ 8 := by
        refine Nat.le_of_not_lt (fun q => c8 ?_)
        exact nI_lt q hr
      refine s_aload_n (nx := 17) hO rfl rfl rfl ?_
      refine s_getf (v := .int (I 2)) (nx := 20) hO rfl rfl (va_up_self _ _ _) rfl rfl ?_
      refine s_iload_n (nx := 21) hO rfl rfl rfl ?_
      refine s_iadd (nx := 22) hO rfl rfl ?_
      refine s_sipush (x := nI 8192) (nx := 25) hO rfl (by decide) rfl ?_
      rw [hm, nI_add]
      refine s_icmp_le (nx := 28) hO rfl rfl (fun c20 => ?_) (fun c20 => ?_)
      · have hfit : m + r ≤ 8192 := (nI_leI (by omega) (by omega)).mp c20
        refine s_iload_n (nx := 31) hO rfl rfl rfl ?_
        refine s_iconst (x := 1) (nx := 32) hO rfl (by decide) rfl ?_
        refine s_isub (nx := 33) hO rfl rfl ?_
        refine s_istore (nx := 35) (l' := [(4, _), (0, _), (1, _), (3, _)]) hO rfl (by decide) rfl rfl ?_
        refine xEx.at (h := va_up (va_up h (A 1) (some (.inl (.int, 8192, .inl f)))) g (some (.inr (12, oX12 A B (upd (upd I 0 0) 2 (nI m)) J)))) (by rw [x_same hb, x_usame (show upd I 0 0 2 = nI m from hm)]) ?_
        have k := l_X12_giveBytes (h := h) (z := z) (g := g) (A := A) (B := B) (I := upd I 0 0) (J := J) hO hty hne (v := v) (n := nI r) r m f (by omega)
        exact k.mono (fun w h' z' q => ⟨q.1, Or.inl ⟨r, r1, r8, rfl, by omega, q.2.1, q.2.2⟩⟩)
      · refine s_iconst (x := 0) (nx := 29) hO rfl (by decide) rfl ?_
        exact s_iret hO rfl rfl rfl ⟨rfl, Or.inr ⟨fun r' h1 h2 h3 e => by
          have e2 : r = r' := (nI_eq hr (by omega)).mp e
          subst e2
          exact c20 ((nI_leI (by omega) (by omega)).mpr h3), rfl, rfl⟩⟩
set_option maxRecDepth 100000 in
set_option maxHeartbeats 4000000 in
/-- GuardForge.byteOf -/
theorem c_X11_byteOf (hW : xW G) (hcl : q_cl G = vwCl) {m w : Nat} {f f2 : Nat → Int32} {k into : Int32} (hg : h g = some (.inr (11, oX11 A B I J))) (hb : h (A 0) = some (.inl (.byte, 8192, .inl f))) (hw : h (A 1) = some (.inl (.byte, 8192, .inl f2))) (hm : I 2 = nI m) (hm2 : m ≤ 8192) (hw1 : I 3 = nI w) (hw2 : w ≤ 8192) :
    xC G mX11_byteOf [.ref g, .int k, .int into] h z 0 0 (fun v h' z' => z' = z ∧ h' = h ∧ ((∃ j, k = nI j ∧ j < (if into = 0 then w else m) ∧ v = some (.int ((if into = 0 then f2 j else f j) &&& nI 255))) ∨ ((∀ j, j < (if into = 0 then w else m) → k ≠ nI j) ∧ v = some (.int (-1))))) := by
  have hO : xO G mX11_byteOf tbX11_byteOf ptX11_byteOf := ⟨tkX11_byteOf, pkX11_byteOf hcl⟩
  refine xC.of hW (by decide) rfl (Nat.le_of_ble_eq_true rfl) ?_
  refine s_iload_n (nx := 1) hO rfl rfl rfl ?_
  refine s_if_lt (nx := 4) hO rfl rfl (fun c1 => ?_) (fun c1 => ?_)
  · refine s_iconst (x := -1) (nx := 24) hO rfl (by decide) rfl ?_
    exact s_iret hO rfl rfl rfl ⟨rfl, rfl, Or.inr ⟨fun j hj e => by
      subst e
      exact absurd c1 (nI_pos (by split at hj <;> omega)), rfl⟩⟩
  · obtain ⟨j, hj, rfl⟩ := nI_of c1
    refine s_iload_n (nx := 5) hO rfl rfl rfl ?_
    refine s_iload_n (nx := 6) hO rfl rfl rfl ?_
    refine s_if_eq (nx := 9) hO rfl rfl (fun c6 => ?_) (fun c6 => ?_)
    · simp only [if_pos c6]
      refine s_aload_n (nx := 17) hO rfl rfl rfl ?_
      refine s_getf (nx := 20) hO rfl rfl hg rfl rfl ?_
      rw [hw1]
      refine s_icmp_lt (nx := 23) hO rfl rfl (fun c20 => ?_) (fun c20 => ?_)
      · have h1 : j < w := (nI_ltI hj (by omega)).mp c20
        refine s_iload_n (nx := 26) hO rfl rfl rfl ?_
        refine s_if_eq (nx := 29) hO rfl rfl (fun c26 => ?_) (fun c26 => absurd c6 c26)
        refine s_aload_n (nx := 39) hO rfl rfl rfl ?_
        refine s_getf (nx := 42) hO rfl rfl hg rfl rfl ?_
        refine s_iload_n (nx := 43) hO rfl rfl rfl ?_
        refine s_bald (nx := 44) hO rfl hw (vp_in_nI (by omega) (by decide)) rfl ?_
        rw [nI_clamp hj]
        refine s_sipush (x := nI 255) (nx := 47) hO rfl (by decide) rfl ?_
        refine s_iand (nx := 48) hO rfl rfl ?_
        exact s_iret hO rfl rfl rfl ⟨rfl, rfl, Or.inl ⟨j, rfl, h1, rfl⟩⟩
      · refine s_iconst (x := -1) (nx := 24) hO rfl (by decide) rfl ?_
        exact s_iret hO rfl rfl rfl ⟨rfl, rfl, Or.inr ⟨fun j' hj' e => by
          rw [e] at c20
          exact c20 (nI_lt hj' (by omega)), rfl⟩⟩
    · simp only [if_neg c6]
      refine s_aload_n (nx := 10) hO rfl rfl rfl ?_
      refine s_getf (nx := 13) hO rfl rfl hg rfl rfl ?_
      refine s_goto hO rfl ?_
      rw [hm]
      refine s_icmp_lt (nx := 23) hO rfl rfl (fun c20 => ?_) (fun c20 => ?_)
      · have h1 : j < m := (nI_ltI hj (by omega)).mp c20
        refine s_iload_n (nx := 26) hO rfl rfl rfl ?_
        refine s_if_eq (nx := 29) hO rfl rfl (fun c26 => absurd c26 c6) (fun c26 => ?_)
        refine s_aload_n (nx := 30) hO rfl rfl rfl ?_
        refine s_getf (nx := 33) hO rfl rfl hg rfl rfl ?_
        refine s_iload_n (nx := 34) hO rfl rfl rfl ?_
        refine s_bald (nx := 35) hO rfl hb (vp_in_nI (by omega) (by decide)) rfl ?_
        refine s_goto hO rfl ?_
        rw [nI_clamp hj]
        refine s_sipush (x := nI 255) (nx := 47) hO rfl (by decide) rfl ?_
        refine s_iand (nx := 48) hO rfl rfl ?_
        exact s_iret hO rfl rfl rfl ⟨rfl, rfl, Or.inl ⟨j, rfl, h1, rfl⟩⟩
      · refine s_iconst (x := -1) (nx := 24) hO rfl (by decide) rfl ?_
        exact s_iret hO rfl rfl rfl ⟨rfl, rfl, Or.inr ⟨fun j' hj' e => by
          rw [e] at c20
          exact c20 (nI_lt hj' (by omega)), rfl⟩⟩
set_option maxRecDepth 100000 in
set_option maxHeartbeats 4000000 in
/-- GuardForgeModel.byteOf -/
theorem c_X12_byteOf (hW : xW G) (hcl : q_cl G = vwCl) (hty : q_ty G = g_ty) {m w : Nat} {f f2 : Nat → Int32} {k into : Int32} (hn1 : A 1 ≠ g) (hn3 : A 3 ≠ g) (hg : h g = some (.inr (12, oX12 A B I J))) (hb : h (A 1) = some (.inl (.int, 8192, .inl f))) (hw : h (A 3) = some (.inl (.int, 8192, .inl f2))) (hm : I 2 = nI m) (hm2 : m ≤ 8192) (hw1 : I 5 = nI w) (hw2 : w ≤ 8192) :
    xC G mX12_byteOf [.ref g, .int k, .int into] h z 0 0 (fun v h' z' => z' = z ∧ h' = va_up h g (some (.inr (12, oX12 A B (upd I 0 0) J))) ∧ ((∃ j, k = nI j ∧ j < (if into = 0 then w else m) ∧ v = some (.int (if into = 0 then f2 j else f j))) ∨ ((∀ j, j < (if into = 0 then w else m) → k ≠ nI j) ∧ v = some (.int (-1))))) := by
  have hO : xO G mX12_byteOf tbX12_byteOf ptX12_byteOf := ⟨tkX12_byteOf, pkX12_byteOf hcl⟩
  refine xC.of hW (by decide) rfl (Nat.le_of_ble_eq_true rfl) ?_
  refine s_aload_n (nx := 1) hO rfl rfl rfl ?_
  refine s_iconst (x := 0) (nx := 2) hO rfl (by decide) rfl ?_
  refine s_putf (nx := 5) hO rfl rfl hg (Nat.le_of_ble_eq_true rfl) (by rw [hty]; rfl) (by rw [hty]; rfl) pX12_0 rfl ?_
  refine s_iload_n (nx := 6) hO rfl rfl rfl ?_
  refine s_if_lt (nx := 9) hO rfl rfl (fun c1 => ?_) (fun c1 => ?_)
  · refine s_iconst (x := -1) (nx := 29) hO rfl (by decide) rfl ?_
    refine s_goto hO rfl ?_
    exact s_iret hO rfl rfl rfl ⟨rfl, rfl, Or.inr ⟨fun j hj e => by
      subst e
      exact absurd c1 (nI_pos (by split at hj <;> omega)), rfl⟩⟩
  · obtain ⟨j, hj, rfl⟩ := nI_of c1
    refine s_iload_n (nx := 10) hO rfl rfl rfl ?_
    refine s_iload_n (nx := 11) hO rfl rfl rfl ?_
    refine s_if_eq (nx := 14) hO rfl rfl (fun c6 => ?_) (fun c6 => ?_)
    · simp only [if_pos c6]
      refine s_aload_n (nx := 22) hO rfl rfl rfl ?_
      refine s_getf (v := .int (I 5)) (nx := 25) hO rfl rfl (va_up_self _ _ _) rfl rfl ?_
      rw [hw1]
      refine s_icmp_lt (nx := 28) hO rfl rfl (fun c20 => ?_) (fun c20 => ?_)
      · have h1 : j < w := (nI_ltI hj (by omega)).mp c20
        refine s_iload_n (nx := 33) hO rfl rfl rfl ?_
        refine s_if_eq (nx := 36) hO rfl rfl (fun c26 => ?_) (fun c26 => absurd c6 c26)
        refine s_aload_n (nx := 46) hO rfl rfl rfl ?_
        refine s_getf (nx := 49) hO rfl rfl (va_up_self _ _ _) rfl rfl ?_
        refine s_iload_n (nx := 50) hO rfl rfl rfl ?_
        refine s_iald (nx := 51) hO rfl ((va_up_ne _ _ hn3).trans hw) (vp_in_nI (by omega) (by decide)) rfl ?_
        rw [nI_clamp hj]
        exact s_iret hO rfl rfl rfl ⟨rfl, rfl, Or.inl ⟨j, rfl, h1, rfl⟩⟩
      · refine s_iconst (x := -1) (nx := 29) hO rfl (by decide) rfl ?_
        refine s_goto hO rfl ?_
        exact s_iret hO rfl rfl rfl ⟨rfl, rfl, Or.inr ⟨fun j' hj' e => by
          rw [e] at c20
          exact c20 (nI_lt hj' (by omega)), rfl⟩⟩
    · simp only [if_neg c6]
      refine s_aload_n (nx := 15) hO rfl rfl rfl ?_
      refine s_getf (v := .int (I 2)) (nx := 18) hO rfl rfl (va_up_self _ _ _) rfl rfl ?_
      refine s_goto hO rfl ?_
      rw [hm]
      refine s_icmp_lt (nx := 28) hO rfl rfl (fun c20 => ?_) (fun c20 => ?_)
      · have h1 : j < m := (nI_ltI hj (by omega)).mp c20
        refine s_iload_n (nx := 33) hO rfl rfl rfl ?_
        refine s_if_eq (nx := 36) hO rfl rfl (fun c26 => absurd c26 c6) (fun c26 => ?_)
        refine s_aload_n (nx := 37) hO rfl rfl rfl ?_
        refine s_getf (nx := 40) hO rfl rfl (va_up_self _ _ _) rfl rfl ?_
        refine s_iload_n (nx := 41) hO rfl rfl rfl ?_
        refine s_iald (nx := 42) hO rfl ((va_up_ne _ _ hn1).trans hb) (vp_in_nI (by omega) (by decide)) rfl ?_
        refine s_goto hO rfl ?_
        rw [nI_clamp hj]
        exact s_iret hO rfl rfl rfl ⟨rfl, rfl, Or.inl ⟨j, rfl, h1, rfl⟩⟩
      · refine s_iconst (x := -1) (nx := 29) hO rfl (by decide) rfl ?_
        refine s_goto hO rfl ?_
        exact s_iret hO rfl rfl rfl ⟨rfl, rfl, Or.inr ⟨fun j' hj' e => by
          rw [e] at c20
          exact c20 (nI_lt hj' (by omega)), rfl⟩⟩
end XBytes4

/-! ===== turnBytes, addAnswer, dropAnswers ===== -/
section XCopy
variable {G : xG} {M : xM} {P : xP} {T : xT} {Q : xQ} {pc nx : Nat} {ts : List Nat} {l : List (Nat × Value)} {rest : List Value} {h : xH} {z kc ks : Nat}
theorem s_copy {idx a0 a n0 n1 t0 sp dp n : Nat} {ty : FieldType} {f g : Nat → Int32} (hO : xO G M T P) (hl : T.lookup pc = some (.invokestatic idx, 3, ts)) (ht : (x_tys G)[t0]? = some (q_A G ty, ty)) (hprim : refKind ty = false) (ha0 : h a0 = some (.inl (ty, n0, .inl f))) (ha1 : h a = some (.inl (ty, n1, .inl g))) (hs : sp + n ≤ n0) (hd : dp + n ≤ n1) (hb : n0 < 2 ^ 31) (hb1 : n1 < 2 ^ 31) (hfit : ∀ i, i < n → fits ty (.int (f (sp + i))) = true)
    (hlk : Cond.methodLink (m_y M).cls idx arraycopyName ∈ m_w M) (hnat : Cond.native arraycopyName ∈ m_w M) (hstat : Cond.static arraycopyName ∈ m_w M) (hini : Cond.initialized "java/lang/System" ∈ m_w M) (hfr : 1 ≤ m_f M) (hlo : (rest.map fun v => v.category).sum + (nativeFrameWords "java/lang/System" "arraycopy" 5 + 11) ≤ m_l M) (hp : pc + 3 = nx)
    (k : xEx G M nx l rest (va_up h a (some (.inl (ty, n1, .inl (va_cpy f g sp dp n))))) z kc ks Q) : xEx G M pc l (.int (nI n) :: .int (nI dp) :: .ref a :: .int (nI sp) :: .ref a0 :: rest) h z kc ks Q := by
  subst hp
  have e1 : (nI sp).toNatClampNeg = sp := nI_clamp (by omega)
  have e2 : (nI dp).toNatClampNeg = dp := nI_clamp (by omega)
  have e3 : (nI n).toNatClampNeg = n := nI_clamp (by omega)
  refine x_copy ht hprim ha0 ha1 (nI_pos (by omega)) (nI_pos (by omega)) (nI_pos (by omega)) (by rw [e1, e3]; exact hs) (by rw [e2, e3]; exact hd) (by rw [e1, e3]; exact hfit) hlk hnat hstat hini hfr hlo (hO.d hl) ?_
  rw [e1, e2, e3]
  exact k
end XCopy
section XBytes5
variable {G : xG} {h : xH} {z g : Nat} {A : Nat → Nat} {B : Nat → Value} {I : Nat → Int32} {J : Nat → Int64}
set_option maxRecDepth 100000 in
set_option maxHeartbeats 4000000 in
/-- GuardForge.turnBytes -/
theorem c_X11_turnBytes (hW : xW G) (hcl : q_cl G = vwCl) (hty : q_ty G = g_ty) {w : Nat} {f f2 : Nat → Int32} (hne : A 0 ≠ g) (hg : h g = some (.inr (11, oX11 A B I J))) (hb : h (A 0) = some (.inl (.byte, 8192, .inl f))) (hw : h (A 1) = some (.inl (.byte, 8192, .inl f2))) (hw1 : I 3 = nI w) (hw2 : w ≤ 8192) (hfit : ∀ i, i < w → fits .byte (.int (f2 i)) = true) :
    xC G mX11_turnBytes [.ref g] h z 0 0 (fun v h' z' => z' = z ∧ v = none ∧ h' = va_up (va_up h (A 0) (some (.inl (.byte, 8192, .inl (va_cpy f2 f 0 0 w))))) g (some (.inr (11, oX11 A B (upd I 2 (nI w)) J)))) := by
  have hO : xO G mX11_turnBytes tbX11_turnBytes ptX11_turnBytes := ⟨tkX11_turnBytes, pkX11_turnBytes hcl⟩
  refine xC.of hW (by decide) rfl (Nat.le_of_ble_eq_true rfl) ?_
  refine s_aload_n (nx := 1) hO rfl rfl rfl ?_
  refine s_getf (nx := 4) hO rfl rfl hg rfl rfl ?_
  refine s_iconst (x := nI 0) (nx := 5) hO rfl (by decide) rfl ?_
  refine s_aload_n (nx := 6) hO rfl rfl rfl ?_
  refine s_getf (nx := 9) hO rfl rfl hg rfl rfl ?_
  refine s_iconst (x := nI 0) (nx := 10) hO rfl (by decide) rfl ?_
  refine s_aload_n (nx := 11) hO rfl rfl rfl ?_
  refine s_getf (nx := 14) hO rfl rfl hg rfl rfl ?_
  rw [hw1]
  refine s_copy (nx := 17) hO rfl x_tyB rfl hw hb (by omega) (by omega) (by decide) (by decide) (fun i hi => by rw [Nat.zero_add]; exact hfit i hi) (List.mem_cons_of_mem _ (ir23 _ (List.mem_of_getElem? (i := 21) rfl))) (List.mem_cons_of_mem _ (ir23 _ (List.mem_of_getElem? (i := 22) rfl))) (List.mem_cons_of_mem _ (ir23 _ (List.mem_of_getElem? (i := 23) rfl))) (List.mem_cons_of_mem _ (ir24 _ (List.mem_of_getElem? (i := 0) rfl))) (by decide) (by decide) rfl ?_
  refine s_aload_n (nx := 18) hO rfl rfl rfl ?_
  refine s_aload_n (nx := 19) hO rfl rfl rfl ?_
  refine s_getf (nx := 22) hO rfl rfl ((va_up_ne _ _ (Ne.symm hne)).trans hg) rfl rfl ?_
  rw [hw1]
  refine s_putf (nx := 25) hO rfl rfl ((va_up_ne _ _ (Ne.symm hne)).trans hg) (Nat.le_of_ble_eq_true rfl) (by rw [hty]; rfl) (by rw [hty]; rfl) pX11_2 rfl ?_
  exact s_vret hO rfl rfl ⟨rfl, rfl, rfl⟩
def y_cp (f2 f : Nat → Int32) (k : Nat) : Nat → Int32 := fun j => if j < k then f2 j else f j
theorem y_cpS (f2 f : Nat → Int32) (k : Nat) : upd (y_cp f2 f k) k (f2 k) = y_cp f2 f (k + 1) := by
  funext j
  unfold upd y_cp
  by_cases h1 : j = k
  · rw [if_pos h1, if_pos (by omega), h1]
  · rw [if_neg h1]
    by_cases h2 : j < k
    · rw [if_pos h2, if_pos (by omega)]
    · rw [if_neg h2, if_neg (by omega)]
set_option maxRecDepth 100000 in
set_option maxHeartbeats 4000000 in
theorem l_X12_turnBytes (hO : xO G mX12_turnBytes tbX12_turnBytes ptX12_turnBytes) {w : Nat} {f f2 : Nat → Int32} (hn1 : A 1 ≠ g) (hn3 : A 3 ≠ g) (hn : A 3 ≠ A 1) (hw : h (A 3) = some (.inl (.int, 8192, .inl f2))) (hI : I 2 = nI w) (hw2 : w ≤ 8192) : ∀ (r k : Nat), k + r = w →
    xEx G mX12_turnBytes 15 [(1, .int (nI k)), (0, .ref g)] [] (va_up (va_up h (A 1) (some (.inl (.int, 8192, .inl (y_cp f2 f k))))) g (some (.inr (12, oX12 A B I J)))) z 0 0 (fun v h' z' => z' = z ∧ v = none ∧ h' = va_up (va_up h (A 1) (some (.inl (.int, 8192, .inl (y_cp f2 f w))))) g (some (.inr (12, oX12 A B I J)))) := by
  intro r
  induction r with
  | zero =>
    intro k hk
    have e : k = w := by omega
    subst e
    refine s_iload_n (nx := 16) hO rfl rfl rfl ?_
    refine s_aload_n (nx := 17) hO rfl rfl rfl ?_
    refine s_getf (v := .int (I 2)) (nx := 20) hO rfl rfl (va_up_self _ _ _) rfl rfl ?_
    rw [hI]
    refine s_icmp_ge (nx := 23) hO rfl rfl (fun c20 => ?_) (fun c20 => ?_)
    · exact s_vret hO rfl rfl ⟨rfl, rfl, rfl⟩
    · exact absurd (nI_le (Nat.le_refl k) (by omega)) c20
  | succ r ih =>
    intro k hk
    refine s_iload_n (nx := 16) hO rfl rfl rfl ?_
    refine s_aload_n (nx := 17) hO rfl rfl rfl ?_
    refine s_getf (v := .int (I 2)) (nx := 20) hO rfl rfl (va_up_self _ _ _) rfl rfl ?_
    rw [hI]
    refine s_icmp_ge (nx := 23) hO rfl rfl (fun c20 => ?_) (fun c20 => ?_)
    · exact absurd c20 (nI_ge (by omega) (by omega))
    · refine s_aload_n (nx := 24) hO rfl rfl rfl ?_
      refine s_getf (nx := 27) hO rfl rfl (va_up_self _ _ _) rfl rfl ?_
      refine s_iload_n (nx := 28) hO rfl rfl rfl ?_
      refine s_aload_n (nx := 29) hO rfl rfl rfl ?_
      refine s_getf (nx := 32) hO rfl rfl (va_up_self _ _ _) rfl rfl ?_
      refine s_iload_n (nx := 33) hO rfl rfl rfl ?_
      refine s_iald (n := 8192) (f := f2) (nx := 34) hO rfl (by rw [va_up_ne _ _ hn3, va_up_ne _ _ hn]; exact hw) (vp_in_nI (by omega) (by decide)) rfl ?_
      refine s_iast (n := 8192) (f := y_cp f2 f k) (nx := 35) hO rfl (by rw [va_up_ne _ _ hn1, va_up_self]) (vp_in_nI (by omega) (by decide)) rfl ?_
      rw [x_upup _ _ _ (Ne.symm hn1), bx_uu, nI_clamp (show k < 2 ^ 31 by omega), y_cpS]
      refine s_iinc (y := nI (k + 1)) (nx := 38) (l' := [(1, _), (0, _)]) hO rfl (by decide) rfl (nI_succ k).symm rfl rfl ?_
      refine s_goto hO rfl ?_
      exact ih (k + 1) (by omega)
set_option maxRecDepth 100000 in
set_option maxHeartbeats 4000000 in
/-- GuardForgeModel.turnBytes -/
theorem c_X12_turnBytes (hW : xW G) (hcl : q_cl G = vwCl) (hty : q_ty G = g_ty) {w : Nat} {f f2 : Nat → Int32} (hn1 : A 1 ≠ g) (hn3 : A 3 ≠ g) (hn : A 3 ≠ A 1) (hg : h g = some (.inr (12, oX12 A B I J))) (hb : h (A 1) = some (.inl (.int, 8192, .inl f))) (hw : h (A 3) = some (.inl (.int, 8192, .inl f2))) (hw1 : I 5 = nI w) (hw2 : w ≤ 8192) :
    xC G mX12_turnBytes [.ref g] h z 0 0 (fun v h' z' => z' = z ∧ v = none ∧ h' = va_up (va_up h (A 1) (some (.inl (.int, 8192, .inl (y_cp f2 f w))))) g (some (.inr (12, oX12 A B (upd (upd I 0 0) 2 (nI w)) J)))) := by
  have hO : xO G mX12_turnBytes tbX12_turnBytes ptX12_turnBytes := ⟨tkX12_turnBytes, pkX12_turnBytes hcl⟩
  refine xC.of hW (by decide) rfl (Nat.le_of_ble_eq_true rfl) ?_
  refine s_aload_n (nx := 1) hO rfl rfl rfl ?_
  refine s_iconst (x := 0) (nx := 2) hO rfl (by decide) rfl ?_
  refine s_putf (nx := 5) hO rfl rfl hg (Nat.le_of_ble_eq_true rfl) (by rw [hty]; rfl) (by rw [hty]; rfl) pX12_0 rfl ?_
  refine s_aload_n (nx := 6) hO rfl rfl rfl ?_
  refine s_aload_n (nx := 7) hO rfl rfl rfl ?_
  refine s_getf (v := .int (I 5)) (nx := 10) hO rfl rfl (va_up_self _ _ _) rfl rfl ?_
  rw [hw1]
  refine s_putf (nx := 13) hO rfl rfl (va_up_self _ _ _) (Nat.le_of_ble_eq_true rfl) (by rw [hty]; rfl) (by rw [hty]; rfl) pX12_2 rfl ?_
  rw [bx_uu]
  refine s_iconst (x := nI 0) (nx := 14) hO rfl (by decide) rfl ?_
  refine s_istore_n (nx := 15) (l' := [(1, _), (0, _)]) hO rfl (by decide) rfl rfl ?_
  refine xEx.at (h := va_up (va_up h (A 1) (some (.inl (.int, 8192, .inl (y_cp f2 f 0))))) g (some (.inr (12, oX12 A B (upd (upd I 0 0) 2 (nI w)) J)))) (by
    rw [show y_cp f2 f 0 = f from by funext j; simp [y_cp], x_same hb]) ?_
  exact l_X12_turnBytes hO (I := upd (upd I 0 0) 2 (nI w)) (w := w) (f := f) hn1 hn3 hn hw rfl hw2 w 0 (by omega)
set_option maxRecDepth 100000 in
set_option maxHeartbeats 4000000 in
/-- GuardForgeModel.dropAnswers -/
theorem c_X12_dropAnswers (hW : xW G) (hcl : q_cl G = vwCl) (hty : q_ty G = g_ty) (hg : h g = some (.inr (12, oX12 A B I J))) :
    xC G mX12_dropAnswers [.ref g] h z 0 0 (fun v h' z' => z' = z ∧ v = none ∧ h' = va_up h g (some (.inr (12, oX12 A B (upd (upd I 0 0) 88 0) J)))) := by
  have hO : xO G mX12_dropAnswers tbX12_dropAnswers ptX12_dropAnswers := ⟨tkX12_dropAnswers, pkX12_dropAnswers hcl⟩
  refine xC.of hW (by decide) rfl (Nat.le_of_ble_eq_true rfl) ?_
  refine s_aload_n (nx := 1) hO rfl rfl rfl ?_
  refine s_iconst (x := 0) (nx := 2) hO rfl (by decide) rfl ?_
  refine s_putf (nx := 5) hO rfl rfl hg (Nat.le_of_ble_eq_true rfl) (by rw [hty]; rfl) (by rw [hty]; rfl) pX12_0 rfl ?_
  refine s_aload_n (nx := 6) hO rfl rfl rfl ?_
  refine s_iconst (x := 0) (nx := 7) hO rfl (by decide) rfl ?_
  refine s_putf (nx := 10) hO rfl rfl (va_up_self _ _ _) (Nat.le_of_ble_eq_true rfl) (by rw [hty]; rfl) (by rw [hty]; rfl) pX12_88 rfl ?_
  rw [bx_uu]
  exact s_vret hO rfl rfl ⟨rfl, rfl, rfl⟩
set_option maxRecDepth 100000 in
set_option maxHeartbeats 4000000 in
/-- GuardForge.dropAnswers: q is the machine -/
theorem c_X11_dropAnswers (hW : xW G) (hcl : q_cl G = vwCl) (hty : q_ty G = g_ty) {A2 : Nat → Nat} {B2 : Nat → Value} {I2 : Nat → Int32} {J2 : Nat → Int64} (hg : h g = some (.inr (11, oX11 A B I J))) (hq : h (A 18) = some (.inr (2, oX2 A2 B2 I2 J2))) :
    xC G mX11_dropAnswers [.ref g] h z 0 0 (fun v h' z' => z' = z ∧ v = none ∧ h' = va_up h (A 18) (some (.inr (2, oX2 A2 B2 (upd I2 2 0) J2)))) := by
  have hO : xO G mX11_dropAnswers tbX11_dropAnswers ptX11_dropAnswers := ⟨tkX11_dropAnswers, pkX11_dropAnswers hcl⟩
  refine xC.of hW (by decide) rfl (Nat.le_of_ble_eq_true rfl) ?_
  refine s_aload_n (nx := 1) hO rfl rfl rfl ?_
  refine s_getf (nx := 4) hO rfl rfl hg rfl rfl ?_
  refine s_iconst (x := 0) (nx := 5) hO rfl (by decide) rfl ?_
  refine s_putf (nx := 8) hO rfl rfl hq (Nat.le_of_ble_eq_true rfl) (by rw [hty]; rfl) (by rw [hty]; rfl) pX2_2 rfl ?_
  exact s_vret hO rfl rfl ⟨rfl, rfl, rfl⟩
set_option maxRecDepth 100000 in
set_option maxHeartbeats 4000000 in
/-- Machine.takeAnswer -/
theorem c_X2_takeAnswer (hW : xW G) (hcl : q_cl G = vwCl) (hty : q_ty G = g_ty) {n : Nat} {f : Nat → Int32} {v : Int32} (hne : A 3 ≠ g) (hg : h g = some (.inr (2, oX2 A B I J))) (hf : h (A 3) = some (.inl (.int, 256, .inl f))) (hn : I 2 = nI n) (hn2 : n ≤ 256) :
    xC G mX2_takeAnswer [.ref g, .int v] h z 0 0 (fun w h' z' => z' = z ∧ if n = 256 then w = some (.int (-1)) ∧ h' = h else w = some (.int (nI (n + 1))) ∧ h' = va_up (va_up h (A 3) (some (.inl (.int, 256, .inl (upd f n v))))) g (some (.inr (2, oX2 A B (upd I 2 (nI (n + 1))) J)))) := by
  have hO : xO G mX2_takeAnswer tbX2_takeAnswer ptX2_takeAnswer := ⟨tkX2_takeAnswer, pkX2_takeAnswer hcl⟩
  refine xC.of hW (by decide) rfl (Nat.le_of_ble_eq_true rfl) ?_
  refine s_aload_n (nx := 1) hO rfl rfl rfl ?_
  refine s_getf (nx := 4) hO rfl rfl hg rfl rfl ?_
  rw [hn]
  refine s_sipush (x := nI 256) (nx := 7) hO rfl (by decide) rfl ?_
  refine s_icmp_ne (nx := 10) hO rfl rfl (fun c7 => ?_) (fun c7 => ?_)
  · have hlt : n < 256 := by
      refine Nat.lt_of_le_of_ne hn2 (fun e => c7 (by rw [e]))
    simp only [if_neg (show ¬ n = 256 by omega)]
    refine s_aload_n (nx := 13) hO rfl rfl rfl ?_
    refine s_getf (nx := 16) hO rfl rfl hg rfl rfl ?_
    refine s_aload_n (nx := 17) hO rfl rfl rfl ?_
    refine s_getf (nx := 20) hO rfl rfl hg rfl rfl ?_
    rw [hn]
    refine s_iload_n (nx := 21) hO rfl rfl rfl ?_
    refine s_iast (nx := 22) hO rfl hf (vp_in_nI hlt (by decide)) rfl ?_
    rw [nI_clamp (show n < 2 ^ 31 by omega)]
    refine s_aload_n (nx := 23) hO rfl rfl rfl ?_
    refine s_dup (nx := 24) hO rfl rfl rfl ?_
    refine s_getf (nx := 27) hO rfl rfl ((va_up_ne _ _ (Ne.symm hne)).trans hg) rfl rfl ?_
    rw [hn]
    refine s_iconst (x := 1) (nx := 28) hO rfl (by decide) rfl ?_
    refine s_iadd (nx := 29) hO rfl rfl ?_
    rw [nI_1]
    refine s_putf (nx := 32) hO rfl rfl ((va_up_ne _ _ (Ne.symm hne)).trans hg) (Nat.le_of_ble_eq_true rfl) (by rw [hty]; rfl) (by rw [hty]; rfl) pX2_2 rfl ?_
    refine s_aload_n (nx := 33) hO rfl rfl rfl ?_
    refine s_getf (v := .int (nI (n + 1))) (nx := 36) hO rfl rfl (va_up_self _ _ _) rfl rfl ?_
    exact s_iret hO rfl rfl rfl ⟨rfl, rfl, rfl⟩
  · have e : n = 256 := (nI_eq (by omega) (by decide)).mp c7
    simp only [if_pos e]
    refine s_iconst (x := -1) (nx := 11) hO rfl (by decide) rfl ?_
    exact s_iret hO rfl rfl rfl ⟨rfl, rfl, rfl⟩
set_option maxRecDepth 100000 in
set_option maxHeartbeats 4000000 in
/-- GuardForge.addAnswer -/
theorem c_X11_addAnswer (hW : xW G) (hcl : q_cl G = vwCl) (hty : q_ty G = g_ty) {A2 : Nat → Nat} {B2 : Nat → Value} {I2 : Nat → Int32} {J2 : Nat → Int64} {n : Nat} {f : Nat → Int32} {v : Int32} (hg : h g = some (.inr (11, oX11 A B I J))) (hq : h (A 18) = some (.inr (2, oX2 A2 B2 I2 J2))) (hne : A2 3 ≠ A 18) (hf : h (A2 3) = some (.inl (.int, 256, .inl f))) (hn : I2 2 = nI n) (hn2 : n ≤ 256) :
    xC G mX11_addAnswer [.ref g, .int v] h z 0 0 (fun w h' z' => z' = z ∧ if n = 256 then w = some (.int (-1)) ∧ h' = h else w = some (.int (nI (n + 1))) ∧ h' = va_up (va_up h (A2 3) (some (.inl (.int, 256, .inl (upd f n v))))) (A 18) (some (.inr (2, oX2 A2 B2 (upd I2 2 (nI (n + 1))) J2)))) := by
  have hO : xO G mX11_addAnswer tbX11_addAnswer ptX11_addAnswer := ⟨tkX11_addAnswer, pkX11_addAnswer hcl⟩
  refine xC.of hW (by decide) rfl (Nat.le_of_ble_eq_true rfl) ?_
  refine s_aload_n (nx := 1) hO rfl rfl rfl ?_
  refine s_getf (nx := 4) hO rfl rfl hg rfl rfl ?_
  refine s_iload_n (nx := 5) hO rfl rfl rfl ?_
  refine s_callV [.int v] (ci := 2) (F := TX2) (N := 18) (nx := 8) hO rfl kX11_addAnswer_191 (by rw [hcl]; rfl) hq (c_X2_takeAnswer hW hcl hty hne hq hf hn hn2) rfl rfl (by decide) (by decide) (by decide) rfl (fun w h' z' q => ?_)
  obtain ⟨rfl, q⟩ := q
  by_cases e : n = 256
  · rw [if_pos e] at q
    obtain ⟨rfl, rfl⟩ := q
    exact s_iret hO rfl rfl rfl ⟨rfl, by rw [if_pos e]; exact ⟨rfl, rfl⟩⟩
  · rw [if_neg e] at q
    obtain ⟨rfl, rfl⟩ := q
    exact s_iret hO rfl rfl rfl ⟨rfl, by rw [if_neg e]; exact ⟨rfl, rfl⟩⟩
end XBytes5

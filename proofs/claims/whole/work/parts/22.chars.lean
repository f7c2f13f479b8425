/-! ===== bytes of a text: letters, digits; where a run ends; the reference's wrong and letterAt ===== -/
def y_rg (a b : Nat) (x : Int32) : Prop := nI a ≤ x ∧ x ≤ nI b
section XChars
variable {G : xG} {h : xH} {z g : Nat} {A : Nat → Nat} {B : Nat → Value} {I : Nat → Int32} {J : Nat → Int64}

set_option maxRecDepth 100000 in
set_option maxHeartbeats 4000000 in
theorem c_X12_isDigit (hW : xW G) (hcl : q_cl G = vwCl) {x : Int32} : xC G mX12_isDigit [.int x] h z 0 0 (fun w h' z' => z' = z ∧ h' = h ∧ ((y_rg 48 57 x ∧ w = some (.int 1)) ∨ (¬ y_rg 48 57 x ∧ w = some (.int 0)))) := by
  have hO : xO G mX12_isDigit tbX12_isDigit ptX12_isDigit := ⟨tkX12_isDigit, pkX12_isDigit hcl⟩
  refine xC.of hW (by decide) rfl (Nat.le_of_ble_eq_true rfl) ?_
  refine s_iload_n (nx := 1) hO rfl rfl rfl ?_
  refine s_bipush (x := nI 48) (nx := 3) hO rfl (by decide) rfl ?_
  refine s_icmp_lt (nx := 6) hO rfl rfl (fun c3 => ?_) (fun c3 => ?_)
  · refine s_iconst (x := 0) (nx := 17) hO rfl (by decide) rfl ?_
    exact s_iret hO rfl rfl rfl ⟨rfl, rfl, Or.inr ⟨fun e => absurd e.1 (Int32.not_le.mpr c3), rfl⟩⟩
  · refine s_iload_n (nx := 7) hO rfl rfl rfl ?_
    refine s_bipush (x := nI 57) (nx := 9) hO rfl (by decide) rfl ?_
    refine s_icmp_gt (nx := 12) hO rfl rfl (fun c9 => ?_) (fun c9 => ?_)
    · refine s_iconst (x := 0) (nx := 17) hO rfl (by decide) rfl ?_
      exact s_iret hO rfl rfl rfl ⟨rfl, rfl, Or.inr ⟨fun e => absurd e.2 (Int32.not_le.mpr c9), rfl⟩⟩
    · refine s_iconst (x := 1) (nx := 13) hO rfl (by decide) rfl ?_
      refine s_goto hO rfl ?_
      exact s_iret hO rfl rfl rfl ⟨rfl, rfl, Or.inl ⟨⟨Int32.not_lt.mp c3, Int32.not_lt.mp c9⟩, rfl⟩⟩
set_option maxRecDepth 100000 in
set_option maxHeartbeats 4000000 in
theorem c_X12_isSmall (hW : xW G) (hcl : q_cl G = vwCl) {x : Int32} : xC G mX12_isSmall [.int x] h z 0 0 (fun w h' z' => z' = z ∧ h' = h ∧ ((y_rg 97 122 x ∧ w = some (.int 1)) ∨ (¬ y_rg 97 122 x ∧ w = some (.int 0)))) := by
  have hO : xO G mX12_isSmall tbX12_isSmall ptX12_isSmall := ⟨tkX12_isSmall, pkX12_isSmall hcl⟩
  refine xC.of hW (by decide) rfl (Nat.le_of_ble_eq_true rfl) ?_
  refine s_iload_n (nx := 1) hO rfl rfl rfl ?_
  refine s_bipush (x := nI 97) (nx := 3) hO rfl (by decide) rfl ?_
  refine s_icmp_lt (nx := 6) hO rfl rfl (fun c3 => ?_) (fun c3 => ?_)
  · refine s_iconst (x := 0) (nx := 17) hO rfl (by decide) rfl ?_
    exact s_iret hO rfl rfl rfl ⟨rfl, rfl, Or.inr ⟨fun e => absurd e.1 (Int32.not_le.mpr c3), rfl⟩⟩
  · refine s_iload_n (nx := 7) hO rfl rfl rfl ?_
    refine s_bipush (x := nI 122) (nx := 9) hO rfl (by decide) rfl ?_
    refine s_icmp_gt (nx := 12) hO rfl rfl (fun c9 => ?_) (fun c9 => ?_)
    · refine s_iconst (x := 0) (nx := 17) hO rfl (by decide) rfl ?_
      exact s_iret hO rfl rfl rfl ⟨rfl, rfl, Or.inr ⟨fun e => absurd e.2 (Int32.not_le.mpr c9), rfl⟩⟩
    · refine s_iconst (x := 1) (nx := 13) hO rfl (by decide) rfl ?_
      refine s_goto hO rfl ?_
      exact s_iret hO rfl rfl rfl ⟨rfl, rfl, Or.inl ⟨⟨Int32.not_lt.mp c3, Int32.not_lt.mp c9⟩, rfl⟩⟩
set_option maxRecDepth 100000 in
set_option maxHeartbeats 4000000 in
theorem c_X8_isLetter (hW : xW G) (hcl : q_cl G = vwCl) {x : Int32} : xC G mX8_isLetter [.int x] h z 0 0 (fun w h' z' => z' = z ∧ h' = h ∧ ((y_rg 97 122 x ∧ w = some (.int 1)) ∨ (¬ y_rg 97 122 x ∧ w = some (.int 0)))) := by
  have hO : xO G mX8_isLetter tbX8_isLetter ptX8_isLetter := ⟨tkX8_isLetter, pkX8_isLetter hcl⟩
  refine xC.of hW (by decide) rfl (Nat.le_of_ble_eq_true rfl) ?_
  refine s_iload_n (nx := 1) hO rfl rfl rfl ?_
  refine s_bipush (x := nI 97) (nx := 3) hO rfl (by decide) rfl ?_
  refine s_icmp_lt (nx := 6) hO rfl rfl (fun c3 => ?_) (fun c3 => ?_)
  · refine s_iconst (x := 0) (nx := 17) hO rfl (by decide) rfl ?_
    exact s_iret hO rfl rfl rfl ⟨rfl, rfl, Or.inr ⟨fun e => absurd e.1 (Int32.not_le.mpr c3), rfl⟩⟩
  · refine s_iload_n (nx := 7) hO rfl rfl rfl ?_
    refine s_bipush (x := nI 122) (nx := 9) hO rfl (by decide) rfl ?_
    refine s_icmp_gt (nx := 12) hO rfl rfl (fun c9 => ?_) (fun c9 => ?_)
    · refine s_iconst (x := 0) (nx := 17) hO rfl (by decide) rfl ?_
      exact s_iret hO rfl rfl rfl ⟨rfl, rfl, Or.inr ⟨fun e => absurd e.2 (Int32.not_le.mpr c9), rfl⟩⟩
    · refine s_iconst (x := 1) (nx := 13) hO rfl (by decide) rfl ?_
      refine s_goto hO rfl ?_
      exact s_iret hO rfl rfl rfl ⟨rfl, rfl, Or.inl ⟨⟨Int32.not_lt.mp c3, Int32.not_lt.mp c9⟩, rfl⟩⟩
set_option maxRecDepth 100000 in
set_option maxHeartbeats 4000000 in
theorem c_X8_isDigit (hW : xW G) (hcl : q_cl G = vwCl) {x : Int32} : xC G mX8_isDigit [.int x] h z 0 0 (fun w h' z' => z' = z ∧ h' = h ∧ ((y_rg 48 57 x ∧ w = some (.int 1)) ∨ (¬ y_rg 48 57 x ∧ w = some (.int 0)))) := by
  have hO : xO G mX8_isDigit tbX8_isDigit ptX8_isDigit := ⟨tkX8_isDigit, pkX8_isDigit hcl⟩
  refine xC.of hW (by decide) rfl (Nat.le_of_ble_eq_true rfl) ?_
  refine s_iload_n (nx := 1) hO rfl rfl rfl ?_
  refine s_bipush (x := nI 48) (nx := 3) hO rfl (by decide) rfl ?_
  refine s_icmp_lt (nx := 6) hO rfl rfl (fun c3 => ?_) (fun c3 => ?_)
  · refine s_iconst (x := 0) (nx := 17) hO rfl (by decide) rfl ?_
    exact s_iret hO rfl rfl rfl ⟨rfl, rfl, Or.inr ⟨fun e => absurd e.1 (Int32.not_le.mpr c3), rfl⟩⟩
  · refine s_iload_n (nx := 7) hO rfl rfl rfl ?_
    refine s_bipush (x := nI 57) (nx := 9) hO rfl (by decide) rfl ?_
    refine s_icmp_gt (nx := 12) hO rfl rfl (fun c9 => ?_) (fun c9 => ?_)
    · refine s_iconst (x := 0) (nx := 17) hO rfl (by decide) rfl ?_
      exact s_iret hO rfl rfl rfl ⟨rfl, rfl, Or.inr ⟨fun e => absurd e.2 (Int32.not_le.mpr c9), rfl⟩⟩
    · refine s_iconst (x := 1) (nx := 13) hO rfl (by decide) rfl ?_
      refine s_goto hO rfl ?_
      exact s_iret hO rfl rfl rfl ⟨rfl, rfl, Or.inl ⟨⟨Int32.not_lt.mp c3, Int32.not_lt.mp c9⟩, rfl⟩⟩
/-- letters, digits and - -/
def y_wd (x : Int32) : Prop := y_rg 48 57 x ∨ y_rg 97 122 x ∨ x = nI 45
set_option maxRecDepth 100000 in
set_option maxHeartbeats 4000000 in
theorem c_X12_isOfWord (hW : xW G) (hcl : q_cl G = vwCl) {x : Int32} : xC G mX12_isOfWord [.int x] h z 0 0 (fun w h' z' => z' = z ∧ h' = h ∧ ((y_wd x ∧ w = some (.int 1)) ∨ (¬ y_wd x ∧ w = some (.int 0)))) := by
  have hO : xO G mX12_isOfWord tbX12_isOfWord ptX12_isOfWord := ⟨tkX12_isOfWord, pkX12_isOfWord hcl⟩
  refine xC.of hW (by decide) rfl (Nat.le_of_ble_eq_true rfl) ?_
  refine s_iload_n (nx := 1) hO rfl rfl rfl ?_
  refine s_callS [.int x] (nx := 4) hO rfl kX12_isOfWord_280 (c_X12_isDigit hW hcl) rfl rfl (Nat.le_of_ble_eq_true rfl) (by decide) (by decide) rfl (fun w h' z' q9 => ?_)
  obtain ⟨rfl, rfl, ⟨e1, rfl⟩ | ⟨e1, rfl⟩⟩ := q9
  · refine s_if_ne (nx := 7) hO rfl rfl (fun c => ?_) (fun c => absurd c (by decide))
    refine s_iconst (x := 1) (nx := 21) hO rfl (by decide) rfl ?_
    refine s_goto hO rfl ?_
    exact s_iret hO rfl rfl rfl ⟨rfl, rfl, Or.inl ⟨Or.inl e1, rfl⟩⟩
  refine s_if_ne (nx := 7) hO rfl rfl (fun c => absurd rfl c) (fun c => ?_)
  refine s_iload_n (nx := 8) hO rfl rfl rfl ?_
  refine s_callS [.int x] (nx := 11) hO rfl kX12_isOfWord_284 (c_X12_isSmall hW hcl) rfl rfl (Nat.le_of_ble_eq_true rfl) (by decide) (by decide) rfl (fun w h' z' q9 => ?_)
  obtain ⟨rfl, rfl, ⟨e2, rfl⟩ | ⟨e2, rfl⟩⟩ := q9
  · refine s_if_ne (nx := 14) hO rfl rfl (fun c => ?_) (fun c => absurd c (by decide))
    refine s_iconst (x := 1) (nx := 21) hO rfl (by decide) rfl ?_
    refine s_goto hO rfl ?_
    exact s_iret hO rfl rfl rfl ⟨rfl, rfl, Or.inl ⟨Or.inr (Or.inl e2), rfl⟩⟩
  refine s_if_ne (nx := 14) hO rfl rfl (fun c => absurd rfl c) (fun c => ?_)
  refine s_iload_n (nx := 15) hO rfl rfl rfl ?_
  refine s_bipush (x := nI 45) (nx := 17) hO rfl (by decide) rfl ?_
  refine s_icmp_ne (nx := 20) hO rfl rfl (fun c17 => ?_) (fun c17 => ?_)
  · refine s_iconst (x := 0) (nx := 25) hO rfl (by decide) rfl ?_
    exact s_iret hO rfl rfl rfl ⟨rfl, rfl, Or.inr ⟨fun e => e.elim e1 (fun e => e.elim e2 c17), rfl⟩⟩
  · refine s_iconst (x := 1) (nx := 21) hO rfl (by decide) rfl ?_
    refine s_goto hO rfl ?_
    exact s_iret hO rfl rfl rfl ⟨rfl, rfl, Or.inl ⟨Or.inr (Or.inr c17), rfl⟩⟩
/-- a fault is said, if none was -/
def y_wr (I : Nat → Int32) (c p : Int32) : Nat → Int32 := if I 15 = 0 then upd (upd I 15 c) 16 p else I
set_option maxRecDepth 100000 in
set_option maxHeartbeats 4000000 in
/-- GuardForgeModel.wrong -/
theorem c_X12_wrong (hW : xW G) (hcl : q_cl G = vwCl) (hty : q_ty G = g_ty) {c p : Int32} (hg : h g = some (.inr (12, oX12 A B I J))) : xC G mX12_wrong [.ref g, .int c, .int p] h z 0 0 (fun w h' z' => z' = z ∧ w = none ∧ h' = va_up h g (some (.inr (12, oX12 A B (y_wr I c p) J)))) := by
  have hO : xO G mX12_wrong tbX12_wrong ptX12_wrong := ⟨tkX12_wrong, pkX12_wrong hcl⟩
  refine xC.of hW (by decide) rfl (Nat.le_of_ble_eq_true rfl) ?_
  refine s_aload_n (nx := 1) hO rfl rfl rfl ?_
  refine s_getf (nx := 4) hO rfl rfl hg rfl rfl ?_
  refine s_if_ne (nx := 7) hO rfl rfl (fun c4 => ?_) (fun c4 => ?_)
  · refine s_vret hO rfl rfl ⟨rfl, rfl, ?_⟩
    unfold y_wr
    rw [if_neg c4, x_same hg]
  · refine s_aload_n (nx := 8) hO rfl rfl rfl ?_
    refine s_iload_n (nx := 9) hO rfl rfl rfl ?_
    refine s_putf (nx := 12) hO rfl rfl hg (Nat.le_of_ble_eq_true rfl) (by rw [hty]; rfl) (by rw [hty]; rfl) pX12_15 rfl ?_
    refine s_aload_n (nx := 13) hO rfl rfl rfl ?_
    refine s_iload_n (nx := 14) hO rfl rfl rfl ?_
    refine s_putf (nx := 17) hO rfl rfl (va_up_self _ _ _) (Nat.le_of_ble_eq_true rfl) (by rw [hty]; rfl) (by rw [hty]; rfl) pX12_16 rfl ?_
    rw [bx_uu]
    refine s_vret hO rfl rfl ⟨rfl, rfl, ?_⟩
    unfold y_wr
    rw [if_pos c4]
/-- byte k of a text of n bytes, 0 behind it -/
def y_tx (f : Nat → Int32) (n k : Nat) : Int32 := if k < n then f k else 0
set_option maxRecDepth 100000 in
set_option maxHeartbeats 4000000 in
/-- GuardForgeModel.letterAt -/
theorem c_X12_letterAt (hW : xW G) (hcl : q_cl G = vwCl) {n k : Nat} {f : Nat → Int32} (hg : h g = some (.inr (12, oX12 A B I J))) (hf : h (A 8) = some (.inl (.int, 8192, .inl f))) (hn : I 9 = nI n) (hn2 : n ≤ 8192) (hk : k < 2 ^ 31) : xC G mX12_letterAt [.ref g, .int (nI k)] h z 0 0 (fun w h' z' => z' = z ∧ h' = h ∧ w = some (.int (y_tx f n k))) := by
  have hO : xO G mX12_letterAt tbX12_letterAt ptX12_letterAt := ⟨tkX12_letterAt, pkX12_letterAt hcl⟩
  refine xC.of hW (by decide) rfl (Nat.le_of_ble_eq_true rfl) ?_
  refine s_iload_n (nx := 1) hO rfl rfl rfl ?_
  refine s_aload_n (nx := 2) hO rfl rfl rfl ?_
  refine s_getf (nx := 5) hO rfl rfl hg rfl rfl ?_
  rw [hn]
  refine s_icmp_ge (nx := 8) hO rfl rfl (fun c5 => ?_) (fun c5 => ?_)
  · have h1 : n ≤ k := (nI_leI (by omega) hk).mp c5
    refine s_iconst (x := 0) (nx := 18) hO rfl (by decide) rfl ?_
    exact s_iret hO rfl rfl rfl ⟨rfl, rfl, by unfold y_tx; rw [if_neg (by omega)]⟩
  · have h1 : k < n := Nat.lt_of_not_le (fun q => c5 ((nI_leI (by omega) hk).mpr q))
    refine s_aload_n (nx := 9) hO rfl rfl rfl ?_
    refine s_getf (nx := 12) hO rfl rfl hg rfl rfl ?_
    refine s_iload_n (nx := 13) hO rfl rfl rfl ?_
    refine s_iald (nx := 14) hO rfl hf (vp_in_nI (by omega) (by decide)) rfl ?_
    rw [nI_clamp hk]
    refine s_goto hO rfl ?_
    exact s_iret hO rfl rfl rfl ⟨rfl, rfl, by unfold y_tx; rw [if_pos h1]⟩
end XChars

/-! ===== constructors of the rest ===== -/
theorem x_adds_set {h : xH} {z i : Nat} {L : List xE} {e : xE} (hi : i < L.length) : va_up (x_adds h z L) (z + i) (some e) = x_adds h z (L.set i e) := by
  funext q
  by_cases hq : q = z + i
  · subst hq
    rw [va_up_self, x_adds_at (i := i) (e := e) (by rw [List.getElem?_set_self hi])]
  · rw [va_up_ne _ _ hq]
    unfold x_adds
    by_cases h1 : z ≤ q
    · rw [if_pos h1, if_pos h1, List.getElem?_set_ne (by omega)]
    · rw [if_neg h1, if_neg h1]
theorem g_upA {h : xH} {z a i : Nat} {L : List xE} {e : xE} {w : Option xE} (ha : a < z) (hi : i < L.length) : va_up (va_up (x_adds h z L) a w) (z + i) (some e) = va_up (x_adds h z (L.set i e)) a w := by
  rw [x_upup _ _ _ (show a ≠ z + i by omega), x_adds_set hi]
theorem g_rdA {h : xH} {z a i : Nat} {L : List xE} {e : xE} {w : Option xE} (ha : a < z) (hi : L[i]? = some e) : va_up (x_adds h z L) a w (z + i) = some e := by
  rw [va_up_ne _ _ (show z + i ≠ a by omega), x_adds_at hi]
theorem g_nest {h : xH} {z0 z a : Nat} {L M : List xE} {w : Option xE} {e0 e1 : xE} (ha : a < z0) (hz : z = z0 + L.length) : va_up (x_adds (va_up (va_up (x_adds h z0 L) a w) z (some e0)) (z + 1) M) z (some e1) = va_up (x_adds h z0 (L ++ e1 :: M)) a w := by
  subst hz
  funext q
  by_cases h1 : q = z0 + L.length
  · subst h1
    rw [va_up_self, va_up_ne _ _ (show z0 + L.length ≠ a by omega), x_adds_at (i := L.length) (e := e1) (by simp)]
  · rw [va_up_ne _ _ h1]
    by_cases h2 : q = a
    · subst h2
      rw [va_up_self, x_adds_lo (by omega), va_up_ne _ _ h1, va_up_self]
    · rw [va_up_ne _ _ h2]
      unfold x_adds
      by_cases h3 : z0 ≤ q
      · rw [if_pos h3]
        by_cases h4 : z0 + L.length + 1 ≤ q
        · rw [if_pos h4, va_up_ne _ _ h1, va_up_ne _ _ h2, if_pos h3, List.getElem?_append_right (by omega), show q - z0 - L.length = (q - (z0 + L.length + 1)) + 1 by omega, List.getElem?_cons_succ, List.getElem?_eq_none (l := L) (by omega)]
        · rw [if_neg h4, va_up_ne _ _ h1, va_up_ne _ _ h2, if_pos h3, List.getElem?_append_left (by omega)]
      · rw [if_neg h3, if_neg (by omega), va_up_ne _ _ h1, va_up_ne _ _ h2, if_neg h3]
theorem g_nestK {G : xG} {M : xM} {Q : xQ} {pc kc ks z1 : Nat} {l : List (Nat × Value)} {st : List Value} {h : xH} {z0 z a : Nat} {L N : List xE} {w : Option xE} {e0 e1 : xE} (ha : a < z0) (hz : z = z0 + L.length) (k : xEx G M pc l st (va_up (x_adds h z0 (L ++ e1 :: N)) a w) z1 kc ks Q) : xEx G M pc l st (va_up (x_adds (va_up (va_up (x_adds h z0 L) a w) z (some e0)) (z + 1) N) z (some e1)) z1 kc ks Q := by
  rw [g_nest ha hz]
  exact k
section XMade2
variable {G : xG} {M : xM} {P : xP} {T : xT} {Q : xQ} {pc nx : Nat} {ts : List Nat} {l : List (Nat × Value)} {rest : List Value} {X : xH} {z a kc ks j ci i : Nat} {fs : List Value}
theorem g_put {v : Value} (hO : xO G M T P) (hl : T.lookup pc = some (.putfield j, 3, ts)) (hj : P.2.2.2.2.2 j = some (ci, i)) (hi : i < fs.length) (hnr : narrow (q_ty G ci i) v = v) (hft : fits (q_ty G ci i) v = true) (hp : pc + 3 = nx)
    (k : xEx G M nx l rest (va_up X a (some (.inr (ci, fs.set i v)))) z kc ks Q) : xEx G M pc l (v :: .ref a :: rest) (va_up X a (some (.inr (ci, fs)))) z kc ks Q := by
  refine s_putf (nx := nx) hO hl hj (va_up_self _ _ _) hi hnr hft rfl hp ?_
  rw [bx_uu]
  exact k
end XMade2
def vL (i : Nat) : Int32 := if i % 9 < i / 9 % 4 then Int32.ofInt (-2147483648) else 0
def fL1 (n : Nat) (i : Nat) : Int32 := if i < n then vL i else 0
def fL2 (n : Nat) (i : Nat) : Int32 := if i ≤ n then nI i else 0
theorem fL1_s {n : Nat} : upd (fL1 n) n (vL n) = fL1 (n + 1) := by
  funext i
  unfold upd fL1
  by_cases c : i = n
  · subst c; rw [if_pos rfl, if_pos (by omega)]
  · rw [if_neg c]
    by_cases c2 : i < n
    · rw [if_pos c2, if_pos (by omega)]
    · rw [if_neg c2, if_neg (by omega)]
theorem fL2_s {n : Nat} : upd (fL2 n) (n + 1) (nI (n + 1)) = fL2 (n + 1) := by
  funext i
  unfold upd fL2
  by_cases c : i = n + 1
  · subst c; rw [if_pos rfl, if_pos (by omega)]
  · rw [if_neg c]
    by_cases c2 : i ≤ n
    · rw [if_pos c2, if_pos (by omega)]
    · rw [if_neg c2, if_neg (by omega)]
theorem fL1_0 : (fun _ => 0 : Nat → Int32) = fL1 0 := by funext i; unfold fL1; rw [if_neg (by omega)]
theorem fL2_0 : (fun _ => 0 : Nat → Int32) = fL2 0 := by
  funext i; unfold fL2
  by_cases c : i ≤ 0
  · rw [if_pos c, show i = 0 by omega]; rfl
  · rw [if_neg c]
def vX1 (h : xH) (z a : Nat) (f1 f2 f3 : Nat → Int32) : xH := va_up (x_adds h z [.inl (.int, 1168, .inl f1), .inl (.int, 145, .inl f2), .inl (.int, 17, .inl f3)]) a (some (.inr (1, [.ref z, .ref (z + 1), .ref (z + 2)])))
section LX1
variable {h : xH} {z a : Nat} {f1 f2 f3 : Nat → Int32}
theorem vX1_o : vX1 h z a f1 f2 f3 a = some (.inr (1, [.ref z, .ref (z + 1), .ref (z + 2)])) := va_up_self _ _ _
theorem vX1_1 (ha : a < z) : vX1 h z a f1 f2 f3 z = some (.inl (.int, 1168, .inl f1)) := g_rdA (i := 0) ha rfl
theorem vX1_2 (ha : a < z) : vX1 h z a f1 f2 f3 (z + 1) = some (.inl (.int, 145, .inl f2)) := g_rdA (i := 1) ha rfl
theorem vX1_3 (ha : a < z) : vX1 h z a f1 f2 f3 (z + 2) = some (.inl (.int, 17, .inl f3)) := g_rdA (i := 2) ha rfl
theorem vX1_u1 (ha : a < z) {g : Nat → Int32} : va_up (vX1 h z a f1 f2 f3) z (some (.inl (.int, 1168, .inl g))) = vX1 h z a g f2 f3 := g_upA (i := 0) ha (Nat.le_of_ble_eq_true rfl)
theorem vX1_u2 (ha : a < z) {g : Nat → Int32} : va_up (vX1 h z a f1 f2 f3) (z + 1) (some (.inl (.int, 145, .inl g))) = vX1 h z a f1 g f3 := g_upA (i := 1) ha (Nat.le_of_ble_eq_true rfl)
theorem vX1_u3 (ha : a < z) {g : Nat → Int32} : va_up (vX1 h z a f1 f2 f3) (z + 2) (some (.inl (.int, 17, .inl g))) = vX1 h z a f1 f2 g := g_upA (i := 2) ha (Nat.le_of_ble_eq_true rfl)
end LX1
set_option maxRecDepth 100000 in
set_option maxHeartbeats 8000000 in
theorem l_X1b {G : xG} (hcl : q_cl G = vwCl) {h : xH} {z z1 a kc ks : Nat} {Q : xQ} (haz : a < z) (hO : xO G mX1_init tbX1_init ptX1_init) (hQ : Q none (vX1 h z a (fL1 144) (fL2 144) (fL2 16)) z1) : ∀ (r k : Nat), k + r = 16 → xEx G mX1_init 93 [(1, .int (nI k)), (0, .ref a)] [] (vX1 h z a (fL1 144) (fL2 144) (fL2 k)) z1 kc ks Q := by
  intro r
  induction r with
  | zero =>
    intro k hk
    obtain rfl : k = 16 := by omega
    refine s_iload_n (nx := 94) hO rfl rfl rfl ?_
    refine s_bipush (x := nI 16) (nx := 96) hO rfl (by decide) rfl ?_
    refine s_icmp_ge (nx := 99) hO rfl rfl (fun c => ?_) (fun c => absurd (by decide) c)
    exact s_vret hO rfl rfl hQ
  | succ r ih =>
    intro k hk
    refine s_iload_n (nx := 94) hO rfl rfl rfl ?_
    refine s_bipush (x := nI 16) (nx := 96) hO rfl (by decide) rfl ?_
    refine s_icmp_ge (nx := 99) hO rfl rfl (fun c => absurd c (nI_ge (by omega) (by decide))) (fun c => ?_)
    refine s_aload_n (nx := 100) hO rfl rfl rfl ?_
    refine s_getf (nx := 103) hO rfl rfl vX1_o rfl rfl ?_
    refine s_iload_n (nx := 104) hO rfl rfl rfl ?_
    refine s_iconst (x := 1) (nx := 105) hO rfl (by decide) rfl ?_
    refine s_iadd (nx := 106) hO rfl rfl ?_
    refine s_iload_n (nx := 107) hO rfl rfl rfl ?_
    refine s_iconst (x := 1) (nx := 108) hO rfl (by decide) rfl ?_
    refine s_iadd (nx := 109) hO rfl rfl ?_
    rw [show nI k + 1 = nI (k + 1) from (nI_succ k).symm]
    refine s_iast (nx := 110) hO rfl (vX1_3 haz) (vp_in_nI (by omega) (by decide)) rfl ?_
    rw [nI_clamp (show k + 1 < 2 ^ 31 by omega), vX1_u3 haz, fL2_s]
    refine s_iinc (nx := 113) (y := nI (k + 1)) (l' := [(1, _), (0, _)]) hO rfl (by decide) rfl (nI_succ k).symm rfl rfl ?_
    refine s_goto hO rfl ?_
    exact ih (k + 1) (by omega)
set_option maxRecDepth 100000 in
set_option maxHeartbeats 8000000 in
theorem l_X1t {G : xG} (hcl : q_cl G = vwCl) {h : xH} {z z1 a kc ks k : Nat} {w x : Int32} {Q : xQ} (haz : a < z) (hO : xO G mX1_init tbX1_init ptX1_init) (hk : k < 144) (hx : x = vL k)
    (K : xEx G mX1_init 32 [(1, .int (nI (k + 1))), (0, .ref a)] [] (vX1 h z a (fL1 (k + 1)) (fL2 (k + 1)) (fL2 0)) z1 kc ks Q) : xEx G mX1_init 73 [(2, .int w), (1, .int (nI k)), (0, .ref a)] [.int x, .int (nI k), .ref z] (vX1 h z a (fL1 k) (fL2 k) (fL2 0)) z1 kc ks Q := by
  refine s_iast (nx := 74) hO rfl (vX1_1 haz) (vp_in_nI (by omega) (by decide)) rfl ?_
  rw [nI_clamp (show k < 2 ^ 31 by omega), vX1_u1 haz, hx, fL1_s]
  refine s_aload_n (nx := 75) hO rfl rfl rfl ?_
  refine s_getf (nx := 78) hO rfl rfl vX1_o rfl rfl ?_
  refine s_iload_n (nx := 79) hO rfl rfl rfl ?_
  refine s_iconst (x := 1) (nx := 80) hO rfl (by decide) rfl ?_
  refine s_iadd (nx := 81) hO rfl rfl ?_
  refine s_iload_n (nx := 82) hO rfl rfl rfl ?_
  refine s_iconst (x := 1) (nx := 83) hO rfl (by decide) rfl ?_
  refine s_iadd (nx := 84) hO rfl rfl ?_
  rw [show nI k + 1 = nI (k + 1) from (nI_succ k).symm]
  refine s_iast (nx := 85) hO rfl (vX1_2 haz) (vp_in_nI (by omega) (by decide)) rfl ?_
  rw [nI_clamp (show k + 1 < 2 ^ 31 by omega), vX1_u2 haz, fL2_s]
  refine s_iinc (nx := 88) (y := nI (k + 1)) (l' := [(1, _), (2, _), (0, _)]) hO rfl (by decide) rfl (nI_succ k).symm rfl rfl ?_
  refine s_goto hO rfl ?_
  exact xEx.loc (fun q hq => by
    simp only [List.mem_cons, List.not_mem_nil, or_false] at hq ⊢
    rcases hq with rfl | rfl
    · exact Or.inl rfl
    · exact Or.inr (Or.inr rfl)) K
set_option maxRecDepth 100000 in
set_option maxHeartbeats 8000000 in
theorem l_X1a {G : xG} (hcl : q_cl G = vwCl) {h : xH} {z z1 a kc ks : Nat} {Q : xQ} (haz : a < z) (hO : xO G mX1_init tbX1_init ptX1_init) (hQ : Q none (vX1 h z a (fL1 144) (fL2 144) (fL2 16)) z1) : ∀ (r k : Nat), k + r = 144 → xEx G mX1_init 32 [(1, .int (nI k)), (0, .ref a)] [] (vX1 h z a (fL1 k) (fL2 k) (fL2 0)) z1 kc ks Q := by
  intro r
  induction r with
  | zero =>
    intro k hk
    obtain rfl : k = 144 := by omega
    refine s_iload_n (nx := 33) hO rfl rfl rfl ?_
    refine s_sipush (x := nI 144) (nx := 36) hO rfl (by decide) rfl ?_
    refine s_icmp_ge (nx := 39) hO rfl rfl (fun c => ?_) (fun c => absurd (by decide) c)
    refine s_iconst (x := 0) (nx := 92) hO rfl (by decide) rfl ?_
    refine s_istore_n (nx := 93) (l' := [(1, _), (0, _)]) hO rfl (by decide) rfl rfl ?_
    exact l_X1b hcl haz hO hQ 16 0 rfl
  | succ r ih =>
    intro k hk
    have hk144 : k < 144 := by omega
    refine s_iload_n (nx := 33) hO rfl rfl rfl ?_
    refine s_sipush (x := nI 144) (nx := 36) hO rfl (by decide) rfl ?_
    refine s_icmp_ge (nx := 39) hO rfl rfl (fun c => absurd c (nI_ge (by omega) (by decide))) (fun c => ?_)
    refine s_iload_n (nx := 40) hO rfl rfl rfl ?_
    refine s_bipush (x := nI 9) (nx := 42) hO rfl (by decide) rfl ?_
    refine s_irem (nx := 43) hO rfl (by decide) rfl ?_
    refine s_iload_n (nx := 44) hO rfl rfl rfl ?_
    refine s_bipush (x := nI 9) (nx := 46) hO rfl (by decide) rfl ?_
    refine s_idiv (nx := 47) hO rfl (by decide) rfl ?_
    refine s_iconst (x := nI 4) (nx := 48) hO rfl (by decide) rfl ?_
    refine s_irem (nx := 49) hO rfl (by decide) rfl ?_
    rw [nI_mod (show k < 2147483648 by omega) (show 9 < 2147483648 by omega), nI_div (show k < 2147483648 by omega) (show 9 < 2147483648 by omega), nI_mod (show k / 9 < 2147483648 by omega) (show 4 < 2147483648 by omega)]
    have K := ih (k + 1) (by omega)
    refine s_icmp_ge (nx := 52) hO rfl rfl (fun c49 => ?_) (fun c49 => ?_)
    · have hge : ¬ k % 9 < k / 9 % 4 := by
        have c49 : nI (k / 9 % 4) ≤ nI (k % 9) := c49
        rw [nI_leU (by omega) (by omega)] at c49; omega
      refine s_iconst (x := 0) (nx := 57) hO rfl (by decide) rfl ?_
      refine s_istore_n (nx := 58) (l' := [(2, _), (1, _), (0, _)]) hO rfl (by decide) rfl rfl ?_
      refine s_aload_n (nx := 59) hO rfl rfl rfl ?_
      refine s_getf (nx := 62) hO rfl rfl vX1_o rfl rfl ?_
      refine s_iload_n (nx := 63) hO rfl rfl rfl ?_
      refine s_iload_n (nx := 64) hO rfl rfl rfl ?_
      refine s_if_eq (nx := 67) hO rfl rfl (fun c64 => ?_) (fun c64 => absurd rfl c64)
      refine s_iconst (x := 0) (nx := 73) hO rfl (by decide) rfl ?_
      exact l_X1t hcl haz hO hk144 (by unfold vL; rw [if_neg hge]) K
    · have hlt : k % 9 < k / 9 % 4 := by
        have c49 : ¬ nI (k / 9 % 4) ≤ nI (k % 9) := c49
        rw [nI_leU (by omega) (by omega)] at c49; omega
      refine s_iconst (x := 1) (nx := 53) hO rfl (by decide) rfl ?_
      refine s_goto hO rfl ?_
      refine s_istore_n (nx := 58) (l' := [(2, _), (1, _), (0, _)]) hO rfl (by decide) rfl rfl ?_
      refine s_aload_n (nx := 59) hO rfl rfl rfl ?_
      refine s_getf (nx := 62) hO rfl rfl vX1_o rfl rfl ?_
      refine s_iload_n (nx := 63) hO rfl rfl rfl ?_
      refine s_iload_n (nx := 64) hO rfl rfl rfl ?_
      refine s_if_eq (nx := 67) hO rfl rfl (fun c64 => absurd c64 (by decide)) (fun c64 => ?_)
      refine s_ldc (nx := 69) hO rfl rfl rfl ?_
      refine s_goto hO rfl ?_
      exact l_X1t hcl haz hO hk144 (by unfold vL; rw [if_pos hlt]; rfl) K
set_option maxRecDepth 100000 in
set_option maxHeartbeats 8000000 in
/-- GuardForge$Letters() -/
theorem c_X1_init {G : xG} (hW : xW G) (hcl : q_cl G = vwCl) (hty : q_ty G = g_ty) {h : xH} {z a : Nat} (haz : a < z) (ha : h a = some (.inr (1, [.null, .null, .null]))) :
    xC G mX1_init [.ref a] h z 3 1330 (fun v h' z' => v = none ∧ z' = z + 3 ∧ h' = va_up (x_adds h z [.inl (.int, 1168, .inl (fL1 144)), .inl (.int, 145, .inl (fL2 144)), .inl (.int, 17, .inl (fL2 16))]) a (some (.inr (1, [.ref z, .ref (z + 1), .ref (z + 2)])))) := by
  have hO : xO G mX1_init tbX1_init ptX1_init := ⟨tkX1_init, pkX1_init hcl⟩
  refine xC.of hW (by decide) rfl (Nat.le_of_ble_eq_true rfl) ?_
  refine s_aload_n (nx := 1) hO rfl rfl rfl ?_
  refine s_obj (nx := 4) hO rfl (List.mem_cons_of_mem _ (ir4 _ (List.mem_of_getElem? (i := 13) rfl))) (List.mem_cons_of_mem _ (ir1 _ (List.mem_of_getElem? (i := 11) rfl))) (List.mem_cons_of_mem _ (ir1 _ (List.mem_of_getElem? (i := 12) rfl))) (by decide) (by decide) rfl ?_
  refine x_start ha ?_
  refine s_aload_n (nx := 5) hO rfl rfl rfl ?_
  refine s_sipush (x := nI 1168) (nx := 8) hO rfl (by decide) rfl ?_
  refine g_arrI (nx := 13) hO rfl rfl rfl (Nat.le_of_ble_eq_true rfl) (Nat.le_of_ble_eq_true rfl) (Nat.le_of_ble_eq_true rfl) (Nat.le_of_ble_eq_true rfl) (by rw [hty]; rfl) (by rw [hty]; rfl) haz rfl rfl ?_
  refine s_aload_n (nx := 14) hO rfl rfl rfl ?_
  refine s_sipush (x := nI 145) (nx := 17) hO rfl (by decide) rfl ?_
  refine g_arrI (nx := 22) hO rfl rfl rfl (Nat.le_of_ble_eq_true rfl) (Nat.le_of_ble_eq_true rfl) (Nat.le_of_ble_eq_true rfl) (Nat.le_of_ble_eq_true rfl) (by rw [hty]; rfl) (by rw [hty]; rfl) haz rfl rfl ?_
  refine s_aload_n (nx := 23) hO rfl rfl rfl ?_
  refine s_bipush (x := nI 17) (nx := 25) hO rfl (by decide) rfl ?_
  refine g_arrI (nx := 30) hO rfl rfl rfl (Nat.le_of_ble_eq_true rfl) (Nat.le_of_ble_eq_true rfl) (Nat.le_of_ble_eq_true rfl) (Nat.le_of_ble_eq_true rfl) (by rw [hty]; rfl) (by rw [hty]; rfl) haz rfl rfl ?_
  refine s_iconst (x := 0) (nx := 31) hO rfl (by decide) rfl ?_
  refine s_istore_n (nx := 32) (l' := [(1, _), (0, _)]) hO rfl (by decide) rfl rfl ?_
  have e0 : va_up (x_adds h z [.inl (.int, 1168, .inl (fun _ => 0)), .inl (.int, 145, .inl (fun _ => 0)), .inl (.int, 17, .inl (fun _ => 0))]) a (some (.inr (1, [.ref z, .ref (z + 1), .ref (z + 2)]))) = vX1 h z a (fL1 0) (fL2 0) (fL2 0) := by
    unfold vX1; rw [← fL1_0, ← fL2_0]
  refine Eq.mpr (congrArg (fun hh => xEx G mX1_init 32 _ _ hh _ _ _ _) e0) ?_
  exact l_X1a hcl haz hO ⟨rfl, rfl, rfl⟩ 144 0 rfl
def gP1 (n : Nat) (i : Nat) : Int64 := if i % 63 = 0 ∧ i / 63 < n then 1 else 0
def gP2 (n : Nat) (i : Nat) : Int64 := if i < n then 1 else 0
theorem gP1_s {n : Nat} : vp_updL (gP1 n) (n * 63) 1 = gP1 (n + 1) := by
  funext i
  unfold vp_updL gP1
  by_cases c : i = n * 63
  · rw [if_pos c, if_pos (by omega)]
  · rw [if_neg c]
    by_cases c2 : i % 63 = 0 ∧ i / 63 < n
    · rw [if_pos c2, if_pos (by omega)]
    · rw [if_neg c2, if_neg (by omega)]
theorem gP2_s {n : Nat} : vp_updL (gP2 n) n 1 = gP2 (n + 1) := by
  funext i
  unfold vp_updL gP2
  by_cases c : i = n
  · rw [if_pos c, if_pos (by omega)]
  · rw [if_neg c]
    by_cases c2 : i < n
    · rw [if_pos c2, if_pos (by omega)]
    · rw [if_neg c2, if_neg (by omega)]
theorem gP1_0 : (fun _ => 0 : Nat → Int64) = gP1 0 := by funext i; unfold gP1; rw [if_neg (by omega)]
theorem gP2_0 : (fun _ => 0 : Nat → Int64) = gP2 0 := by funext i; unfold gP2; rw [if_neg (by omega)]
def vX3 (h : xH) (z a : Nat) (g1 g2 : Nat → Int64) : xH := va_up (x_adds h z [.inl (.int, 6, .inl (fun _ => 0)), .inl (.int, 31, .inl (fun _ => 0)), .inl (.int, 216, .inl (fun _ => 0)), .inl (.int, 216, .inl (fun _ => 0)), .inl (.int, 217, .inl (fun _ => 0)), .inl (.int, 864, .inl (fun _ => 0)), .inl (.int, 864, .inl (fun _ => 0)), .inl (.int, 864, .inl (fun _ => 0)), .inl (.boolean, 864, .inl (fun _ => 0)), .inr (1, [.ref (z + 10), .ref (z + 11), .ref (z + 12)]), .inl (.int, 1168, .inl (fL1 144)), .inl (.int, 145, .inl (fL2 144)), .inl (.int, 17, .inl (fL2 16)), .inl (.int, 32256, .inl (fun _ => 0)), .inl (.long, 1008, .inr (.inl g1)), .inl (.long, 16, .inr (.inl g2))]) a (some (.inr (3, [.int 0, .int 1, .int 1, .int 1, .int 0, .int 0, .int 0, .ref z, .ref (z + 1), .ref (z + 2), .ref (z + 3), .ref (z + 4), .ref (z + 5), .ref (z + 6), .ref (z + 7), .ref (z + 8), .ref (z + 9), .ref (z + 13), .ref (z + 14), .ref (z + 15)])))
section LX3
variable {h : xH} {z a : Nat} {g1 g2 : Nat → Int64}
theorem vX3_o : vX3 h z a g1 g2 a = some (.inr (3, [.int 0, .int 1, .int 1, .int 1, .int 0, .int 0, .int 0, .ref z, .ref (z + 1), .ref (z + 2), .ref (z + 3), .ref (z + 4), .ref (z + 5), .ref (z + 6), .ref (z + 7), .ref (z + 8), .ref (z + 9), .ref (z + 13), .ref (z + 14), .ref (z + 15)])) := va_up_self _ _ _
theorem vX3_1 (ha : a < z) : vX3 h z a g1 g2 (z + 14) = some (.inl (.long, 1008, .inr (.inl g1))) := g_rdA (i := 14) ha rfl
theorem vX3_2 (ha : a < z) : vX3 h z a g1 g2 (z + 15) = some (.inl (.long, 16, .inr (.inl g2))) := g_rdA (i := 15) ha rfl
theorem vX3_u1 (ha : a < z) {g : Nat → Int64} : va_up (vX3 h z a g1 g2) (z + 14) (some (.inl (.long, 1008, .inr (.inl g)))) = vX3 h z a g g2 := g_upA (i := 14) ha (Nat.le_of_ble_eq_true rfl)
theorem vX3_u2 (ha : a < z) {g : Nat → Int64} : va_up (vX3 h z a g1 g2) (z + 15) (some (.inl (.long, 16, .inr (.inl g)))) = vX3 h z a g1 g := g_upA (i := 15) ha (Nat.le_of_ble_eq_true rfl)
end LX3
set_option maxRecDepth 100000 in
set_option maxHeartbeats 8000000 in
theorem l_X3 {G : xG} (hcl : q_cl G = vwCl) {h : xH} {z z1 a kc ks : Nat} {Q : xQ} (haz : a < z) (hO : xO G mX3_init tbX3_init ptX3_init) (hQ : Q none (vX3 h z a (gP1 16) (gP2 16)) z1) : ∀ (r k : Nat), k + r = 16 → xEx G mX3_init 137 [(1, .int (nI k)), (0, .ref a)] [] (vX3 h z a (gP1 k) (gP2 k)) z1 kc ks Q := by
  intro r
  induction r with
  | zero =>
    intro k hk
    obtain rfl : k = 16 := by omega
    refine s_iload_n (nx := 138) hO rfl rfl rfl ?_
    refine s_bipush (x := nI 16) (nx := 140) hO rfl (by decide) rfl ?_
    refine s_icmp_ge (nx := 143) hO rfl rfl (fun c => ?_) (fun c => absurd (by decide) c)
    exact s_vret hO rfl rfl hQ
  | succ r ih =>
    intro k hk
    refine s_iload_n (nx := 138) hO rfl rfl rfl ?_
    refine s_bipush (x := nI 16) (nx := 140) hO rfl (by decide) rfl ?_
    refine s_icmp_ge (nx := 143) hO rfl rfl (fun c => absurd c (nI_ge (by omega) (by decide))) (fun c => ?_)
    refine s_aload_n (nx := 144) hO rfl rfl rfl ?_
    refine s_getf (nx := 147) hO rfl rfl vX3_o rfl rfl ?_
    refine s_iload_n (nx := 148) hO rfl rfl rfl ?_
    refine s_bipush (x := nI 63) (nx := 150) hO rfl (by decide) rfl ?_
    refine s_imul (nx := 151) hO rfl rfl ?_
    rw [nI_mul]
    refine s_lconst (x := 1) (nx := 152) hO rfl (by decide) rfl ?_
    refine s_last (nx := 153) hO rfl (vX3_1 haz) (vp_in_nI (by omega) (by decide)) rfl ?_
    rw [nI_clamp (show k * 63 < 2 ^ 31 by omega), vX3_u1 haz, gP1_s]
    refine s_aload_n (nx := 154) hO rfl rfl rfl ?_
    refine s_getf (nx := 157) hO rfl rfl vX3_o rfl rfl ?_
    refine s_iload_n (nx := 158) hO rfl rfl rfl ?_
    refine s_lconst (x := 1) (nx := 159) hO rfl (by decide) rfl ?_
    refine s_last (nx := 160) hO rfl (vX3_2 haz) (vp_in_nI (by omega) (by decide)) rfl ?_
    rw [nI_clamp (show k < 2 ^ 31 by omega), vX3_u2 haz, gP2_s]
    refine s_iinc (nx := 163) (y := nI (k + 1)) (l' := [(1, _), (0, _)]) hO rfl (by decide) rfl (nI_succ k).symm rfl rfl ?_
    refine s_goto hO rfl ?_
    exact ih (k + 1) (by omega)
set_option maxRecDepth 100000 in
set_option maxHeartbeats 8000000 in
/-- GuardForge$Policy() -/
theorem c_X3_init {G : xG} (hW : xW G) (hcl : q_cl G = vwCl) (hty : q_ty G = g_ty) {h : xH} {z a : Nat} (haz : a < z) (ha : h a = some (.inr (3, [.int 0, .int 0, .int 0, .int 0, .int 0, .int 0, .int 0, .null, .null, .null, .null, .null, .null, .null, .null, .null, .null, .null, .null, .null]))) :
    xC G mX3_init [.ref a] h z 16 38755 (fun v h' z' => v = none ∧ z' = z + 16 ∧ h' = va_up (x_adds h z [.inl (.int, 6, .inl (fun _ => 0)), .inl (.int, 31, .inl (fun _ => 0)), .inl (.int, 216, .inl (fun _ => 0)), .inl (.int, 216, .inl (fun _ => 0)), .inl (.int, 217, .inl (fun _ => 0)), .inl (.int, 864, .inl (fun _ => 0)), .inl (.int, 864, .inl (fun _ => 0)), .inl (.int, 864, .inl (fun _ => 0)), .inl (.boolean, 864, .inl (fun _ => 0)), .inr (1, [.ref (z + 10), .ref (z + 11), .ref (z + 12)]), .inl (.int, 1168, .inl (fL1 144)), .inl (.int, 145, .inl (fL2 144)), .inl (.int, 17, .inl (fL2 16)), .inl (.int, 32256, .inl (fun _ => 0)), .inl (.long, 1008, .inr (.inl (gP1 16))), .inl (.long, 16, .inr (.inl (gP2 16)))]) a (some (.inr (3, [.int 0, .int 1, .int 1, .int 1, .int 0, .int 0, .int 0, .ref z, .ref (z + 1), .ref (z + 2), .ref (z + 3), .ref (z + 4), .ref (z + 5), .ref (z + 6), .ref (z + 7), .ref (z + 8), .ref (z + 9), .ref (z + 13), .ref (z + 14), .ref (z + 15)])))) := by
  have hO : xO G mX3_init tbX3_init ptX3_init := ⟨tkX3_init, pkX3_init hcl⟩
  refine xC.of hW (by decide) rfl (Nat.le_of_ble_eq_true rfl) ?_
  refine s_aload_n (nx := 1) hO rfl rfl rfl ?_
  refine s_obj (nx := 4) hO rfl (List.mem_cons_of_mem _ (ir3 _ (List.mem_of_getElem? (i := 11) rfl))) (List.mem_cons_of_mem _ (ir1 _ (List.mem_of_getElem? (i := 11) rfl))) (List.mem_cons_of_mem _ (ir1 _ (List.mem_of_getElem? (i := 12) rfl))) (by decide) (by decide) rfl ?_
  refine x_start ha ?_
  refine s_aload_n (nx := 5) hO rfl rfl rfl ?_
  refine s_bipush (x := nI 6) (nx := 7) hO rfl (by decide) rfl ?_
  refine g_arrI (nx := 12) hO rfl rfl rfl (Nat.le_of_ble_eq_true rfl) (Nat.le_of_ble_eq_true rfl) (Nat.le_of_ble_eq_true rfl) (Nat.le_of_ble_eq_true rfl) (by rw [hty]; rfl) (by rw [hty]; rfl) haz rfl rfl ?_
  refine s_aload_n (nx := 13) hO rfl rfl rfl ?_
  refine s_bipush (x := nI 31) (nx := 15) hO rfl (by decide) rfl ?_
  refine g_arrI (nx := 20) hO rfl rfl rfl (Nat.le_of_ble_eq_true rfl) (Nat.le_of_ble_eq_true rfl) (Nat.le_of_ble_eq_true rfl) (Nat.le_of_ble_eq_true rfl) (by rw [hty]; rfl) (by rw [hty]; rfl) haz rfl rfl ?_
  refine s_aload_n (nx := 21) hO rfl rfl rfl ?_
  refine s_sipush (x := nI 216) (nx := 24) hO rfl (by decide) rfl ?_
  refine g_arrI (nx := 29) hO rfl rfl rfl (Nat.le_of_ble_eq_true rfl) (Nat.le_of_ble_eq_true rfl) (Nat.le_of_ble_eq_true rfl) (Nat.le_of_ble_eq_true rfl) (by rw [hty]; rfl) (by rw [hty]; rfl) haz rfl rfl ?_
  refine s_aload_n (nx := 30) hO rfl rfl rfl ?_
  refine s_sipush (x := nI 216) (nx := 33) hO rfl (by decide) rfl ?_
  refine g_arrI (nx := 38) hO rfl rfl rfl (Nat.le_of_ble_eq_true rfl) (Nat.le_of_ble_eq_true rfl) (Nat.le_of_ble_eq_true rfl) (Nat.le_of_ble_eq_true rfl) (by rw [hty]; rfl) (by rw [hty]; rfl) haz rfl rfl ?_
  refine s_aload_n (nx := 39) hO rfl rfl rfl ?_
  refine s_sipush (x := nI 217) (nx := 42) hO rfl (by decide) rfl ?_
  refine g_arrI (nx := 47) hO rfl rfl rfl (Nat.le_of_ble_eq_true rfl) (Nat.le_of_ble_eq_true rfl) (Nat.le_of_ble_eq_true rfl) (Nat.le_of_ble_eq_true rfl) (by rw [hty]; rfl) (by rw [hty]; rfl) haz rfl rfl ?_
  refine s_aload_n (nx := 48) hO rfl rfl rfl ?_
  refine s_sipush (x := nI 864) (nx := 51) hO rfl (by decide) rfl ?_
  refine g_arrI (nx := 56) hO rfl rfl rfl (Nat.le_of_ble_eq_true rfl) (Nat.le_of_ble_eq_true rfl) (Nat.le_of_ble_eq_true rfl) (Nat.le_of_ble_eq_true rfl) (by rw [hty]; rfl) (by rw [hty]; rfl) haz rfl rfl ?_
  refine s_aload_n (nx := 57) hO rfl rfl rfl ?_
  refine s_sipush (x := nI 864) (nx := 60) hO rfl (by decide) rfl ?_
  refine g_arrI (nx := 65) hO rfl rfl rfl (Nat.le_of_ble_eq_true rfl) (Nat.le_of_ble_eq_true rfl) (Nat.le_of_ble_eq_true rfl) (Nat.le_of_ble_eq_true rfl) (by rw [hty]; rfl) (by rw [hty]; rfl) haz rfl rfl ?_
  refine s_aload_n (nx := 66) hO rfl rfl rfl ?_
  refine s_sipush (x := nI 864) (nx := 69) hO rfl (by decide) rfl ?_
  refine g_arrI (nx := 74) hO rfl rfl rfl (Nat.le_of_ble_eq_true rfl) (Nat.le_of_ble_eq_true rfl) (Nat.le_of_ble_eq_true rfl) (Nat.le_of_ble_eq_true rfl) (by rw [hty]; rfl) (by rw [hty]; rfl) haz rfl rfl ?_
  refine s_aload_n (nx := 75) hO rfl rfl rfl ?_
  refine s_sipush (x := nI 864) (nx := 78) hO rfl (by decide) rfl ?_
  refine g_arrZ (nx := 83) hO rfl rfl rfl (Nat.le_of_ble_eq_true rfl) (Nat.le_of_ble_eq_true rfl) (Nat.le_of_ble_eq_true rfl) (Nat.le_of_ble_eq_true rfl) (by rw [hty]; rfl) (by rw [hty]; rfl) haz rfl rfl ?_
  refine s_aload_n (nx := 84) hO rfl rfl rfl ?_
  refine s_new (nx := 87) (fs := [.null, .null, .null]) hO rfl rfl (by rw [hcl]; rfl) (Nat.le_of_ble_eq_true rfl) (Nat.le_of_ble_eq_true rfl) (fun j hj => by
      rw [hty]
      match j, hj with
      | 0, _ => rfl
      | 1, _ => rfl
      | 2, _ => rfl
      | k + 3, hk => exact absurd hk (by omega)) rfl ?_
  refine s_dup (nx := 88) hO rfl rfl rfl ?_
  refine s_callI [] (nx := 91) hO rfl kX3_init_42 (c_X1_init hW hcl hty (Nat.lt_succ_self _) (va_up_self _ _ _)) rfl rfl (Nat.le_of_ble_eq_true rfl) (Nat.le_of_ble_eq_true rfl) (Nat.le_of_ble_eq_true rfl) rfl (fun v9 h9 z9 q9 => ?_)
  obtain ⟨rfl, rfl, rfl⟩ := q9
  refine g_nestK haz rfl ?_
  refine g_put (nx := 94) hO rfl rfl (Nat.le_of_ble_eq_true rfl) (by rw [hty]; rfl) (by rw [hty]; rfl) rfl ?_
  refine s_aload_n (nx := 95) hO rfl rfl rfl ?_
  refine s_sipush (x := nI 32256) (nx := 98) hO rfl (by decide) rfl ?_
  refine g_arrI (nx := 103) hO rfl rfl rfl (Nat.le_of_ble_eq_true rfl) (Nat.le_of_ble_eq_true rfl) (Nat.le_of_ble_eq_true rfl) (Nat.le_of_ble_eq_true rfl) (by rw [hty]; rfl) (by rw [hty]; rfl) haz rfl rfl ?_
  refine s_aload_n (nx := 104) hO rfl rfl rfl ?_
  refine s_sipush (x := nI 1008) (nx := 107) hO rfl (by decide) rfl ?_
  refine g_arrJ (nx := 112) hO rfl rfl rfl (Nat.le_of_ble_eq_true rfl) (Nat.le_of_ble_eq_true rfl) (Nat.le_of_ble_eq_true rfl) (Nat.le_of_ble_eq_true rfl) (by rw [hty]; rfl) (by rw [hty]; rfl) haz rfl rfl ?_
  refine s_aload_n (nx := 113) hO rfl rfl rfl ?_
  refine s_bipush (x := nI 16) (nx := 115) hO rfl (by decide) rfl ?_
  refine g_arrJ (nx := 120) hO rfl rfl rfl (Nat.le_of_ble_eq_true rfl) (Nat.le_of_ble_eq_true rfl) (Nat.le_of_ble_eq_true rfl) (Nat.le_of_ble_eq_true rfl) (by rw [hty]; rfl) (by rw [hty]; rfl) haz rfl rfl ?_
  refine s_aload_n (nx := 121) hO rfl rfl rfl ?_
  refine s_iconst (x := 1) (nx := 122) hO rfl (by decide) rfl ?_
  refine g_put (nx := 125) hO rfl rfl (Nat.le_of_ble_eq_true rfl) (by rw [hty]; rfl) (by rw [hty]; rfl) rfl ?_
  refine s_aload_n (nx := 126) hO rfl rfl rfl ?_
  refine s_iconst (x := 1) (nx := 127) hO rfl (by decide) rfl ?_
  refine g_put (nx := 130) hO rfl rfl (Nat.le_of_ble_eq_true rfl) (by rw [hty]; rfl) (by rw [hty]; rfl) rfl ?_
  refine s_aload_n (nx := 131) hO rfl rfl rfl ?_
  refine s_iconst (x := 1) (nx := 132) hO rfl (by decide) rfl ?_
  refine g_put (nx := 135) hO rfl rfl (Nat.le_of_ble_eq_true rfl) (by rw [hty]; rfl) (by rw [hty]; rfl) rfl ?_
  refine s_iconst (x := 0) (nx := 136) hO rfl (by decide) rfl ?_
  refine s_istore_n (nx := 137) (l' := [(1, _), (0, _)]) hO rfl (by decide) rfl rfl ?_
  have e0 : va_up (x_adds h z [.inl (.int, 6, .inl (fun _ => 0)), .inl (.int, 31, .inl (fun _ => 0)), .inl (.int, 216, .inl (fun _ => 0)), .inl (.int, 216, .inl (fun _ => 0)), .inl (.int, 217, .inl (fun _ => 0)), .inl (.int, 864, .inl (fun _ => 0)), .inl (.int, 864, .inl (fun _ => 0)), .inl (.int, 864, .inl (fun _ => 0)), .inl (.boolean, 864, .inl (fun _ => 0)), .inr (1, [.ref (z + 10), .ref (z + 11), .ref (z + 12)]), .inl (.int, 1168, .inl (fL1 144)), .inl (.int, 145, .inl (fL2 144)), .inl (.int, 17, .inl (fL2 16)), .inl (.int, 32256, .inl (fun _ => 0)), .inl (.long, 1008, .inr (.inl (fun _ => 0))), .inl (.long, 16, .inr (.inl (fun _ => 0)))]) a (some (.inr (3, [.int 0, .int 1, .int 1, .int 1, .int 0, .int 0, .int 0, .ref z, .ref (z + 1), .ref (z + 2), .ref (z + 3), .ref (z + 4), .ref (z + 5), .ref (z + 6), .ref (z + 7), .ref (z + 8), .ref (z + 9), .ref (z + 13), .ref (z + 14), .ref (z + 15)]))) = vX3 h z a (gP1 0) (gP2 0) := by
    unfold vX3; rw [← gP1_0, ← gP2_0]
  refine Eq.mpr (congrArg (fun hh => xEx G mX3_init 137 _ _ hh _ _ _ _) e0) ?_
  exact l_X3 hcl haz hO ⟨rfl, rfl, rfl⟩ 16 0 rfl
def fK7 (j : Nat) : Int32 := if j < 4096 then -1 else 0
set_option maxRecDepth 100000 in
set_option maxHeartbeats 8000000 in
/-- GuardForge$StateMaker() -/
theorem c_X7_init {G : xG} (hW : xW G) (hcl : q_cl G = vwCl) (hty : q_ty G = g_ty) {h : xH} {z a : Nat} (haz : a < z) (ha : h a = some (.inr (7, [.null, .int 0, .int 0, .null, .null, .null, .null, .null, .null, .null, .null, .null]))) :
    xC G mX7_init [.ref a] h z 9 48964 (fun v h' z' => v = none ∧ z' = z + 9 ∧ h' = va_up (x_adds h z [.inl (.int, 9, .inl (fun _ => 0)), .inl (.int, 12288, .inl (fun _ => 0)), .inl (.int, 63, .inl (fun _ => 0)), .inl (.int, 32256, .inl (fun _ => 0)), .inl (.int, 63, .inl (fun _ => 0)), .inl (.int, 63, .inl (fun _ => 0)), .inl (.int, 4096, .inl fK7), .inl (.int, 63, .inl (fun _ => 0)), .inl (.int, 63, .inl (fun _ => 0))]) a (some (.inr (7, [.null, .int 0, .int 0, .ref z, .ref (z + 1), .ref (z + 2), .ref (z + 3), .ref (z + 4), .ref (z + 5), .ref (z + 6), .ref (z + 7), .ref (z + 8)])))) := by
  have hO : xO G mX7_init tbX7_init ptX7_init := ⟨tkX7_init, pkX7_init hcl⟩
  refine xC.of hW (by decide) rfl (Nat.le_of_ble_eq_true rfl) ?_
  refine s_aload_n (nx := 1) hO rfl rfl rfl ?_
  refine s_obj (nx := 4) hO rfl (List.mem_cons_of_mem _ (ir8 _ (List.mem_of_getElem? (i := 18) rfl))) (List.mem_cons_of_mem _ (ir1 _ (List.mem_of_getElem? (i := 11) rfl))) (List.mem_cons_of_mem _ (ir1 _ (List.mem_of_getElem? (i := 12) rfl))) (by decide) (by decide) rfl ?_
  refine x_start ha ?_
  refine s_aload_n (nx := 5) hO rfl rfl rfl ?_
  refine s_bipush (x := nI 9) (nx := 7) hO rfl (by decide) rfl ?_
  refine g_arrI (nx := 12) hO rfl rfl rfl (Nat.le_of_ble_eq_true rfl) (Nat.le_of_ble_eq_true rfl) (Nat.le_of_ble_eq_true rfl) (Nat.le_of_ble_eq_true rfl) (by rw [hty]; rfl) (by rw [hty]; rfl) haz rfl rfl ?_
  refine s_aload_n (nx := 13) hO rfl rfl rfl ?_
  refine s_sipush (x := nI 12288) (nx := 16) hO rfl (by decide) rfl ?_
  refine g_arrI (nx := 21) hO rfl rfl rfl (Nat.le_of_ble_eq_true rfl) (Nat.le_of_ble_eq_true rfl) (Nat.le_of_ble_eq_true rfl) (Nat.le_of_ble_eq_true rfl) (by rw [hty]; rfl) (by rw [hty]; rfl) haz rfl rfl ?_
  refine s_aload_n (nx := 22) hO rfl rfl rfl ?_
  refine s_bipush (x := nI 63) (nx := 24) hO rfl (by decide) rfl ?_
  refine g_arrI (nx := 29) hO rfl rfl rfl (Nat.le_of_ble_eq_true rfl) (Nat.le_of_ble_eq_true rfl) (Nat.le_of_ble_eq_true rfl) (Nat.le_of_ble_eq_true rfl) (by rw [hty]; rfl) (by rw [hty]; rfl) haz rfl rfl ?_
  refine s_aload_n (nx := 30) hO rfl rfl rfl ?_
  refine s_sipush (x := nI 32256) (nx := 33) hO rfl (by decide) rfl ?_
  refine g_arrI (nx := 38) hO rfl rfl rfl (Nat.le_of_ble_eq_true rfl) (Nat.le_of_ble_eq_true rfl) (Nat.le_of_ble_eq_true rfl) (Nat.le_of_ble_eq_true rfl) (by rw [hty]; rfl) (by rw [hty]; rfl) haz rfl rfl ?_
  refine s_aload_n (nx := 39) hO rfl rfl rfl ?_
  refine s_bipush (x := nI 63) (nx := 41) hO rfl (by decide) rfl ?_
  refine g_arrI (nx := 46) hO rfl rfl rfl (Nat.le_of_ble_eq_true rfl) (Nat.le_of_ble_eq_true rfl) (Nat.le_of_ble_eq_true rfl) (Nat.le_of_ble_eq_true rfl) (by rw [hty]; rfl) (by rw [hty]; rfl) haz rfl rfl ?_
  refine s_aload_n (nx := 47) hO rfl rfl rfl ?_
  refine s_bipush (x := nI 63) (nx := 49) hO rfl (by decide) rfl ?_
  refine g_arrI (nx := 54) hO rfl rfl rfl (Nat.le_of_ble_eq_true rfl) (Nat.le_of_ble_eq_true rfl) (Nat.le_of_ble_eq_true rfl) (Nat.le_of_ble_eq_true rfl) (by rw [hty]; rfl) (by rw [hty]; rfl) haz rfl rfl ?_
  refine s_aload_n (nx := 55) hO rfl rfl rfl ?_
  refine s_sipush (x := nI 4096) (nx := 58) hO rfl (by decide) rfl ?_
  refine g_arrI (nx := 63) hO rfl rfl rfl (Nat.le_of_ble_eq_true rfl) (Nat.le_of_ble_eq_true rfl) (Nat.le_of_ble_eq_true rfl) (Nat.le_of_ble_eq_true rfl) (by rw [hty]; rfl) (by rw [hty]; rfl) haz rfl rfl ?_
  refine s_aload_n (nx := 64) hO rfl rfl rfl ?_
  refine s_bipush (x := nI 63) (nx := 66) hO rfl (by decide) rfl ?_
  refine g_arrI (nx := 71) hO rfl rfl rfl (Nat.le_of_ble_eq_true rfl) (Nat.le_of_ble_eq_true rfl) (Nat.le_of_ble_eq_true rfl) (Nat.le_of_ble_eq_true rfl) (by rw [hty]; rfl) (by rw [hty]; rfl) haz rfl rfl ?_
  refine s_aload_n (nx := 72) hO rfl rfl rfl ?_
  refine s_bipush (x := nI 63) (nx := 74) hO rfl (by decide) rfl ?_
  refine g_arrI (nx := 79) hO rfl rfl rfl (Nat.le_of_ble_eq_true rfl) (Nat.le_of_ble_eq_true rfl) (Nat.le_of_ble_eq_true rfl) (Nat.le_of_ble_eq_true rfl) (by rw [hty]; rfl) (by rw [hty]; rfl) haz rfl rfl ?_
  refine s_aload_n (nx := 80) hO rfl rfl rfl ?_
  refine s_getf (nx := 83) hO rfl rfl (va_up_self _ _ _) rfl rfl ?_
  refine s_iconst (x := -1) (nx := 84) hO rfl (by decide) rfl ?_
  refine s_callS [.ref (z + 6), .int (-1)] (nx := 87) hO rfl kX7_init_39 (c_fillI hW hcl (n := 4096) (by decide) (g_rdA (i := 6) haz rfl)) rfl rfl (Nat.le_of_ble_eq_true rfl) (Nat.zero_le _) (Nat.zero_le _) rfl (fun v9 h9 z9 q9 => ?_)
  obtain ⟨rfl, rfl, rfl⟩ := q9
  rw [g_upA (i := 6) haz (Nat.le_of_ble_eq_true rfl)]
  exact s_vret hO rfl rfl ⟨rfl, rfl, rfl⟩

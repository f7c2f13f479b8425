/-! ===== cells that a constructor makes, in a row; its object stands before them ===== -/
def x_adds (h : xH) (z : Nat) (L : List xE) : xH := fun q => if z ≤ q then (match L[q - z]? with
  | some e => some e
  | none => h q) else h q
theorem x_adds_nil (h : xH) (z : Nat) : x_adds h z [] = h := by
  funext q
  unfold x_adds
  split <;> rfl
theorem x_adds_lo {h : xH} {z q : Nat} {L : List xE} (hq : q < z) : x_adds h z L q = h q := by
  unfold x_adds
  rw [if_neg (Nat.not_le.mpr hq)]
theorem x_adds_hi {h : xH} {z q : Nat} {L : List xE} (hq : z + L.length ≤ q) : x_adds h z L q = h q := by
  unfold x_adds
  rw [if_pos (by omega), List.getElem?_eq_none (by omega)]
theorem x_adds_at {h : xH} {z i : Nat} {L : List xE} {e : xE} (hi : L[i]? = some e) : x_adds h z L (z + i) = some e := by
  unfold x_adds
  rw [if_pos (by omega), show z + i - z = i by omega, hi]
theorem x_adds_push (h : xH) (z : Nat) (L : List xE) (e : xE) : va_up (x_adds h z L) (z + L.length) (some e) = x_adds h z (L ++ [e]) := by
  funext q
  by_cases hq : q = z + L.length
  · subst hq
    rw [va_up_self, x_adds_at (i := L.length) (e := e) (by simp)]
  · rw [va_up_ne _ _ hq]
    unfold x_adds
    by_cases h1 : z ≤ q
    · rw [if_pos h1, if_pos h1]
      by_cases h2 : q - z < L.length
      · rw [List.getElem?_append_left h2]
      · rw [List.getElem?_eq_none (by omega), List.getElem?_eq_none (by simp; omega)]
    · rw [if_neg h1, if_neg h1]
theorem x_upup {α : Type} (f : Nat → α) {a b : Nat} (x y : α) (hab : a ≠ b) : va_up (va_up f a x) b y = va_up (va_up f b y) a x := by
  funext q
  unfold va_up
  by_cases h1 : q = b
  · by_cases h2 : q = a
    · exact absurd (h2.symm.trans h1) hab
    · rw [if_pos h1, if_neg h2, if_pos h1]
  · by_cases h2 : q = a
    · rw [if_neg h1, if_pos h2, if_pos h2]
    · rw [if_neg h1, if_neg h2, if_neg h2, if_neg h1]
/-- behind its first cell comes: the constructor's own picture -/
theorem x_begin {h : xH} {a z : Nat} {e : xE} (ha : h a = some e) : h = va_up (x_adds h z []) a (some e) := by
  rw [x_adds_nil]
  funext q
  by_cases hq : q = a
  · subst hq
    rw [va_up_self, ha]
  · rw [va_up_ne _ _ hq]
section XMade
variable {G : xG} {M : xM} {P : xP} {T : xT} {Q : xQ} {pc nx : Nat} {ts ts' : List Nat} {l : List (Nat × Value)} {rest : List Value} {h : xH} {z z0 a kc ks n j ci i : Nat} {fs : List Value} {L : List xE}
theorem g_arrI (hO : xO G M T P) (hl1 : T.lookup pc = some (.newarray .int, 2, ts)) (hl2 : T.lookup (pc + 2) = some (.putfield j, 3, ts')) (hj : P.2.2.2.2.2 j = some (ci, i)) (hn : n ≤ 65536) (hkc : 1 ≤ kc) (hks : n ≤ ks) (hi : i < fs.length) (hnr : narrow (q_ty G ci i) (.ref z) = .ref z) (hft : fits (q_ty G ci i) (.ref z) = true) (ha : a < z0) (hz : z = z0 + L.length) (hp : pc + 5 = nx)
    (k : xEx G M nx l rest (va_up (x_adds h z0 (L ++ [.inl (.int, n, .inl (fun _ => 0))])) a (some (.inr (ci, fs.set i (.ref z))))) (z + 1) (kc - 1) (ks - n) Q) : xEx G M pc l (.int (nI n) :: .ref a :: rest) (va_up (x_adds h z0 L) a (some (.inr (ci, fs)))) z kc ks Q := by
  have hne : a ≠ z := by omega
  refine s_newI (nx := pc + 2) hO hl1 hn hkc hks rfl ?_
  refine s_putf (nx := nx) hO hl2 hj (by rw [va_up_ne _ _ hne, va_up_self]) hi hnr hft rfl (by omega) ?_
  rw [x_upup _ _ _ hne, bx_uu]
  subst hz
  rw [x_adds_push]
  exact k
theorem g_arrB (hO : xO G M T P) (hl1 : T.lookup pc = some (.newarray .byte, 2, ts)) (hl2 : T.lookup (pc + 2) = some (.putfield j, 3, ts')) (hj : P.2.2.2.2.2 j = some (ci, i)) (hn : n ≤ 65536) (hkc : 1 ≤ kc) (hks : n ≤ ks) (hi : i < fs.length) (hnr : narrow (q_ty G ci i) (.ref z) = .ref z) (hft : fits (q_ty G ci i) (.ref z) = true) (ha : a < z0) (hz : z = z0 + L.length) (hp : pc + 5 = nx)
    (k : xEx G M nx l rest (va_up (x_adds h z0 (L ++ [.inl (.byte, n, .inl (fun _ => 0))])) a (some (.inr (ci, fs.set i (.ref z))))) (z + 1) (kc - 1) (ks - n) Q) : xEx G M pc l (.int (nI n) :: .ref a :: rest) (va_up (x_adds h z0 L) a (some (.inr (ci, fs)))) z kc ks Q := by
  have hne : a ≠ z := by omega
  refine s_newB (nx := pc + 2) hO hl1 hn hkc hks rfl ?_
  refine s_putf (nx := nx) hO hl2 hj (by rw [va_up_ne _ _ hne, va_up_self]) hi hnr hft rfl (by omega) ?_
  rw [x_upup _ _ _ hne, bx_uu]
  subst hz
  rw [x_adds_push]
  exact k
theorem g_arrZ (hO : xO G M T P) (hl1 : T.lookup pc = some (.newarray .boolean, 2, ts)) (hl2 : T.lookup (pc + 2) = some (.putfield j, 3, ts')) (hj : P.2.2.2.2.2 j = some (ci, i)) (hn : n ≤ 65536) (hkc : 1 ≤ kc) (hks : n ≤ ks) (hi : i < fs.length) (hnr : narrow (q_ty G ci i) (.ref z) = .ref z) (hft : fits (q_ty G ci i) (.ref z) = true) (ha : a < z0) (hz : z = z0 + L.length) (hp : pc + 5 = nx)
    (k : xEx G M nx l rest (va_up (x_adds h z0 (L ++ [.inl (.boolean, n, .inl (fun _ => 0))])) a (some (.inr (ci, fs.set i (.ref z))))) (z + 1) (kc - 1) (ks - n) Q) : xEx G M pc l (.int (nI n) :: .ref a :: rest) (va_up (x_adds h z0 L) a (some (.inr (ci, fs)))) z kc ks Q := by
  have hne : a ≠ z := by omega
  refine s_newZ (nx := pc + 2) hO hl1 hn hkc hks rfl ?_
  refine s_putf (nx := nx) hO hl2 hj (by rw [va_up_ne _ _ hne, va_up_self]) hi hnr hft rfl (by omega) ?_
  rw [x_upup _ _ _ hne, bx_uu]
  subst hz
  rw [x_adds_push]
  exact k
theorem g_arrJ (hO : xO G M T P) (hl1 : T.lookup pc = some (.newarray .long, 2, ts)) (hl2 : T.lookup (pc + 2) = some (.putfield j, 3, ts')) (hj : P.2.2.2.2.2 j = some (ci, i)) (hn : n ≤ 65536) (hkc : 1 ≤ kc) (hks : n ≤ ks) (hi : i < fs.length) (hnr : narrow (q_ty G ci i) (.ref z) = .ref z) (hft : fits (q_ty G ci i) (.ref z) = true) (ha : a < z0) (hz : z = z0 + L.length) (hp : pc + 5 = nx)
    (k : xEx G M nx l rest (va_up (x_adds h z0 (L ++ [.inl (.long, n, .inr (.inl (fun _ => 0)))])) a (some (.inr (ci, fs.set i (.ref z))))) (z + 1) (kc - 1) (ks - n) Q) : xEx G M pc l (.int (nI n) :: .ref a :: rest) (va_up (x_adds h z0 L) a (some (.inr (ci, fs)))) z kc ks Q := by
  have hne : a ≠ z := by omega
  refine s_newJ (nx := pc + 2) hO hl1 hn hkc hks rfl ?_
  refine s_putf (nx := nx) hO hl2 hj (by rw [va_up_ne _ _ hne, va_up_self]) hi hnr hft rfl (by omega) ?_
  rw [x_upup _ _ _ hne, bx_uu]
  subst hz
  rw [x_adds_push]
  exact k
end XMade

/-! ===== java.util.Arrays.fill ===== -/
theorem x_fillS {α : Type} (f : Nat → α) (v : α) (k : Nat) : (fun j => if j = k then v else if j < k then v else f j) = fun j => if j < k + 1 then v else f j := by
  funext j
  by_cases h1 : j = k
  · rw [if_pos h1, if_pos (by omega)]
  · rw [if_neg h1]
    by_cases h2 : j < k
    · rw [if_pos h2, if_pos (by omega)]
    · rw [if_neg h2, if_neg (by omega)]
set_option maxRecDepth 100000 in
set_option maxHeartbeats 4000000 in
theorem l_fillI {G : xG} {P : xP} (hO : xO G mJ7_fill_53178 tbJ7_fill_53178 P) {h : xH} {z a n kc ks : Nat} {f : Nat → Int32} {v : Int32} (hn : n < 2 ^ 31) : ∀ (m k : Nat), k + m = n →
    xEx G mJ7_fill_53178 5 [(2, .int (nI k)), (3, .int (nI n)), (0, .ref a), (1, .int v)] [] (va_up h a (some (.inl (.int, n, .inl (fun j => if j < k then v else f j))))) z kc ks (fun r h' z' => r = none ∧ z' = z ∧ h' = va_up h a (some (.inl (.int, n, .inl (fun j => if j < n then v else f j))))) := by
  intro m
  induction m with
  | zero =>
    intro k hk
    have e : k = n := by omega
    subst e
    refine s_iload_n (nx := 6) hO rfl rfl rfl ?_
    refine s_iload_n (nx := 7) hO rfl rfl rfl ?_
    refine s_icmp_ge (nx := 10) hO rfl rfl (fun c7 => ?_) (fun c7 => ?_)
    · exact s_vret hO rfl rfl ⟨rfl, rfl, rfl⟩
    · exact absurd (nI_le (Nat.le_refl k) hn) c7
  | succ m ih =>
    intro k hk
    refine s_iload_n (nx := 6) hO rfl rfl rfl ?_
    refine s_iload_n (nx := 7) hO rfl rfl rfl ?_
    refine s_icmp_ge (nx := 10) hO rfl rfl (fun c7 => ?_) (fun c7 => ?_)
    · exact absurd c7 (nI_ge (by omega) hn)
    · refine s_aload_n (nx := 11) hO rfl rfl rfl ?_
      refine s_iload_n (nx := 12) hO rfl rfl rfl ?_
      refine s_iload_n (nx := 13) hO rfl rfl rfl ?_
      refine s_iast (nx := 14) hO rfl (va_up_self _ _ _) (vp_in_nI (by omega) hn) rfl ?_
      refine s_iinc (nx := 17) (y := nI (k + 1)) (l' := [(2, _), (3, _), (0, _), (1, _)]) hO rfl (by decide) rfl (nI_succ k).symm rfl rfl ?_
      refine s_goto hO rfl ?_
      rw [bx_uu, nI_clamp (show k < 2 ^ 31 by omega)]
      have e : upd (fun j => if j < k then v else f j) k v = fun j => if j < k + 1 then v else f j := x_fillS f v k
      rw [e]
      exact ih (k + 1) (by omega)
set_option maxRecDepth 100000 in
set_option maxHeartbeats 4000000 in
/-- Arrays.fill(int[], int) -/
theorem c_fillI {G : xG} (hW : xW G) (hcl : q_cl G = vwCl) {h : xH} {z a n : Nat} {f : Nat → Int32} {v : Int32} (hn : n < 2 ^ 31) (ha : h a = some (.inl (.int, n, .inl f))) :
    xC G mJ7_fill_53178 [.ref a, .int v] h z 0 0 (fun r h' z' => r = none ∧ z' = z ∧ h' = va_up h a (some (.inl (.int, n, .inl (fun j => if j < n then v else f j))))) := by
  have hO : xO G mJ7_fill_53178 tbJ7_fill_53178 ptJ7_fill_53178 := ⟨tkJ7_fill_53178, pkJ7_fill_53178 hcl⟩
  refine xC.of hW (by decide) rfl (Nat.le_of_ble_eq_true rfl) ?_
  refine s_iconst (x := 0) (nx := 1) hO rfl (by decide) rfl ?_
  refine s_istore_n (nx := 2) (l' := [(2, _), (0, _), (1, _)]) hO rfl (by decide) rfl rfl ?_
  refine s_aload_n (nx := 3) hO rfl rfl rfl ?_
  refine s_alen (nx := 4) hO rfl ha (by simp) rfl ?_
  refine s_istore_n (nx := 5) (l' := [(3, _), (2, _), (0, _), (1, _)]) hO rfl (by decide) rfl rfl ?_
  have e0 : h = va_up h a (some (.inl (.int, n, .inl (fun j => if j < 0 then v else f j)))) := by
    funext q
    by_cases hq : q = a
    · subst hq
      rw [va_up_self, ha]
      simp
    · rw [va_up_ne _ _ hq]
  refine xEx.loc (l' := [(2, .int (nI 0)), (3, .int (nI n)), (0, .ref a), (1, .int v)]) (by
    intro q hq
    simp only [List.mem_cons, List.not_mem_nil, or_false] at hq ⊢
    rcases hq with rfl | rfl | rfl | rfl
    · exact Or.inr (Or.inl (by rw [nI_0]))
    · exact Or.inl rfl
    · exact Or.inr (Or.inr (Or.inl rfl))
    · exact Or.inr (Or.inr (Or.inr rfl))) ?_
  have k := l_fillI hO (h := h) (z := z) (a := a) (f := f) (v := v) (kc := 0) (ks := 0) hn n 0 (by omega)
  rw [← e0] at k
  exact k
